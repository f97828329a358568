/-! the text read: class and model -/
def LT (C : mM) (t : Nat) (X : Nat → Nat) : Prop := C.1 1 1 = nI t ∧ t ≤ 80 ∧ ∀ i, i < t → X i < 256 ∧ C.1 2 i = nI (X i)
def MT (D : mM) (t : Nat) (X : Nat → Nat) : Prop := D.1 158 2 = nI t ∧ ∀ i, i < t → D.1 159 i = nI (X i)
theorem wi_v {y a b : Nat} (hy : y < 2 ^ 31) (ha' : a < 2 ^ 31) (hb : b < 2 ^ 31) : wi (nI y) (nI a) (nI b) = if a ≤ y ∧ y ≤ b then 1 else 0 := by
  unfold wi
  by_cases g1 : y < a
  · rw [if_pos (nI_lt g1 ha'), if_neg (by omega)]
  · rw [if_neg (nI_nlt (by omega) hy)]
    by_cases g2 : b < y
    · rw [if_pos (nI_lt g2 hy), if_neg (by omega)]
    · rw [if_neg (nI_nlt (by omega) hb), if_pos (by omega)]
theorem wi_0 {y a b : Nat} (hy : y < 2 ^ 31) (ha' : a < 2 ^ 31) (hb : b < 2 ^ 31) : wi (nI y) (nI a) (nI b) = 0 ↔ ¬ (a ≤ y ∧ y ≤ b) := by
  rw [wi_v hy ha' hb]
  by_cases g : a ≤ y ∧ y ≤ b
  · rw [if_pos g]; exact ⟨fun q => absurd q (by decide), fun q => absurd g q⟩
  · rw [if_neg g]; exact ⟨fun _ => g, fun _ => rfl⟩
theorem wi_neg {x : Int32} {a b : Nat} (hx : x < 0) (ha' : a < 2 ^ 31) : wi x (nI a) (nI b) = 0 := by
  unfold wi
  rw [if_pos]
  rw [Int32.lt_iff_toInt_lt] at hx ⊢
  rw [nI_toInt ha']
  have : (0 : Int32).toInt = 0 := by decide
  omega
theorem fgr_v {D : mM} {t p a b : Nat} {X : Nat → Nat} (hM : MT D t X) (ht : t ≤ 80) (hX : ∀ i, i < t → X i < 256) (hp : p ≤ t) (ep : D.1 158 3 = nI p) (hab : a ≤ b) (hb : b ≤ 9) : fgr D (nI a) (nI b) = if p < t ∧ 48 + a ≤ X p ∧ X p ≤ 48 + b then (nI (X p - 48), mset D 158 3 (nI (p + 1))) else (-9, D) := by
  have eP : PZ D = p := by unfold PZ; rw [ep, nI_clamp (by omega)]
  have eV : fgV D = if p < t then nI (X p) - 48 else -9 := by
    unfold fgV
    rw [hM.1, ep, eP]
    by_cases g : p < t
    · rw [if_neg (nI_ge g (by omega)), if_pos g, hM.2 p g]
    · rw [if_pos (nI_le (by omega) (by omega)), if_neg g]
  unfold fgr
  rw [eV, ep, nI_1]
  by_cases g : p < t
  · rw [if_pos g]
    have h256 := hX p g
    by_cases g2 : 48 ≤ X p
    · rw [show nI (X p) - (48 : Int32) = nI (X p - 48) from pk_sub (b := 48) g2]
      by_cases g3 : a ≤ X p - 48 ∧ X p - 48 ≤ b
      · have : ¬ wi (nI (X p - 48)) (nI a) (nI b) = 0 := fun q => (wi_0 (by omega) (by omega) (by omega)).mp q g3
        rw [if_neg this, if_pos (by omega)]
      · rw [if_pos ((wi_0 (by omega) (by omega) (by omega)).mpr g3), if_neg (by omega)]
    · have hs : nI (X p) - (48 : Int32) < 0 := pk_sneg (a := X p) (b := 48) (by decide) (by omega)
      rw [if_pos (wi_neg hs (by omega)), if_neg (by omega)]
  · rw [if_neg g, if_pos (wi_neg (by decide) (by omega)), if_neg (by omega)]
theorem ff_dig {C : mM} {t p a b : Nat} {X : Nat → Nat} {ph ph' us : Int32} (hL : LT C t X) (hp : p ≤ t) (hb : b ≤ 9) (h4 : ¬ ph = 4) (hus : us ≤ 5) (hbh : ∀ le, bh ph le = if wi le (nI (48 + a)) (nI (48 + b)) = 0 then -1 else ph') (hab : a ≤ b) (hp' : ¬ ph' = -1) : ff C (t - p) ph us p = if p < t ∧ 48 + a ≤ X p ∧ X p ≤ 48 + b then ff C (t - (p + 1)) ph' us (p + 1) else nI p := by
  by_cases g : p < t
  · have h256 := hL.2.2 p g
    have ht := hL.2.1
    obtain ⟨m, hm⟩ : ∃ m, t - p = m + 1 := ⟨t - p - 1, by omega⟩
    have eU : ffU ph us = us := by unfold ffU; rw [if_neg h4]
    have eP : ffP C ph us p = if 48 + a ≤ X p ∧ X p ≤ 48 + b then ph' else -1 := by
      unfold ffP
      rw [eU, if_pos hus, hbh, h256.2]
      by_cases g3 : 48 + a ≤ X p ∧ X p ≤ 48 + b
      · rw [if_neg (fun q => (wi_0 (by omega) (by omega) (by omega)).mp q g3), if_pos g3]
      · rw [if_pos ((wi_0 (by omega) (by omega) (by omega)).mpr g3), if_neg g3]
    rw [hm, ff, eU, eP, show t - (p + 1) = m by omega]
    by_cases g3 : 48 + a ≤ X p ∧ X p ≤ 48 + b
    · rw [if_pos g3, if_neg hp', if_pos ⟨g, g3⟩]
    · rw [if_neg g3, if_pos rfl, if_neg (fun q => g3 q.2)]
  · have e : p = t := by omega
    rw [if_neg (fun q => g q.1), show t - p = 0 by omega, ff, if_neg h4, hL.1, e]
theorem bh_0 (le : Int32) : bh 0 le = if le = 67 then 1 else -1 := by
  unfold bh
  rw [if_neg (by decide), if_pos (by decide)]
theorem bh_1 (le : Int32) : bh 1 le = if wi le (nI (48 + 1)) (nI (48 + 4)) = 0 then -1 else 2 := by
  unfold bh
  rw [if_neg (by decide), if_neg (by decide), if_pos (by decide)]
  rfl
theorem bh_2 (le : Int32) : bh 2 le = if wi le (nI (48 + 1)) (nI (48 + 4)) = 0 then -1 else 3 := by
  unfold bh
  rw [if_neg (by decide), if_neg (by decide), if_pos (by decide)]
  rfl
theorem bh_3 (le : Int32) : bh 3 le = if wi le (nI (48 + 0)) (nI (48 + 9)) = 0 then -1 else 4 := by
  unfold bh
  rw [if_neg (by decide), if_neg (by decide), if_neg (by decide), if_neg (by decide), if_neg (by decide)]
  rfl
theorem bh_4 (le : Int32) : bh 4 le = if le = 117 then 5 else -1 := by
  unfold bh
  rw [if_neg (by decide), if_neg (by decide), if_neg (by decide), if_pos (by decide)]
theorem bh_5 (le : Int32) : bh 5 le = if wi le (nI (48 + 0)) (nI (48 + 9)) = 0 then -1 else 6 := by
  unfold bh
  rw [if_neg (by decide), if_neg (by decide), if_neg (by decide), if_neg (by decide), if_neg (by decide)]
  rfl
theorem bh_6 (le : Int32) : bh 6 le = if wi le (nI (48 + 1)) (nI (48 + 9)) = 0 then -1 else 7 := by
  unfold bh
  rw [if_neg (by decide), if_neg (by decide), if_neg (by decide), if_neg (by decide), if_pos (by decide)]
  rfl
theorem bh_7 (le : Int32) : bh 7 le = if wi le (nI (48 + 0)) (nI (48 + 9)) = 0 then -1 else 8 := by
  unfold bh
  rw [if_neg (by decide), if_neg (by decide), if_neg (by decide), if_neg (by decide), if_neg (by decide)]
  rfl
theorem bh_8 (le : Int32) : bh 8 le = if wi le (nI (48 + 0)) (nI (48 + 9)) = 0 then -1 else 9 := by
  unfold bh
  rw [if_neg (by decide), if_neg (by decide), if_neg (by decide), if_neg (by decide), if_neg (by decide)]
  rfl
theorem bh_9 {m : Nat} (h1 : 1 ≤ m) (h6 : m ≤ 6) (le : Int32) : bh (nI (8 + m)) le = if le = 46 then 4 else if wi le 48 57 = 0 then -1 else if m = 6 then -1 else nI (8 + (m + 1)) := by
  have e : (nI (8 + m)).toInt = (8 + m : Nat) := nI_toInt (by omega)
  unfold bh bhR
  rw [e, if_pos (by omega)]
  by_cases g : m = 6
  · subst g
    rw [if_pos (show (14 : Int32) ≤ nI (8 + 6) by decide), if_pos rfl]
  · have : ¬ (14 : Int32) ≤ nI (8 + m) := nI_ge (b := 14) (by omega) (by decide)
    rw [if_neg this, if_neg g, nI_1]
    rfl
theorem MT_m {D : mM} {t k j : Nat} {X : Nat → Nat} {v : Int32} (h : MT D t X) (hk : (k ≠ 158 ∨ j ≠ 2) ∧ k ≠ 159) : MT (mset D k j v) t X := by
  refine ⟨?_, fun i hi => ?_⟩
  · rw [mset_get, if_neg (by omega)]; exact h.1
  · rw [mset_n (Ne.symm hk.2)]; exact h.2 i hi
theorem u05 : ∀ u, u ≤ 5 → nI u ≤ (5 : Int32) := by decide
theorem head_eq {C D : mM} {t : Nat} {X : Nat → Nat} (hL : LT C t X) (hM : MT D t X) (ep : D.1 158 3 = nI 0) : ((rhd D).1 = 0 ∧ ff C t 0 0 0 = (rhd D).2.1 158 3 ∧ ∃ p, p ≤ 80 ∧ (rhd D).2.1 158 3 = nI p) ∨ (¬ (rhd D).1 = 0 ∧ 4 ≤ t ∧ (rhd D).2.1 158 3 = nI 4 ∧ ff C t 0 0 0 = ff C (t - 4) 4 0 4 ∧ ((rhd D).2.1 158 9 = nI (X 1 - 48) ∧ 49 ≤ X 1 ∧ X 1 ≤ 52) ∧ ((rhd D).2.1 158 10 = nI (X 2 - 48) ∧ 49 ≤ X 2 ∧ X 2 ≤ 52) ∧ ((rhd D).2.1 158 11 = nI (X 3 - 48) ∧ 48 ≤ X 3 ∧ X 3 ≤ 57)) := by
  have ht := hL.2.1
  have hX : ∀ i, i < t → X i < 256 := fun i hi => (hL.2.2 i hi).1
  unfold rhd
  rw [hM.1]
  by_cases g0 : t = 0
  · subst g0
    rw [if_pos nI_0]
    refine Or.inl ⟨rfl, ?_, 0, by omega, ep⟩
    show ff C 0 0 0 0 = D.1 158 3
    rw [ff, if_neg (by decide), hL.1, ep]
  · rw [if_neg (nI_ne0 (by omega) (by omega)), hM.2 0 (by omega)]
    have h0 := hL.2.2 0 (by omega)
    obtain ⟨m, hm⟩ : ∃ m, t = m + 1 := ⟨t - 1, by omega⟩
    have eP : ffP C 0 0 0 = if X 0 = 67 then 1 else -1 := by
      unfold ffP
      rw [show ffU 0 0 = 0 from rfl, if_pos (by decide), bh_0, h0.2]
      by_cases g : X 0 = 67
      · rw [if_pos g, if_pos (by rw [g]; rfl)]
      · have g' : ¬ nI (X 0) = 67 := fun q => g ((nI_eq (b := 67) (by omega) (by decide)).mp q)
        rw [if_neg g, if_neg g']
    have eF : ff C t 0 0 0 = if X 0 = 67 then ff C (t - 1) 1 0 1 else nI 0 := by
      rw [hm, ff, eP, show m + 1 - 1 = m by omega]
      by_cases g : X 0 = 67
      · rw [if_pos g, if_neg (by decide), if_pos g]
        rfl
      · rw [if_neg g, if_pos rfl, if_neg g]
    by_cases g : X 0 = 67
    · rw [if_pos (show nI (X 0) = 67 by rw [g]; rfl)]
      rw [if_pos g] at eF
      rw [eF]
      have hM1 : MT (mset D 158 3 1) t X := MT_m hM ⟨Or.inr (by decide), by decide⟩
      have p1 : (mset D 158 3 1).1 158 3 = nI 1 := mset_s
      generalize mset D 158 3 1 = D1 at *
      unfold rh1
      have f1 := fgr_v (a := 1) (b := 4) hM1 ht hX (by omega) p1 (by decide) (by decide)
      have g1 := ff_dig (p := 1) (a := 1) (b := 4) (us := 0) hL (by omega) (by decide) (by decide) (by decide) bh_1 (by decide) (by decide)
      rw [show fgr D1 1 4 = fgr D1 (nI 1) (nI 4) from rfl, f1, g1]
      by_cases c1 : 1 < t ∧ 48 + 1 ≤ X 1 ∧ X 1 ≤ 48 + 4
      · rw [if_pos c1, if_pos c1]
        simp only
        have hM2 : MT (mset (mset D1 158 3 (nI (1 + 1))) 158 9 (nI (X 1 - 48))) t X := MT_m (MT_m hM1 ⟨Or.inr (by decide), by decide⟩) ⟨Or.inr (by decide), by decide⟩
        have p2 : (mset (mset D1 158 3 (nI (1 + 1))) 158 9 (nI (X 1 - 48))).1 158 3 = nI 2 := by rw [mset_o (by decide), mset_s]
        have r9 : (mset (mset D1 158 3 (nI (1 + 1))) 158 9 (nI (X 1 - 48))).1 158 9 = nI (X 1 - 48) := mset_s
        generalize mset (mset D1 158 3 (nI (1 + 1))) 158 9 (nI (X 1 - 48)) = D2 at *
        unfold rh2
        rw [r9, if_neg (nIm9 (by omega))]
        have f2 := fgr_v (a := 1) (b := 4) hM2 ht hX (by omega) p2 (by decide) (by decide)
        have g2 := ff_dig (p := 2) (a := 1) (b := 4) (us := 0) hL (by omega) (by decide) (by decide) (by decide) bh_2 (by decide) (by decide)
        rw [show fgr D2 1 4 = fgr D2 (nI 1) (nI 4) from rfl, f2, g2]
        by_cases c2 : 2 < t ∧ 48 + 1 ≤ X 2 ∧ X 2 ≤ 48 + 4
        · rw [if_pos c2, if_pos c2]
          simp only
          have hM3 : MT (mset (mset D2 158 3 (nI (2 + 1))) 158 10 (nI (X 2 - 48))) t X := MT_m (MT_m hM2 ⟨Or.inr (by decide), by decide⟩) ⟨Or.inr (by decide), by decide⟩
          have p3 : (mset (mset D2 158 3 (nI (2 + 1))) 158 10 (nI (X 2 - 48))).1 158 3 = nI 3 := by rw [mset_o (by decide), mset_s]
          have r9' : (mset (mset D2 158 3 (nI (2 + 1))) 158 10 (nI (X 2 - 48))).1 158 9 = nI (X 1 - 48) := by rw [mset_o (by decide), mset_o (by decide)]; exact r9
          have r10 : (mset (mset D2 158 3 (nI (2 + 1))) 158 10 (nI (X 2 - 48))).1 158 10 = nI (X 2 - 48) := mset_s
          generalize mset (mset D2 158 3 (nI (2 + 1))) 158 10 (nI (X 2 - 48)) = D3 at *
          unfold rh3
          rw [r10, if_neg (nIm9 (by omega))]
          have f3 := fgr_v (a := 0) (b := 9) hM3 ht hX (by omega) p3 (by decide) (by decide)
          have g3 := ff_dig (p := 3) (a := 0) (b := 9) (us := 0) hL (by omega) (by decide) (by decide) (by decide) bh_3 (by decide) (by decide)
          rw [show fgr D3 0 9 = fgr D3 (nI 0) (nI 9) from rfl, f3, g3]
          by_cases c3 : 3 < t ∧ 48 + 0 ≤ X 3 ∧ X 3 ≤ 48 + 9
          · rw [if_pos c3, if_pos c3]
            simp only
            unfold rh4
            rw [mset_s, if_neg (nIm9 (by omega))]
            refine Or.inr ⟨(by decide : ¬ (1 : Int32) = 0), by omega, ?_, by first | rfl | trivial, ⟨?_, by omega, by omega⟩, ⟨?_, by omega, by omega⟩, ⟨?_, by omega, by omega⟩⟩
            · show (mset (mset D3 158 3 (nI (3 + 1))) 158 11 (nI (X 3 - 48))).1 158 3 = nI 4
              rw [mset_o (by decide), mset_s]
            · show (mset (mset D3 158 3 (nI (3 + 1))) 158 11 (nI (X 3 - 48))).1 158 9 = _
              rw [mset_o (by decide), mset_o (by decide)]; exact r9'
            · show (mset (mset D3 158 3 (nI (3 + 1))) 158 11 (nI (X 3 - 48))).1 158 10 = _
              rw [mset_o (by decide), mset_o (by decide)]; exact r10
            · rfl
          · rw [if_neg c3, if_neg c3]
            simp only
            unfold rh4
            rw [mset_s, if_pos rfl]
            refine Or.inl ⟨rfl, ?_, 3, by omega, ?_⟩
            · show nI 3 = (mset D3 158 11 (-9)).1 158 3
              rw [mset_o (by decide)]; exact p3.symm
            · show (mset D3 158 11 (-9)).1 158 3 = nI 3
              rw [mset_o (by decide)]; exact p3
        · rw [if_neg c2, if_neg c2]
          simp only
          unfold rh3 rh4
          rw [mset_s, if_pos rfl, mset_s, if_pos rfl]
          refine Or.inl ⟨rfl, ?_, 2, by omega, ?_⟩
          · show nI 2 = (mset (mset D2 158 10 (-9)) 158 11 (-9)).1 158 3
            rw [mset_o (by decide), mset_o (by decide)]; exact p2.symm
          · show (mset (mset D2 158 10 (-9)) 158 11 (-9)).1 158 3 = nI 2
            rw [mset_o (by decide), mset_o (by decide)]; exact p2
      · rw [if_neg c1, if_neg c1]
        simp only
        unfold rh2 rh3 rh4
        rw [mset_s, if_pos rfl, mset_s, if_pos rfl, mset_s, if_pos rfl]
        refine Or.inl ⟨rfl, ?_, 1, by omega, ?_⟩
        · show nI 1 = (mset (mset (mset D1 158 9 (-9)) 158 10 (-9)) 158 11 (-9)).1 158 3
          rw [mset_o (by decide), mset_o (by decide), mset_o (by decide)]; exact p1.symm
        · show (mset (mset (mset D1 158 9 (-9)) 158 10 (-9)) 158 11 (-9)).1 158 3 = nI 1
          rw [mset_o (by decide), mset_o (by decide), mset_o (by decide)]; exact p1
    · have g' : ¬ nI (X 0) = 67 := fun q => g ((nI_eq (b := 67) (by have := (hL.2.2 0 (by omega)).1; omega) (by decide)).mp q)
      rw [if_neg g']
      rw [if_neg g] at eF
      exact Or.inl ⟨rfl, by rw [eF]; exact ep.symm, 0, by omega, ep⟩
/-! a user's rates -/
theorem ff_rate {C : mM} {t p m : Nat} {X : Nat → Nat} {us : Int32} (hL : LT C t X) (h1 : 1 ≤ m) (h6 : m ≤ 6) (hp : p < t) (hus : us ≤ 5) : ff C (t - p) (nI (8 + m)) us p = if X p = 46 then ff C (t - (p + 1)) 4 us (p + 1) else if 48 ≤ X p ∧ X p ≤ 57 ∧ m < 6 then ff C (t - (p + 1)) (nI (8 + (m + 1))) us (p + 1) else nI p := by
  have h256 := hL.2.2 p hp
  have ht := hL.2.1
  obtain ⟨k, hk⟩ : ∃ k, t - p = k + 1 := ⟨t - p - 1, by omega⟩
  have h4 : ¬ nI (8 + m) = 4 := fun q => by have := (nI_eq (b := 4) (by omega) (by decide)).mp q; omega
  have eU : ffU (nI (8 + m)) us = us := by unfold ffU; rw [if_neg h4]
  have eP : ffP C (nI (8 + m)) us p = if X p = 46 then 4 else if 48 ≤ X p ∧ X p ≤ 57 ∧ m < 6 then nI (8 + (m + 1)) else -1 := by
    unfold ffP
    rw [eU, if_pos hus, bh_9 h1 h6, h256.2]
    by_cases g1 : X p = 46
    · rw [if_pos g1, if_pos (by rw [g1]; rfl)]
    · have g' : ¬ nI (X p) = 46 := fun q => g1 ((nI_eq (b := 46) (by omega) (by decide)).mp q)
      rw [if_neg g1, if_neg g']
      have hw : wi (nI (X p)) 48 57 = 0 ↔ ¬ (48 ≤ X p ∧ X p ≤ 57) := wi_0 (a := 48) (b := 57) (by omega) (by decide) (by decide)
      by_cases g2 : 48 ≤ X p ∧ X p ≤ 57
      · rw [if_neg (fun q => hw.mp q g2)]
        by_cases g3 : m = 6
        · rw [if_pos g3, if_neg (by omega)]
        · rw [if_neg g3, if_pos (by omega)]
      · rw [if_pos (hw.mpr g2), if_neg (by omega)]
  rw [hk, ff, eU, eP, show t - (p + 1) = k by omega]
  by_cases g1 : X p = 46
  · rw [if_pos g1, if_neg (by decide), if_pos g1]
  · rw [if_neg g1, if_neg g1]
    by_cases g2 : 48 ≤ X p ∧ X p ≤ 57 ∧ m < 6
    · rw [if_pos g2, if_neg (nIm1 (by omega)), if_pos g2]
    · rw [if_neg g2, if_pos rfl, if_neg g2]
theorem rates_eq {C : mM} {t q u : Nat} {X : Nat → Nat} {us : Int32} (hL : LT C t X) (hus : us ≤ 5) : ∀ (k i : Nat) (D : mM), i + k = 5 → MT D t X → q + i + 1 ≤ t → 48 ≤ X (q + i) → X (q + i) ≤ 57 → D.1 163 u = nI i → D.1 158 3 = nI (q + i + 1) → ∃ m, i + 1 ≤ m ∧ m ≤ 6 ∧ q + m ≤ t ∧ (rlL u (k + 1) (nI (X (q + i) - 48)) D).1 163 u = nI m ∧ (rlL u (k + 1) (nI (X (q + i) - 48)) D).1 158 3 = nI (q + m) ∧ MT (rlL u (k + 1) (nI (X (q + i) - 48)) D) t X ∧ (∀ l, i ≤ l → l < m → 48 ≤ X (q + l) ∧ X (q + l) ≤ 57 ∧ (rlL u (k + 1) (nI (X (q + i) - 48)) D).1 162 (6 * u + l) = nI (X (q + l) - 48)) ∧ ff C (t - (q + i + 1)) (nI (8 + (i + 1))) us (q + i + 1) = ff C (t - (q + m)) (nI (8 + m)) us (q + m) ∧ (q + m < t → m < 6 → ¬ (48 ≤ X (q + m) ∧ X (q + m) ≤ 57)) ∧ (∀ j, j < 6 * u + i ∨ 6 * u + 6 ≤ j → (rlL u (k + 1) (nI (X (q + i) - 48)) D).1 162 j = D.1 162 j) ∧ (∀ j, j ≠ u → (rlL u (k + 1) (nI (X (q + i) - 48)) D).1 163 j = D.1 163 j) := by
  have ht := hL.2.1
  have hX : ∀ i, i < t → X i < 256 := fun i hi => (hL.2.2 i hi).1
  intro k
  induction k with
  | zero =>
    intro i D hi hM hq x1 x2 e3 ep
    have eA : rlA u (nI (X (q + i) - 48)) D = mset (mset D 162 (6 * u + i) (nI (X (q + i) - 48))) 163 u (nI (i + 1)) := by unfold rlA; rw [e3, nI_clamp (by omega), nI_1]
    have e6 : (6 : Int32) ≤ (rlA u (nI (X (q + i) - 48)) D).1 163 u := by
      rw [eA, mset_s]
      exact nI_le (a := 6) (by omega) (by omega)
    have er : rlL u (0 + 1) (nI (X (q + i) - 48)) D = rlA u (nI (X (q + i) - 48)) D := by
      rw [rlL, if_neg (nIm9 (by have := hX (q + i) (by omega); omega)), if_pos e6]
    rw [er, eA]
    refine ⟨i + 1, by omega, by omega, by omega, mset_s, ?_, MT_m (MT_m hM ⟨Or.inl (by decide), by decide⟩) ⟨Or.inl (by decide), by decide⟩, fun l h1 h2 => ?_, ?_, fun h1 h2 => by omega, fun j hj => ?_, fun j hj => ?_⟩
    · rw [mset_n (by decide), mset_n (by decide)]; exact ep
    · obtain rfl : l = i := by omega
      refine ⟨x1, x2, ?_⟩
      rw [mset_n (by decide), mset_s]
    · rfl
    · rw [mset_n (by decide), mset_o (by omega)]
    · rw [mset_o hj, mset_n (by decide)]
  | succ k ih =>
    intro i D hi hM hq x1 x2 e3 ep
    have eA : rlA u (nI (X (q + i) - 48)) D = mset (mset D 162 (6 * u + i) (nI (X (q + i) - 48))) 163 u (nI (i + 1)) := by unfold rlA; rw [e3, nI_clamp (by omega), nI_1]
    have e6 : ¬ (6 : Int32) ≤ (rlA u (nI (X (q + i) - 48)) D).1 163 u := by
      rw [eA, mset_s]
      exact nI_ge (b := 6) (by omega) (by decide)
    have hMA : MT (rlA u (nI (X (q + i) - 48)) D) t X := by rw [eA]; exact MT_m (MT_m hM ⟨Or.inl (by decide), by decide⟩) ⟨Or.inl (by decide), by decide⟩
    have pA : (rlA u (nI (X (q + i) - 48)) D).1 158 3 = nI (q + i + 1) := by rw [eA, mset_n (by decide), mset_n (by decide)]; exact ep
    have er : rlL u (k + 1 + 1) (nI (X (q + i) - 48)) D = rlL u (k + 1) (fgr (rlA u (nI (X (q + i) - 48)) D) 0 9).1 (fgr (rlA u (nI (X (q + i) - 48)) D) 0 9).2 := by
      rw [rlL, if_neg (nIm9 (by have := hX (q + i) (by omega); omega)), if_neg e6]
    have f := fgr_v (a := 0) (b := 9) hMA ht hX hq pA (by decide) (by decide)
    rw [er, show fgr (rlA u (nI (X (q + i) - 48)) D) 0 9 = fgr (rlA u (nI (X (q + i) - 48)) D) (nI 0) (nI 9) from rfl, f]
    by_cases c : q + i + 1 < t ∧ 48 + 0 ≤ X (q + i + 1) ∧ X (q + i + 1) ≤ 48 + 9
    · rw [if_pos c]
      simp only
      obtain ⟨m, m1, m2, m3, m4, m5, m6, m7, m8, m9, ma, mb⟩ := ih (i + 1) (mset (rlA u (nI (X (q + i) - 48)) D) 158 3 (nI (q + i + 1 + 1))) (by omega) (MT_m hMA ⟨Or.inr (by decide), by decide⟩) (by omega) (by rw [show q + (i + 1) = q + i + 1 by omega]; omega) (by rw [show q + (i + 1) = q + i + 1 by omega]; omega) (by rw [mset_n (by decide), eA, mset_s]) (by rw [mset_s]; rfl)
      rw [show q + (i + 1) = q + i + 1 by omega] at m4 m5 m6 m7 m8 ma mb
      refine ⟨m, by omega, m2, m3, m4, m5, m6, fun l h1 h2 => ?_, ?_, m9, fun j hj => ?_, fun j hj => ?_⟩
      · by_cases e : l = i
        · subst e
          refine ⟨x1, x2, ?_⟩
          rw [ma (6 * u + l) (by omega), mset_n (by decide), eA, mset_n (by decide), mset_s]
        · exact m7 l (by omega) h2
      · rw [ff_rate hL (by omega) (by omega) (by omega) hus, if_neg (by omega), if_pos (by omega)]
        exact m8
      · rw [ma j (by omega), mset_n (by decide), eA, mset_n (by decide), mset_o (by omega)]
      · rw [mb j hj, mset_n (by decide), eA, mset_o hj, mset_n (by decide)]
    · rw [if_neg c]
      simp only
      have e9 : rlL u (k + 1) (-9) (rlA u (nI (X (q + i) - 48)) D) = rlA u (nI (X (q + i) - 48)) D := by rw [rlL, if_pos rfl]
      rw [e9]
      refine ⟨i + 1, by omega, by omega, by omega, by rw [eA, mset_s], pA, hMA, fun l h1 h2 => ?_, rfl, fun h1 h2 => ?_, fun j hj => ?_, fun j hj => ?_⟩
      · obtain rfl : l = i := by omega
        refine ⟨x1, x2, ?_⟩
        rw [eA, mset_n (by decide), mset_s]
      · rw [show q + (i + 1) = q + i + 1 by omega] at h1 ⊢
        omega
      · rw [eA, mset_n (by decide), mset_o (by omega)]
      · rw [eA, mset_o hj, mset_n (by decide)]
