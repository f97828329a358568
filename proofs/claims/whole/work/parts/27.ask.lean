/-! calls that only ask: class and model answer alike -/
def FH (C C' : mM) : Prop := (∀ a, 158 ≤ a → C'.1 a = C.1 a) ∧ C'.2 158 = C.2 158
def FL (D D' : mM) : Prop := (∀ a, a < 158 → D'.1 a = D.1 a) ∧ D'.2 0 = D.2 0
def OPS (a b : Int32) (c : Nat) (C C' D D' : mM) : Prop := a = b ∧ RR (c + 100) C' D' ∧ FH C C' ∧ FL D D'
theorem ask_fin {a b : Int32} {c : Nat} {C C' D D' : mM} (h : RR c C D) (e : a = b) (hA : AQ C C') (hM : AM (m0 D) D') : OPS a b c C C' D D' := by
  refine ⟨e, RR_le (RR_F (RR_F h (AQ_CF hA) DF_0) (AQ_CF (AQ_r hA.2.2)) (AM_DF hM)) (by omega), ⟨fun x hx => hA.1 x (by omega), by rw [hA.2.1]⟩, ⟨fun x hx => ?_, by rw [hM.2]; rfl⟩⟩
  rw [hM.1 x (by omega) (by omega) (by omega) (by omega)]
  exact mset_n (by omega)
theorem RR_GD {c : Nat} {C D : mM} (h : RR c C D) : GD C := (RR_CI h).1.1
theorem told_eq {C : mM} {k n j W : Nat} {g : Nat → Int32} (h : PV C k n g) (hj : j < n) (h1 : 1 ≤ W) (h10 : W ≤ 10) : told C (k + 1 + 1 + j) (nI W) = g (10 * j + W - 1) := by
  have eW : (nI W).toInt = (W : Int) := nI_toInt (by omega)
  unfold told
  rw [eW, if_neg (by omega)]
  by_cases g4 : W = 4
  · subst g4
    rw [if_pos (by decide), PV_e h hj (by decide)]
    rcases VF3.mp (PV_v h hj (by decide)) with e | e
    · rw [e, if_pos rfl]
      exact e.symm
    · rw [e, if_neg (by decide)]
      exact e.symm
  · rw [if_neg (by omega), Int.toNat_natCast, PV_e h hj (by omega), show 10 * j + (W - 1) = 10 * j + W - 1 by omega]
theorem wait0 {C D : mM} {k r n u : Nat} (hu : u < n) (h : PV C k n (D.1 r)) : C.1 (k + 1 + 1 + u) 4 + C.1 (k + 1 + 1 + u) 5 = 0 ↔ ha D r u = 0 := by
  obtain ⟨q, hq, eq⟩ := VF4.mp (PV_v h hu (by decide))
  obtain ⟨a, ha', ea⟩ := VF5.mp (PV_v h hu (by decide))
  rw [PV_e h hu (by decide), PV_e h hu (by decide), ha_0 hq ha' eq ea, eq, ea, nI_add, show (0 : Int32) = nI 0 from rfl, nI_eq (by omega) (by omega)]
  omega
theorem op_user {c : Nat} {C D : mM} {u w : Int32} (hc : c + 1000 < 2 ^ 30) (h : RR c C D) : OPS (c_user C u w) (m_user (m0 D) u w) c C C D (m0 D) := by
  refine ask_fin h ?_ (AQ_r (RR_GD h)) AM_r
  obtain ⟨hCL, n, B, h2⟩ := h
  have h2' := R2_DF h2 DF_0
  generalize m0 D = D0 at *
  obtain ⟨hP, hV, a, ha', ea⟩ := h2'.1
  have hn := hP.1.1
  unfold c_user m_user
  rcases has_nu (u := u) hP with ⟨g1, g2, j, hj, rfl⟩ | ⟨g1, g2⟩
  · rw [if_neg g1, if_pos g2, nI_clamp (by omega : j < 2 ^ 31)]
    by_cases k1 : wi w 0 10 = 0
    · rw [if_pos k1, if_pos k1]
    · rw [if_neg k1, if_neg k1]
      by_cases k2 : w = 0
      · rw [if_pos k2, if_pos k2, hV.2.2, ea]
        obtain ⟨x, -, e1, e2⟩ := rate_eq (r := 165) hP hj (show a < 2 ^ 31 by omega) ea
        rw [e1, e2]
      · rw [if_neg k2, if_neg k2]
        obtain ⟨W, -, hW, rfl⟩ := wi_g (d := 0) (c := 10) rfl rfl (by decide) (by decide) k1
        have hW0 : W ≠ 0 := fun g => k2 (by rw [g]; rfl)
        rw [nI_clamp (by omega : W < 2 ^ 31), show 9 + j = 7 + 1 + 1 + j by omega]
        exact told_eq hV hj (by omega) hW
  · rw [if_pos g1, if_neg g2]
theorem op_ahead {c : Nat} {C D : mM} {x u w : Int32} (hc : c + 1000 < 2 ^ 30) (h : RR c C D) : OPS (c_ahead C x u w).1 (m_ahead (m0 D) x u w).1 c C (c_ahead C x u w).2 D (m_ahead (m0 D) x u w).2 := by
  have hG := RR_GD h
  have hz : ∀ v : Int32, OPS v v c C C D (m0 D) := fun v => ask_fin h rfl (AQ_r hG) AM_r
  obtain ⟨n, B, h2⟩ := h.2
  have h2' := R2_DF h2 DF_0
  have hT := TT_new (AQ_r hG) (AM_r (D := m0 D)) h2'.1.1 h2'.1.2
  have hP := h2'.1.1
  have hn := hP.1.1
  unfold c_ahead m_ahead
  rcases has_nu (u := u) hP with ⟨g1, g2, j, hj, rfl⟩ | ⟨g1, g2⟩
  · rw [if_neg g1, if_pos g2, nI_clamp (by omega : j < 2 ^ 31)]
    by_cases k1 : wi x 0 99 = 0
    · rw [if_pos k1, if_pos k1]; exact hz _
    · rw [if_neg k1, if_neg k1]
      by_cases k2 : wi w 5 10 = 0
      · rw [if_pos k2, if_pos k2]; exact hz _
      · rw [if_neg k2, if_neg k2]
        obtain ⟨N, -, hN, rfl⟩ := wi_g (d := 0) (c := 99) rfl rfl (by decide) (by decide) k1
        obtain ⟨W, hW5, hW, rfl⟩ := wi_g (d := 5) (c := 10) rfl rfl (by decide) (by decide) k2
        rw [nI_clamp (by omega : N < 2 ^ 31), nI_clamp (by omega : W < 2 ^ 31)]
        have h3 := (TT_runs (m := N) (Or.inl ⟨rfl, rfl⟩) (by omega) hT).2
        refine ask_fin h ?_ h3.1.1 h3.1.2
        show told _ (16 + j) (nI W) = _
        rw [show 16 + j = 14 + 1 + 1 + j by omega]
        exact told_eq h3.2.2.1 hj (by omega) hW
  · rw [if_pos g1, if_neg g2]; exact hz _
theorem op_who {c : Nat} {C D : mM} {b : Int32} (hc : c + 1000 < 2 ^ 30) (h : RR c C D) : OPS (c_who C b).1 (m_who (m0 D) b).1 c C (c_who C b).2 D (m_who (m0 D) b).2 := by
  have hG := RR_GD h
  have hz : ∀ v : Int32, OPS v v c C C D (m0 D) := fun v => ask_fin h rfl (AQ_r hG) AM_r
  obtain ⟨n, B, h2⟩ := h.2
  have h2' := R2_DF h2 DF_0
  have hT := TT_new (AQ_r hG) (AM_r (D := m0 D)) h2'.1.1 h2'.1.2
  have hP := h2'.1.1
  have hB := hP.2.1.1
  unfold c_who m_who
  have e : C.1 4 0 = (m0 D).1 158 4 := by rw [hP.2.1.2.1, hP.2.1.2.2]
  rw [e]
  by_cases k1 : wi b 0 ((m0 D).1 158 4 - 1) = 0
  · rw [if_pos k1, if_pos k1]; exact hz _
  · rw [if_neg k1, if_neg k1]
    obtain ⟨j, hj, rfl⟩ := wi_b (PLR_PM hP) k1
    rw [(PLR_n hP).2.2.2] at hj
    obtain ⟨-, h3, h4⟩ := TT_ro (f := 0) (Or.inl ⟨rfl, rfl⟩) (by omega) hT
    refine ask_fin h ?_ h3.1.1 h3.1.2
    have hw : ¬ wi (nI j) 0 3 = 0 := by
      unfold wi
      have g3 : ¬ (3 : Int32) < nI j := nI_nlt (a := 3) (b := j) (by omega) (by decide)
      rw [if_neg (nI_pos (by omega)), if_neg g3]
      decide
    show (if wi (nI j) 0 3 = 0 then -9 else (ro (stc C 14 7) 14 0).2.1 25 (nI j).toNatClampNeg) = (so (lay (m0 D)) 166 0).2.1 176 (nI j).toNatClampNeg
    rw [if_neg hw, nI_clamp (by omega : j < 2 ^ 31)]
    exact h4 j hj
theorem mx_e (m w : Int32) : mx m w = mxx w m := by
  unfold mx mxx
  by_cases g : m < w
  · rw [if_pos g, if_neg]
    rw [Int32.lt_iff_toInt_lt] at g
    rw [Int32.le_iff_toInt_le]
    omega
  · rw [if_neg g, if_pos]
    rw [Int32.lt_iff_toInt_lt] at g
    rw [Int32.le_iff_toInt_le]
    omega
theorem mn_e (l m : Int32) : mn l m = if l ≤ m then l else m := by
  unfold mn
  by_cases g : m < l
  · rw [if_pos g, if_neg]
    rw [Int32.lt_iff_toInt_lt] at g
    rw [Int32.le_iff_toInt_le]
    omega
  · rw [if_neg g, if_pos]
    rw [Int32.lt_iff_toInt_lt] at g
    rw [Int32.le_iff_toInt_le]
    omega
theorem op_longest {c : Nat} {C D : mM} {u x : Int32} (hc : c + 1000 < 2 ^ 30) (h : RR c C D) : OPS (c_longest C u x).1 (m_longest (m0 D) u x).1 c C (c_longest C u x).2 D (m_longest (m0 D) u x).2 := by
  have hG := RR_GD h
  have hz : ∀ v : Int32, OPS v v c C C D (m0 D) := fun v => ask_fin h rfl (AQ_r hG) AM_r
  obtain ⟨n, B, h2⟩ := h.2
  have h2' := R2_DF h2 DF_0
  have hT := TT_new (AQ_r hG) (AM_r (D := m0 D)) h2'.1.1 h2'.1.2
  have hP := h2'.1.1
  have hn := hP.1.1
  unfold c_longest m_longest lw
  rcases has_nu (u := u) hP with ⟨g1, g2, j, hj, rfl⟩ | ⟨g1, g2⟩
  · rw [if_neg g1, if_pos g2, nI_clamp (by omega : j < 2 ^ 31)]
    by_cases k1 : wi x 1 99 = 0
    · rw [if_pos k1, if_pos k1]; exact hz _
    · rw [if_neg k1, if_neg k1]
      obtain ⟨N, -, hN, rfl⟩ := wi_g (d := 1) (c := 99) rfl rfl (by decide) (by decide) k1
      rw [nI_clamp (by omega : N < 2 ^ 31)]
      have key := itr_rel (lwS j) (lwMS j) (fun i p q => p.1 = q.1 ∧ TT n B (c + i) 14 166 C (m0 D) p.2 q.2) N 0 (0, stc C 14 7) (0, lay (m0 D)) (fun i p q _ hi hR => by
        obtain ⟨r1, r2⟩ := hR
        obtain ⟨-, h3, -⟩ := TT_ro (f := 0) (Or.inl ⟨rfl, rfl⟩) (by omega) r2
        refine ⟨?_, h3⟩
        unfold lwS lwMS
        simp only
        rw [mx_e, r1, show 16 + j = 14 + 1 + 1 + j by omega, PV_e h3.2.2.1 hj (by decide)]) ⟨rfl, hT⟩
      exact ask_fin h key.1 key.2.1.1 key.2.1.2
  · rw [if_pos g1, if_neg g2]; exact hz _
theorem em_eq {n B j : Nat} {C0 D0 : mM} (hj : j < n) : ∀ (m i c : Nat) (C D : mM), c + m < 2 ^ 30 → TT n B c 14 166 C0 D0 C D → (suL j m i C).1 = (emL j m i D).1 ∧ AQ C0 (suL j m i C).2 ∧ AM D0 (emL j m i D).2
  | 0, i, c, C, D, _, h => ⟨rfl, h.1.1, h.1.2⟩
  | m + 1, i, c, C, D, hc, h => by
    have hw := wait0 hj h.2.2.1
    rw [suL, emL]
    by_cases g : ha D 166 j = 0
    · rw [if_pos g, if_pos (by rw [show 16 + j = 14 + 1 + 1 + j by omega]; exact hw.mpr g)]
      exact ⟨rfl, h.1.1, h.1.2⟩
    · rw [if_neg g, if_neg (by rw [show 16 + j = 14 + 1 + 1 + j by omega]; exact fun g2 => g (hw.mp g2))]
      obtain ⟨-, h3, -⟩ := TT_ro (f := 0) (Or.inl ⟨rfl, rfl⟩) (by omega) h
      exact em_eq hj m (i + 1) (c + 1) _ _ (by omega) h3
theorem op_empty {c : Nat} {C D : mM} {u : Int32} (hc : c + 1000 < 2 ^ 30) (h : RR c C D) : OPS (c_empty C u).1 (m_empty (m0 D) u).1 c C (c_empty C u).2 D (m_empty (m0 D) u).2 := by
  have hG := RR_GD h
  have hz : ∀ v : Int32, OPS v v c C C D (m0 D) := fun v => ask_fin h rfl (AQ_r hG) AM_r
  obtain ⟨n, B, h2⟩ := h.2
  have h2' := R2_DF h2 DF_0
  have hT := TT_new (AQ_r hG) (AM_r (D := m0 D)) h2'.1.1 h2'.1.2
  have hP := h2'.1.1
  have hn := hP.1.1
  unfold c_empty m_empty seF
  rcases has_nu (u := u) hP with ⟨g1, g2, j, hj, rfl⟩ | ⟨g1, g2⟩
  · rw [if_neg g1, if_pos g2, nI_clamp (by omega : j < 2 ^ 31)]
    obtain ⟨e1, e2, e3⟩ := em_eq hj 61 0 c _ _ (by omega) hT
    exact ask_fin h e1 e2 e3
  · rw [if_pos g1, if_neg g2]; exact hz _
theorem TT_next {n B c : Nat} {C0 D0 C D : mM} (h : R2 n B c C0 D0) (hA : AQ C0 C) (hM : AM D0 D) : TT n B c 14 166 C0 D0 (stc C 14 7) (lay D) ∧ R2 n B c C D := by
  have h' := R2_DF (R2_CF h (AQ_CF hA)) (AM_DF hM)
  exact ⟨TT_new hA hM h'.1.1 h'.1.2, h'⟩
theorem lg_eq {n B c : Nat} {C0 D0 C D : mM} (hn0 : 0 < n) (h0 : R2 n B c C0 D0) (h : TT n B (c + 30) 14 166 C0 D0 C D) : lg C 14 = lsM D := by
  have hP := h.2.1
  have hn := hP.1.1
  obtain ⟨e1, -, e3, -⟩ := PLR_n hP
  have h' := R2_DF (R2_CF h0 (AQ_CF h.1.1)) (AM_DF h.1.2)
  have hd : ∀ u, u < n → C.1 (14 + 1 + 1 + u) 9 - C.1 (9 + u) 9 = lsM1 D u := by
    intro u hu
    unfold lsM1
    rw [PV_e h.2.2.1 hu (by decide), show 9 + u = 7 + 1 + 1 + u by omega, PV_e h'.1.2.1 hu (by decide)]
  obtain ⟨m, rfl⟩ : ∃ m, n = m + 1 := ⟨n - 1, by omega⟩
  unfold lg lsM
  rw [e1, e3, itr, Nat.add_sub_cancel]
  have s0 : lsMS D 0 (-9) = C.1 (14 + 1 + 1) 9 - C.1 9 9 := by
    unfold lsMS
    rw [if_pos nI_0]
    exact (hd 0 (by omega)).symm
  rw [s0]
  have key := itr_rel (lgS C 14) (lsMS D) (fun _ a b => a = b) m 1 (C.1 (14 + 1 + 1) 9 - C.1 9 9) (C.1 (14 + 1 + 1) 9 - C.1 9 9) (fun i a b h1 hi e => by
    subst e
    unfold lgS lsMS
    rw [if_neg (nI_ne0 (by omega) (by omega)), mn_e, hd i (by omega)]) rfl
  exact key
theorem op_best {c : Nat} {C D : mM} {u : Int32} (hc : c + 1000 < 2 ^ 30) (h : RR c C D) : OPS (c_best C u).1 (m_best (m0 D) u).1 c C (c_best C u).2 D (m_best (m0 D) u).2 := by
  have hG := RR_GD h
  have hz : ∀ v : Int32, OPS v v c C C D (m0 D) := fun v => ask_fin h rfl (AQ_r hG) AM_r
  obtain ⟨n, B, h2⟩ := h.2
  have h2' := R2_DF h2 DF_0
  have hP := h2'.1.1
  have hn := hP.1.1
  unfold c_best m_best
  rcases has_nu (u := u) hP with ⟨g1, g2, j, hj, rfl⟩ | ⟨g1, g2⟩
  · rw [if_neg g1, if_pos g2, nI_clamp (by omega : j < 2 ^ 31)]
    have key := itr_rel (bwS j) (bsMS j) (fun _ p q => p.1 = q.1 ∧ p.2.1 = q.2.1 ∧ AQ C p.2.2 ∧ AM (m0 D) q.2.2) 9 1 (1, -1, C) (1, -1, m0 D) (fun w p q h1 hw hR => by
      obtain ⟨r1, r2, r3, r4⟩ := hR
      obtain ⟨p1, p2, p3⟩ := p
      obtain ⟨q1, q2, q3⟩ := q
      simp only at r1 r2 r3 r4
      subst r1 r2
      have hT := (TT_next h2' r3 r4).1
      have hT1 := TT_u (u := j) (f := 1) (v := nI w) (by omega) (by decide) (VF1.mpr ⟨w, h1, by omega, rfl⟩) hT
      have hT2 := (TT_runs (m := 30) (Or.inl ⟨rfl, rfl⟩) (by omega) hT1).2
      have el : lg (bwM p3 j w) 14 = lsM (bM2 q3 j w) := by
        have := lg_eq (by omega) h2' hT2
        unfold bwM bM2 bM1
        rw [show 16 + j = 14 + 1 + 1 + j by omega]
        exact this
      have f1 : AQ C (bwM p3 j w) := by
        unfold bwM
        rw [show 16 + j = 14 + 1 + 1 + j by omega]
        exact hT2.1.1
      have f2 : AM (m0 D) (bM2 q3 j w) := hT2.1.2
      unfold bwS bsMS bsF
      simp only
      rw [el]
      by_cases g : lsM (bM2 q3 j w) ≤ p2
      · rw [if_pos g, if_pos g, if_pos g]
        dsimp only
        exact ⟨rfl, rfl, f1, f2⟩
      · rw [if_neg g, if_neg g, if_neg g]
        dsimp only
        exact ⟨rfl, rfl, f1, f2⟩) ⟨rfl, rfl, AQ_r hG, AM_r⟩
    have key2 : ∀ p q, p = bw C j → q = bs (m0 D) j → p.1 = q.1 ∧ AQ C p.2.2 ∧ AM (m0 D) q.2.2 := by
      intro p q e1 e2
      unfold bw at e1
      unfold bs at e2
      rw [e1, e2]
      exact ⟨key.1, key.2.2.1, key.2.2.2⟩
    obtain ⟨k1, k2, k3⟩ := key2 _ _ rfl rfl
    dsimp only
    exact ask_fin h k1 k2 k3
  · rw [if_pos g1, if_neg g2]; exact hz _
