/-! slots that fail, comings by a seed -/
theorem pw_v : ∀ (k i X p : Nat), itr (fun _ (q : Int32) => q * nI X) i k (nI p) = nI (p * X ^ k)
  | 0, i, X, p => by rw [itr, Nat.pow_zero, Nat.mul_one]
  | k + 1, i, X, p => by
    rw [itr, pk_mul, pw_v k (i + 1) X (p * X), Nat.pow_succ, Nat.mul_assoc, Nat.mul_comm X]
theorem pw_e (X k : Nat) : pw (nI X) k = nI (X ^ k) := by
  have := pw_v k 0 X 1
  rw [Nat.one_mul] at this
  exact this
theorem pc6_k : ∀ n, n ≤ 6 → ∀ s, s < 2 ^ n → pc s ≤ n := by decide +kernel
theorem lk_v {N X s : Nat} (hN : N ≤ 6) (hX : X ≤ 10) (hs : s < 2 ^ N) : ∃ V, V ≤ 1000000 ∧ lk N (nI X) s = nI V ∧ flT N (nI X) s = nI V := by
  have h64 : 2 ^ N ≤ 2 ^ 6 := Nat.pow_le_pow_right (by decide) hN
  have hp := pc6_k N hN s hs
  have e10 : (10 : Int32) - nI X = nI (10 - X) := by rw [show (10 : Int32) = nI 10 from rfl, pk_sub hX]
  refine ⟨X ^ pc s * (10 - X) ^ (N - pc s), ?_, ?_, ?_⟩
  · have h1 : X ^ pc s ≤ 10 ^ pc s := Nat.pow_le_pow_left hX _
    have h2 : (10 - X) ^ (N - pc s) ≤ 10 ^ (N - pc s) := Nat.pow_le_pow_left (by omega) _
    have h3 : 10 ^ pc s * 10 ^ (N - pc s) = 10 ^ N := by rw [← Nat.pow_add]; congr 1; omega
    have h4 : 10 ^ N ≤ 10 ^ 6 := Nat.pow_le_pow_right (by decide) hN
    have h5 := Nat.mul_le_mul h1 h2
    omega
  · unfold lk
    rw [bc_k s (by omega), pk_sub hp, nI_clamp (by omega), nI_clamp (by omega), e10, pw_e, pw_e, pk_mul]
  · unfold flT
    rw [on_k s (by omega), pk_sub hp, nI_clamp (by omega), nI_clamp (by omega), e10, pw_e, pw_e, pk_mul]
theorem ie_eq {n B c U N s : Nat} {C0 D0 C D : mM} (hc : c + 1000 < 2 ^ 30) (hN : N ≤ 6) (hU : U < n) (h0 : R2 n B c C0 D0) (hA : AQ C0 C) (hM : AM D0 D) : ((ie C U N (nI s)).1 = 0 ↔ ¬ ha (flM D N s) 166 U = 0) ∧ AQ C0 (ie C U N (nI s)).2 ∧ AM D0 (flM D N s) := by
  have hT := (TT_next h0 hA hM).1
  have key := itr_rel (ieS (nI s)) (flI s) (fun i C D => TT n B (c + i) 14 166 C0 D0 C D) N 0 (stc C 14 7) (lay D) (fun i C D _ hi hR => by
    exact (TT_ro (f := hs1 (nI s) (nI i)) (Or.inl ⟨rfl, rfl⟩) (by omega) hR).2.1) hT
  refine ⟨?_, key.1.1, key.1.2⟩
  have hw : (ieM C N (nI s)).1 (14 + 1 + 1 + U) 4 + (ieM C N (nI s)).1 (14 + 1 + 1 + U) 5 = 0 ↔ ha (flM D N s) 166 U = 0 := wait0 hU key.2.2.1
  unfold ie
  show (if (ieM C N (nI s)).1 (16 + U) 4 + (ieM C N (nI s)).1 (16 + U) 5 = 0 then (1 : Int32) else 0) = 0 ↔ _
  rw [show 16 + U = 14 + 1 + 1 + U by omega]
  by_cases g : ha (flM D N s) 166 U = 0
  · rw [if_pos (hw.mpr g)]
    exact ⟨fun q => absurd q (by decide), fun q => absurd g q⟩
  · rw [if_neg (fun q => g (hw.mp q))]
    exact ⟨fun _ => g, fun _ => rfl⟩
theorem op_fails {c : Nat} {C D : mM} {u y x w : Int32} (hc : c + 1000 < 2 ^ 30) (h : RR c C D) : OPS (c_fails C u y x w).1 (m_fails (m0 D) u y x w).1 c C (c_fails C u y x w).2 D (m_fails (m0 D) u y x w).2 := by
  have hG := RR_GD h
  have hz : ∀ v : Int32, OPS v v c C C D (m0 D) := fun v => ask_fin h rfl (AQ_r hG) AM_r
  obtain ⟨n, B, h2⟩ := h.2
  have h2' := R2_DF h2 DF_0
  have hP := h2'.1.1
  have hn := hP.1.1
  unfold c_fails m_fails
  rcases has_nu (u := u) hP with ⟨g1, g2, j, hj, rfl⟩ | ⟨g1, g2⟩
  · rw [if_neg g1, if_pos g2, nI_clamp (by omega : j < 2 ^ 31)]
    by_cases k1 : wi y 1 6 = 0
    · rw [if_pos k1, if_pos k1]; exact hz _
    · rw [if_neg k1, if_neg k1]
      by_cases k2 : wi x 0 10 = 0
      · rw [if_pos k2, if_pos k2]; exact hz _
      · rw [if_neg k2, if_neg k2]
        obtain ⟨N, -, hN, rfl⟩ := wi_g (d := 1) (c := 6) rfl rfl (by decide) (by decide) k1
        obtain ⟨X, -, hX, rfl⟩ := wi_g (d := 0) (c := 10) rfl rfl (by decide) (by decide) k2
        rw [nI_clamp (by omega : N < 2 ^ 31)]
        have h64 : 2 ^ N ≤ 2 ^ 6 := Nat.pow_le_pow_right (by decide) hN
        have key := itr_rel (ebS j N (nI X)) (flS j N (nI X)) (fun s p q => (∃ P, P ≤ 1000000 * s ∧ p.1 = nI P ∧ q.1 = nI P) ∧ AQ C p.2 ∧ AM (m0 D) q.2) (2 ^ N) 0 (0, C) (0, m0 D) (fun s p q _ hs hR => by
          obtain ⟨⟨P, b1, b2, b3⟩, hA, hM⟩ := hR
          obtain ⟨p1, p2⟩ := p
          obtain ⟨q1, q2⟩ := q
          simp only at b2 b3 hA hM
          subst b2 b3
          obtain ⟨V, v1, v2, v3⟩ := lk_v hN hX (show s < 2 ^ N by omega)
          obtain ⟨i1, i2, i3⟩ := ie_eq (s := s) hc hN hj h2' hA hM
          unfold ebS flS
          simp only
          rw [v2, v3]
          by_cases e : V = 0
          · rw [if_pos (by rw [e]; decide)]
            refine ⟨⟨P, by omega, rfl, ?_⟩, hA, i3⟩
            show nI P + (if ha (flM q2 N s) 166 j = 0 then nI V else 0) = nI P
            rw [e]
            split
            · rw [nI_0, Int32.add_zero]
            · rw [Int32.add_zero]
          · rw [if_neg (nI_nle (by omega) (by omega))]
            by_cases g : ha (flM q2 N s) 166 j = 0
            · have g' : ¬ (ie p2 j N (nI s)).1 = 0 := fun q => (i1.mp q) g
              rw [if_neg g', if_pos g]
              exact ⟨⟨P + V, by omega, nI_add P V, nI_add P V⟩, i2, i3⟩
            · rw [if_pos (i1.mpr g), if_neg g]
              exact ⟨⟨P, by omega, rfl, Int32.add_zero _⟩, i2, i3⟩) ⟨⟨0, by omega, rfl, rfl⟩, AQ_r hG, AM_r⟩
        obtain ⟨⟨P, b1, b2, b3⟩, hA, hM⟩ := key
        refine ask_fin h ?_ hA hM
        show fra (eb C j N (nI X)).1 (pw 10 N) w = frM (fl (m0 D) j N (nI X)).1 (pw 10 N) w
        unfold eb fl
        rw [b2, b3, show (10 : Int32) = nI 10 from rfl, pw_e]
        have h6 : 10 ^ N ≤ 10 ^ 6 := Nat.pow_le_pow_right (by decide) hN
        have e0 : nI P = nI P - nI 0 := by rw [pk_sub (by omega), Nat.sub_zero]
        rw [e0]
        exact fra_eq (by omega) (by omega) (Nat.pow_pos (by decide)) (by omega)
  · rw [if_pos g1, if_neg g2]; exact hz _
/-! the seed -/
theorem AQ_l {C0 C : mM} {s s' : Int64} (h : AQ (lset C0 0 s) C) : AQ (lset C0 0 s') (lset C 0 s') := by
  refine ⟨h.1, ?_, h.2.2⟩
  funext a
  have := congrFun h.2.1 a
  rw [lset_2] at this
  rw [lset_2, lset_2]
  by_cases g : a = 0
  · rw [if_pos g, if_pos g]
  · rw [if_neg g, if_neg g]
    rw [if_neg g] at this
    exact this
theorem AM_l {D0 D : mM} {s s' : Int64} (h : AM (lset D0 158 s) D) : AM (lset D0 158 s') (lset D 158 s') := by
  refine ⟨h.1, ?_⟩
  funext a
  have := congrFun h.2 a
  rw [lset_2] at this
  rw [lset_2, lset_2]
  by_cases g : a = 158
  · rw [if_pos g, if_pos g]
  · rw [if_neg g, if_neg g]
    rw [if_neg g] at this
    exact this
theorem R2_seed {n B c : Nat} {C D : mM} {s : Int64} (h : R2 n B c C D) : R2 n B c (lset C 0 s) (lset D 158 s) := by
  obtain ⟨h1, h2, h3, h4, h5, -⟩ := h
  refine ⟨h1, h2, h3, h4, h5, ?_⟩
  rw [lset_2, lset_2, if_pos rfl, if_pos rfl]
theorem lset_id {C : mM} {k : Nat} : lset C k (C.2 k) = C := by
  refine Prod.ext rfl ?_
  funext a
  rw [lset_2]
  split
  · next e => rw [e]
  · rfl
theorem op_seed {c : Nat} {C D : mM} {v : Int64} (h : RR c C D) : C.2 0 = (m0 D).2 158 ∧ RR (c + 100) (lset C 0 v) (lset (m0 D) 158 v) ∧ FH C (lset C 0 v) ∧ FL D (lset (m0 D) 158 v) := by
  obtain ⟨hCL, n, B, h2⟩ := h
  have h2' := R2_DF h2 DF_0
  refine ⟨h2'.2.2.2.2.2, ⟨hCL, n, B, R2_le (R2_seed h2') (by omega)⟩, ⟨fun _ _ => rfl, ?_⟩, ⟨fun a ha' => mset_n (by omega), ?_⟩⟩
  · rw [lset_2, if_neg (by decide)]
  · rw [lset_2, if_neg (by decide)]; rfl
theorem op_drawn {c : Nat} {C D : mM} {x : Int32} (hc : c + 1000 < 2 ^ 30) (h : RR c C D) : OPS (c_drawn C x).1 (m_drawn (m0 D) x).1 c C (c_drawn C x).2 D (m_drawn (m0 D) x).2 := by
  have hG := RR_GD h
  have hz : ∀ v : Int32, OPS v v c C C D (m0 D) := fun v => ask_fin h rfl (AQ_r hG) AM_r
  obtain ⟨hCL, n, B, h2⟩ := h
  have h2' := R2_DF h2 DF_0
  have hP := h2'.1.1
  have hn := hP.1.1
  unfold c_drawn m_drawn
  by_cases k1 : wi x 1 20 = 0
  · rw [if_pos k1, if_pos k1]; exact hz _
  · rw [if_neg k1, if_neg k1]
    obtain ⟨N, -, hN, rfl⟩ := wi_g (d := 1) (c := 20) rfl rfl (by decide) (by decide) k1
    rw [nI_clamp (by omega : N < 2 ^ 31)]
    have hseed := h2'.2.2.2.2.2
    have hT0 : TT n B c 14 166 (lset C 0 (C.2 0)) (lset (m0 D) 158 (C.2 0)) (stc C 14 7) (lay (m0 D)) := by
      rw [lset_id, hseed, lset_id]
      exact TT_new (AQ_r hG) AM_r h2'.1.1 h2'.1.2
    have key := itr_rel dwS drS (fun i p q => (∃ s, TT n B (c + i) 14 166 (lset C 0 s) (lset (m0 D) 158 s) p.2 q.2) ∧ p.1 = q.1) N 0 (0, stc C 14 7) (0, lay (m0 D)) (fun i p q _ hi hR => by
      obtain ⟨⟨s, hT⟩, e⟩ := hR
      obtain ⟨p1, p2⟩ := p
      obtain ⟨q1, q2⟩ := q
      simp only at hT e
      subst e
      have e1 : p2.2 0 = s := by rw [hT.1.1.2.1, lset_2, if_pos rfl]
      have e2 : q2.2 158 = s := by rw [hT.1.2.2, lset_2, if_pos rfl]
      have hT1 : TT n B (c + i) 14 166 (lset C 0 (dw1 s)) (lset (m0 D) 158 (dw1 s)) (lset p2 0 (dw1 s)) (lset q2 158 (dw1 s)) := ⟨⟨AQ_l hT.1.1, AM_l hT.1.2⟩, hT.2⟩
      have hT2 : TT n B (c + i) 14 166 (lset C 0 (dw1 s)) (lset (m0 D) 158 (dw1 s)) (dwM p2) (drM q2) := by
        unfold dwM drM
        rw [e1, e2]
        generalize lset p2 0 (dw1 s) = C1 at *
        generalize lset q2 158 (dw1 s) = D1 at *
        have hP1 := hT1.2.1
        unfold dwT drT drX
        rw [hP1.1.2.1, hP1.1.2.2]
        by_cases g : nI n ≤ 0
        · rw [if_pos g, if_pos g]; exact hT1
        · rw [if_neg g, if_neg g]
          obtain ⟨-, k, hk, ek⟩ := dr_ix (PLR_PM hP1) (dw1 s) (by rw [hP1.1.2.2]; exact g)
          rw [(PLR_n hP1).2.2.1] at hk
          rw [hP1.1.2.2] at ek
          rw [ek, nI_clamp (by omega : k < 2 ^ 31), show 16 + k = 14 + 1 + 1 + k by omega, PV_e hT1.2.2.1 hk (by decide)]
          refine TT_u (by omega) (by decide) (VF4.mpr ?_) hT1
          obtain ⟨q, hq, eq⟩ := VF4.mp (PV_v hT1.2.2.1 hk (by decide))
          obtain ⟨v, hv, ev⟩ := dw2_v (dw1 s)
          have er : rm (dw2 (dw1 s)) 10 = nI (v % 10) := by
            rw [ev]
            exact pk_rem hv (by decide) (by decide)
          have hlt := Nat.mod_lt v (show 0 < 10 by decide)
          rw [eq, er, nI_add]
          by_cases g2 : q + v % 10 ≤ 999
          · have g' : nI (q + v % 10) ≤ 999 := nI_le (b := 999) g2 (by decide)
            rw [if_pos g']
            exact ⟨_, g2, rfl⟩
          · have g' : ¬ nI (q + v % 10) ≤ 999 := nI_ge (a := 999) (b := q + v % 10) (by omega) (by omega)
            rw [if_neg g']
            exact ⟨999, by omega, rfl⟩
      obtain ⟨⟨T, -, t1, t2⟩, hT3, -⟩ := TT_ro (f := 0) (Or.inl ⟨rfl, rfl⟩) (by omega) hT2
      refine ⟨⟨dw1 s, hT3⟩, ?_⟩
      unfold dwS drS
      simp only
      rw [t1, t2]) ⟨⟨C.2 0, hT0⟩, rfl⟩
    obtain ⟨⟨s, hT⟩, e⟩ := key
    have hR0 : RR c (lset C 0 s) (lset (m0 D) 158 s) := ⟨hCL, n, B, R2_seed h2'⟩
    refine ⟨e, RR_le (RR_F hR0 (AQ_CF hT.1.1) (AM_DF hT.1.2)) (by omega), ⟨fun a ha' => ?_, ?_⟩, ⟨fun a ha' => ?_, ?_⟩⟩
    · exact hT.1.1.1 a (by omega)
    · rw [hT.1.1.2.1, lset_2, if_neg (by decide)]
    · rw [hT.1.2.1 a (by omega) (by omega) (by omega) (by omega)]
      exact mset_n (by omega)
    · rw [hT.1.2.2, lset_2, if_neg (by decide)]; rfl
