/-! shares, slots that fail, comings by a seed: class and model -/
theorem alg1 (P N F T1 T2 : Nat) : nI P - nI N + nI F * (nI T1 - nI T2) = nI (P + F * T1) - nI (N + F * T2) := by
  rw [← nI_add, ← nI_add, ← pk_mul, ← pk_mul, Int32.mul_sub, Int32.sub_eq_add_neg, Int32.sub_eq_add_neg, Int32.sub_eq_add_neg, Int32.neg_add]
  generalize nI P = a
  generalize -nI N = b
  generalize nI F * nI T1 = c
  generalize nI F * nI T2 = d
  rw [Int32.sub_eq_add_neg]
  generalize -d = e
  rw [Int32.add_assoc, Int32.add_assoc, ← Int32.add_assoc b, Int32.add_comm b c, Int32.add_assoc c]
theorem ng_v {P N : Nat} (hP : P < 2 ^ 30) (hN : N < 2 ^ 30) : ∃ X, X < 2 ^ 30 ∧ ng (nI P - nI N) = nI X ∧ ab (nI P - nI N) = nI X := by
  by_cases g : N ≤ P
  · refine ⟨P - N, by omega, ?_, ?_⟩
    · unfold ng
      rw [pk_sub g, if_pos (nI_pos' (by omega))]
    · unfold ab
      rw [pk_sub g, if_pos (nI_pos' (by omega))]
  · have h := pk_sneg (a := P) (b := N) hN (by omega)
    have h0 : ¬ (0 : Int32) ≤ nI P - nI N := by
      rw [Int32.lt_iff_toInt_lt] at h
      rw [Int32.le_iff_toInt_le]
      omega
    refine ⟨N - P, by omega, ?_, ?_⟩
    · unfold ng
      rw [if_neg h0, Int32.neg_sub, pk_sub (by omega)]
    · unfold ab
      rw [if_neg h0, Int32.zero_sub, Int32.neg_sub, pk_sub (by omega)]
theorem dvL_n : ∀ (k a b : Nat) (g : Int32), a < 2 ^ 31 → b < 2 ^ 31 → dvL k (nI a) (nI b) = some g → ∃ G, G < 2 ^ 31 ∧ g = nI G
  | 0, _, _, _, _, _, h => by cases h
  | k + 1, a, b, g, ha', hb, h => by
    rw [dvL] at h
    by_cases h0 : nI b = 0
    · rw [if_pos h0] at h
      cases h
      exact ⟨a, ha', rfl⟩
    · rw [if_neg h0] at h
      have hb0 : 0 < b := Nat.pos_of_ne_zero fun e => h0 (by rw [e]; rfl)
      have er : rm (nI a) (nI b) = nI (a % b) := pk_rem ha' hb0 hb
      have := Nat.mod_lt a hb0
      rw [er] at h
      exact dvL_n k b (a % b) g hb (by omega) h
theorem cd_dv : ∀ (k : Nat) (g l r : Int32), dvL (k + 1) g l = some r → cd k g l = r
  | 0, g, l, r, h => by
    rw [dvL] at h
    by_cases h0 : l = 0
    · rw [if_pos h0] at h
      cases h
      rfl
    · rw [if_neg h0] at h
      cases h
  | k + 1, g, l, r, h => by
    rw [dvL] at h
    rw [cd]
    by_cases h0 : l = 0
    · rw [if_pos h0] at h ⊢
      cases h
      rfl
    · rw [if_neg h0] at h ⊢
      exact cd_dv k l (rm g l) r h
theorem fra_eq {P N m : Nat} {w : Int32} (hP : P < 2 ^ 30) (hN : N < 2 ^ 30) (hm0 : 0 < m) (hm : m < 2 ^ 31) : fra (nI P - nI N) (nI m) w = frM (nI P - nI N) (nI m) w := by
  obtain ⟨X, hX, e1, e2⟩ := ng_v hP hN
  obtain ⟨r, d1, d2⟩ := dv_ok (nI X) (nI m)
  obtain ⟨G, hG, eG⟩ := dvL_n 101 X m r (by omega) hm d1
  have hG0 : 0 < G := by
    rcases Nat.eq_zero_or_pos G with g | g
    · rw [eG, g] at d2
      have : (nI 0).toInt.natAbs = 0 := by decide
      rw [this] at d2
      have := Nat.eq_zero_of_gcd_eq_zero_right d2.symm
      rw [nI_toInt hm] at this
      omega
    · exact g
  have c1 : cd 100 (ab (nI P - nI N)) (nI m) = nI G := by rw [e2, cd_dv 100 _ _ _ d1, eG]
  have c2 : dvD (nI P - nI N) (nI m) = nI G := by unfold dvD; rw [e1, d1, Option.getD_some, eG]
  unfold fra frM
  have hp : (0 : Int32) < nI G := nI_lt (a := 0) hG0 hG
  rw [c1, c2, if_pos hp]
theorem off_k : ∀ i, i < 5 → ∀ o, o < 2 ^ i → (∀ u, u < i → (o + 2 ^ i).testBit u = o.testBit u) ∧ (o + 2 ^ i).testBit i = true ∧ o.testBit i = false := by decide +kernel
theorem off_v {C D : mM} {n : Nat} (hn : n ≤ 5) (h : PV C 7 n (D.1 165)) : ∀ (m i o : Nat), i + m ≤ n → o < 2 ^ i → ∃ o', o' < 2 ^ (i + m) ∧ itr (ofS D) i m (nI o) = nI o' ∧ itr (offS C 7) i m (nI o) = nI o' ∧ (∀ u, u < i → o'.testBit u = o.testBit u) ∧ ∀ u, i ≤ u → u < i + m → (o'.testBit u = false ↔ D.1 165 (10 * u + 3) = 0)
  | 0, i, o, _, ho => ⟨o, ho, rfl, rfl, fun _ _ => rfl, fun u h1 h2 => by omega⟩
  | m + 1, i, o, h1, ho => by
    have hk := of_k i (by omega) o ho
    have hb := off_k i (by omega) o ho
    have hp : 2 ^ (i + 1) = 2 * 2 ^ i := by rw [Nat.pow_succ, Nat.mul_comm]
    have eo : ofS D i (nI o) = nI (if D.1 165 (10 * i + 3) = 0 then o else o + 2 ^ i) ∧ offS C 7 i (nI o) = nI (if D.1 165 (10 * i + 3) = 0 then o else o + 2 ^ i) := by
      unfold ofS offS
      rw [PV_e h (by omega) (by decide)]
      rcases VF3.mp (PV_v h (show i < n by omega) (show 3 < 10 by decide)) with e | e
      · rw [e, if_pos rfl, if_pos rfl]
        exact ⟨hk.1, by rw [Int32.or_zero]⟩
      · rw [e, if_neg (by decide), if_neg (by decide)]
        exact ⟨hk.2, hk.2⟩
    obtain ⟨o', k1, k2, k3, k4, k5⟩ := off_v hn h m (i + 1) (if D.1 165 (10 * i + 3) = 0 then o else o + 2 ^ i) (by omega) (by split <;> omega)
    rw [show i + 1 + m = i + (m + 1) by omega] at k1
    refine ⟨o', k1, ?_, ?_, fun u hu => ?_, fun u g1 g2 => ?_⟩
    · rw [itr, eo.1]; exact k2
    · rw [itr, eo.2]; exact k3
    · rw [k4 u (by omega)]
      split
      · rfl
      · exact hb.1 u hu
    · by_cases e : u = i
      · subst e
        rw [k4 u (by omega)]
        by_cases g : D.1 165 (10 * u + 3) = 0
        · rw [if_pos g]; exact ⟨fun _ => g, fun _ => hb.2.2⟩
        · rw [if_neg g, hb.2.1]; exact ⟨fun q => absurd q (by decide), fun q => absurd q g⟩
      · exact k5 u (by omega) (by omega)
theorem off_eq {n B c : Nat} {C D : mM} (h : R2 n B c C D) : ∃ o, o < 2 ^ n ∧ ofM D = nI o ∧ itr (offS C 7) 0 (nU C) 0 = nI o ∧ ∀ u, u < n → (o.testBit u = false ↔ D.1 165 (10 * u + 3) = 0) := by
  have hP := h.1.1
  obtain ⟨n1, -, n3, -⟩ := PLR_n hP
  obtain ⟨o, k1, k2, k3, -, k5⟩ := off_v hP.1.1 h.1.2.1 n 0 0 (by omega) (by decide)
  rw [Nat.zero_add] at k1
  refine ⟨o, k1, ?_, ?_, fun u hu => k5 u (by omega) (by omega)⟩
  · unfold ofM; rw [n3]; exact k2
  · rw [n1]; exact k3
def alN (n o : Nat) : Nat := 2 ^ n - 1 - o
theorem al_k : ∀ n, n ≤ 5 → ∀ o, o < 2 ^ n → ((1 : Int32) <<< (nI n &&& 31) - 1) &&& (nI o ^^^ -1) = nI (alN n o) := by decide +kernel
theorem bc_k : ∀ s, s < 64 → bc (nI s) = nI (pc s) := by decide +kernel
theorem pcal_k : ∀ n, n ≤ 5 → ∀ o, o < 2 ^ n → pc (alN n o) = n - pc o := by decide +kernel
def cB (n o s : Nat) : Bool := ((nI s &&& (nI (alN n o) ^^^ -1) == 0) == (s &&& o == 0)) && (Nat.ble s (alN n o) || !(s &&& o == 0))
theorem c_b : (List.range 6).all (fun n => (List.range (2 ^ n)).all fun o => (List.range (2 ^ n)).all fun s => cB n o s) = true := by decide +kernel
theorem c_k (n : Nat) (hn : n ≤ 5) (o : Nat) (ho : o < 2 ^ n) (s : Nat) (hs : s < 2 ^ n) : (nI s &&& (nI (alN n o) ^^^ -1) = 0 ↔ s &&& o = 0) ∧ (alN n o < s → ¬ s &&& o = 0) := by
  have h := List.all_eq_true.mp (List.all_eq_true.mp (List.all_eq_true.mp c_b n (List.mem_range.mpr (by omega))) o (List.mem_range.mpr ho)) s (List.mem_range.mpr hs)
  unfold cB at h
  simp only [Bool.and_eq_true, beq_iff_eq, Bool.or_eq_true, Bool.not_eq_true', beq_eq_false_iff_ne] at h
  refine ⟨?_, fun g => ?_⟩
  · have := h.1
    constructor
    · intro q
      rw [beq_iff_eq.mpr q] at this
      exact beq_iff_eq.mp this.symm
    · intro q
      rw [beq_iff_eq.mpr q] at this
      exact beq_iff_eq.mp this
  · rcases h.2 with q | q
    · have := Nat.le_of_ble_eq_true q
      omega
    · exact q
theorem mi_k : ∀ s, s < 32 → ∀ j, j < 5 → (nI s &&& ((1 : Int32) <<< (nI j &&& 31)) = 0 ↔ s.testBit j = false) := by decide +kernel
def fN (k : Nat) : Nat := [1, 1, 2, 6, 24, 120].getD k 1
theorem fc_v : ∀ k, k ≤ 5 → fcM k = nI (fN k) ∧ fac (nI k) = nI (fN k) ∧ 0 < fN k ∧ fN k ≤ 120 := by decide +kernel
theorem fc_v4 : ∀ k, k ≤ 4 → fN k ≤ 24 := by decide +kernel
theorem and1 (x : Int32) : x &&& 1 = 0 ∨ x &&& 1 = 1 := by
  have e := pk_and x (m := 1) 1 (by decide)
  have h := Nat.mod_lt x.toBitVec.toNat (show 0 < 2 ^ 1 by decide)
  rcases Nat.lt_or_ge (x.toBitVec.toNat % 2 ^ 1) 1 with g | g
  · left; rw [e, show x.toBitVec.toNat % 2 ^ 1 = 0 by omega]; rfl
  · right; rw [e, show x.toBitVec.toNat % 2 ^ 1 = 1 by omega]; rfl
theorem gw_eq {n B c : Nat} {C0 D0 C D : mM} {t : Int32} (hc : c + 1000 < 2 ^ 30) (h0 : R2 n B c C0 D0) (hA : AQ C0 C) (hM : AM D0 D) : (∃ T, T ≤ 3600 ∧ (gW C t).1 = nI T ∧ (gb D t).1 = nI T) ∧ AQ C0 (gW C t).2 ∧ AM D0 (gb D t).2 := by
  obtain ⟨hT, h2⟩ := TT_next h0 hA hM
  have hP := h2.1.1
  have hn := hP.1.1
  obtain ⟨n1, -, n3, -⟩ := PLR_n hP
  have key := itr_rel (gwS t) (gbS t) (fun _ C D => TT n B c 14 166 C0 D0 C D) n 0 (stc C 14 7) (lay D) (fun i C D _ hi hR => by
    have e : (if (t >>> (nI i &&& 31)) &&& 1 = 0 then (1 : Int32) else 0) = if hs1 t (nI i) = 0 then 1 else 0 := by
      unfold hs1
      rcases and1 (t >>> (nI i &&& 31)) with g | g
      · rw [g]; decide
      · rw [g]; decide
    unfold gwS gbS
    rw [e, show 16 + i = 14 + 1 + 1 + i by omega]
    refine TT_u (by omega) (by decide) (VF3.mpr ?_) hR
    split
    · exact Or.inr rfl
    · exact Or.inl rfl) hT
  have e1 : gwM C t = itr (gwS t) 0 n (stc C 14 7) := by unfold gwM; rw [n1]
  have e2 : gbM D t = itr (gbS t) 0 n (lay D) := by unfold gbM; rw [n3]
  unfold gW gb
  rw [e1, e2]
  obtain ⟨⟨T, k1, k2, k3⟩, k4⟩ := TT_runs (m := 20) (Or.inl ⟨rfl, rfl⟩) (by omega) key
  exact ⟨⟨T, by omega, k2, k3⟩, k4.1.1, k4.1.2⟩
theorem itr_add {S : Type} (f : Nat → S → S) : ∀ (a b i : Nat) (s : S), itr f i (a + b) s = itr f (i + a) b (itr f i a s)
  | 0, b, i, s => by rw [Nat.zero_add, Nat.add_zero, itr]
  | a + 1, b, i, s => by
    rw [show a + 1 + b = a + b + 1 by omega, itr, itr, itr_add f a b (i + 1), show i + 1 + a = i + (a + 1) by omega]
theorem itr_id {S : Type} (f : Nat → S → S) : ∀ (n i : Nat) (s : S), (∀ j s, i ≤ j → j < i + n → f j s = s) → itr f i n s = s
  | 0, _, _, _ => rfl
  | n + 1, i, s, h => by
    rw [itr, h i s (Nat.le_refl _) (by omega)]
    exact itr_id f n (i + 1) s (fun j s h1 h2 => h j s (by omega) (by omega))
theorem op_share {c : Nat} {C D : mM} {u w : Int32} (hc : c + 1000 < 2 ^ 30) (h : RR c C D) : OPS (c_share C u w).1 (m_share (m0 D) u w).1 c C (c_share C u w).2 D (m_share (m0 D) u w).2 := by
  have hG := RR_GD h
  have hz : ∀ v : Int32, OPS v v c C C D (m0 D) := fun v => ask_fin h rfl (AQ_r hG) AM_r
  obtain ⟨n, B, h2⟩ := h.2
  have h2' := R2_DF h2 DF_0
  have hP := h2'.1.1
  have hn := hP.1.1
  obtain ⟨n1, -, n3, -⟩ := PLR_n hP
  obtain ⟨o, ho, o1, o2, o3⟩ := off_eq h2'
  have h32 := pw2_k n hn
  have hpo := pc_k n hn o ho
  unfold c_share m_share
  rcases has_nu (u := u) hP with ⟨g1, g2, j, hj, rfl⟩ | ⟨g1, g2⟩
  · rw [if_neg g1, if_pos g2, nI_clamp (by omega : j < 2 ^ 31)]
    have hbit : hs1 (ofM (m0 D)) (nI j) = 0 ↔ C.1 (9 + j) 3 = 0 := by
      rw [o1, hs_k o (by omega) j (by omega), o3 j hj, show 9 + j = 7 + 1 + 1 + j by omega, PV_e h2'.1.2.1 hj (by decide)]
    by_cases k1 : C.1 (9 + j) 3 = 0
    · rw [if_pos k1, if_pos (hbit.mpr k1)]
      have hoj : o.testBit j = false := by
        rw [o3 j hj, ← PV_e h2'.1.2.1 hj (show 3 < 10 by decide), show 7 + 1 + 1 + j = 9 + j by omega]
        exact k1
      have eal : alB C = nI (alN n o) := by
        unfold alB
        rw [hP.1.2.1, o2]
        exact al_k n hn o ho
      have halt : alN n o < 2 ^ n := by unfold alN; omega
      have ebc : bc (alB C) = nI (n - pc o) := by rw [eal, bc_k _ (by omega), pcal_k n hn o ho]
      have emn : mnM (m0 D) = nI (n - pc o) := by
        unfold mnM
        rw [hP.1.2.2, o1, on_k o (by omega), pk_sub hpo]
      have key := itr_rel (shS (alB C) ((1 : Int32) <<< (nI j &&& 31)) (bc (alB C))) (smS (ofM (m0 D)) (nI j) (mnM (m0 D))) (fun s p q => (∃ P N, P ≤ 2073600 * s ∧ N ≤ 2073600 * s ∧ p.1 = nI P - nI N ∧ q.1 = nI P - nI N) ∧ AQ C p.2 ∧ AM (m0 D) q.2) (alN n o + 1) 0 (0, C) (0, m0 D) (fun s p q _ hs hR => by
        obtain ⟨⟨P, N, b1, b2, b3, b4⟩, hA, hM⟩ := hR
        obtain ⟨p1, p2⟩ := p
        obtain ⟨q1, q2⟩ := q
        simp only at b3 b4 hA hM
        subst b3 b4
        have hs' : s < 2 ^ n := by omega
        have hck := (c_k n hn o ho s hs').1
        have hand := and_k s (by omega) o (by omega)
        have hmi := mi_k s (by omega) j (by omega)
        have hhs := hs_k s (by omega) j (by omega)
        unfold shS smS
        simp only
        rw [eal, o1]
        have keep : (∃ P' N', P' ≤ 2073600 * (s + 1) ∧ N' ≤ 2073600 * (s + 1) ∧ nI P - nI N = nI P' - nI N' ∧ nI P - nI N = nI P' - nI N') ∧ AQ C p2 ∧ AM (m0 D) q2 := ⟨⟨P, N, by omega, by omega, rfl, rfl⟩, hA, hM⟩
        by_cases e1 : s &&& o = 0
        · rw [if_pos (hck.mpr e1), if_pos (hand.mpr e1)]
          by_cases e2 : s.testBit j = false
          · rw [if_pos (hmi.mpr e2), if_pos (hhs.mpr e2)]
            have e3 := sh_k n hn o ho s hs' j hj e1 e2 hoj
            have f1 := fc_v (pc s) (by omega)
            have f2 := fc_v (n - pc o - 1 - pc s) (by omega)
            have f3 := fc_v4 (pc s) (by omega)
            have f4 := fc_v4 (n - pc o - 1 - pc s) (by omega)
            have eS : shO (bc (nI (alN n o))) s = nI (fN (pc s) * fN (n - pc o - 1 - pc s)) := by
              unfold shO
              rw [← eal, ebc, bc_k s (by omega), show (1 : Int32) = nI 1 from rfl, pk_sub (by omega), pk_sub (by omega), f1.2.1, f2.2.1, pk_mul]
            have eM : smF (mnM (m0 D)) s = nI (fN (pc s) * fN (n - pc o - 1 - pc s)) := by
              unfold smF
              rw [emn, on_k s (by omega), show (1 : Int32) = nI 1 from rfl, pk_sub (by omega), pk_sub (by omega), nI_clamp (by omega), nI_clamp (by omega), f1.1, f2.1, pk_mul]
            rw [eS, eM]
            unfold smA smB
            obtain ⟨⟨T1, t1, t2, t3⟩, hA1, hM1⟩ := gw_eq (t := nI s ||| ((1 : Int32) <<< (nI j &&& 31))) hc h2' hA hM
            obtain ⟨⟨T2, t4, t5, t6⟩, hA2, hM2⟩ := gw_eq (t := nI s) hc h2' hA1 hM1
            rw [t2, t3, t5, t6, alg1]
            have hF : fN (pc s) * fN (n - pc o - 1 - pc s) ≤ 576 := Nat.mul_le_mul f3 f4
            generalize fN (pc s) * fN (n - pc o - 1 - pc s) = F at *
            have m1 : F * T1 ≤ 576 * 3600 := Nat.mul_le_mul hF t1
            have m2 : F * T2 ≤ 576 * 3600 := Nat.mul_le_mul hF t4
            exact ⟨⟨P + F * T1, N + F * T2, by omega, by omega, rfl, rfl⟩, hA2, hM2⟩
          · rw [if_neg (fun q => e2 (hmi.mp q)), if_neg (fun q => e2 (hhs.mp q))]
            exact keep
        · rw [if_neg (fun q => e1 (hck.mp q)), if_neg (fun q => e1 (hand.mp q))]
          exact keep) ⟨⟨0, 0, by omega, by omega, rfl, rfl⟩, AQ_r hG, AM_r⟩
      have esm : smM (m0 D) (nI j) = itr (smS (ofM (m0 D)) (nI j) (mnM (m0 D))) 0 (alN n o + 1) (0, m0 D) := by
        unfold smM
        rw [n3, show 2 ^ n = (alN n o + 1) + (2 ^ n - (alN n o + 1)) by omega, itr_add]
        refine itr_id _ _ _ _ (fun s q g3 g4 => ?_)
        have e1 := (c_k n hn o ho s (by omega)).2 (by omega)
        have hand := and_k s (by omega) o (by omega)
        unfold smS
        rw [o1, if_neg (fun q => e1 (hand.mp q))]
      have esh : shF C (nI j) = itr (shS (alB C) ((1 : Int32) <<< (nI j &&& 31)) (bc (alB C))) 0 (alN n o + 1) (0, C) := by
        unfold shF
        rw [show (alB C).toNatClampNeg = alN n o by rw [eal, nI_clamp (by omega)]]
      rw [esm, esh]
      obtain ⟨⟨P, N, b1, b2, b3, b4⟩, hA, hM⟩ := key
      refine ask_fin h ?_ hA hM
      have f := fc_v (n - pc o) (by omega)
      show fra _ (fac (bc (alB C))) w = frM _ (fcM (mnM (m0 D)).toNatClampNeg) w
      rw [b3, b4, ebc, emn, nI_clamp (by omega : n - pc o < 2 ^ 31), f.1, f.2.1]
      exact fra_eq (by omega) (by omega) f.2.2.1 (by omega)
    · rw [if_neg k1, if_neg (fun q => k1 (hbit.mp q))]; exact hz _
  · rw [if_pos g1, if_neg g2]; exact hz _
