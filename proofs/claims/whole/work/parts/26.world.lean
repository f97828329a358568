/-! how class and model stand to each other between calls -/
def PVc (C : mM) (k n : Nat) (g : Nat → Int32) (c : Nat) : Prop := PV C k n g ∧ ∃ a, a ≤ c ∧ g 51 = nI a
def TXR (C D : mM) : Prop := ∃ t, t ≤ 80 ∧ C.1 1 1 = nI t ∧ D.1 158 2 = nI t ∧ ∀ i, i < t → ∃ x, x < 256 ∧ C.1 2 i = nI x ∧ D.1 159 i = nI x
def ACR (n c : Nat) (C D : mM) : Prop := ∃ f z, f < 14 ∧ z ≤ 14 ∧ C.1 26 1 = nI f ∧ C.1 26 2 = nI z ∧ D.1 158 20 = nI z ∧ ∀ i, i < z → PVc C (28 + 7 * ((f + i) % 14)) n (fun j => D.1 168 (52 * i + j)) c
def KPR (n c : Nat) (C D : mM) : Prop := ∀ s, s < 2 → (C.1 141 s = 0 ∧ D.1 170 s = 0) ∨ (C.1 141 s = 1 ∧ D.1 170 s = 1 ∧ PVc C (127 + 7 * s) n (fun j => D.1 169 (52 * s + j)) c)
def SER (C D : mM) : Prop := ∃ z, z ≤ 6 ∧ C.1 151 6 = nI z ∧ D.1 158 23 = nI z ∧ ∀ i, i < z → (∃ a, a ≤ 9 ∧ C.1 152 i = nI a ∧ D.1 171 i = nI a) ∧ C.1 153 i = D.1 172 i ∧ C.1 154 i = D.1 173 i ∧ C.1 155 i = D.1 174 i ∧ C.1 156 i = D.1 175 i
def CL (C : mM) : Prop := OF C ∧ ∀ u, u < 5 → ∃ m, m ≤ 6 ∧ C.1 6 u = nI m
def R2 (n B c : Nat) (C D : mM) : Prop := (PLR n B C D ∧ PVc C 7 n (D.1 165) c) ∧ TXR C D ∧ ACR n c C D ∧ KPR n c C D ∧ SER C D ∧ C.2 0 = D.2 158
def RR (c : Nat) (C D : mM) : Prop := CL C ∧ ∃ n B, R2 n B c C D
def CF (C C' : mM) : Prop := (∀ a, a = 1 ∨ a = 2 ∨ (4 ≤ a ∧ a < 14) ∨ (26 ≤ a ∧ a < 144) ∨ (151 ≤ a ∧ a < 157) → C'.1 a = C.1 a) ∧ C'.2 0 = C.2 0 ∧ OF C'
def DF (D D' : mM) : Prop := (∀ j, j = 2 ∨ j = 4 ∨ j = 5 ∨ j = 6 ∨ j = 20 ∨ j = 23 → D'.1 158 j = D.1 158 j) ∧ (∀ a, a = 159 ∨ a = 160 ∨ a = 161 ∨ a = 165 ∨ (168 ≤ a ∧ a ≤ 175) → D'.1 a = D.1 a) ∧ D'.2 158 = D.2 158
theorem PVc_le {C : mM} {k n c c' : Nat} {g : Nat → Int32} (h : PVc C k n g c) (hc : c ≤ c') : PVc C k n g c' := by
  obtain ⟨h1, a, h2, h3⟩ := h
  exact ⟨h1, a, by omega, h3⟩
theorem PVc_n {C C' : mM} {k n c : Nat} {g : Nat → Int32} (hn : n ≤ 5) (h : PVc C k n g c) (hC : ∀ a, k ≤ a → a < k + 7 → C'.1 a = C.1 a) : PVc C' k n g c := ⟨PV_n hn h.1 hC (fun _ _ => rfl), h.2⟩
theorem R2_le {n B c c' : Nat} {C D : mM} (h : R2 n B c C D) (hc : c ≤ c') : R2 n B c' C D := by
  obtain ⟨⟨h1, h2⟩, h3, ⟨f, z, a1, a2, a3, a4, a5, a6⟩, h5, h6, h7⟩ := h
  refine ⟨⟨h1, PVc_le h2 hc⟩, h3, ⟨f, z, a1, a2, a3, a4, a5, fun i hi => PVc_le (a6 i hi) hc⟩, fun s hs => ?_, h6, h7⟩
  rcases h5 s hs with g | ⟨g1, g2, g3⟩
  · exact Or.inl g
  · exact Or.inr ⟨g1, g2, PVc_le g3 hc⟩
theorem RR_le {c c' : Nat} {C D : mM} (h : RR c C D) (hc : c ≤ c') : RR c' C D := by
  obtain ⟨h1, n, B, h2⟩ := h
  exact ⟨h1, n, B, R2_le h2 hc⟩
theorem R2_DF {n B c : Nat} {C D D' : mM} (h : R2 n B c C D) (hD : DF D D') : R2 n B c C D' := by
  obtain ⟨⟨h1, h2⟩, ⟨t, t1, t2, t3, t4⟩, ⟨f, z, a1, a2, a3, a4, a5, a6⟩, h5, ⟨z', z1, z2, z3, z4⟩, h7⟩ := h
  obtain ⟨d1, d2, d3⟩ := hD
  refine ⟨⟨PLR_c h1 rfl rfl rfl (d1 _ (by omega)) (d1 _ (by omega)) (d1 _ (by omega)) (d2 _ (by omega)) (d2 _ (by omega)), ?_⟩, ⟨t, t1, t2, ?_, fun i hi => ?_⟩, ⟨f, z, a1, a2, a3, a4, ?_, fun i hi => ?_⟩, fun s hs => ?_, ⟨z', z1, z2, ?_, fun i hi => ?_⟩, ?_⟩
  · rw [d2 165 (by omega)]; exact h2
  · rw [d1 2 (by omega)]; exact t3
  · rw [d2 159 (by omega)]; exact t4 i hi
  · rw [d1 20 (by omega)]; exact a5
  · rw [d2 168 (by omega)]; exact a6 i hi
  · rw [d2 170 (by omega), d2 169 (by omega)]; exact h5 s hs
  · rw [d1 23 (by omega)]; exact z3
  · rw [d2 171 (by omega), d2 172 (by omega), d2 173 (by omega), d2 174 (by omega), d2 175 (by omega)]; exact z4 i hi
  · rw [d3]; exact h7
theorem R2_CF {n B c : Nat} {C C' D : mM} (h : R2 n B c C D) (hC : CF C C') : R2 n B c C' D := by
  obtain ⟨⟨h1, h2⟩, ⟨t, t1, t2, t3, t4⟩, ⟨f, z, a1, a2, a3, a4, a5, a6⟩, h5, ⟨z', z1, z2, z3, z4⟩, h7⟩ := h
  obtain ⟨d1, d2, -⟩ := hC
  have hn := h1.1.1
  refine ⟨⟨PLR_c h1 (d1 _ (by omega)) (d1 _ (by omega)) (d1 _ (by omega)) rfl rfl rfl rfl rfl, PVc_n hn h2 (fun a g1 g2 => d1 a (by omega))⟩, ⟨t, t1, ?_, t3, fun i hi => ?_⟩, ⟨f, z, a1, a2, ?_, ?_, a5, fun i hi => PVc_n hn (a6 i hi) (fun a g1 g2 => d1 a ?_)⟩, fun s hs => ?_, ⟨z', z1, ?_, z3, fun i hi => ?_⟩, ?_⟩
  · rw [d1 1 (by omega)]; exact t2
  · rw [d1 2 (by omega)]; exact t4 i hi
  · rw [d1 26 (by omega)]; exact a3
  · rw [d1 26 (by omega)]; exact a4
  · have := Nat.mod_lt (f + i) (show 0 < 14 by decide)
    omega
  · rw [d1 141 (by omega)]
    rcases h5 s hs with g | ⟨g1, g2, g3⟩
    · exact Or.inl g
    · exact Or.inr ⟨g1, g2, PVc_n hn g3 (fun a k1 k2 => d1 a (by omega))⟩
  · rw [d1 151 (by omega)]; exact z2
  · rw [d1 152 (by omega), d1 153 (by omega), d1 154 (by omega), d1 155 (by omega), d1 156 (by omega)]; exact z4 i hi
  · rw [d2]; exact h7
theorem CL_CF {C C' : mM} (h : CL C) (hC : CF C C') : CL C' := ⟨hC.2.2, by rw [hC.1 6 (by omega)]; exact h.2⟩
theorem RR_F {c : Nat} {C C' D D' : mM} (h : RR c C D) (hC : CF C C') (hD : DF D D') : RR c C' D' := by
  obtain ⟨h1, n, B, h2⟩ := h
  exact ⟨CL_CF h1 hC, n, B, R2_DF (R2_CF h2 hC) hD⟩
theorem R2_SEE {n B c : Nat} {C D : mM} (h : R2 n B c C D) : SEE C := by
  obtain ⟨z, z1, z2, -, z4⟩ := h.2.2.2.2.1
  refine ⟨z, z1, z2, fun i hi => ?_⟩
  obtain ⟨⟨a, b1, b2, -⟩, -⟩ := z4 i hi
  exact ⟨a, b1, b2⟩
theorem RR_CI {c : Nat} {C D : mM} (h : RR c C D) : CI C := by
  obtain ⟨h1, n, B, h2⟩ := h
  refine ⟨⟨⟨h1.1, PLR_PL h2.1.1 h1.2⟩, R2_SEE h2⟩, ?_, ?_⟩
  · obtain ⟨t, t1, t2, -⟩ := h2.2.1
    exact ⟨t, t1, t2⟩
  · obtain ⟨f, z, a1, a2, a3, a4, -⟩ := h2.2.2.1
    exact ⟨f, z, a1, a2, a3, a4⟩
theorem R2_MI {n B c : Nat} {C D : mM} (hc : c + 1000 < 2 ^ 31) (h2 : R2 n B c C D) : MI D := by
  have hnM := (PLR_n h2.1.1).2.2.1
  refine ⟨⟨PLR_PM h2.1.1, by decide, ?_⟩, ?_, ?_, ?_, ?_⟩
  · obtain ⟨a, ha, e⟩ := h2.1.2.2
    exact ⟨a, by omega, e⟩
  · obtain ⟨f, z, a1, a2, a3, a4, a5, -⟩ := h2.2.2.1
    exact ⟨z, a2, a5⟩
  · obtain ⟨t, t1, -, t3, -⟩ := h2.2.1
    exact ⟨t, t1, t3⟩
  · obtain ⟨z, z1, -, z3, z4⟩ := h2.2.2.2.2.1
    refine ⟨z, z1, z3, fun i hi => ?_⟩
    obtain ⟨⟨a, b1, -, b3⟩, -⟩ := z4 i hi
    exact ⟨a, b1, b3⟩
  · intro u hu
    rw [hnM] at hu
    exact VF3.mp (PV_v h2.1.2.1 hu (by decide))
theorem DF_0 {D : mM} : DF D (m0 D) := ⟨fun j hj => mset_o (by omega), fun a ha => mset_n (by omega), rfl⟩
/-! what a call that only asks may change -/
def AQ (C C' : mM) : Prop := (∀ a, a < 14 ∨ a = 15 ∨ a = 21 ∨ (26 ≤ a ∧ a < 144) ∨ a = 145 ∨ 151 ≤ a → C'.1 a = C.1 a) ∧ C'.2 = C.2 ∧ GD C'
def AM (D D' : mM) : Prop := (∀ a, a ≠ 166 → a ≠ 167 → a ≠ 176 → a ≠ 177 → D'.1 a = D.1 a) ∧ D'.2 = D.2
theorem AQ_r {C : mM} (h : GD C) : AQ C C := ⟨fun _ _ => rfl, rfl, h⟩
theorem AM_r {D : mM} : AM D D := ⟨fun _ _ _ _ _ => rfl, rfl⟩
theorem AQ_CF {C C' : mM} (h : AQ C C') : CF C C' := ⟨fun a ha => h.1 a (by omega), by rw [h.2.1], h.2.2.1⟩
theorem AM_DF {D D' : mM} (h : AM D D') : DF D D' := ⟨fun j _ => by rw [h.1 158 (by decide) (by decide) (by decide) (by decide)], fun a ha => h.1 a (by omega) (by omega) (by omega) (by omega), by rw [h.2]⟩
theorem send_2 {M : mM} {k : Nat} {x : Int32} : (send M k x).2.2 = M.2 := by
  have h2 : ∀ (M : mM) (a : Int32), (send2 M k a).2.2 = M.2 := by
    intro M a
    unfold send2
    split
    · rfl
    · split <;> rfl
  have h1 : (sendM M k x).2 = M.2 := by
    unfold sendM
    split <;> rfl
  unfold send
  rw [h2]
  exact h1
theorem roS_2 {M : mM} {k i : Nat} {f : Int32} : (roS k f i M).2 = M.2 := by
  unfold roS ro2
  generalize (if f = 0 then df M k (nI i) else -9) = w
  split
  · rfl
  · show (send (mset M 25 i w) _ _).2.2 = M.2
    rw [send_2]
    rfl
theorem ro_2 {M : mM} {k : Nat} {f : Int32} : (ro M k f).2.2 = M.2 := by
  have h1 : (comeIn M k).2 = M.2 := itr_inv (ciS k) (fun M' => M'.2 = M.2) (nU M) 0 M (fun j s _ _ h => h) rfl
  have h2 : ∀ n i M1, (itr (roS k f) i n M1).2 = M1.2 := fun n i M1 => itr_inv (roS k f) (fun M' => M'.2 = M1.2) n i M1 (fun j s _ _ h => roS_2.trans h) rfl
  have h3 : ∀ M1 : mM, (endSlot M1 k).2.2 = M1.2 := fun M1 => itr_inv (esS k) (fun q => q.2.2 = M1.2) (nU M1) 0 (0, M1) (fun j s _ _ h => h) rfl
  unfold ro
  rw [h3, h2, h1]
theorem AQ_ro {C C' : mM} {k : Nat} {f : Int32} (hk : k = 14 ∨ k = 144) (h : AQ C C') : AQ C (ro C' k f).2 := by
  have hk8 : kof k = 8 := by rcases hk with rfl | rfl; exact k14; exact k144
  refine ⟨fun a ha => ?_, ro_2.trans h.2.1, GD_ro hk8 h.2.2⟩
  rw [f_ro hk8 h.2.2.2 (by unfold fr; omega) (by unfold sc; omega)]
  exact h.1 a ha
theorem AQ_stc {C C' : mM} {k o : Nat} (hk : (k = 14 ∧ o = 7) ∨ (k = 144 ∧ o = 14)) (h : AQ C C') : AQ C (stc C' k o) := by
  refine ⟨fun a ha => ?_, stc_2.trans h.2.1, ?_⟩
  · rw [f_stc (by unfold fr; omega)]
    exact h.1 a ha
  · rcases hk with ⟨rfl, rfl⟩ | ⟨rfl, rfl⟩
    · exact GD_stc k14 k7 h.2.2
    · exact GD_stc k144 k14 h.2.2
theorem AQ_u {C C' : mM} {u j : Nat} {v : Int32} (hu : u < 5) (hv : j ≠ 3 ∨ v = 0 ∨ v = 1) (h : AQ C C') : AQ C (mset C' (14 + 1 + 1 + u) j v) := by
  refine ⟨fun a ha => ?_, h.2.1, GD_u k14 hu h.2.2 hv⟩
  rw [mset_n (by omega)]
  exact h.1 a ha
theorem AM_so {D D' : mM} {r : Nat} {f : Int32} (hr : r = 166 ∨ r = 167) (h : AM D D') (hQ : PQ D' r) : AM D (so D' r f).2 := by
  have g := SM_so (f := f) hQ
  refine ⟨fun a h1 h2 h3 h4 => ?_, g.2.2.2.trans h.2⟩
  rw [g.1 a (by omega) h3 h4]
  exact h.1 a h1 h2 h3 h4
theorem AM_lay {D D' : mM} (h : AM D D') : AM D (lay D') := ⟨fun a h1 h2 h3 h4 => by rw [lay_n h1]; exact h.1 a h1 h2 h3 h4, h.2⟩
theorem AM_wt {D D' : mM} (h : AM D D') : AM D (wtM D') := ⟨fun a h1 h2 h3 h4 => by rw [wtM_n h2]; exact h.1 a h1 h2 h3 h4, h.2⟩
theorem AM_u {D D' : mM} {j : Nat} {v : Int32} (h : AM D D') : AM D (mset D' 166 j v) := ⟨fun a h1 h2 h3 h4 => by rw [mset_n h1]; exact h.1 a h1 h2 h3 h4, h.2⟩
/-- a standing copied -/
theorem cpL_get {M : mM} {k o : Nat} (hd : k + 7 ≤ o ∨ o + 7 ≤ k) : ∀ (n i : Nat) (M' : mM), i + n ≤ 5 → (∀ a, o ≤ a → a < o + 7 → M'.1 a = M.1 a) → (∀ u f, u < i → f < 10 → M'.1 (k + 1 + 1 + u) f = M.1 (o + 1 + 1 + u) f) → ∀ u f, u < i + n → f < 10 → (cpL M' k o n i).1 (k + 1 + 1 + u) f = M.1 (o + 1 + 1 + u) f
  | 0, i, M', _, _, h2, u, f, hu, hf => h2 u f hu hf
  | n + 1, i, M', h0, h1, h2, u, f, hu, hf => by
    refine cpL_get hd n (i + 1) (cpU M' (k + 1 + 1 + i) (o + 1 + 1 + i)) (by omega) (fun a g1 g2 => ?_) (fun u' f' g1 g2 => ?_) u f (by omega) hf
    · funext b
      rw [cpU_get, if_neg (by omega), h1 a g1 g2]
    · rw [cpU_get]
      by_cases e : u' = i
      · rw [if_pos ⟨by omega, g2⟩, e, h1 _ (by omega) (by omega)]
      · rw [if_neg (by omega)]
        exact h2 u' f' (by omega) g2
theorem PV_stc {C : mM} {k o n : Nat} {g : Nat → Int32} (hn : n ≤ 5) (hd : k + 7 ≤ o ∨ o + 7 ≤ k) (h : PV C o n g) : PV (stc C k o) k n g := by
  have hf : ∀ a, fr k a → (cpL C k o 5 0).1 a = C.1 a := fun a ha => f_cpL ha 5 0 (by decide)
  refine ⟨fun u hu f hf' => ?_, ?_, ?_⟩
  · unfold stc
    rw [mset_n (by omega), mset_n (by omega), cpL_get hd 5 0 C (by decide) (fun _ _ _ => rfl) (fun _ _ g1 => by omega) u f (by omega) hf']
    exact h.1 u hu f hf'
  · unfold stc
    rw [mset_o (by decide), mset_s, hf o (by unfold fr; omega)]
    exact h.2.1
  · unfold stc
    rw [mset_s, hf o (by unfold fr; omega)]
    exact h.2.2
/-- a trial beside a trial -/
def TT (n B c k r : Nat) (C0 D0 C D : mM) : Prop := (AQ C0 C ∧ AM D0 D) ∧ PLR n B C D ∧ PVc C k n (D.1 r) c
theorem TT_PQ {n B c k r : Nat} {C0 D0 C D : mM} (hr : 165 ≤ r ∧ r ≤ 167) (hc : c < 2 ^ 30) (h : TT n B c k r C0 D0 C D) : PQ D r := by
  obtain ⟨a, ha, e⟩ := h.2.2.2
  exact ⟨PLR_PM h.2.1, hr, a, by omega, e⟩
theorem TT_ro {n B c k r : Nat} {C0 D0 C D : mM} {f : Int32} (hkr : (k = 14 ∧ r = 166) ∨ (k = 144 ∧ r = 167)) (hc : c < 2 ^ 30) (h : TT n B c k r C0 D0 C D) : (∃ T, T ≤ 180 ∧ (ro C k f).1 = nI T ∧ (so D r f).1 = nI T) ∧ TT n B (c + 1) k r C0 D0 (ro C k f).2 (so D r f).2 ∧ ∀ j, j < B → (ro C k f).2.1 25 j = (so D r f).2.1 176 j := by
  have hQ := TT_PQ (by omega) hc h
  obtain ⟨⟨h1, h2⟩, h3, h4, a, ha, e⟩ := h
  have hk8 : kof k = 8 := by rcases hkr with ⟨rfl, -⟩ | ⟨rfl, -⟩; exact k14; exact k144
  obtain ⟨s1, s2, s3, s4, s5⟩ := slot_eq (f := f) hk8 (by omega) (show a < 2 ^ 30 by omega) h3 h4 e
  exact ⟨s1, ⟨⟨AQ_ro (by omega) h1, AM_so (by omega) h2 hQ⟩, s2, s3, a + 1, by omega, s4⟩, s5⟩
theorem TT_ru {n B k r : Nat} {C0 D0 : mM} (hkr : (k = 14 ∧ r = 166) ∨ (k = 144 ∧ r = 167)) : ∀ (m i c : Nat) (t : Nat) (C D : mM), c + m < 2 ^ 30 → TT n B c k r C0 D0 C D → (∃ T, T ≤ t + 180 * m ∧ (itr (ruS k) i m (nI t, C)).1 = nI T ∧ (itr (soS r) i m (nI t, D)).1 = nI T) ∧ TT n B (c + m) k r C0 D0 (itr (ruS k) i m (nI t, C)).2 (itr (soS r) i m (nI t, D)).2
  | 0, i, c, t, C, D, hc, h => ⟨⟨t, by omega, rfl, rfl⟩, h⟩
  | m + 1, i, c, t, C, D, hc, h => by
    obtain ⟨⟨T, hT, e1, e2⟩, h2, -⟩ := TT_ro (f := 0) hkr (by omega) h
    have := TT_ru hkr m (i + 1) (c + 1) (t + T) (ro C k 0).2 (so D r 0).2 (by omega) h2
    rw [show c + 1 + m = c + (m + 1) by omega] at this
    have g1 : itr (ruS k) i (m + 1) (nI t, C) = itr (ruS k) (i + 1) m (nI (t + T), (ro C k 0).2) := by
      rw [itr]
      unfold ruS
      simp only
      rw [e1, nI_add]
    have g2 : itr (soS r) i (m + 1) (nI t, D) = itr (soS r) (i + 1) m (nI (t + T), (so D r 0).2) := by
      rw [itr]
      unfold soS
      simp only
      rw [e2, nI_add]
    rw [g1, g2]
    obtain ⟨⟨T2, k1, k2, k3⟩, k4⟩ := this
    exact ⟨⟨T2, by omega, k2, k3⟩, k4⟩
theorem TT_runs {n B k r c m : Nat} {C0 D0 C D : mM} (hkr : (k = 14 ∧ r = 166) ∨ (k = 144 ∧ r = 167)) (hc : c + m < 2 ^ 30) (h : TT n B c k r C0 D0 C D) : (∃ T, T ≤ 180 * m ∧ (ru C k m).1 = nI T ∧ (sos D r m).1 = nI T) ∧ TT n B (c + m) k r C0 D0 (ru C k m).2 (sos D r m).2 := by
  have := TT_ru hkr m 0 c 0 C D hc h
  rw [Nat.zero_add] at this
  exact this
theorem TT_new {n B c : Nat} {C0 D0 C D : mM} (hA : AQ C0 C) (hM : AM D0 D) (hP : PLR n B C D) (h : PVc C 7 n (D.1 165) c) : TT n B c 14 166 C0 D0 (stc C 14 7) (lay D) := by
  have hn := hP.1.1
  refine ⟨⟨AQ_stc (Or.inl ⟨rfl, rfl⟩) hA, AM_lay hM⟩, ?_, ?_, ?_⟩
  · exact PLR_c hP (f_stc (by unfold fr; omega)) (f_stc (by unfold fr; omega)) (f_stc (by unfold fr; omega)) (by rw [lay_n (by decide)]) (by rw [lay_n (by decide)]) (by rw [lay_n (by decide)]) (lay_n (by decide)) (lay_n (by decide))
  · exact PV_n hn (PV_stc hn (by omega) h.1) (fun _ _ _ => rfl) (fun j hj => lay_i hj)
  · obtain ⟨a, ha, e⟩ := h.2
    exact ⟨a, ha, by rw [lay_i (by decide)]; exact e⟩
theorem TT_peek {n B c : Nat} {C0 D0 C D : mM} (h : TT n B c 14 166 C0 D0 C D) : TT n B c 144 167 C0 D0 (stc C 144 14) (wtM D) := by
  obtain ⟨⟨h1, h2⟩, h3, h4, a, ha, e⟩ := h
  have hn := h3.1.1
  refine ⟨⟨AQ_stc (Or.inr ⟨rfl, rfl⟩) h1, AM_wt h2⟩, ?_, ?_, ?_⟩
  · exact PLR_c h3 (f_stc (by unfold fr; omega)) (f_stc (by unfold fr; omega)) (f_stc (by unfold fr; omega)) (by rw [wtM_n (by decide)]) (by rw [wtM_n (by decide)]) (by rw [wtM_n (by decide)]) (wtM_n (by decide)) (wtM_n (by decide))
  · exact PV_n hn (PV_stc hn (by omega) h4) (fun _ _ _ => rfl) (fun j hj => wtM_i hj)
  · exact ⟨a, ha, by rw [wtM_i (by decide)]; exact e⟩
theorem TT_u {n B c u f : Nat} {v : Int32} {C0 D0 C D : mM} (hu : u < 5) (hf : f < 10) (hv : VF f v) (h : TT n B c 14 166 C0 D0 C D) : TT n B c 14 166 C0 D0 (mset C (14 + 1 + 1 + u) f v) (mset D 166 (10 * u + f) v) := by
  obtain ⟨⟨h1, h2⟩, h3, h4, a, ha, e⟩ := h
  refine ⟨⟨AQ_u hu ?_ h1, AM_u h2⟩, ?_, ?_, ?_⟩
  · by_cases g : f = 3
    · rw [g] at hv
      exact Or.inr (VF3.mp hv)
    · exact Or.inl g
  · exact PLR_c h3 (mset_n (by omega)) (mset_n (by omega)) (mset_n (by omega)) (by rw [mset_n (by omega)]) (by rw [mset_n (by omega)]) (by rw [mset_n (by omega)]) (mset_n (by omega)) (mset_n (by omega))
  · rw [mset_1]
    exact PV_up h4 hu hf hv
  · exact ⟨a, ha, by rw [mset_o (by omega)]; exact e⟩
theorem TT_0 {n B c : Nat} {C0 D0 C D : mM} (hR : RR c C D) (h : R2 n B c C D) (hA : AQ C0 C) (hM : AM D0 D) : TT n B c 14 166 C0 D0 (stc C 14 7) (lay D) := TT_new hA hM h.1.1 h.1.2
theorem has_nu {n B : Nat} {C D : mM} {u : Int32} (h : PLR n B C D) : (¬ hasI C u = 0 ∧ nu D u = 0 ∧ ∃ j, j < n ∧ u = nI j) ∨ (hasI C u = 0 ∧ ¬ nu D u = 0) := by
  obtain ⟨n1, -, n3, -⟩ := PLR_n h
  have hP := PLR_PM h
  have hn := h.1.1
  by_cases g : nu D u = 0
  · obtain ⟨j, hj, rfl⟩ := nu_u hP g
    rw [n3] at hj
    refine Or.inl ⟨?_, g, j, hj, rfl⟩
    unfold hasI
    rw [if_neg (nI_pos (by omega)), h.1.2.1, if_neg (nI_ge hj (by omega))]
    decide
  · refine Or.inr ⟨?_, g⟩
    unfold hasI
    by_cases g1 : u < 0
    · rw [if_pos g1]
    · rw [if_neg g1]
      obtain ⟨j, hj, rfl⟩ := nI_of g1
      rw [h.1.2.1]
      rcases Nat.lt_or_ge j n with g2 | g2
      · exfalso
        apply g
        unfold nu wi
        rw [if_neg (nI_pos hj), h.1.2.2]
        obtain ⟨n', rfl⟩ : ∃ n', n = n' + 1 := ⟨n - 1, by omega⟩
        rw [nI_pred, if_neg (nI_nlt (by omega) (by omega))]
        decide
      · rw [if_pos (nI_le g2 (by omega))]
