/-! class and model beside each other: rows of users -/
theorem itr_rel {S T : Type} (f : Nat → S → S) (g : Nat → T → T) (R : Nat → S → T → Prop) : ∀ (n i : Nat) (s : S) (t : T), (∀ j s t, i ≤ j → j < i + n → R j s t → R (j + 1) (f j s) (g j t)) → R i s t → R (i + n) (itr f i n s) (itr g i n t)
  | 0, i, s, t, _, h => h
  | n + 1, i, s, t, hs, h => by
    have := itr_rel f g R n (i + 1) (f i s) (g i t) (fun j s t h1 h2 => hs j s t (by omega) (by omega)) (hs i s t (Nat.le_refl _) (by omega) h)
    rw [show i + 1 + n = i + (n + 1) by omega] at this
    exact this
def VF (f : Nat) (v : Int32) : Prop := if f = 0 then ∃ a, a ≤ 9 ∧ v = nI a else if f = 1 then ∃ a, 1 ≤ a ∧ a ≤ 9 ∧ v = nI a else if f = 3 then v = 0 ∨ v = 1 else if f = 4 then ∃ a, a ≤ 999 ∧ v = nI a else if f = 5 then ∃ a, a ≤ 9 ∧ v = nI a else if f = 6 then ∃ a, a ≤ 576 ∧ v = nI a else True
theorem VF0 {v : Int32} : VF 0 v ↔ ∃ a, a ≤ 9 ∧ v = nI a := by simp [VF]
theorem VF1 {v : Int32} : VF 1 v ↔ ∃ a, 1 ≤ a ∧ a ≤ 9 ∧ v = nI a := by simp [VF]
theorem VF2 {v : Int32} : VF 2 v := by simp [VF]
theorem VF3 {v : Int32} : VF 3 v ↔ (v = 0 ∨ v = 1) := by simp [VF]
theorem VF4 {v : Int32} : VF 4 v ↔ ∃ a, a ≤ 999 ∧ v = nI a := by simp [VF]
theorem VF5 {v : Int32} : VF 5 v ↔ ∃ a, a ≤ 9 ∧ v = nI a := by simp [VF]
theorem VF6 {v : Int32} : VF 6 v ↔ ∃ a, a ≤ 576 ∧ v = nI a := by simp [VF]
theorem VF7 {v : Int32} : VF 7 v := by simp [VF]
theorem VF8 {v : Int32} : VF 8 v := by simp [VF]
theorem VF9 {v : Int32} : VF 9 v := by simp [VF]
def PV (C : mM) (k n : Nat) (g : Nat → Int32) : Prop := (∀ u, u < n → ∀ f, f < 10 → C.1 (k + 1 + 1 + u) f = g (10 * u + f) ∧ VF f (g (10 * u + f))) ∧ C.1 k 1 = g 50 ∧ C.1 k 2 = g 51
theorem PV_up {C : mM} {k n u f : Nat} {g : Nat → Int32} {v : Int32} (h : PV C k n g) (hu : u < 5) (hf : f < 10) (hv : VF f v) : PV (mset C (k + 1 + 1 + u) f v) k n (upd g (10 * u + f) v) := by
  refine ⟨fun u' hu' f' hf' => ?_, ?_, ?_⟩
  · rw [mset_get]
    unfold upd
    by_cases e : u' = u ∧ f' = f
    · obtain ⟨rfl, rfl⟩ := e
      rw [if_pos ⟨rfl, rfl⟩, if_pos rfl]
      exact ⟨rfl, hv⟩
    · rw [if_neg (by omega), if_neg (by omega)]
      exact h.1 u' hu' f' hf'
  · rw [mset_n (by omega)]
    unfold upd
    rw [if_neg (by omega)]
    exact h.2.1
  · rw [mset_n (by omega)]
    unfold upd
    rw [if_neg (by omega)]
    exact h.2.2
theorem PV_n {C C' : mM} {k n : Nat} {g g' : Nat → Int32} (hn : n ≤ 5) (h : PV C k n g) (hC : ∀ a, k ≤ a → a < k + 7 → C'.1 a = C.1 a) (hg : ∀ j, j < 52 → g' j = g j) : PV C' k n g' := by
  refine ⟨fun u hu f hf => ?_, ?_, ?_⟩
  · rw [hC _ (by omega) (by omega), hg _ (by omega)]
    exact h.1 u hu f hf
  · rw [hC _ (by omega) (by omega), hg _ (by omega)]
    exact h.2.1
  · rw [hC _ (by omega) (by omega), hg _ (by omega)]
    exact h.2.2
theorem PV_e {C : mM} {k n u f : Nat} {g : Nat → Int32} (h : PV C k n g) (hu : u < n) (hf : f < 10) : C.1 (k + 1 + 1 + u) f = g (10 * u + f) := (h.1 u hu f hf).1
theorem PV_v {C : mM} {k n u f : Nat} {g : Nat → Int32} (h : PV C k n g) (hu : u < n) (hf : f < 10) : VF f (g (10 * u + f)) := (h.1 u hu f hf).2
/-- the plan: users, blocks, shift, rates -/
def PLR (n B : Nat) (C D : mM) : Prop := (n ≤ 5 ∧ C.1 4 2 = nI n ∧ D.1 158 6 = nI n) ∧ (B ≤ 4 ∧ C.1 4 0 = nI B ∧ D.1 158 4 = nI B) ∧ (∃ s, 1 ≤ s ∧ s ≤ 4 ∧ C.1 4 1 = nI s ∧ D.1 158 5 = nI s) ∧ ∀ u, u < n → ∃ m, 1 ≤ m ∧ m ≤ 6 ∧ C.1 6 u = nI m ∧ D.1 161 u = nI m ∧ ∀ i, i < m → ∃ x, x ≤ 9 ∧ C.1 5 (6 * u + i) = nI x ∧ D.1 160 (6 * u + i) = nI x
theorem PLR_c {n B : Nat} {C C' D D' : mM} (h : PLR n B C D) (h4 : C'.1 4 = C.1 4) (h5 : C'.1 5 = C.1 5) (h6 : C'.1 6 = C.1 6) (d4 : D'.1 158 4 = D.1 158 4) (d5 : D'.1 158 5 = D.1 158 5) (d6 : D'.1 158 6 = D.1 158 6) (d160 : D'.1 160 = D.1 160) (d161 : D'.1 161 = D.1 161) : PLR n B C' D' := by
  unfold PLR at h ⊢
  rw [h4, h5, h6, d4, d5, d6, d160, d161]
  exact h
theorem PLR_n {n B : Nat} {C D : mM} (h : PLR n B C D) : nU C = n ∧ nB C = B ∧ nM D = n ∧ bM D = B := by
  obtain ⟨⟨h1, h2, h3⟩, ⟨h4, h5, h6⟩, -⟩ := h
  refine ⟨?_, ?_, ?_, ?_⟩
  · unfold nU; rw [h2, nI_clamp (by omega)]
  · unfold nB; rw [h5, nI_clamp (by omega)]
  · unfold nM; rw [h3, nI_clamp (by omega)]
  · unfold bM; rw [h6, nI_clamp (by omega)]
theorem PLR_PL {n B : Nat} {C D : mM} (h : PLR n B C D) (hx : ∀ u, u < 5 → ∃ m, m ≤ 6 ∧ C.1 6 u = nI m) : PL C := ⟨⟨n, h.1.1, h.1.2.1⟩, hx, B, h.2.1.1, h.2.1.2.1⟩
theorem PLR_PM {n B : Nat} {C D : mM} (h : PLR n B C D) : PM D := by
  refine ⟨⟨n, h.1.1, h.1.2.2, fun u hu => ?_⟩, B, h.2.1.1, h.2.1.2.2⟩
  obtain ⟨m, h1, h2, -, h3, -⟩ := h.2.2.2 u hu
  exact ⟨m, h1, h2, h3⟩
theorem rate_eq {C D : mM} {n B r u c : Nat} (h : PLR n B C D) (hu : u < n) (hc : c < 2 ^ 31) (ec : D.1 r 51 = nI c) : ∃ x, x ≤ 9 ∧ rt C (nI u) (nI c) = nI x ∧ mrt D r u = nI x := by
  obtain ⟨⟨hn, e1, e2⟩, -, -, h4⟩ := h
  obtain ⟨m, hm1, hm6, e3, e4, h5⟩ := h4 u hu
  have hlt := Nat.mod_lt c (show 0 < m by omega)
  obtain ⟨x, hx, e5, e6⟩ := h5 (c % m) hlt
  have er : rm (nI c) (nI m) = nI (c % m) := pk_rem hc (by omega) (by omega)
  refine ⟨x, hx, ?_, ?_⟩
  · unfold rt
    rw [if_neg (nI_pos (by omega)), e1, if_neg (nI_ge hu (by omega)), if_pos (nI_pos' hc), nI_clamp (by omega : u < 2 ^ 31), e3, if_neg (nI_nle (by omega) (by omega)), er, show (6 : Int32) = nI 6 from rfl, pk_mul, nI_add, nI_clamp (by omega), show u * 6 + c % m = 6 * u + c % m by omega]
    exact e5
  · unfold mrt
    rw [ec, e4, er, show (6 : Int32) = nI 6 from rfl, pk_mul, nI_add, nI_clamp (by omega)]
    exact e6
/-! what waits, who may -/
theorem ha_v {D : mM} {r u q a : Nat} (hq : q ≤ 999) (ha' : a ≤ 9) (eq : D.1 r (10 * u + 4) = nI q) (ea : D.1 r (10 * u + 5) = nI a) : ha D r u = if q = 0 ∧ a = 0 then 0 else 1 := by
  unfold ha
  rw [eq, ea]
  by_cases h : 0 < q
  · rw [if_pos (by rw [show (0 : Int32) = nI 0 from rfl, nI_ltI (by omega) (by omega)]; exact h), if_neg (by omega)]
  · have h0 : q = 0 := by omega
    rw [if_neg (by rw [show (0 : Int32) = nI 0 from rfl, nI_ltI (by omega) (by omega)]; exact h)]
    by_cases h2 : a = 0
    · rw [if_pos (by rw [h2]; decide), if_pos ⟨h0, h2⟩]
    · rw [if_neg (nI_nle (by omega) (by omega)), if_neg (by omega)]
theorem ha_0 {D : mM} {r u q a : Nat} (hq : q ≤ 999) (ha' : a ≤ 9) (eq : D.1 r (10 * u + 4) = nI q) (ea : D.1 r (10 * u + 5) = nI a) : ha D r u = 0 ↔ q = 0 ∧ a = 0 := by
  rw [ha_v hq ha' eq ea]
  split
  · next h => exact ⟨fun _ => h, fun _ => rfl⟩
  · next h => exact ⟨fun g => absurd g (by decide), fun g => absurd g h⟩
theorem hs_0 {D : mM} {w : Int32} : ∀ (n i : Nat) (x : Int32), itr (hsS D w) i n x = 0 ↔ x = 0 ∧ ∀ j, i ≤ j → j < i + n → D.1 176 j ≠ w
  | 0, i, x => by
    rw [itr]
    exact ⟨fun h => ⟨h, fun j h1 h2 => by omega⟩, fun h => h.1⟩
  | n + 1, i, x => by
    rw [itr, hs_0 n (i + 1)]
    constructor
    · rintro ⟨h1, h2⟩
      unfold hsS at h1
      split at h1
      · next h0 =>
        split at h1
        · exact absurd h1 (by decide)
        · next hne =>
          refine ⟨h0, fun j g1 g2 => ?_⟩
          by_cases e : j = i
          · rw [e]; exact hne
          · exact h2 j (by omega) (by omega)
      · exact absurd h1 (by decide)
    · rintro ⟨h1, h2⟩
      refine ⟨?_, fun j g1 g2 => h2 j (by omega) (by omega)⟩
      unfold hsS
      rw [if_pos h1, if_neg (h2 i (Nat.le_refl _) (by omega))]
theorem hs_z {D : mM} {w : Int32} {b : Nat} : hs D w b = 0 ↔ ∀ j, j < b → D.1 176 j ≠ w := by
  unfold hs
  rw [hs_0 b 0 0]
  exact ⟨fun h j hj => h.2 j (Nat.zero_le _) (by omega), fun h => ⟨rfl, fun j _ hj => h j (by omega)⟩⟩
/-- the latest block of a user, and who had which -/
def LB (C D : mM) (u b : Nat) : Prop := (C.1 23 u = -1 ∧ ∀ j, j < b → D.1 176 j ≠ nI u) ∨ ∃ j, j < b ∧ C.1 23 u = nI j ∧ D.1 176 j = nI u ∧ ∀ i, j < i → i < b → D.1 176 i ≠ nI u
theorem nIm1 {j : Nat} (h : j < 2 ^ 31) : nI j ≠ -1 := fun e => absurd (by rw [e]; decide) (nI_pos h)
theorem nIm9 {j : Nat} (h : j < 2 ^ 31) : nI j ≠ -9 := fun e => absurd (by rw [e]; decide) (nI_pos h)
theorem LB_hs {C D : mM} {u b : Nat} (hb : b ≤ 4) (h : LB C D u b) : C.1 23 u = -1 ↔ hs D (nI u) b = 0 := by
  rw [hs_z]
  rcases h with ⟨h1, h2⟩ | ⟨j, hj, h1, h2, h3⟩
  · exact ⟨fun _ => h2, fun _ => h1⟩
  · refine ⟨fun g => absurd (h1.symm.trans g) (nIm1 (by omega)), fun g => absurd h2 (g j hj)⟩
theorem mh2_e {C D : mM} {u b : Nat} (hb : b ≤ 4) (h : LB C D u b) : mh2 C u (nI b) = if hs D (nI u) b = 0 then 1 else if D.1 176 (b - 1) = nI u then 1 else 0 := by
  have e := LB_hs hb h
  unfold mh2
  by_cases g : C.1 23 u = -1
  · rw [if_pos g, if_pos (e.mp g)]
  · rw [if_neg g, if_neg (fun g2 => g (e.mpr g2))]
    rcases h with ⟨h1, h2⟩ | ⟨j, hj, h1, h2, h3⟩
    · exact absurd h1 g
    · obtain ⟨b', rfl⟩ : ∃ b', b = b' + 1 := ⟨b - 1, by omega⟩
      rw [nI_pred, h1, Nat.add_sub_cancel]
      by_cases e2 : j = b'
      · subst e2
        rw [if_pos rfl, if_pos h2]
      · rw [if_neg (by rw [nI_eq (by omega) (by omega)]; exact e2), if_neg (h3 b' (by omega) (by omega))]
theorem mh_my {C D : mM} {k r n u b x : Nat} (hb : b ≤ 4) (hu : u < n) (h : PV C k n (D.1 r)) (hr : C.1 22 u = nI x) (hr' : mrt D r u = nI x) (hx : x ≤ 9) (hL : LB C D u b) : mh C (k + 1 + 1 + u) u (nI b) = my D r u b := by
  obtain ⟨q, hq, eq⟩ := VF4.mp (PV_v h hu (by decide))
  obtain ⟨a, ha', ea⟩ := VF5.mp (PV_v h hu (by decide))
  have h0 := ha_0 hq ha' eq ea
  unfold mh my
  rw [PV_e h hu (by decide), PV_e h hu (by decide), PV_e h hu (by decide), hr, hr', mh2_e hb hL, eq, ea]
  by_cases g3 : D.1 r (10 * u + 3) = 0
  · rw [if_pos g3, if_pos g3]
    by_cases gx : nI x ≤ 0
    · rw [if_pos gx, if_pos gx]
    · rw [if_neg gx, if_neg gx]
      by_cases gq : q = 0
      · rw [if_pos (by rw [gq]; rfl)]
        by_cases ga : a = 0
        · rw [if_pos (by rw [ga]; rfl), if_pos (h0.mpr ⟨gq, ga⟩)]
        · rw [if_neg (nI_ne0 (by omega) (by omega)), if_neg (fun g => ga (h0.mp g).2)]
      · rw [if_neg (nI_ne0 (by omega) (by omega)), if_neg (fun g => gq (h0.mp g).1)]
  · rw [if_neg g3, if_neg g3]
/-! who is due -/
theorem prod_le {a b c d e f : Nat} (ha : a ≤ 9) (hb : b ≤ 9) (hc : c ≤ 576) (hd : d ≤ 9) (he : e ≤ 9) (hf : f ≤ 576) : (nI a * nI b * (nI c + 1) ≤ nI d * nI e * (nI f + 1)) ↔ ((nI a).toInt64 * (nI b).toInt64 * (nI c + 1).toInt64 ≤ (nI d).toInt64 * (nI e).toInt64 * (nI f + 1).toInt64) := by
  have h1 : a * b ≤ 81 := Nat.mul_le_mul ha hb
  have h2 : d * e ≤ 81 := Nat.mul_le_mul hd he
  have h3 : a * b * (c + 1) ≤ 81 * 577 := Nat.mul_le_mul h1 (by omega)
  have h4 : d * e * (f + 1) ≤ 81 * 577 := Nat.mul_le_mul h2 (by omega)
  rw [nI_1, nI_1, pk_mul, pk_mul, pk_mul, pk_mul, nI_leI (by omega) (by omega), nI_l (by omega), nI_l (by omega), nI_l (by omega), nI_l (by omega), nI_l (by omega), nI_l (by omega), lN_mul, lN_mul, lN_mul, lN_mul, lN_le (by omega) (by omega)]
theorem pz_v {a : Nat} (h : a ≤ 9) : pz (nI a) = if a = 0 then 0 else 1 := by
  unfold pz
  by_cases g : a = 0
  · rw [if_pos g, if_pos (by rw [g]; decide)]
  · rw [if_neg g, if_neg (nI_nle (by omega) (by omega))]
theorem ug_v {C D : mM} {k r n u a : Nat} (hu : u < n) (h : PV C k n (D.1 r)) (ha' : a ≤ 9) (ea : D.1 r (10 * u + 5) = nI a) : ug D r u = if a = 0 then urg C k (k + 1 + 1 + u) 0 else 2 := by
  unfold ug urg ugW
  rw [ea, if_pos rfl, h.2.1, PV_e h hu (by decide)]
  by_cases g : a = 0
  · rw [if_pos g, if_pos (by rw [g]; decide)]
    unfold pz
    by_cases g1 : D.1 r 50 ≤ 0
    · simp only [if_pos g1, if_true]
    · simp only [if_neg g1, one0, if_false]
      by_cases g2 : D.1 r (10 * u + 7) < D.1 r 50
      · simp only [if_pos g2, if_true]
      · simp only [if_neg g2, one0, if_false]
  · rw [if_neg g, if_neg (nI_nle (by omega) (by omega))]
theorem mo_v {j : Nat} {a b : Int32} (hj : j < 5) : mo (nI j, a) b = if b ≤ a then 0 else 1 := by
  unfold mo
  rw [if_neg (nIm9 (by omega))]
theorem ib_v {C D : mM} {k r n i j x y : Nat} (hn : n ≤ 5) (hi : i < n) (hj : j < n) (h : PV C k n (D.1 r)) (hx : x ≤ 9) (hy : y ≤ 9) (e1 : C.1 22 i = nI x) (e2 : mrt D r i = nI x) (e3 : C.1 22 j = nI y) (e4 : mrt D r j = nI y) : (ib C k i j = 0 ↔ mo (nI j, ug D r j) (ug D r i) = 0 ∧ be D r i (nI j, ug D r j) (ug D r i) = 0) ∧ (mo (nI j, ug D r j) (ug D r i) = 0 → ¬ be D r i (nI j, ug D r j) (ug D r i) = 0 → ug D r i = ug D r j) := by
  obtain ⟨ai, hai, eai⟩ := VF5.mp (PV_v h hi (by decide))
  obtain ⟨aj, haj, eaj⟩ := VF5.mp (PV_v h hj (by decide))
  have ui := ug_v hi h hai eai
  have uj := ug_v hj h haj eaj
  have pi := pz_v hai
  have pj := pz_v haj
  have ki := urg_01 C k (k + 1 + 1 + i) 0
  have kj := urg_01 C k (k + 1 + 1 + j) 0
  have cj : (nI j).toNatClampNeg = j := nI_clamp (by omega)
  have u1 : ∀ w, urg C k w 1 = 1 := fun w => by unfold urg; rw [if_neg (by decide)]
  have W : (if C.1 (k + 1 + 1 + i) 7 ≤ C.1 (k + 1 + 1 + j) 7 then (0 : Int32) else 1) = if D.1 r (10 * i + 7) ≤ D.1 r (10 * j + 7) then 0 else 1 := by rw [PV_e h hi (by decide), PV_e h hj (by decide)]
  have P : (if C.1 22 i * C.1 (k + 1 + 1 + i) 1 * (C.1 (k + 1 + 1 + j) 6 + 1) ≤ C.1 22 j * C.1 (k + 1 + 1 + j) 1 * (C.1 (k + 1 + 1 + i) 6 + 1) then (0 : Int32) else 1) = isd D r i j := by
    obtain ⟨wi', -, hwi, ewi⟩ := VF1.mp (PV_v h hi (by decide))
    obtain ⟨wj', -, hwj, ewj⟩ := VF1.mp (PV_v h hj (by decide))
    obtain ⟨mi, hmi, emi⟩ := VF6.mp (PV_v h hi (by decide))
    obtain ⟨mj, hmj, emj⟩ := VF6.mp (PV_v h hj (by decide))
    unfold isd idL
    rw [PV_e h hi (by decide), PV_e h hi (by decide), PV_e h hj (by decide), PV_e h hj (by decide), e1, e2, e3, e4, ewi, ewj, emi, emj]
    have := prod_le (a := x) (b := wi') (c := mj) (d := y) (e := wj') (f := mi) hx hwi hmj hy hwj hmi
    by_cases g : nI x * nI wi' * (nI mj + 1) ≤ nI y * nI wj' * (nI mi + 1)
    · rw [if_pos g, if_pos (this.mp g)]
    · rw [if_neg g, if_neg (fun g2 => g (this.mpr g2))]
  have eib : ib C k i j = if pz (nI ai) = pz (nI aj) then (if urg C k (k + 1 + 1 + i) (pz (nI ai)) = urg C k (k + 1 + 1 + j) (pz (nI ai)) then (if urg C k (k + 1 + 1 + i) (pz (nI ai)) = 0 then isd D r i j else if D.1 r (10 * i + 7) ≤ D.1 r (10 * j + 7) then 0 else 1) else urg C k (k + 1 + 1 + i) (pz (nI ai))) else pz (nI ai) := by
    unfold ib ib1 ib2
    rw [W, P, PV_e h hi (by decide), PV_e h hj (by decide), eai, eaj]
  have ebe : ∀ w q : Int32, be D r i (nI j, q) w = if (if w ≤ q then (0 : Int32) else 1) = 0 then (if w = q then (if w ≤ 0 then (if isd D r i j = 0 then 0 else 1) else (if D.1 r (10 * i + 7) ≤ D.1 r (10 * j + 7) then 0 else 1)) else 0) else 0 := by
    intro w q
    unfold be
    simp only [mo_v (show j < 5 by omega), cj]
  rw [mo_v (by omega), ebe, eib, ui, uj, pi, pj]
  clear eib ebe W P ui uj pi pj e1 e2 e3 e4
  generalize isd D r i j = s
  generalize (if D.1 r (10 * i + 7) ≤ D.1 r (10 * j + 7) then (0 : Int32) else 1) = w
  have d1 : ((2 : Int32) ≤ 0) = False := by decide
  have d2 : ((2 : Int32) ≤ 1) = False := by decide
  have d3 : ((0 : Int32) ≤ 2) = True := by decide
  have d4 : ((1 : Int32) ≤ 2) = True := by decide
  have d5 : ((0 : Int32) = 2) = False := by decide
  have d6 : ((1 : Int32) = 2) = False := by decide
  have d7 : ((1 : Int32) ≤ 0) = False := by decide
  have d8 : ((0 : Int32) ≤ 1) = True := by decide
  have d9 : ((0 : Int32) = 1) = False := by decide
  have da : ((2 : Int32) ≤ 2) = True := by decide
  have db : ((1 : Int32) ≤ 1) = True := by decide
  have dc : ((0 : Int32) ≤ 0) = True := by decide
  by_cases gi : ai = 0
  · by_cases gj : aj = 0
    · simp only [if_pos gi, if_pos gj, if_true]
      rcases ki with ki | ki <;> rcases kj with kj | kj
      · simp only [ki, kj, if_true, dc, true_and]
        by_cases gs : s = 0
        · simp [gs]
        · simp [gs, one0]
      · simp [ki, kj, d8, d9]
      · simp [ki, kj, d7, one0]
      · simp only [ki, kj, if_true, db, d7, if_false, one0, true_and]
        exact fun _ _ => trivial
    · simp only [if_pos gi, if_neg gj, d9, if_false]
      rcases ki with ki | ki
      · simp [ki, d3, d5]
      · simp [ki, d4, d6]
  · by_cases gj : aj = 0
    · simp only [if_neg gi, if_pos gj, one0, if_false]
      rcases kj with kj | kj
      · simp [kj, d1, one0]
      · simp [kj, d2, one0]
    · simp only [if_neg gi, if_neg gj, if_true, u1, one0, if_false, da, d1, true_and]
      exact fun _ _ => trivial
/-- who is due for a block: class and model name the same -/
theorem due_eq {C D : mM} {k r n B b : Nat} (hb : b ≤ 4) (hPL : PLR n B C D) (h : PV C k n (D.1 r)) (hr : ∀ u, u < n → ∃ x, x ≤ 9 ∧ C.1 22 u = nI x ∧ mrt D r u = nI x) (hL : ∀ u, u < n → LB C D u b) : df C k (nI b) = wh D r b := by
  have hn := hPL.1.1
  obtain ⟨e1, -, e3, -⟩ := PLR_n hPL
  have key := itr_rel (duS C k (nI b)) (whS D r b) (fun _ d q => d = q.1 ∧ (d = -9 ∨ ∃ j, j < n ∧ d = nI j ∧ q.2 = ug D r j)) n 0 (-9) (-9, 0) (fun i d q _ h2 hR => by
    have hi : i < n := by omega
    obtain ⟨x, hx, ex, ex'⟩ := hr i hi
    have em := mh_my hb hi h ex ex' hx (hL i hi)
    obtain ⟨hd, hq⟩ := hR
    obtain ⟨q1, q2⟩ := q
    simp only at hd hq
    subst hd
    unfold duS whS
    rw [em]
    by_cases g : my D r i b = 0
    · rw [if_pos g, if_pos g]
      exact ⟨rfl, hq⟩
    · rw [if_neg g, if_neg g]
      rcases hq with rfl | ⟨j, hj, rfl, rfl⟩
      · have m1 : mo (-9, q2) (ug D r i) = 1 := by unfold mo; rw [if_pos rfl]
        rw [if_pos rfl, m1]
        exact ⟨rfl, Or.inr ⟨i, hi, rfl, rfl⟩⟩
      · obtain ⟨y, hy, ey, ey'⟩ := hr j hj
        obtain ⟨v1, v2⟩ := ib_v hn hi hj h hx hy ex ex' ey ey'
        rw [if_neg (nIm9 (by omega)), nI_clamp (by omega : j < 2 ^ 31)]
        simp only
        by_cases g1 : mo (nI j, ug D r j) (ug D r i) = 0
        · by_cases g2 : be D r i (nI j, ug D r j) (ug D r i) = 0
          · rw [if_pos (v1.mpr ⟨g1, g2⟩), if_pos g1, if_pos g2, if_pos g1]
            exact ⟨rfl, Or.inr ⟨j, hj, rfl, rfl⟩⟩
          · rw [if_neg (fun g3 => g2 (v1.mp g3).2), if_pos g1, if_neg g2, if_pos g1]
            exact ⟨rfl, Or.inr ⟨i, hi, rfl, (v2 g1 g2).symm⟩⟩
        · rw [if_neg (fun g3 => g1 (v1.mp g3).1), if_neg g1, if_neg g1]
          exact ⟨rfl, Or.inr ⟨i, hi, rfl, rfl⟩⟩) ⟨rfl, Or.inl rfl⟩
  unfold df wh
  rw [e1, e3]
  exact key.1
