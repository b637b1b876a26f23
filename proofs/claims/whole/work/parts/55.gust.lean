def dN (D : Nat → Int32) (g : Nat) : Nat := (D (5 + g)).toInt.toNat
def aN (D : Nat → Int32) : Nat := dN D 0 + dN D 1 + dN D 2 + dN D 3
def kN (S : zSky) (I : zI) (n : Nat) (D : Nat → Int32) (hour : Int32) : Nat → Nat → Nat → Nat
  | 0, _, a => a
  | m + 1, g, a => kN S I n D hour m (g + 1) (a + if fk (sG S I hour (nI g)) n = -1 then 0 else dN D g)
theorem kN_le (S : zSky) (I : zI) (n : Nat) (D : Nat → Int32) (hour : Int32) : kN S I n D hour 4 0 0 ≤ aN D := by
  have h : ∀ (p : Prop) [Decidable p] (x : Nat), (if p then 0 else x) ≤ x := fun p _ x => by split <;> omega
  have h0 := h (fk (sG S I hour (nI 0)) n = -1) (dN D 0)
  have h1 := h (fk (sG S I hour (nI 1)) n = -1) (dN D 1)
  have h2 := h (fk (sG S I hour (nI 2)) n = -1) (dN D 2)
  have h3 := h (fk (sG S I hour (nI 3)) n = -1) (dN D 3)
  show 0 + (if fk (sG S I hour (nI 0)) n = -1 then 0 else dN D 0) + (if fk (sG S I hour (nI 1)) n = -1 then 0 else dN D 1) + (if fk (sG S I hour (nI 2)) n = -1 then 0 else dN D 2) + (if fk (sG S I hour (nI 3)) n = -1 then 0 else dN D 3) ≤ _
  unfold aN
  omega
def PL (d : Nat) (mC mR : zMD) (aC aR : List Value) (code : Nat → Int32) (μ : zMem) : Prop := ∀ (KL : Int64 → zMem → Prop) (X : Nat → zMem → Prop),
  (∀ v m1, Fr zCls μ m1 → (∀ m2, Fr z143 m1 m2 → zcL d mR aR m2 (fun v' m3 => m3 106 3 = 0 ∧ v' = v ∧ QI m3 ∧ Fr zRef m2 m3) zNo) → KL v m1) →
  (∀ E m1, Fr zCls μ m1 → (∀ m2, Fr z143 m1 m2 → zcL d mR aR m2 (fun _ m3 => m3 106 3 = code E ∧ QI m3 ∧ Fr zRef m2 m3) zNo) → ¬ code E = 0 → X E m1) → zcL d mC aC μ KL X
section Gust
variable {d : Nat} {μ : zMem} {KI : Int32 → zMem → Prop} {KL : Int64 → zMem → Prop} {KV : zMem → Prop} {X : Nat → zMem → Prop} {n : Nat} {S : zSky} {D : Nat → Int32} {tn : Nat} {tb : Nat → Int32} {F : Int32} {T T' : zT} {K : Option (Nat → Int32)} {M : Option zT}
theorem QW.dd (h : QW n S D tn T K M) {g : Nat} (hg : g < 4) : D (5 + g) = nI (dN D g) ∧ dN D g ≤ 9 := by
  obtain ⟨a, b⟩ := h.2.2.2.1.2.2.2.2.1 g hg
  unfold dN
  refine ⟨?_, by omega⟩
  rw [i_eq, n_i (by omega)]; omega
theorem QW.a (h : QW n S D tn T K M) : 1 ≤ aN D ∧ aN D ≤ 36 := by
  have h0 := (h.dd (g := 0) (by omega)).2
  have h1 := (h.dd (g := 1) (by omega)).2
  have h2 := (h.dd (g := 2) (by omega)).2
  have h3 := (h.dd (g := 3) (by omega)).2
  have hs := h.2.2.2.1.2.2.2.2.2
  have hp := h.2.2.2.1.2.2.2.2.1
  have p0 := hp 0 (by omega)
  have p1 := hp 1 (by omega)
  have p2 := hp 2 (by omega)
  have p3 := hp 3 (by omega)
  have e1 : 5 + 0 = 5 := rfl
  unfold aN
  refine ⟨?_, by omega⟩
  unfold dN
  simp only [Nat.reduceAdd] at p0 p1 p2 p3 ⊢
  omega
theorem L_kw {x : Int32} {μ0 : zMem} (hW : QW n S D tn T K M) (hC : QC μ0 n S D tn tb F T K M) : ∀ (m g a : Nat) (μ : zMem), g + m = 4 → Fr zScC μ0 μ → (∀ μ', Fr zScC μ0 μ' → KI (nI (kN S T.1 n D x m g a)) μ') → pX8_knockingWeight_4 (m + 1) (d + 6) x (nI a) (nI g) μ KI X := by
  intro m
  induction m with
  | zero =>
    intro g a μ hg hf hK
    exact ⟨fun _ => hK μ hf, fun z => absurd ((n_le (a := 4) (by omega) (by omega)).mpr (by omega)) z⟩
  | succ m ih =>
    intro g a μ hg hf hK
    have hC1 := hC.q hf
    obtain ⟨dg, d9⟩ := hW.dd (g := g) (by omega)
    have wg : ∀ μ', Fr zScC μ0 μ' → μ' (zsk μ' 0 4 + 16) g = nI (dN D g) := fun μ' f => by rw [(hC.q f).1.2.2.2.2.2 g (by omega)]; exact dg
    refine ⟨fun z => absurd ((n_le (a := 4) (by omega) (by omega)).mp z) (by omega), fun _ => ?_⟩
    rw [tN_nI (by omega), wg μ hf]
    have step : ∀ μ', Fr zScC μ0 μ' → ∀ c, c = a + (if fk (sG S T.1 x (nI g)) n = -1 then 0 else dN D g) → ∀ v, v = nI g + 1 → pX8_knockingWeight_4 (m + 1) (d + 6) x (nI c) v μ' KI X := by
      intro μ' f c ec v ev
      rw [ev, nI_1]
      refine ih (g + 1) c μ' (by omega) f (fun μ2 f2 => ?_)
      have := hK μ2 f2
      unfold kN at this
      rw [← ec] at this; exact this
    refine ⟨vin (by omega), fun z v1 e1 => step μ hf a ?_ v1 e1, fun z => C_blowNow hW hC1 (fun m1 f1 g1 => ?_)⟩
    · rw [show (0 : Int32) = nI 0 from rfl, n_le (by omega) (by omega)] at z
      have : dN D g = 0 := by omega
      rw [this]; split <;> rfl
    · have hf1 := hf.tr (zAir_q f1)
      refine C_firstKnock (hC.q hf1).cn hW.1 g1 ⟨fun z2 v5 e5 => step m1 hf1 a (by rw [if_pos z2]; rfl) v5 e5, fun z2 => ⟨vin (by omega), fun v6 e6 v7 e7 => ?_⟩⟩
      rw [wg m1 hf1, nI_add] at e6
      subst e6
      exact step m1 hf1 _ (by rw [if_neg z2]) v7 e7
theorem C_kw {x : Int32} (hW : QW n S D tn T K M) (hC : QC μ n S D tn tb F T K M) (h : ∀ μ', Fr zScC μ μ' → KI (nI (kN S T.1 n D x 4 0 0)) μ') : zcI (d + 7) mX8_knockingWeight [.ref 0, .int x] μ KI X :=
  cX8_knockingWeight_ ⟨5, L_kw hW hC 4 0 0 μ (by omega) Fr.rf h⟩
theorem L_kb {x : Int32} {μ0 : zMem} (hW : QW n S D tn T K M) (hR : QR μ0 n S D tn tb F T K M) : ∀ (m g a : Nat) (μ : zMem), g + m = 4 → Fr zTell μ0 μ → (∀ μ', Fr zTell μ0 μ' → KI (nI (kN S T.1 n D x m g a)) μ') → pX9_knockedBy_4 (m + 1) (d + 6) x (nI a) (nI g) μ KI X := by
  intro m
  induction m with
  | zero =>
    intro g a μ hg hf hK
    exact ⟨fun _ => hK μ hf, fun z => absurd ((n_le (a := 4) (by omega) (by omega)).mpr (by omega)) z⟩
  | succ m ih =>
    intro g a μ hg hf hK
    obtain ⟨dg, d9⟩ := hW.dd (g := g) (by omega)
    refine ⟨fun z => absurd ((n_le (a := 4) (by omega) (by omega)).mp z) (by omega), fun _ => R_hourNow hW (hR.q (zTell_q hf)) (fun m1 f1 g1 => ?_)⟩
    have hf1 := hf.tr f1
    have wg : m1 110 (5 + g) = nI (dN D g) := by rw [(hR.q (zTell_q hf1)).1.2.2 _ (by omega) (by omega)]; exact dg
    have step : ∀ c, c = a + (if fk (sG S T.1 x (nI g)) n = -1 then 0 else dN D g) → ∀ v, v = nI g + 1 → pX9_knockedBy_4 (m + 1) (d + 6) x (nI c) v m1 KI X := by
      intro c ec v ev
      rw [ev, nI_1]
      refine ih (g + 1) c m1 (by omega) hf1 (fun μ2 f2 => ?_)
      have := hK μ2 f2
      unfold kN at this
      rw [← ec] at this; exact this
    refine R_knocked hW.1 (hR.q (zTell_q hf1)).cn g1 ⟨fun z v6 e6 => ?_, fun z => ?_⟩
    · rw [Int32.add_zero]
      exact step a (by rw [if_pos z]; rfl) v6 e6
    · have e5 : (5 : Int32) + nI g = nI (5 + g) := nI_add 5 g
      rw [e5, tN_nI (by omega), wg, nI_add]
      refine ⟨vin (by omega), fun v4 e4 v5 e5 => ?_⟩
      subst e4
      exact step _ (by rw [if_neg z]) v5 e5
theorem R_kb {x : Int32} (hW : QW n S D tn T K M) (hR : QR μ n S D tn tb F T K M) (h : ∀ μ', Fr zTell μ μ' → KI (nI (kN S T.1 n D x 4 0 0)) μ') : zcI (d + 7) mX9_knockedBy [.ref 106, .int x] μ KI X :=
  cX9_knockedBy_ ⟨5, L_kb hW hR 4 0 0 μ (by omega) Fr.rf h⟩
theorem C_allW (hW : QW n S D tn T K M) (hC : QC μ n S D tn tb F T K M) (h : KI (nI (aN D)) μ) : zcI (d + 1) mX4_allWeights [.ref (zsk μ 0 4)] μ KI X := by
  have w : ∀ g, g < 4 → μ (zsk μ 0 4 + 16) g = nI (dN D g) := fun g hg => by rw [hC.1.2.2.2.2.2 g hg]; exact (hW.dd hg).1
  refine cX4_allWeights_ (zsk_sh μ 0 4) ⟨5, ?_⟩
  have no : ∀ g, g < 4 → ¬ (4 : Int32) ≤ nI g := fun g hg q => by
    have := (n_le (a := 4) (by omega) (by omega)).mp q; omega
  refine ⟨fun q => absurd q (no 0 (by omega)), fun _ => ⟨vin (n := 0) (by omega), fun v1 e1 v2 e2 => ?_⟩⟩
  have e1' : v1 = nI (dN D 0) := by
    rw [e1]
    show (0 : Int32) + μ (zsk μ 0 4 + 16) 0 = _
    rw [w 0 (by omega), Int32.zero_add]
  have e2' : v2 = nI 1 := e2
  subst e1' e2'
  refine ⟨fun q => absurd q (no 1 (by omega)), fun _ => ⟨vin (n := 1) (by omega), fun v1 e1 v2 e2 => ?_⟩⟩
  rw [tN_nI (by omega), w 1 (by omega), nI_add] at e1
  rw [nI_1] at e2
  subst e1 e2
  refine ⟨fun q => absurd q (no 2 (by omega)), fun _ => ⟨vin (n := 2) (by omega), fun v1 e1 v2 e2 => ?_⟩⟩
  rw [tN_nI (by omega), w 2 (by omega), nI_add] at e1
  rw [nI_1] at e2
  subst e1 e2
  refine ⟨fun q => absurd q (no 3 (by omega)), fun _ => ⟨vin (n := 3) (by omega), fun v1 e1 v2 e2 => ?_⟩⟩
  rw [tN_nI (by omega), w 3 (by omega), nI_add] at e1
  rw [nI_1] at e2
  subst e1 e2
  exact ⟨fun _ => h, fun q => absurd ((n_le (a := 4) (by omega) (by omega)).mpr (by omega)) q⟩
theorem R_allG (hW : QW n S D tn T K M) (hR : QR μ n S D tn tb F T K M) (h : KI (nI (aN D)) μ) : zcI (d + 1) mX9_allGusts [.ref 106] μ KI X := by
  refine cX9_allGusts_ ?_
  unfold pX9_allGusts
  have w : ∀ g, g < 4 → μ 110 (5 + g) = nI (dN D g) := fun g hg => by rw [hR.1.2.2 _ (by omega) (by omega)]; exact (hW.dd hg).1
  have w0 : μ 110 5 = nI (dN D 0) := w 0 (by omega)
  have w1 : μ 110 6 = nI (dN D 1) := w 1 (by omega)
  have w2 : μ 110 7 = nI (dN D 2) := w 2 (by omega)
  have w3 : μ 110 8 = nI (dN D 3) := w 3 (by omega)
  rw [w0, w1, w2, w3, nI_add, nI_add, nI_add]
  exact h
def sGus (S : zSky) (I : zI) (n : Nat) (D : Nat → Int32) (h w : Int32) : Int32 := if w = 0 then nI (kN S I n D h 4 0 0 / Nat.gcd (kN S I n D h 4 0 0) (aN D)) else nI (aN D / Nat.gcd (kN S I n D h 4 0 0) (aN D))
theorem C_gust {x1 x2 : Int32} (hW : QW n S D tn T K M) (hC : QC μ n S D tn tb F T K M) (h0 : ¬ (vHr x1 ∧ vWh 2 x2) → X 0 μ) (h1 : vHr x1 → vWh 2 x2 → ∀ m, Fr zScC μ m → KI (sGus S T.1 n D x1 x2) m) : zcI (d + 8) mX8_gust [.ref 0, .int x1, .int x2] μ KI X := by
  obtain ⟨a1, a2⟩ := hW.a
  refine cX8_gust_ (C_needHour (fun q => h0 fun z => q z.1) (fun q1 => C_needWhat (m := 2) (by decide) (fun q => h0 fun z => q z.2) (fun q2 => C_kw hW hC (fun m f => C_allW hW (hC.q f) ?_))))
  have k1 := kN_le S T.1 n D x1
  have hh := h1 q1 q2 m f
  unfold sGus at hh
  rw [nI_L (by omega), nI_L (by omega)]
  have d1 := Nat.div_le_self (kN S T.1 n D x1 4 0 0) (Nat.gcd (kN S T.1 n D x1 4 0 0) (aN D))
  have d2 := Nat.div_le_self (aN D) (Nat.gcd (kN S T.1 n D x1 4 0 0) (aN D))
  refine C_lowest a1 (by omega) (by omega) ?_
  by_cases z : x2 = 0
  · rw [if_pos z] at hh ⊢
    rw [nL_I (by omega)]; exact hh
  · rw [if_neg z] at hh ⊢
    rw [nL_I (by omega)]; exact hh
theorem R_gust {x1 x2 : Int32} (hW : QW n S D tn T K M) (hR : QR μ n S D tn tb F T K M) (h0 : ¬ (vHr x1 ∧ vWh 2 x2) → ∀ m, Fr zScR μ m → m 106 3 = 1 → KI 0 m) (h1 : vHr x1 → vWh 2 x2 → ∀ m, Fr zScR μ m → m 106 3 = 0 → KI (sGus S T.1 n D x1 x2) m) : zcI (d + 8) mX9_gust [.ref 106, .int x1, .int x2] μ KI X := by
  obtain ⟨a1, a2⟩ := hW.a
  refine cX9_gust_ (fun m1 e1 => ?_)
  have f1 : Fr zScR μ m1 := by rw [e1]; exact code_q
  have c1 : m1 106 3 = 0 := by rw [e1, zw_s]
  have hR1 := hR.q f1
  have bad : ¬ (vHr x1 ∧ vWh 2 x2) → pX9_gust_21 (d + 7) m1 KI X := fun q => R_fail (fun m e => h0 q m (f1.tr (by rw [e]; exact code_q)) (by rw [e, zw_s]))
  refine R_isHour (b2i_go (fun q => bad fun z => q z.1) (fun q1 => ?_))
  rw [i_lt, i_le, i_0, i_1]
  refine ⟨fun q => bad fun z => by have := z.2; unfold vWh at this; omega, fun q => ⟨fun q2 => ?_, fun q2 => bad fun z => by have := z.2; unfold vWh at this; omega⟩⟩
  refine R_kb hW hR1 (fun m f => ?_)
  have fm := f1.tr (zTell_q f)
  have hR2 := hR.q fm
  have k1 := kN_le S T.1 n D x1
  have hh := h1 q1 (by unfold vWh; omega) m fm (by rw [zTell_c f, c1])
  unfold sGus at hh
  refine R_allG hW hR2 ?_
  rw [nI_L (by omega), nI_L (by omega)]
  have g0 : 0 < Nat.gcd (kN S T.1 n D x1 4 0 0) (aN D) := Nat.gcd_pos_of_pos_right _ (by omega)
  have g1 : Nat.gcd (kN S T.1 n D x1 4 0 0) (aN D) ≤ aN D := Nat.gcd_le_right _ (by omega)
  have ng : ¬ nI (Nat.gcd (kN S T.1 n D x1 4 0 0) (aN D)) = 0 := fun z => by
    have := (n_eq (b := 0) (by omega) (by omega)).mp z; omega
  refine R_common (by omega) (by omega) ?_
  rw [nL_I (by omega)]
  refine ⟨fun z => ⟨ng, ?_⟩, fun z => R_allG hW hR2 ⟨ng, ?_⟩⟩
  · rw [if_pos z] at hh
    rw [nI_div (by omega) (by omega)]; exact hh
  · rw [if_neg z] at hh
    rw [nI_div (by omega) (by omega)]; exact hh
theorem P_gust {x1 x2 : Int32} (h : QS μ n S D tn tb F T K M) : PI (d + 8) mX8_gust mX9_gust [.ref 0, .int x1, .int x2] [.ref 106, .int x1, .int x2] c10 μ := by
  intro KI X hK hX
  refine C_gust h.1 h.2.1 (fun q => hX _ _ Fr.rf (fun m2 g => R_gust h.1 (h.2.2.r (Fr.rf (P := zCls)) g) (fun _ m f e => ⟨e, h.q Fr.rf g f⟩) (fun a b => absurd ⟨a, b⟩ q)) (by decide))
    (fun a b m1 f1 => hK _ _ (zScC_c f1) (fun m2 g => R_gust h.1 (h.2.2.r (zScC_c f1) g) (fun q => absurd ⟨a, b⟩ q) (fun _ _ m f e => ⟨e, rfl, h.q f1 g f⟩)))
/-! calm -/
def clU (S : zSky) (I : zI) (n : Nat) (D : Nat → Int32) : Nat → Nat → Nat → Nat
  | 0, _, u => u
  | m + 1, h, u => clU S I n D m (h + 1) (u * (aN D - kN S I n D (nI h) 4 0 0))
def clL (D : Nat → Int32) : Nat → Nat → Nat
  | 0, l => l
  | m + 1, l => clL D m (l * aN D)
def sClm (S : zSky) (I : zI) (n : Nat) (D : Nat → Int32) (w : Int32) (m h u l : Nat) : Int64 := if w = 0 then nL (clU S I n D m h u / Nat.gcd (clU S I n D m h u) (clL D m l)) else nL (clL D m l / Nat.gcd (clU S I n D m h u) (clL D m l))
theorem p36_8 : 36 ^ 8 = 2821109907456 := by decide
theorem mul_36 {a b j : Nat} (ha : a ≤ 36 ^ j) (hb : b ≤ 36) : a * b ≤ 36 ^ (j + 1) := by
  rw [Nat.pow_succ]; exact Nat.mul_le_mul ha hb
theorem p36_le {j : Nat} (h : j ≤ 8) : 36 ^ j ≤ 36 ^ 8 := Nat.pow_le_pow_right (by omega) h
theorem L_calmC {x : Int32} {μ0 : zMem} {q : Nat} (hq : q ≤ 167) (hW : QW n S D tn T K M) (hC : QC μ0 n S D tn tb F T K M) : ∀ (m h u l j : Nat) (μ : zMem), h + m = q + 1 → j + m ≤ 8 → u ≤ 36 ^ j → l ≤ 36 ^ j → 1 ≤ l → Fr zScC μ0 μ →
    (∀ μ', Fr zScC μ0 μ' → KL (sClm S T.1 n D x m h u l) μ') → pX8_calm_21 (m + 1) (d + 7) (nI q) x (nL u) (nL l) (nI h) μ KL X := by
  obtain ⟨a1, a2⟩ := hW.a
  have p8 := p36_8
  intro m
  induction m with
  | zero =>
    intro h u l j μ hh hj hu hl h1 hf hK
    have := p36_le (j := j) (by omega)
    exact ⟨fun _ => C_lowest h1 (by omega) (by omega) (hK μ hf), fun z => absurd ((n_lt (by omega) (by omega)).mpr (by omega)) z⟩
  | succ m ih =>
    intro h u l j μ hh hj hu hl h1 hf hK
    have pj := p36_le (j := j) (by omega)
    have k1 := kN_le S T.1 n D (nI h)
    have pu := mul_36 (b := aN D - kN S T.1 n D (nI h) 4 0 0) hu (by omega)
    have pl := mul_36 (b := aN D) hl a2
    have pj1 := p36_le (j := j + 1) (by omega)
    refine ⟨fun z => absurd ((n_lt (by omega) (by omega)).mp z) (by omega), fun _ => C_allW hW (hC.q hf) (C_kw hW (hC.q hf) (fun m1 f1 v7 e7 v8 e8 v9 e9 => ?_))⟩
    have es : nI (aN D) - nI (kN S T.1 n D (nI h) 4 0 0) = nI (aN D - kN S T.1 n D (nI h) 4 0 0) := by
      rw [i_eq, i_sub (by rw [n_i (by omega), n_i (by omega)]; omega) (by rw [n_i (by omega), n_i (by omega)]; omega), n_i (by omega), n_i (by omega), n_i (by omega)]; omega
    rw [es, nI_L (by omega), nL_mul (by omega) (by omega) (by omega)] at e7
    rw [nI_L (by omega), nL_mul (by omega) (by omega) (by omega)] at e8
    rw [nI_1] at e9
    subst e7 e8 e9
    exact ih (h + 1) _ _ (j + 1) m1 (by omega) (by omega) pu pl (Nat.mul_pos h1 a1) (hf.tr f1) hK
theorem C_calm {x1 x2 x3 : Int32} (hW : QW n S D tn T K M) (hC : QC μ n S D tn tb F T K M) (h0 : ¬ vWh 2 x3 → X 0 μ) (h2 : vWh 2 x3 → ¬ (vSp x1 x2 ∧ x2.toInt - x1.toInt < 8) → X 1 μ)
    (h1 : ∀ p q, p ≤ q → q ≤ 167 → q - p < 8 → x1 = nI p → x2 = nI q → vWh 2 x3 → ∀ m, Fr zScC μ m → KL (sClm S T.1 n D x3 (q + 1 - p) p 1 1) m) : zcL (d + 8) mX8_calm [.ref 0, .int x1, .int x2, .int x3] μ KL X := by
  refine cX8_calm_ (C_needWhat (m := 2) (by decide) h0 (fun q3 => C_needSpan (m := 8) (by decide) (fun q => h2 q3 q) (fun q4 q5 => ?_)))
  obtain ⟨p, q, hpq, hq, e1, e2⟩ := q4.get
  have q5' : q - p < 8 := by rw [e1, e2, n_i (by omega), n_i (by omega)] at q5; omega
  have hh := h1 p q hpq hq q5' e1 e2 q3
  subst e1 e2
  exact ⟨q + 1 - p + 1, L_calmC hq hW hC (q + 1 - p) p 1 1 0 μ (by omega) (by omega) (by decide) (by decide) (by omega) Fr.rf hh⟩
theorem L_calmR {x : Int32} {μ0 : zMem} {q : Nat} (hq : q ≤ 167) (hW : QW n S D tn T K M) (hR : QR μ0 n S D tn tb F T K M) : ∀ (m h u l j : Nat) (μ : zMem), h + m = q + 1 → j + m ≤ 8 → u ≤ 36 ^ j → l ≤ 36 ^ j → 1 ≤ l → Fr zTell μ0 μ →
    (∀ μ', Fr zTell μ0 μ' → KL (sClm S T.1 n D x m h u l) μ') → pX9_calm_53 (m + 1) (d + 7) (nI q) x (nL u) (nL l) (nI h) μ KL X := by
  obtain ⟨a1, a2⟩ := hW.a
  have p8 := p36_8
  intro m
  induction m with
  | zero =>
    intro h u l j μ hh hj hu hl h1 hf hK
    have := p36_le (j := j) (by omega)
    refine ⟨fun _ => R_common (by omega) (by omega) ?_, fun z => absurd ((n_lt (by omega) (by omega)).mpr (by omega)) z⟩
    have g0 : 0 < Nat.gcd u l := Nat.gcd_pos_of_pos_right u (by omega)
    have g1 : Nat.gcd u l ≤ l := Nat.gcd_le_right u (by omega)
    have ng : ¬ nL (Nat.gcd u l) = 0 := fun q => by have := (nL_0 (by omega)).mp q; omega
    have hh2 : KL (if x = 0 then nL (u / Nat.gcd u l) else nL (l / Nat.gcd u l)) μ := hK μ hf
    refine ⟨fun z => ⟨ng, ?_⟩, fun z => ⟨ng, ?_⟩⟩
    · rw [if_pos z] at hh2; rw [nL_div (by omega) (by omega)]; exact hh2
    · rw [if_neg z] at hh2; rw [nL_div (by omega) (by omega)]; exact hh2
  | succ m ih =>
    intro h u l j μ hh hj hu hl h1 hf hK
    have pj := p36_le (j := j) (by omega)
    have k1 := kN_le S T.1 n D (nI h)
    have pu := mul_36 (b := aN D - kN S T.1 n D (nI h) 4 0 0) hu (by omega)
    have pl := mul_36 (b := aN D) hl a2
    have pj1 := p36_le (j := j + 1) (by omega)
    refine ⟨fun z => absurd ((n_lt (by omega) (by omega)).mp z) (by omega), fun _ => R_allG hW (hR.q (zTell_q hf)) (R_kb hW (hR.q (zTell_q hf)) (fun m1 f1 v7 e7 => R_allG hW ((hR.q (zTell_q hf)).q (zTell_q f1)) (fun v8 e8 v9 e9 => ?_)))⟩
    have es : nI (aN D) - nI (kN S T.1 n D (nI h) 4 0 0) = nI (aN D - kN S T.1 n D (nI h) 4 0 0) := by
      rw [i_eq, i_sub (by rw [n_i (by omega), n_i (by omega)]; omega) (by rw [n_i (by omega), n_i (by omega)]; omega), n_i (by omega), n_i (by omega), n_i (by omega)]; omega
    rw [es, nI_L (by omega), nL_mul (by omega) (by omega) (by omega)] at e7
    rw [nI_L (by omega), nL_mul (by omega) (by omega) (by omega)] at e8
    rw [nI_1] at e9
    subst e7 e8 e9
    exact ih (h + 1) _ _ (j + 1) m1 (by omega) (by omega) pu pl (Nat.mul_pos h1 a1) (hf.tr f1) hK
theorem R_calm {x1 x2 x3 : Int32} (hW : QW n S D tn T K M) (hR : QR μ n S D tn tb F T K M) (h0 : ¬ vWh 2 x3 → ∀ v m, Fr zScR μ m → m 106 3 = 1 → KL v m) (h2 : vWh 2 x3 → ¬ (vSp x1 x2 ∧ x2.toInt - x1.toInt < 8) → ∀ v m, Fr zScR μ m → m 106 3 = 2 → KL v m)
    (h1 : ∀ p q, p ≤ q → q ≤ 167 → q - p < 8 → x1 = nI p → x2 = nI q → vWh 2 x3 → ∀ m, Fr zScR μ m → m 106 3 = 0 → KL (sClm S T.1 n D x3 (q + 1 - p) p 1 1) m) : zcL (d + 8) mX9_calm [.ref 106, .int x1, .int x2, .int x3] μ KL X := by
  refine cX9_calm_ (fun m1 e1 => ?_)
  have f1 : Fr zScR μ m1 := by rw [e1]; exact code_q
  have c1 : m1 106 3 = 0 := by rw [e1, zw_s]
  have hR1 := hR.q f1
  have bad : ¬ vWh 2 x3 → pX9_calm_14 (d + 7) m1 KL X := fun q => R_fail (fun m e => h0 q _ m (f1.tr (by rw [e]; exact code_q)) (by rw [e, zw_s]))
  have bad2 : vWh 2 x3 → ¬ (vSp x1 x2 ∧ x2.toInt - x1.toInt < 8) → pX9_calm_37 (d + 7) m1 KL X := fun q q' => R_fail (fun m e => h2 q q' _ m (f1.tr (by rw [e]; exact code_q)) (by rw [e, zw_s]))
  rw [i_lt, i_le, i_0, i_1]
  refine ⟨fun q => bad fun z => by unfold vWh at z; omega, fun q => ⟨fun q2 => ?_, fun q2 => bad fun z => by unfold vWh at z; omega⟩⟩
  have hw : vWh 2 x3 := by unfold vWh; omega
  refine R_isSpan (b2i_go (fun q => bad2 hw fun z => q z.1) (fun q4 => ?_))
  have q4' := q4
  unfold vSp at q4'
  rw [i_lt, i_sub (by omega) (by omega), show (8 : Int32).toInt = 8 from by decide]
  refine ⟨fun q5 => ?_, fun q5 => bad2 hw fun z => q5 z.2⟩
  obtain ⟨p, q, hpq, hq, e1, e2⟩ := q4.get
  have q5' : q - p < 8 := by rw [e1, e2, n_i (by omega), n_i (by omega)] at q5; omega
  have hh := h1 p q hpq hq q5' e1 e2 hw
  subst e1 e2
  exact ⟨q + 1 - p + 1, L_calmR hq hW hR1 (q + 1 - p) p 1 1 0 m1 (by omega) (by omega) (by decide) (by decide) (by omega) Fr.rf (fun μ' f => hh μ' (f1.tr (zTell_q f)) (by rw [zTell_c f, c1]))⟩
theorem P_calm {x1 x2 x3 : Int32} (h : QS μ n S D tn tb F T K M) : PL (d + 8) mX8_calm mX9_calm [.ref 0, .int x1, .int x2, .int x3] [.ref 106, .int x1, .int x2, .int x3] c12 μ := by
  intro KL X hK hX
  have sp : ∀ p q : Nat, p ≤ q → q ≤ 167 → q - p < 8 → x1 = nI p → x2 = nI q → vSp x1 x2 ∧ x2.toInt - x1.toInt < 8 := fun p q hpq hq hd e1 e2 => ⟨by rw [e1, e2]; exact vSp_n hpq hq, by rw [e1, e2, n_i (by omega), n_i (by omega)]; omega⟩
  refine C_calm h.1 h.2.1 (fun a => hX _ _ Fr.rf (fun m2 g => R_calm h.1 (h.2.2.r (Fr.rf (P := zCls)) g) (fun _ _ m f e => ⟨e, h.q Fr.rf g f⟩) (fun b => absurd b a) (fun _ _ _ _ _ _ _ b => absurd b a)) (by decide))
    (fun a b => hX _ _ Fr.rf (fun m2 g => R_calm h.1 (h.2.2.r (Fr.rf (P := zCls)) g) (fun c => absurd a c) (fun _ _ _ m f e => ⟨e, h.q Fr.rf g f⟩) (fun p q hpq hq hd e1 e2 _ => absurd (sp p q hpq hq hd e1 e2) b)) (by decide))
    (fun p q hpq hq hd e1 e2 a m1 f1 => hK _ _ (zScC_c f1) (fun m2 g => R_calm h.1 (h.2.2.r (zScC_c f1) g) (fun c => absurd a c) (fun _ b => absurd (sp p q hpq hq hd e1 e2) b) (fun p' q' hpq' hq' _ e1' e2' _ m f e3 => ⟨e3, ?_, h.q f1 g f⟩)))
  cases nj' (by omega) (by omega) (e1.symm.trans e1')
  cases nj' (by omega) (by omega) (e2.symm.trans e2'); rfl
end Gust
