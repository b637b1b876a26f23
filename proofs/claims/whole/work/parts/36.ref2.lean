def oF (F : Nat → Int32) : Option Nat → Int32
  | none => -1
  | some k => F k
def zBlow (c j : Nat) : Prop := c = 106 ∧ (j = 30 ∨ j = 31)
def zTell (c j : Nat) : Prop := (c = 106 ∧ (j = 30 ∨ j = 31)) ∨ c = 118 ∨ c = 119 ∨ c = 120 ∨ c = 121 ∨ c = 122
def sG (S : zSky) (I : zI) (h g : Int32) : zG := (fun i => sX S I i h g, fun i => sY S I i h g, fun i => sZ S I i h g, fun i => I i 5)
def gAr (μ : zMem) (G : zG) (i : Nat) : Prop := μ 120 i = G.1 i ∧ μ 121 i = G.2.1 i ∧ μ 122 i = G.2.2.1 i ∧ rI μ i 5 = G.2.2.2 i
section Ref2
variable {d : Nat} {μ : zMem} {KI : Int32 → zMem → Prop} {KV : zMem → Prop} {X : Nat → zMem → Prop}
theorem L_tellWind {μ0 : zMem} {S : zSky} {hour : Int32} (hS : SkyR μ0 S) (hG : SkyG S) : ∀ (m k : Nat) (a : Option Nat) (μ : zMem), k + m = S.1 → (∀ c, a = some c → c < k) → Fr zBlow μ0 μ → μ 106 30 = oV S.2.2.1 a → μ 106 31 = oV S.2.2.2.1 a →
    (∀ μ', Fr zBlow μ0 μ' → μ' 106 30 = oV S.2.2.1 (latS S.2.1 hour m k a) → μ' 106 31 = oV S.2.2.2.1 (latS S.2.1 hour m k a) → KV μ') → pX9_tellWind_14 (m + 1) d hour (oF S.2.1 a) (nI k) μ KV X := by
  obtain ⟨h1, h2, h3, -⟩ := hS
  intro m
  induction m with
  | zero =>
    intro k a μ hk ha hf e1 e2 hK
    have hc : μ 110 1 = nI S.1 := by rw [hf _ _ (by unfold zBlow; omega)]; exact h2
    exact ⟨fun _ => hK μ hf e1 e2, fun q => absurd (by rw [hc]; exact (n_le (by omega) (by omega)).mpr (by omega)) q⟩
  | succ m ih =>
    intro k a μ hk ha hf e1 e2 hK
    have hc : μ 110 1 = nI S.1 := by rw [hf _ _ (by unfold zBlow; omega)]; exact h2
    obtain ⟨g1, g2, g3⟩ := h3 k (by omega)
    have f1 : μ 112 k = S.2.1 k := by rw [hf _ _ (by unfold zBlow; omega)]; exact g1
    have f2 : μ 113 k = S.2.2.1 k := by rw [hf _ _ (by unfold zBlow; omega)]; exact g2
    have f3 : μ 114 k = S.2.2.2.1 k := by rw [hf _ _ (by unfold zBlow; omega)]; exact g3
    refine ⟨fun q => absurd q (by rw [hc, n_le (by omega) (by omega)]; omega), fun _ => ⟨vin (by omega), ?_⟩⟩
    rw [tN_nI (by omega), f1, f2]
    have stay : latC S.2.1 hour k a = a → ∀ v, v = nI k + 1 → pX9_tellWind_14 (m + 1) d hour (oF S.2.1 a) v μ KV X := by
      intro e v hv
      rw [hv, nI_1]
      refine ih (k + 1) a μ (by omega) (fun c hc => Nat.lt_succ_of_lt (ha c hc)) hf e1 e2 (fun μ' w1 w2 w3 => hK μ' w1 ?_ ?_)
      · show _ = oV S.2.2.1 (latS S.2.1 hour m (k + 1) (latC S.2.1 hour k a)); rw [e]; exact w2
      · show _ = oV S.2.2.2.1 (latS S.2.1 hour m (k + 1) (latC S.2.1 hour k a)); rw [e]; exact w3
    refine ⟨fun q v hv => stay (by unfold latC; rw [if_pos q]) v hv, fun q => ⟨vin (by omega), ?_⟩⟩
    have lat : latC S.2.1 hour k a = (if oF S.2.1 a ≤ S.2.1 k then some k else a) := by
      unfold latC
      rw [if_neg q]
      cases a with
      | none =>
        have : (-1 : Int32) ≤ S.2.1 k := by
          rw [i_le]
          have := hG.1 k (by omega)
          have e : (-1 : Int32).toInt = -1 := by decide
          omega
        show some k = (if (-1 : Int32) ≤ S.2.1 k then some k else none)
        rw [if_pos this]
      | some c =>
        have hcl := ha c rfl
        show (if S.2.1 k ≤ S.2.1 c then some c else some k) = (if S.2.1 c ≤ S.2.1 k then some k else some c)
        have hne : S.2.1 c ≠ S.2.1 k := fun z => by have := hG.2 c k (by omega) (by omega) z; omega
        rw [i_ne] at hne
        by_cases q1 : S.2.1 k ≤ S.2.1 c
        · have q2 : ¬ S.2.1 c ≤ S.2.1 k := by rw [i_le] at q1 ⊢; omega
          rw [if_pos q1, if_neg q2]
        · have q2 : S.2.1 c ≤ S.2.1 k := by rw [i_le] at q1 ⊢; omega
          rw [if_neg q1, if_pos q2]
    refine ⟨fun q2 => ⟨vin (by omega), fun v2 hv2 => ⟨vin (by omega), fun m3 e3 => ⟨vin (by omega), fun m4 e4 v5 e5 => ?_⟩⟩⟩, fun q2 v hv => stay (by rw [lat, if_neg q2]) v hv⟩
    have w4 : latC S.2.1 hour k a = some k := by rw [lat, if_pos q2]
    rw [e5, nI_1, hv2]
    refine ih (k + 1) (some k) m4 (by omega) (fun c hc => by cases hc; omega) ?_ ?_ ?_ (fun μ' w1 w2 w3 => hK μ' w1 ?_ ?_)
    · rw [e4, e3]; exact (hf.tr (Fr.w (Or.inl rfl |> fun z => ⟨rfl, z⟩))).tr (Fr.w ⟨rfl, Or.inr rfl⟩)
    · rw [e4, zw_j (by omega), e3, zw_s]; rfl
    · rw [e4, zw_s, e3, zw_c (by omega), f3]; rfl
    · show _ = oV S.2.2.1 (latS S.2.1 hour m (k + 1) (latC S.2.1 hour k a)); rw [w4]; exact w2
    · show _ = oV S.2.2.2.1 (latS S.2.1 hour m (k + 1) (latC S.2.1 hour k a)); rw [w4]; exact w3
theorem R_tellWind {S : zSky} {hour : Int32} (hS : SkyR μ S) (hG : SkyG S) (h : ∀ μ', Fr zBlow μ μ' → μ' 106 30 = sWx S.2.2.1 S.2.1 S.1 hour → μ' 106 31 = sWx S.2.2.2.1 S.2.1 S.1 hour → KV μ') : zcV (d + 1) mX9_tellWind [.ref 106, .int hour] μ KV X := by
  refine cX9_tellWind_ (fun m1 e1 m2 e2 => ⟨S.1 + 1, ?_⟩)
  have hf : Fr zBlow μ m2 := by rw [e2, e1]; exact (Fr.w ⟨rfl, Or.inl rfl⟩).tr (Fr.w ⟨rfl, Or.inr rfl⟩)
  have hS2 : SkyR m2 S := hS.go fun c j _ _ _ => hf _ _ (by unfold zBlow; omega)
  refine L_tellWind hS2 hG S.1 0 none m2 (by omega) (fun c hc => by cases hc) Fr.rf ?_ ?_ (fun μ' w1 w2 w3 => h μ' (hf.tr w1) w2 w3)
  · rw [e2, zw_j (by omega), e1, zw_s]; rfl
  · rw [e2, zw_s]; rfl
def zTI (i c j : Nat) : Prop := (120 ≤ c ∧ c ≤ 122 ∧ j = i) ∨ c = 118 ∨ c = 119
theorem R_tellIsle {S : zSky} {i : Nat} {x hour g : Int32} (hS : SkyR μ S) (hx : x = nI i) (hi : i < 6) (w1 : μ 106 30 = sWx S.2.2.1 S.2.1 S.1 hour) (w2 : μ 106 31 = sWx S.2.2.2.1 S.2.1 S.1 hour)
    (h : ∀ μ', Fr (zTI i) μ μ' → gAr μ' (sG S (rI μ) hour g) i → KV μ') : zcV (d + 5) mX9_tellIsle [.ref 106, .int x, .int hour, .int g] μ KV X := by
  subst hx
  refine cX9_tellIsle_ ?_
  unfold pX9_tellIsle
  rw [tN_nI (by omega)]
  refine R_of rfl rfl hi (k := 1) (by omega) ⟨vin hi, fun m3 e3 => ?_⟩
  have g3 : rI m3 = rI μ := rI_congr fun j => by rw [e3, zw_c (by omega)]
  refine R_of rfl rfl hi (k := 2) (by omega) ⟨vin hi, fun m6 e6 => ⟨vin hi, fun m7 e7 => ?_⟩⟩
  rw [g3] at e6
  have g7 : rI m7 = rI μ := by rw [← g3]; exact rI_congr fun j => by rw [e7, zw_c (by omega), e6, zw_c (by omega)]
  have f7 : Fr (zTI i) μ m7 := by
    rw [e7, e6, e3]
    exact ((Fr.w (by unfold zTI; omega)).tr (Fr.w (by unfold zTI; omega))).tr (Fr.w (by unfold zTI; omega))
  have x7 : m7 120 i = rI μ i 1 := by rw [e7, zw_c (by omega), e6, zw_c (by omega), e3, zw_s]
  have y7 : m7 121 i = rI μ i 2 := by rw [e7, zw_c (by omega), e6, zw_s]
  have z7 : m7 122 i = 0 := by rw [e7, zw_s]
  refine R_floats rfl hi ?_
  rw [g7]
  by_cases hfl : sFlo (rI μ) i
  · rw [b2i_t hfl]
    refine ⟨fun q => absurd q (by decide), fun _ => R_lineOf rfl hi ?_⟩
    rw [g7]
    have hS7 : SkyR m7 S := hS.go fun c j _ _ _ => f7 _ _ (by unfold zTI; omega)
    refine R_pushOf hS7 rfl hi (fun m12 f12 v14 e14 v15 e15 => ⟨vin hi, vin hi, fun m16 e16 => ⟨vin hi, vin hi, fun m17 e17 => ⟨vin hi, fun m18 e18 => ?_⟩⟩⟩)
    have f12' : ∀ c j, c ≠ 118 → c ≠ 119 → m12 c j = m7 c j := fun c j h1 h2 => f12 c j (by unfold zAsk; omega)
    have b1 : m12 106 30 = sWx S.2.2.1 S.2.1 S.1 hour := by rw [f12' _ _ (by omega) (by omega), f7 _ _ (by unfold zTI; omega)]; exact w1
    have b2 : m12 106 31 = sWx S.2.2.2.1 S.2.1 S.1 hour := by rw [f12' _ _ (by omega) (by omega), f7 _ _ (by unfold zTI; omega)]; exact w2
    rw [b1, g7] at e14
    rw [b2, g7] at e15
    have d1 : v14 = sDx S (rI μ) i hour g := e14
    have d2 : v15 = sDy S (rI μ) i hour g := e15
    refine h m18 ?_ ⟨?_, ?_, ?_, ?_⟩
    · refine f7.tr ((f12.mono (fun c j q => by unfold zAsk at q; unfold zTI; omega)).tr ?_)
      rw [e18, e17, e16]
      exact ((Fr.w (by unfold zTI; omega)).tr (Fr.w (by unfold zTI; omega))).tr (Fr.w (by unfold zTI; omega))
    · rw [e18, zw_c (by omega), e17, zw_c (by omega), e16, zw_s, f12' _ _ (by omega) (by omega), x7, d1]
      show _ = sX S (rI μ) i hour g
      unfold sX; rw [if_pos hfl]
    · rw [e18, zw_c (by omega), e17, zw_s, e16, zw_c (by omega), f12' _ _ (by omega) (by omega), y7, d2]
      show _ = sY S (rI μ) i hour g
      unfold sY; rw [if_pos hfl]
    · rw [e18, zw_s, d1, d2]
      show _ = sZ S (rI μ) i hour g
      unfold sZ; rw [if_pos hfl]
    · have : rI m18 = rI μ := by
        rw [← g7]
        exact rI_congr fun j => by rw [e18, zw_c (by omega), e17, zw_c (by omega), e16, zw_c (by omega), f12' _ _ (by omega) (by omega)]
      rw [this]; rfl
  · rw [b2i_f hfl]
    refine ⟨fun _ => h m7 f7 ⟨?_, ?_, ?_, by rw [g7]; rfl⟩, fun q => absurd rfl q⟩
    · show _ = sX S (rI μ) i hour g
      unfold sX; rw [if_neg hfl, Int32.add_zero]; exact x7
    · show _ = sY S (rI μ) i hour g
      unfold sY; rw [if_neg hfl, Int32.add_zero]; exact y7
    · show _ = sZ S (rI μ) i hour g
      unfold sZ; rw [if_neg hfl]; exact z7
theorem L_tellHour {μ0 : zMem} {S : zSky} {n : Nat} {hour g : Int32} (hS : SkyR μ0 S) (hn : n ≤ 6) (hc : μ0 110 0 = nI n) : ∀ (m k : Nat) (μ : zMem), k + m = n → Fr zTell μ0 μ → μ 106 30 = sWx S.2.2.1 S.2.1 S.1 hour → μ 106 31 = sWx S.2.2.2.1 S.2.1 S.1 hour → (∀ i, i < k → gAr μ (sG S (rI μ0) hour g) i) →
    (∀ μ', Fr zTell μ0 μ' → (∀ i, i < n → gAr μ' (sG S (rI μ0) hour g) i) → KV μ') → pX9_tellHour_7 (m + 1) (d + 5) hour g (nI k) μ KV X := by
  intro m
  induction m with
  | zero =>
    intro k μ hk hf w1 w2 hg hK
    have hcc : μ 110 0 = nI n := by rw [hf _ _ (by unfold zTell; omega)]; exact hc
    have hkn : k = n := by omega
    subst hkn
    exact ⟨fun _ => hK μ hf hg, fun q => absurd (by rw [hcc]; exact (n_le (by omega) (by omega)).mpr (by omega)) q⟩
  | succ m ih =>
    intro k μ hk hf w1 w2 hg hK
    have hcc : μ 110 0 = nI n := by rw [hf _ _ (by unfold zTell; omega)]; exact hc
    have hI : rI μ = rI μ0 := rI_congr fun j => hf _ _ (by unfold zTell; omega)
    refine ⟨fun q => absurd q (by rw [hcc, n_le (by omega) (by omega)]; omega), fun _ => ?_⟩
    refine R_tellIsle (hS.go fun c j _ _ _ => hf _ _ (by unfold zTell; omega)) rfl (by omega) w1 w2 (fun m1 f1 g1 v2 e2 => ?_)
    rw [e2, nI_1]
    rw [hI] at g1
    refine ih (k + 1) m1 (by omega) (hf.tr (f1.mono fun c j q => by unfold zTI at q; unfold zTell; omega)) ?_ ?_ ?_ hK
    · rw [f1 _ _ (by unfold zTI; omega)]; exact w1
    · rw [f1 _ _ (by unfold zTI; omega)]; exact w2
    · intro i hi
      by_cases hik : i = k
      · subst hik; exact g1
      · obtain ⟨a1, a2, a3, a4⟩ := hg i (by omega)
        have r1 : rI m1 = rI μ := rI_congr fun j => f1 _ _ (by unfold zTI; omega)
        exact ⟨by rw [f1 _ _ (by unfold zTI; omega)]; exact a1, by rw [f1 _ _ (by unfold zTI; omega)]; exact a2, by rw [f1 _ _ (by unfold zTI; omega)]; exact a3, by rw [r1]; exact a4⟩
theorem R_tellHour {S : zSky} {n : Nat} {hour g : Int32} (hS : SkyR μ S) (hG : SkyG S) (hn : n ≤ 6) (hc : μ 110 0 = nI n) (h : ∀ μ', Fr zTell μ μ' → (∀ i, i < n → gAr μ' (sG S (rI μ) hour g) i) → KV μ') : zcV (d + 6) mX9_tellHour [.ref 106, .int hour, .int g] μ KV X := by
  refine cX9_tellHour_ ?_
  unfold pX9_tellHour
  refine R_tellWind hS hG (fun m1 f1 w1 w2 => ⟨n + 1, ?_⟩)
  have f1' : Fr zTell μ m1 := f1.mono fun c j q => by unfold zBlow at q; unfold zTell; omega
  have hI : rI m1 = rI μ := rI_congr fun j => f1 _ _ (by unfold zBlow; omega)
  refine L_tellHour (hS.go fun c j _ _ _ => f1 _ _ (by unfold zBlow; omega)) hn (by rw [f1 _ _ (by unfold zBlow; omega)]; exact hc) n 0 m1 (by omega) Fr.rf w1 w2 (fun i hi => absurd hi (by omega)) (fun μ' f2 g2 => h μ' (f1'.tr f2) ?_)
  rw [← hI]; exact g2
variable {G : zG}
theorem R_isOver {a b : Nat} {x y r : Int32} (hx : x = nI a) (hy : y = nI b) (ha : a < 6) (hb : b < 6) (ga : gAr μ G a) (gb : gAr μ G b) (h : KI (b2i (ov G a b r)) μ) : zcI (d + 2) mX9_isOver [.ref 106, .int x, .int y, .int r] μ KI X := by
  subst hx hy
  refine cX9_isOver_ ?_
  unfold pX9_isOver
  rw [tN_nI (by omega), tN_nI (by omega)]
  refine R_of rfl rfl ha (k := 5) (by omega) (R_of rfl rfl hb (k := 5) (by omega) ⟨vin ha, vin hb, ?_⟩)
  rw [ga.1, gb.1, ga.2.1, gb.2.1, ga.2.2.2, gb.2.2.2]
  refine ⟨fun q => ?_, fun q => ⟨vin ha, vin hb, ?_⟩⟩
  · rw [b2i_f (fun z => z.1 q)] at h; exact h
  · by_cases q2 : (G.2.2.2 a + G.2.2.2 b) + r < zabs (G.2.1 a - G.2.1 b)
    · rw [b2i_f (fun z => z.2 q2)] at h
      rw [if_pos q2]; exact h
    · rw [b2i_t ⟨q, q2⟩] at h
      rw [if_neg q2]; exact h
theorem R_knocks {a b : Nat} {x y : Int32} (hx : x = nI a) (hy : y = nI b) (ha : a < 6) (hb : b < 6) (ga : gAr μ G a) (gb : gAr μ G b) (h : KI (b2i (kn G a b)) μ) : zcI (d + 3) mX9_knocks [.ref 106, .int x, .int y] μ KI X := by
  subst hx hy
  refine cX9_knocks_ ?_
  unfold pX9_knocks
  rw [tN_nI (by omega), tN_nI (by omega)]
  refine R_isOver rfl rfl ha hb ga gb ?_
  rw [ga.2.2.1, gb.2.2.1]
  by_cases q2 : ov G a b 0
  · rw [b2i_t q2]
    refine ⟨fun z => absurd z (by decide), fun _ => ⟨vin ha, vin hb, ?_⟩⟩
    by_cases q : 1 < zabs (G.2.2.1 a - G.2.2.1 b)
    · rw [b2i_f (fun z => z.2 q)] at h
      rw [if_pos q]; exact h
    · rw [b2i_t ⟨q2, q⟩] at h
      rw [if_neg q]; exact h
  · rw [b2i_f (fun z => q2 z.1)] at h
    rw [b2i_f q2]
    exact ⟨fun _ => h, fun z => absurd rfl z⟩
theorem R_isShaded {a b : Nat} {x y : Int32} (hx : x = nI a) (hy : y = nI b) (ha : a < 6) (hb : b < 6) (ga : gAr μ G a) (gb : gAr μ G b) (h : KI (b2i (sh G a b)) μ) : zcI (d + 3) mX9_isShaded [.ref 106, .int x, .int y] μ KI X := by
  subst hx hy
  refine cX9_isShaded_ ?_
  unfold pX9_isShaded
  rw [tN_nI (by omega), tN_nI (by omega)]
  refine R_isOver rfl rfl ha hb ga gb ?_
  rw [ga.2.2.1, gb.2.2.1]
  by_cases q2 : ov G a b 0
  · rw [b2i_t q2]
    refine ⟨fun z => absurd z (by decide), fun _ => ⟨vin hb, vin ha, ?_⟩⟩
    by_cases q : G.2.2.1 b < G.2.2.1 a + 2
    · rw [b2i_f (fun z => z.2 q)] at h
      rw [if_pos q]; exact h
    · rw [b2i_t ⟨q2, q⟩] at h
      rw [if_neg q]; exact h
  · rw [b2i_f (fun z => q2 z.1)] at h
    rw [b2i_f q2]
    exact ⟨fun _ => h, fun z => absurd rfl z⟩
theorem R_isBridge {a b : Nat} {x y r : Int32} (hx : x = nI a) (hy : y = nI b) (ha : a < 6) (hb : b < 6) (hr : μ 110 3 = r) (ga : gAr μ G a) (gb : gAr μ G b) (h : KI (b2i (bri G a b r)) μ) : zcI (d + 3) mX9_isBridge [.ref 106, .int x, .int y] μ KI X := by
  subst hx hy
  refine cX9_isBridge_ ?_
  unfold pX9_isBridge
  rw [tN_nI (by omega), tN_nI (by omega), hr]
  refine R_isOver rfl rfl ha hb ga gb ?_
  rw [ga.2.2.1, gb.2.2.1, hr]
  by_cases q2 : ov G a b r
  · rw [b2i_t q2]
    refine ⟨fun z => absurd z (by decide), fun _ => ⟨vin ha, vin hb, ?_⟩⟩
    by_cases q : r < zabs (G.2.2.1 a - G.2.2.1 b)
    · rw [b2i_f (fun z => z.2 q)] at h
      rw [if_pos q]; exact h
    · rw [b2i_t ⟨q2, q⟩] at h
      rw [if_neg q]; exact h
  · rw [b2i_f (fun z => q2 z.1)] at h
    rw [b2i_f q2]
    exact ⟨fun _ => h, fun z => absurd rfl z⟩
theorem L_kd16 {n a : Nat} {C : Int32 → zMem → Prop} (hn : n ≤ 6) (hc : μ 110 0 = nI n) (ha : a < n) (hg : ∀ i, i < n → gAr μ G i) : ∀ (m b : Nat), b + m = n → (match fkI G m a b with
    | some v => KI v μ
    | none => C (nI (a + 1)) μ) → pX9_knocked_16 (m + 1) (d + 3) (nI a) (nI b) μ KI X C := by
  intro m
  induction m with
  | zero =>
    intro b hb h
    refine ⟨fun _ v hv => by rw [hv, nI_1]; exact h, fun q => absurd ?_ q⟩
    rw [hc]; exact (n_le (by omega) (by omega)).mpr (by omega)
  | succ m ih =>
    intro b hb h
    refine ⟨fun q => absurd q (by rw [hc, n_le (by omega) (by omega)]; omega), fun _ => R_knocks rfl rfl (by omega) (by omega) (hg a ha) (hg b (by omega)) ?_⟩
    by_cases q : kn G a b
    · rw [b2i_t q]
      refine ⟨fun z => absurd z (by decide), fun _ => ?_⟩
      unfold fkI at h
      rw [if_pos q] at h
      exact h
    · rw [b2i_f q]
      refine ⟨fun _ v hv => ?_, fun z => absurd rfl z⟩
      rw [hv, nI_1]
      refine ih (b + 1) (by omega) ?_
      unfold fkI at h
      rw [if_neg q] at h
      exact h
theorem L_kd2 {n : Nat} (hn : n ≤ 6) (hc : μ 110 0 = nI n) (hg : ∀ i, i < n → gAr μ G i) : ∀ (m a : Nat), a + m = n → KI (fkO G n m a) μ → pX9_knocked_2 (m + 1) (d + 3) (nI a) μ KI X := by
  intro m
  induction m with
  | zero =>
    intro a ha h
    exact ⟨fun _ => h, fun q => absurd (by rw [hc]; exact (n_le (by omega) (by omega)).mpr (by omega)) q⟩
  | succ m ih =>
    intro a ha h
    refine ⟨fun q => absurd q (by rw [hc, n_le (by omega) (by omega)]; omega), fun _ => ⟨m + 1, ?_⟩⟩
    rw [nI_1]
    refine L_kd16 hn hc (by omega) hg m (a + 1) (by omega) ?_
    unfold fkO at h
    rw [show n - (a + 1) = m by omega] at h
    cases e : fkI G m a (a + 1) with
    | some v => rw [e] at h; exact h
    | none => rw [e] at h; exact ih (a + 1) (by omega) h
theorem R_knocked {n : Nat} (hn : n ≤ 6) (hc : μ 110 0 = nI n) (hg : ∀ i, i < n → gAr μ G i) (h : KI (fk G n) μ) : zcI (d + 4) mX9_knocked [.ref 106] μ KI X := by
  refine cX9_knocked_ ⟨n + 1, ?_⟩
  exact L_kd2 hn hc hg n 0 (by omega) h
theorem L_rainOf {n i : Nat} (hn : n ≤ 6) (hc : μ 110 0 = nI n) (hi : i < n) (hg : ∀ i, i < n → gAr μ G i) : ∀ (m k : Nat) (a : Option Nat), k + m = n → (∀ c, a = some c → c < n) → KI (oI (rnS G i m k a)) μ → pX9_rainOf_4 (m + 1) (d + 3) (nI i) (oI a) (nI k) μ KI X := by
  intro m
  induction m with
  | zero =>
    intro k a hk ha h
    exact ⟨fun _ => h, fun q => absurd (by rw [hc]; exact (n_le (by omega) (by omega)).mpr (by omega)) q⟩
  | succ m ih =>
    intro k a hk ha h
    have step : ∀ a', rnC G i k a = a' → ∀ v, v = nI k + 1 → pX9_rainOf_4 (m + 1) (d + 3) (nI i) (oI a') v μ KI X := by
      intro a' e v hv
      rw [hv, nI_1]
      refine ih (k + 1) a' (by omega) (by rw [← e]; exact rnC_lt (by omega) ha) ?_
      rw [← e]; exact h
    refine ⟨fun q => absurd q (by rw [hc, n_le (by omega) (by omega)]; omega), fun _ => ⟨fun q v hv => step a ?_ v hv, fun q => ?_⟩⟩
    · rw [n_eq (by omega) (by omega)] at q
      unfold rnC; rw [if_pos q]
    · have q1 : ¬ k = i := fun z => q (by rw [z])
      refine R_isShaded rfl rfl (by omega) (by omega) (hg i hi) (hg k (by omega)) ?_
      by_cases q2 : sh G i k
      · rw [b2i_t q2]
        refine ⟨fun z => absurd z (by decide), fun _ => ?_⟩
        cases a with
        | none => exact ⟨fun _ v hv => step (some k) (by unfold rnC; rw [if_neg q1, if_pos q2]) v hv, fun z => absurd rfl z⟩
        | some c =>
          have hcl := ha c rfl
          refine ⟨fun z => absurd z (oI_n (by omega)), fun _ => ⟨vin (by omega), vin (by omega), ?_⟩⟩
          show (μ 122 (nI c).toNatClampNeg ≤ μ 122 (nI k).toNatClampNeg → _) ∧ (¬ μ 122 (nI c).toNatClampNeg ≤ μ 122 (nI k).toNatClampNeg → _)
          rw [tN_nI (by omega), tN_nI (by omega), (hg c hcl).2.2.1, (hg k (by omega)).2.2.1]
          refine ⟨fun q3 v hv => step (some c) (by unfold rnC; rw [if_neg q1, if_pos q2]; exact if_pos q3) v hv, fun q3 v hv => step (some k) (by unfold rnC; rw [if_neg q1, if_pos q2]; exact if_neg q3) v hv⟩
      · rw [b2i_f q2]
        exact ⟨fun _ v hv => step a (by unfold rnC; rw [if_neg q1, if_neg q2]) v hv, fun z => absurd rfl z⟩
theorem R_rainOf {n i : Nat} {x : Int32} (hx : x = nI i) (hn : n ≤ 6) (hc : μ 110 0 = nI n) (hi : i < n) (hg : ∀ i, i < n → gAr μ G i) (h : KI (oI (rn G i n)) μ) : zcI (d + 4) mX9_rainOf [.ref 106, .int x] μ KI X := by
  subst hx
  refine cX9_rainOf_ ⟨n + 1, ?_⟩
  exact L_rainOf hn hc hi hg n 0 none (by omega) (fun c hc => by cases hc) h
theorem L_lowerR {n i : Nat} (hn : n ≤ 6) (hc : μ 110 0 = nI n) (hi : i < n) (hg : ∀ i, i < n → gAr μ G i) : ∀ (m k : Nat) (a : Int32), k + m = n → KI (lwS G i m k a) μ → pX9_lower_4 (m + 1) d (nI i) a (nI k) μ KI X := by
  intro m
  induction m with
  | zero =>
    intro k a hk h
    exact ⟨fun _ => h, fun q => absurd (by rw [hc]; exact (n_le (by omega) (by omega)).mpr (by omega)) q⟩
  | succ m ih =>
    intro k a hk h
    refine ⟨fun q => absurd q (by rw [hc, n_le (by omega) (by omega)]; omega), fun _ => ⟨vin (by omega), vin (by omega), ?_⟩⟩
    rw [tN_nI (by omega), tN_nI (by omega), (hg i hi).2.2.1, (hg k (by omega)).2.2.1]
    unfold lwS at h
    intro v1 e1 v2 e2
    rw [e2, nI_1, e1]
    exact ih (k + 1) _ (by omega) h
theorem R_lower {n i : Nat} {x : Int32} (hx : x = nI i) (hn : n ≤ 6) (hc : μ 110 0 = nI n) (hi : i < n) (hg : ∀ i, i < n → gAr μ G i) (h : KI (lwS G i n 0 0) μ) : zcI (d + 1) mX9_lower [.ref 106, .int x] μ KI X := by
  subst hx
  refine cX9_lower_ ⟨n + 1, ?_⟩
  exact L_lowerR hn hc hi hg n 0 0 (by omega) h
end Ref2
