def SkyR (μ : zMem) (S : zSky) : Prop := S.1 ≤ 12 ∧ μ 110 1 = nI S.1 ∧ (∀ j, j < S.1 → μ 112 j = S.2.1 j ∧ μ 113 j = S.2.2.1 j ∧ μ 114 j = S.2.2.2.1 j) ∧ S.2.2.2.2.1 ≤ 700 ∧ μ 110 9 = nI S.2.2.2.2.1 ∧ (∀ j, j < S.2.2.2.2.1 → μ 115 j = S.2.2.2.2.2 j) ∧ (S.2.2.2.2.1 = 0 ∨ wfS S.2.2.2.2.2 S.2.2.2.2.1 0 0)
/-- the winds' hours are hours, and differ -/
def SkyG (S : zSky) : Prop := (∀ j, j < S.1 → 0 ≤ (S.2.1 j).toInt) ∧ ∀ i j, i < S.1 → j < S.1 → S.2.1 i = S.2.1 j → i = j
theorem SkyR.go {μ μ' : zMem} {S : zSky} (h : SkyR μ S) (e : ∀ c j, 110 ≤ c → c ≤ 115 → c ≠ 111 → μ' c j = μ c j) : SkyR μ' S := by
  obtain ⟨h1, h2, h3, h4, h5, h6, h7⟩ := h
  refine ⟨h1, by rw [e _ _ (by omega) (by omega) (by omega)]; exact h2, fun j hj => ?_, h4, by rw [e _ _ (by omega) (by omega) (by omega)]; exact h5, fun j hj => by rw [e _ _ (by omega) (by omega) (by omega)]; exact h6 j hj, h7⟩
  rw [e _ _ (by omega) (by omega) (by omega), e _ _ (by omega) (by omega) (by omega), e _ _ (by omega) (by omega) (by omega)]
  exact h3 j hj
theorem n14 (i k : Nat) : (14 * nI i) + nI k = nI (14 * i + k) := by
  rw [show (14 : Int32) = nI 14 from rfl, pk_mul, nI_add]
section RefCore
variable {d : Nat} {μ : zMem} {KI : Int32 → zMem → Prop} {KV : zMem → Prop} {X : Nat → zMem → Prop}
theorem R_of {i k : Nat} {x y : Int32} (hx : x = nI i) (hy : y = nI k) (hi : i < 6) (hk : k < 14) (h : KI (rI μ i k) μ) : zcI (d + 1) mX9_of [.ref 106, .int x, .int y] μ KI X := by
  subst hx hy
  refine cX9_of_ ?_
  unfold pX9_of
  rw [n14, tN_nI (by omega)]
  exact ⟨vin (by omega), h⟩
theorem R_weightOf {i : Nat} {x : Int32} (hx : x = nI i) (hi : i < 6) (h : KI (sWgt (rI μ) i) μ) : zcI (d + 2) mX9_weightOf [.ref 106, .int x] μ KI X := by
  subst hx
  refine cX9_weightOf_ ?_
  unfold pX9_weightOf
  refine R_of rfl rfl hi (k := 6) (by omega) (R_of rfl rfl hi (k := 7) (by omega) (R_of rfl rfl hi (k := 8) (by omega) (R_of rfl rfl hi (k := 0) (by omega) ?_)))
  exact h
theorem R_lineOf {i : Nat} {x : Int32} (hx : x = nI i) (hi : i < 6) (h : KI (sLin (rI μ) i) μ) : zcI (d + 2) mX9_lineOf [.ref 106, .int x] μ KI X := by
  subst hx
  refine cX9_lineOf_ ?_
  unfold pX9_lineOf
  refine R_of rfl rfl hi (k := 3) (by omega) (R_of rfl rfl hi (k := 9) (by omega) ?_)
  exact h
theorem R_floats {i : Nat} {x : Int32} (hx : x = nI i) (hi : i < 6) (h : KI (b2i (sFlo (rI μ) i)) μ) : zcI (d + 3) mX9_floats [.ref 106, .int x] μ KI X := by
  subst hx
  refine cX9_floats_ ?_
  unfold pX9_floats
  refine R_of rfl rfl hi (k := 4) (by omega) (R_weightOf rfl hi ⟨fun q => ?_, fun q => R_lineOf rfl hi ?_⟩)
  · rw [b2i_f (fun z => absurd q ((i_nle _ _).mpr z.1))] at h; exact h
  · have q := (i_nle _ _).mp q
    by_cases q2 : sLin (rI μ) i ≤ 0
    · rw [b2i_f (fun z => absurd q2 ((i_nle _ _).mpr z.2))] at h
      rw [if_pos q2]; exact h
    · rw [b2i_t ⟨q, (i_nle _ _).mp q2⟩] at h
      rw [if_neg q2]; exact h
theorem L_valueNow {μ0 : zMem} {T V : Nat → Int32} {N : Nat} (hN : N ≤ 700) (hc : μ0 110 9 = nI N) (hT : ∀ k, k < N → μ0 115 k = T k) (hV : ∀ k, k < 8 → μ0 118 k = V k) :
    ∀ (m k h : Nat) (s : Nat → Int32) (μ : zMem), k + m = N → wfS T m k h → h ≤ 40 → (∀ j, j < h → μ 119 j = s j) → Fr (fun c _ => c = 119) μ0 μ →
      (∀ μ', Fr (fun c _ => c = 119) μ0 μ' → KI (evS V T m k h s) μ') → pX9_valueNow_4 (m + 1) (d + 1) (nI h) (nI k) μ KI X := by
  intro m
  induction m with
  | zero =>
    intro k h s μ hk hw hh hs hf hK
    have hcc : μ 110 9 = nI N := by rw [hf _ _ (by omega)]; exact hc
    refine ⟨fun _ => ?_, fun q => absurd ?_ q⟩
    · have h1 : 1 ≤ h := hw
      have := hK μ hf
      show KI (μ 119 0) μ
      rw [hs 0 (by omega)]; exact this
    · rw [hcc]; exact (n_le (by omega) (by omega)).mpr (by omega)
  | succ m ih =>
    intro k h s μ hk hw hh hs hf hK
    have hcc : μ 110 9 = nI N := by rw [hf _ _ (by omega)]; exact hc
    have hlt : ¬ μ 110 9 ≤ nI k := by rw [hcc, n_le (by omega) (by omega)]; omega
    have hTk : μ 115 k = T k := by rw [hf _ _ (by omega)]; exact hT k (by omega)
    refine ⟨fun q => absurd q hlt, fun _ => ⟨vin (by omega), fun v hv => ?_⟩⟩
    rw [tN_nI (by omega), hTk] at hv
    subst hv
    have go : ∀ (h' : Nat) (s' : Nat → Int32) (μ' : zMem), wfS T m (k + 1) h' → h' ≤ 40 → (∀ j, j < h' → μ' 119 j = s' j) → Fr (fun c _ => c = 119) μ0 μ' → evS V T (m + 1) k h s = evS V T m (k + 1) h' s' → ∀ y x, y = nI h' → x = nI k + 1 → pX9_valueNow_4 (m + 1) (d + 1) y x μ' KI X := by
      intro h' s' μ' w1 w2 w3 w4 w5 y x ey ex
      rw [ey, ex, nI_1]
      exact ih (k + 1) h' s' μ' (by omega) w1 w2 w3 w4 (fun μ9 h9 => by rw [← w5]; exact hK μ9 h9)
    rcases hw with ⟨w1, w2, w3⟩ | ⟨w1, w2, w3⟩ | ⟨w1, w2, w3⟩
    · obtain ⟨a1, a2, a3, a4⟩ := va_op w1
      have push : ∀ (w : Int32), w = (if T k < 0 then V (-1 - T k).toNatClampNeg else T k) → pX9_valueNow_49 (d + 1) (nI h) (nI k) w (nI h) μ KI X (fun z0 z1 m9 => pX9_valueNow_4 (m + 1) (d + 1) z0 z1 m9 KI X) := by
        intro w hw
        refine ⟨vin (by omega), fun m1 e1 v2 e2 v3 e3 => ?_⟩
        rw [tN_nI (by omega)] at e1
        refine go (h + 1) (upd s h w) m1 w3 (by omega) ?_ (by rw [e1]; exact hf.tr (Fr.w rfl)) ?_ v2 v3 (by rw [e2, nI_1]) e3
        · intro j hj
          rw [e1]
          by_cases hjh : j = h
          · subst hjh; rw [zw_s]; unfold upd; rw [if_pos rfl]
          · rw [zw_j hjh]; unfold upd; rw [if_neg hjh]; exact hs j (by omega)
        · rw [hw]
          show (if -9 < T k then _ else _) = _
          exact if_pos w1
      refine ⟨fun q => absurd q a1, fun _ => ⟨fun q => ?_, fun q => ?_⟩⟩
      · obtain ⟨j, hj, ej⟩ := va_neg w1 q
        rw [ej, tN_nI (by omega)]
        refine ⟨vin hj, push _ ?_⟩
        rw [if_pos q, ej, tN_nI (by omega), hf _ _ (by omega)]; exact hV j hj
      · exact push _ (by rw [if_neg q])
    · rw [w1]
      refine ⟨fun _ => ⟨fun _ => ?_, fun q => absurd rfl q⟩, fun q => absurd (by decide) q⟩
      rw [n_m1 w2, tN_nI (by omega)]
      refine ⟨vin (by omega), vin (by omega), fun m1 e1 v2 e2 => ?_⟩
      refine go h (upd s (h - 1) (ntS (s (h - 1)))) m1 w3 hh ?_ (by rw [e1]; exact hf.tr (Fr.w rfl)) ?_ _ v2 rfl e2
      · intro j hj
        rw [e1]
        by_cases hjh : j = h - 1
        · subst hjh; rw [zw_s, hs _ hj]; unfold upd ntS; rw [if_pos rfl]
        · rw [zw_j hjh]; unfold upd; rw [if_neg hjh]; exact hs j hj
      · show (if -9 < T k then _ else if T k = -28 then _ else _) = _
        rw [if_neg (by rw [w1]; decide), if_pos w1]
    · obtain ⟨b1, b2, b3⟩ := op_va w1
      refine ⟨fun _ => ⟨fun q => absurd q b2, fun _ v2 e2 => ?_⟩, fun q => absurd b3 q⟩
      rw [n_p, n_m1 (by omega)] at e2
      subst e2
      rw [n_m1 (by omega), tN_nI (by omega), tN_nI (by omega)]
      refine ⟨vin (by omega), vin (by omega), C_reckon w1 ⟨vin (by omega), fun m5 e5 v6 e6 => ?_⟩⟩
      refine go (h - 1) (upd s (h - 2) (jnS (T k) (s (h - 2)) (s (h - 1)))) m5 w3 (by omega) ?_ (by rw [e5]; exact hf.tr (Fr.w rfl)) ?_ _ v6 rfl e6
      · intro j hj
        rw [e5]
        have e8 : h - 1 - 1 = h - 2 := by omega
        rw [e8, hs _ (by omega), hs _ (by omega)]
        by_cases hjh : j = h - 2
        · subst hjh; rw [zw_s]; unfold upd; rw [if_pos rfl]
        · rw [zw_j hjh]; unfold upd; rw [if_neg hjh]; exact hs j (by omega)
      · show (if -9 < T k then _ else if T k = -28 then _ else _) = _
        rw [if_neg b1, if_neg b2]
theorem R_valueNow {T V : Nat → Int32} {N : Nat} (hN : N ≤ 700) (hc : μ 110 9 = nI N) (hT : ∀ k, k < N → μ 115 k = T k) (hV : ∀ k, k < 8 → μ 118 k = V k) (hw : wfS T N 0 0)
    (hK : ∀ μ', Fr (fun c _ => c = 119) μ μ' → KI (evS V T N 0 0 (fun _ => 0)) μ') : zcI (d + 2) mX9_valueNow [.ref 106] μ KI X := by
  refine cX9_valueNow_ ⟨N + 1, ?_⟩
  exact L_valueNow hN hc hT hV N 0 0 _ μ (by omega) hw (by omega) (fun j hj => absurd hj (by omega)) Fr.rf hK
theorem rI_congr {μ μ' : zMem} (h : ∀ j, μ' 111 j = μ 111 j) : rI μ' = rI μ := by
  funext i k; exact h _
def zAsk (c _j : Nat) : Prop := c = 118 ∨ c = 119
theorem R_pushOf {S : zSky} {i : Nat} {x hour g : Int32} (hS : SkyR μ S) (hx : x = nI i) (hi : i < 6)
    (h : ∀ μ', Fr zAsk μ μ' → KI (sPsh S (rI μ) i hour g) μ') : zcI (d + 4) mX9_pushOf [.ref 106, .int x, .int hour, .int g] μ KI X := by
  subst hx
  obtain ⟨h1, h2, h3, h4, h5, h6, h7⟩ := hS
  refine cX9_pushOf_ ?_
  unfold pX9_pushOf
  have tail : ∀ (y : Int32) (μ1 : zMem), Fr zAsk μ μ1 → y = sPv S (rI μ) i hour → pX9_pushOf_124 (d + 3) (nI i) g y μ1 KI X := by
    intro y μ1 hf hy v1 e1
    have hI : rI μ1 = rI μ := rI_congr fun j => hf _ _ (by unfold zAsk; omega)
    refine R_of rfl rfl hi (k := 0) (by omega) ?_
    rw [hI]
    have e4 : v1 = sPw S (rI μ) i hour g := by rw [e1, hy]; rfl
    have hh := h μ1 hf
    unfold sPsh at hh
    rw [← e4] at hh
    refine ⟨fun q => ?_, fun q => ?_⟩
    · rw [if_pos q] at hh; exact hh
    · rw [if_neg q] at hh; exact hh
  rw [h5]
  refine ⟨fun q => ?_, fun q => ?_⟩
  · have e0 : S.2.2.2.2.1 = 0 := by
      rw [show (0 : Int32) = nI 0 from rfl, n_le (by omega) (by omega)] at q; omega
    exact tail 50 μ Fr.rf (by unfold sPv; rw [if_pos e0])
  · have e0 : ¬ S.2.2.2.2.1 = 0 := fun z => q (by rw [z]; decide)
    refine R_of rfl rfl hi (k := 4) (by omega) (fun m3 e3 => R_weightOf rfl hi (fun m6 e6 => R_of rfl rfl hi (k := 3) (by omega) (fun m9 e9 => R_of rfl rfl hi (k := 9) (by omega) (fun m12 e12 => R_of rfl rfl hi (k := 6) (by omega) (fun m15 e15 m16 e16 m17 e17 => R_of rfl rfl hi (k := 5) (by omega) (fun m20 e20 => ?_))))))
    have f : ∀ c j, c ≠ 118 → m20 c j = μ c j := by
      intro c j hc
      rw [e20, zw_c hc, e17, zw_c hc, e16, zw_c hc, e15, zw_c hc, e12, zw_c hc, e9, zw_c hc, e6, zw_c hc, e3, zw_c hc]
    have g3 : rI m3 = rI μ := rI_congr fun j => by rw [e3, zw_c (by omega)]
    have g6 : rI m6 = rI μ := by rw [← g3]; exact rI_congr fun j => by rw [e6, zw_c (by omega)]
    have g9 : rI m9 = rI μ := by rw [← g6]; exact rI_congr fun j => by rw [e9, zw_c (by omega)]
    have g12 : rI m12 = rI μ := by rw [← g9]; exact rI_congr fun j => by rw [e12, zw_c (by omega)]
    have g15 : rI m15 = rI μ := by rw [← g12]; exact rI_congr fun j => by rw [e15, zw_c (by omega)]
    have g17 : rI m17 = rI μ := by rw [← g15]; exact rI_congr fun j => by rw [e17, zw_c (by omega), e16, zw_c (by omega)]
    have hV : ∀ k, k < 8 → m20 118 k = vS (rI μ) i hour k := by
      intro k hk
      have hk8 : k = 0 ∨ k = 1 ∨ k = 2 ∨ k = 3 ∨ k = 4 ∨ k = 5 ∨ k = 6 ∨ k = 7 := by omega
      rcases hk8 with rfl | rfl | rfl | rfl | rfl | rfl | rfl | rfl
      · rw [e20, zw_j (by omega), e17, zw_j (by omega), e16, zw_j (by omega), e15, zw_j (by omega), e12, zw_j (by omega), e9, zw_j (by omega), e6, zw_j (by omega), e3, zw_s]; rfl
      · rw [e20, zw_j (by omega), e17, zw_j (by omega), e16, zw_j (by omega), e15, zw_j (by omega), e12, zw_j (by omega), e9, zw_j (by omega), e6, zw_s, g3]; rfl
      · rw [e20, zw_j (by omega), e17, zw_j (by omega), e16, zw_j (by omega), e15, zw_j (by omega), e12, zw_j (by omega), e9, zw_s, g6]; rfl
      · rw [e20, zw_j (by omega), e17, zw_j (by omega), e16, zw_j (by omega), e15, zw_j (by omega), e12, zw_s, g9]; rfl
      · rw [e20, zw_j (by omega), e17, zw_j (by omega), e16, zw_j (by omega), e15, zw_s, g12]; rfl
      · rw [e20, zw_j (by omega), e17, zw_j (by omega), e16, zw_s]; rfl
      · rw [e20, zw_j (by omega), e17, zw_s]; rfl
      · rw [e20, zw_s, g17]; rfl
    refine R_valueNow h4 (by rw [f _ _ (by omega)]; exact h5) (fun k hk => by rw [f _ _ (by omega)]; exact h6 k hk) hV (h7.resolve_left e0) (fun μ' hf v23 e23 => tail v23 μ' ?_ ?_)
    · intro c j hcj
      unfold zAsk at hcj
      rw [hf c j (by omega)]; exact f c j (by omega)
    · rw [e23]; unfold sPv; rw [if_neg e0]
end RefCore
