/-! a call of the class and the same call of the reference -/
def z143 (c _j : Nat) : Prop := c = 143
def zNo : Nat → zMem → Prop := fun _ _ => False
def c12 : Nat → Int32
  | 0 => 1
  | _ => 2
def c11 : Nat → Int32
  | 0 => 0
  | _ => 1
def c00 : Nat → Int32 := fun _ => 0
def c10 : Nat → Int32
  | 0 => 1
  | _ => 0
def PI (d : Nat) (mC mR : zMD) (aC aR : List Value) (code : Nat → Int32) (μ : zMem) : Prop := ∀ (KI : Int32 → zMem → Prop) (X : Nat → zMem → Prop),
  (∀ v m1, Fr zCls μ m1 → (∀ m2, Fr z143 m1 m2 → zcI d mR aR m2 (fun v' m3 => m3 106 3 = 0 ∧ v' = v ∧ QI m3 ∧ Fr zRef m2 m3) zNo) → KI v m1) →
  (∀ E m1, Fr zCls μ m1 → (∀ m2, Fr z143 m1 m2 → zcI d mR aR m2 (fun _ m3 => m3 106 3 = code E ∧ QI m3 ∧ Fr zRef m2 m3) zNo) → ¬ code E = 0 → X E m1) → zcI d mC aC μ KI X
section Pair
variable {d : Nat} {μ : zMem} {KI : Int32 → zMem → Prop} {KV : zMem → Prop} {X : Nat → zMem → Prop} {n : Nat} {S : zSky} {D : Nat → Int32} {tn : Nat} {tb : Nat → Int32} {F : Int32} {T : zT} {K : Option (Nat → Int32)} {M : Option zT}
theorem QR.r {m1 m2 : zMem} (h : QR μ n S D tn tb F T K M) (f : Fr zCls μ m1) (g : Fr z143 m1 m2) : QR m2 n S D tn tb F T K M :=
  h.go fun c j h1 h2 _ => by rw [g _ _ (by unfold z143; omega), f _ _ (by unfold zCls; omega)]
theorem QC.r {m1 m2 m3 : zMem} (h : QC m1 n S D tn tb F T K M) (g : Fr z143 m1 m2) (f : Fr zRef m2 m3) : QC m3 n S D tn tb F T K M :=
  h.go fun c j h1 _ => by rw [f _ _ (by unfold zRef; omega), g _ _ (by unfold z143; omega)]
theorem QC.q {m1 : zMem} (h : QC μ n S D tn tb F T K M) (f : Fr zScC μ m1) : QC m1 n S D tn tb F T K M := h.go fun c j _ z => f _ _ z
theorem QR.q {m1 : zMem} (h : QR μ n S D tn tb F T K M) (f : Fr zScR μ m1) : QR m1 n S D tn tb F T K M := h.go fun c j _ _ z => f _ _ z
/-- both sides told, nothing changed -/
theorem QS.q {m1 m2 m3 : zMem} (h : QS μ n S D tn tb F T K M) (f : Fr zScC μ m1) (g : Fr z143 m1 m2) (f2 : Fr zScR m2 m3) : QI m3 ∧ Fr zRef m2 m3 :=
  ⟨⟨n, S, D, tn, tb, F, T, K, M, h.1, (h.2.1.q f).r g (zScR_r f2), (h.2.2.r (zScC_c f) g).q f2⟩, zScR_r f2⟩
theorem zTell_q {m1 m2 : zMem} (f : Fr zTell m1 m2) : Fr zScR m1 m2 := f.mono fun c j q => by unfold zTell at q; unfold zScR; omega
theorem zTell_c {m1 m2 : zMem} (f : Fr zTell m1 m2) : m2 106 3 = m1 106 3 := f _ _ (by unfold zTell; omega)
theorem code_q {x : Int32} : Fr zScR μ (zw μ 106 3 x) := Fr.w (by unfold zScR; omega)
theorem QW.n6 (h : QW n S D tn T K M) : n ≤ 6 := h.1
theorem QC.cn (h : QC μ n S D tn tb F T K M) : μ 47 0 = nI n := h.2.2.2.1.1.1
theorem QC.I (h : QC μ n S D tn tb F T K M) : IsC μ 47 n T.1 := h.2.2.2.1.1
theorem QR.cn (h : QR μ n S D tn tb F T K M) : μ 110 0 = nI n := h.1.1
theorem QR.I (h : QR μ n S D tn tb F T K M) : IsR μ n T.1 := ⟨h.1.1, fun i hi k hk => h.2.2.2.1.1 i hi k hk⟩
theorem QW.rK (h : QW n S D tn T K M) {i : Nat} (hi : i < n) : rowK T.1 i := h.2.2.2.2.2.1.2.2.2.1 i hi
theorem QW.rB (h : QW n S D tn T K M) {i : Nat} (hi : i < n) : rowB T.1 i := (h.rK hi).b
theorem QW.zsm (h : QW n S D tn T K M) {i : Nat} {hour g : Int32} (hi : i < n) (hg : gst g) : zsm (sZ S T.1 i hour g) := sZ_zsm h.2.2.1 (h.rB hi) hg
theorem AirS.c {S : zSky} {I J : zI} {i s : Nat} {hh g : Int32} (h : AirS μ S I i s hh g) (e : rowE I J i) : AirS μ S J i s hh g :=
  ⟨by rw [h.1, sX_c e], by rw [h.2.1, sY_c e], by rw [h.2.2.1, sZ_c e], by rw [h.2.2.2.1, sP_c e], by rw [h.2.2.2.2, e 5 (by omega)]⟩
theorem C_putNow {i : Nat} {hour g : Int32} (hW : QW n S D tn T K M) (hC : QC μ n S D tn tb F T K M) (hi : i < n) (h : ∀ μ', Fr zScC μ μ' → Fr (zPut (zsk μ 0 4) i) μ μ' → AirS μ' S T.1 i i hour g → KV μ') :
    zcV (d + 5) mX0_put [.ref 92, .ref (zsk μ 0 4), .ref 47, .int (nI i), .int (nI i), .int hour, .int g] μ KV X := by
  have sr := sky_rng (zsk_sh μ 0 4)
  have n6 := hW.1
  refine C_put (zsk_sh μ 0 4) (by decide +kernel) hC.1.1 hC.cn n6 rfl hi rfl (by omega) (fun μ' f a => h μ' (f.mono fun c j q => ?_) f (a.c (hC.I.2 i hi)))
  unfold zPut at q; unfold zScC; omega
theorem zAir_q {m1 m2 : zMem} (f : Fr zAir m1 m2) : Fr zScC m1 m2 := f.mono fun c j q => by unfold zAir at q; unfold zScC; omega
theorem C_blowNow {hour g : Int32} (hW : QW n S D tn T K M) (hC : QC μ n S D tn tb F T K M) (h : ∀ μ', Fr zAir μ μ' → (∀ i, i < n → gAt μ' (sG S T.1 hour g) i) → KV μ') :
    zcV (d + 6) mX8_blow [.ref 0, .ref 47, .int hour, .int g] μ KV X := C_blow (by decide +kernel) hC.1.1 hC.I hW.1 h
theorem R_hourNow {hour g : Int32} (hW : QW n S D tn T K M) (hR : QR μ n S D tn tb F T K M) (h : ∀ μ', Fr zTell μ μ' → (∀ i, i < n → gAr μ' (sG S T.1 hour g) i) → KV μ') :
    zcV (d + 6) mX9_tellHour [.ref 106, .int hour, .int g] μ KV X := R_hour hR.1.2.1 hW.2.1 hW.1 hR.I h
/-! fault -/
theorem P_fault (h : QS μ n S D tn tb F T K M) : PI (d + 2) mX8_fault mX9_fault [.ref 0] [.ref 106] c00 μ := by
  intro KI X hK hX
  refine cX8_fault_ (hK _ _ Fr.rf (fun m2 g => cX9_fault_ (fun m3 e3 => ⟨by rw [e3, zw_s], ?_, ?_⟩)))
  · have hR := h.2.2.r (Fr.rf (P := zCls)) g
    rw [e3, zw_j (by omega), hR.2.2.1, h.2.1.2.2.1]
  · rw [e3]; exact h.q Fr.rf g code_q
/-! wind -/
theorem C_wind {x1 x2 : Int32} (hC : QC μ n S D tn tb F T K M) (h0 : ¬ (vHr x1 ∧ vWh 2 x2) → X 0 μ) (h1 : vHr x1 → vWh 2 x2 → KI (if x2 = 0 then sWx S.2.2.1 S.2.1 S.1 x1 else sWx S.2.2.2.1 S.2.1 S.1 x1) μ) : zcI (d + 3) mX8_wind [.ref 0, .int x1, .int x2] μ KI X := by
  refine cX8_wind_ (C_needHour (fun q => h0 fun z => q z.1) (fun q1 => C_needWhat (m := 2) (by decide) (fun q => h0 fun z => q z.2) (fun q2 => ?_)))
  have hh := h1 q1 q2
  refine ⟨fun q => C_windX' (zsk_sh μ 0 4) hC.1.1 ?_, fun q => C_windY' (zsk_sh μ 0 4) hC.1.1 ?_⟩
  · rw [if_pos q] at hh; exact hh
  · rw [if_neg q] at hh; exact hh
theorem R_wind {x1 x2 : Int32} (hW : QW n S D tn T K M) (hR : QR μ n S D tn tb F T K M) (h0 : ¬ (vHr x1 ∧ vWh 2 x2) → ∀ m, Fr zScR μ m → m 106 3 = 1 → KI 0 m) (h1 : vHr x1 → vWh 2 x2 → ∀ m, Fr zScR μ m → m 106 3 = 0 → KI (if x2 = 0 then sWx S.2.2.1 S.2.1 S.1 x1 else sWx S.2.2.2.1 S.2.1 S.1 x1) m) : zcI (d + 3) mX9_wind [.ref 106, .int x1, .int x2] μ KI X := by
  refine cX9_wind_ (fun m1 e1 => ?_)
  have f1 : Fr zScR μ m1 := by rw [e1]; exact code_q
  have bad : ¬ (vHr x1 ∧ vWh 2 x2) → pX9_wind_21 (d + 2) m1 KI X := fun q => R_fail (fun m e => h0 q m (f1.tr (by rw [e]; exact code_q)) (by rw [e, zw_s]))
  have hR1 := hR.q f1
  refine R_isHour (b2i_go (fun q => bad fun z => q z.1) (fun q1 => ?_))
  rw [i_lt, i_le, i_0, i_1]
  refine ⟨fun q => bad fun z => by have := z.2; unfold vWh at this; omega, fun q => ⟨fun q2 => ?_, fun q2 => bad fun z => by have := z.2; unfold vWh at this; omega⟩⟩
  refine R_tellWind hR1.1.2.1 hW.2.1 (fun m2 f2 w1 w2 => ?_)
  have hh := h1 q1 (by unfold vWh; omega) m2 (f1.tr (f2.mono fun c j z => by unfold zBlow at z; unfold zScR; omega)) (by rw [f2 _ _ (by unfold zBlow; omega), e1, zw_s])
  rw [w1, w2]; exact hh
theorem P_wind {x1 x2 : Int32} (h : QS μ n S D tn tb F T K M) : PI (d + 3) mX8_wind mX9_wind [.ref 0, .int x1, .int x2] [.ref 106, .int x1, .int x2] c10 μ := by
  intro KI X hK hX
  refine C_wind h.2.1 (fun q => hX _ _ Fr.rf (fun m2 g => R_wind h.1 (h.2.2.r (Fr.rf (P := zCls)) g) (fun _ m f e => ⟨e, h.q Fr.rf g f⟩) (fun a b => absurd ⟨a, b⟩ q)) (by decide))
    (fun a b => hK _ _ Fr.rf (fun m2 g => R_wind h.1 (h.2.2.r (Fr.rf (P := zCls)) g) (fun q => absurd ⟨a, b⟩ q) (fun _ _ m f e => ⟨e, rfl, h.q Fr.rf g f⟩)))
/-! count -/
def sCnt (n : Nat) (S : zSky) (D : Nat → Int32) (tn : Nat) (T : zT) (x : Int32) : Int32 :=
  if x = 0 then nI n else if x = 1 then nI S.1 else if x = 2 then D 2 else if x = 3 then D 3 else if x = 4 then D 4 else if x = 5 then nI T.2.2.1.1 else if x = 6 then nI T.2.2.2.1.1 else if x = 7 then nI T.2.2.2.2.1 else if x = 8 then nI tn else if x = 9 then T.2.1 0 else if x = 10 then T.2.1 1 else if x = 11 then T.2.1 2 else if x = 20 then D 5 else if x = 21 then D 6 else if x = 22 then D 7 else D 8
abbrev vCnt (x : Int32) : Prop := (0 ≤ x.toInt ∧ x.toInt ≤ 11) ∨ (20 ≤ x.toInt ∧ x.toInt ≤ 23)
theorem i_get {x : Int32} {k : Nat} (h : x.toInt = k) (hk : k < 1000) : x = nI k := by rw [i_eq, n_i (by omega)]; exact h
theorem cnt_cases {x : Int32} (h : vCnt x) : ∃ k : Nat, x = nI k ∧ (k ≤ 11 ∨ (20 ≤ k ∧ k ≤ 23)) := by
  refine ⟨x.toInt.toNat, i_get (by unfold vCnt at h; omega) (by unfold vCnt at h; omega), by unfold vCnt at h; omega⟩
theorem C_count {x : Int32} (hC : QC μ n S D tn tb F T K M) (h0 : ¬ vCnt x → X 0 μ) (h1 : vCnt x → KI (sCnt n S D tn T x) μ) : zcI (d + 1) mX8_count [.ref 0, .int x] μ KI X := by
  refine cX8_count_ ?_
  unfold pX8_count
  obtain ⟨⟨c1, c2, c3, c4, c5, c6⟩, ⟨c7, c8⟩, c9, c10, -⟩ := hC
  obtain ⟨t1, t2, ⟨t3, t4⟩, ⟨t5, t6⟩, t7, t8⟩ := c10
  have w : ∀ j, j < 4 → μ (zsk μ 0 4 + 16) j = D (5 + j) := c6
  by_cases hv : vCnt x
  · have hh := h1 hv
    obtain ⟨k, e, hk⟩ := cnt_cases hv
    subst e
    match k, hk with
    | 0, _ => exact ⟨fun _ => ⟨fun _ => by rw [t1.1]; exact hh, fun q => absurd q (by decide), fun q => absurd q (by decide), fun q => absurd q (by decide), fun q => absurd q (by decide), fun q => absurd q (by decide), fun q => absurd q (by decide), fun q => absurd q (by decide), fun q => absurd q (by decide), fun q => absurd q (by decide), fun q => absurd q (by decide), fun q => absurd q (by decide), fun q => absurd rfl q⟩, fun q => absurd (by decide) q⟩
    | 1, _ => exact ⟨fun _ => ⟨fun q => absurd q (by decide), fun _ => by rw [c1.2.1]; exact hh, fun q => absurd q (by decide), fun q => absurd q (by decide), fun q => absurd q (by decide), fun q => absurd q (by decide), fun q => absurd q (by decide), fun q => absurd q (by decide), fun q => absurd q (by decide), fun q => absurd q (by decide), fun q => absurd q (by decide), fun q => absurd q (by decide), fun _ q => absurd rfl q⟩, fun q => absurd (by decide) q⟩
    | 2, _ => exact ⟨fun _ => ⟨fun q => absurd q (by decide), fun q => absurd q (by decide), fun _ => by rw [c3]; exact hh, fun q => absurd q (by decide), fun q => absurd q (by decide), fun q => absurd q (by decide), fun q => absurd q (by decide), fun q => absurd q (by decide), fun q => absurd q (by decide), fun q => absurd q (by decide), fun q => absurd q (by decide), fun q => absurd q (by decide), fun _ _ q => absurd rfl q⟩, fun q => absurd (by decide) q⟩
    | 3, _ => exact ⟨fun _ => ⟨fun q => absurd q (by decide), fun q => absurd q (by decide), fun q => absurd q (by decide), fun _ => by rw [c4]; exact hh, fun q => absurd q (by decide), fun q => absurd q (by decide), fun q => absurd q (by decide), fun q => absurd q (by decide), fun q => absurd q (by decide), fun q => absurd q (by decide), fun q => absurd q (by decide), fun q => absurd q (by decide), fun _ _ _ q => absurd rfl q⟩, fun q => absurd (by decide) q⟩
    | 4, _ => exact ⟨fun _ => ⟨fun q => absurd q (by decide), fun q => absurd q (by decide), fun q => absurd q (by decide), fun q => absurd q (by decide), fun _ => by rw [c5]; exact hh, fun q => absurd q (by decide), fun q => absurd q (by decide), fun q => absurd q (by decide), fun q => absurd q (by decide), fun q => absurd q (by decide), fun q => absurd q (by decide), fun q => absurd q (by decide), fun _ _ _ _ q => absurd rfl q⟩, fun q => absurd (by decide) q⟩
    | 5, _ => exact ⟨fun _ => ⟨fun q => absurd q (by decide), fun q => absurd q (by decide), fun q => absurd q (by decide), fun q => absurd q (by decide), fun q => absurd q (by decide), fun _ => by rw [t3]; exact hh, fun q => absurd q (by decide), fun q => absurd q (by decide), fun q => absurd q (by decide), fun q => absurd q (by decide), fun q => absurd q (by decide), fun q => absurd q (by decide), fun _ _ _ _ _ q => absurd rfl q⟩, fun q => absurd (by decide) q⟩
    | 6, _ => exact ⟨fun _ => ⟨fun q => absurd q (by decide), fun q => absurd q (by decide), fun q => absurd q (by decide), fun q => absurd q (by decide), fun q => absurd q (by decide), fun q => absurd q (by decide), fun _ => by rw [t5]; exact hh, fun q => absurd q (by decide), fun q => absurd q (by decide), fun q => absurd q (by decide), fun q => absurd q (by decide), fun q => absurd q (by decide), fun _ _ _ _ _ _ q => absurd rfl q⟩, fun q => absurd (by decide) q⟩
    | 7, _ => exact ⟨fun _ => ⟨fun q => absurd q (by decide), fun q => absurd q (by decide), fun q => absurd q (by decide), fun q => absurd q (by decide), fun q => absurd q (by decide), fun q => absurd q (by decide), fun q => absurd q (by decide), fun _ => by rw [t7]; exact hh, fun q => absurd q (by decide), fun q => absurd q (by decide), fun q => absurd q (by decide), fun q => absurd q (by decide), fun _ _ _ _ _ _ _ q => absurd rfl q⟩, fun q => absurd (by decide) q⟩
    | 8, _ => exact ⟨fun _ => ⟨fun q => absurd q (by decide), fun q => absurd q (by decide), fun q => absurd q (by decide), fun q => absurd q (by decide), fun q => absurd q (by decide), fun q => absurd q (by decide), fun q => absurd q (by decide), fun q => absurd q (by decide), fun _ => by rw [c7]; exact hh, fun q => absurd q (by decide), fun q => absurd q (by decide), fun q => absurd q (by decide), fun _ _ _ _ _ _ _ _ q => absurd rfl q⟩, fun q => absurd (by decide) q⟩
    | 9, _ => exact ⟨fun _ => ⟨fun q => absurd q (by decide), fun q => absurd q (by decide), fun q => absurd q (by decide), fun q => absurd q (by decide), fun q => absurd q (by decide), fun q => absurd q (by decide), fun q => absurd q (by decide), fun q => absurd q (by decide), fun q => absurd q (by decide), fun _ => by rw [t2 0 (by omega)]; exact hh, fun q => absurd q (by decide), fun q => absurd q (by decide), fun _ _ _ _ _ _ _ _ _ q => absurd rfl q⟩, fun q => absurd (by decide) q⟩
    | 10, _ => exact ⟨fun _ => ⟨fun q => absurd q (by decide), fun q => absurd q (by decide), fun q => absurd q (by decide), fun q => absurd q (by decide), fun q => absurd q (by decide), fun q => absurd q (by decide), fun q => absurd q (by decide), fun q => absurd q (by decide), fun q => absurd q (by decide), fun q => absurd q (by decide), fun _ => by rw [t2 1 (by omega)]; exact hh, fun q => absurd q (by decide), fun _ _ _ _ _ _ _ _ _ _ q => absurd rfl q⟩, fun q => absurd (by decide) q⟩
    | 11, _ => exact ⟨fun _ => ⟨fun q => absurd q (by decide), fun q => absurd q (by decide), fun q => absurd q (by decide), fun q => absurd q (by decide), fun q => absurd q (by decide), fun q => absurd q (by decide), fun q => absurd q (by decide), fun q => absurd q (by decide), fun q => absurd q (by decide), fun q => absurd q (by decide), fun q => absurd q (by decide), fun _ => by rw [t2 2 (by omega)]; exact hh, fun _ _ _ _ _ _ _ _ _ _ _ q => absurd rfl q⟩, fun q => absurd (by decide) q⟩
    | 20, _ => exact ⟨fun q => absurd q (by decide), fun _ => ⟨fun q => absurd q (by decide), fun _ => ⟨vlit (n := 0) (by decide) (by omega), by rw [show (nI 20 - 20).toNatClampNeg = 0 from by decide, w 0 (by omega)]; exact hh⟩⟩⟩
    | 21, _ => exact ⟨fun q => absurd q (by decide), fun _ => ⟨fun q => absurd q (by decide), fun _ => ⟨vlit (n := 1) (by decide) (by omega), by rw [show (nI 21 - 20).toNatClampNeg = 1 from by decide, w 1 (by omega)]; exact hh⟩⟩⟩
    | 22, _ => exact ⟨fun q => absurd q (by decide), fun _ => ⟨fun q => absurd q (by decide), fun _ => ⟨vlit (n := 2) (by decide) (by omega), by rw [show (nI 22 - 20).toNatClampNeg = 2 from by decide, w 2 (by omega)]; exact hh⟩⟩⟩
    | 23, _ => exact ⟨fun q => absurd q (by decide), fun _ => ⟨fun q => absurd q (by decide), fun _ => ⟨vlit (n := 3) (by decide) (by omega), by rw [show (nI 23 - 20).toNatClampNeg = 3 from by decide, w 3 (by omega)]; exact hh⟩⟩⟩
    | k + 24, hk => omega
    | 12, hk | 13, hk | 14, hk | 15, hk | 16, hk | 17, hk | 18, hk | 19, hk => omega
  · have x0 := h0 hv
    have ne : ∀ k : Nat, k < 1000 → (k ≤ 11 ∨ (20 ≤ k ∧ k ≤ 23)) → ¬ x = nI k := by
      intro k hk hr q
      apply hv
      rw [q]
      unfold vCnt
      rw [n_i (by omega)]; omega
    have e20 : (20 : Int32).toInt = 20 := by decide
    have e24 : (24 : Int32).toInt = 24 := by decide
    have all : pX8_count_25 d x μ KI X := ⟨fun q => absurd q (ne 0 (by omega) (by omega)), fun q => absurd q (ne 1 (by omega) (by omega)), fun q => absurd q (ne 2 (by omega) (by omega)), fun q => absurd q (ne 3 (by omega) (by omega)), fun q => absurd q (ne 4 (by omega) (by omega)), fun q => absurd q (ne 5 (by omega) (by omega)), fun q => absurd q (ne 6 (by omega) (by omega)), fun q => absurd q (ne 7 (by omega) (by omega)), fun q => absurd q (ne 8 (by omega) (by omega)), fun q => absurd q (ne 9 (by omega) (by omega)), fun q => absurd q (ne 10 (by omega) (by omega)), fun q => absurd q (ne 11 (by omega) (by omega)), fun _ _ _ _ _ _ _ _ _ _ _ _ => x0⟩
    refine ⟨fun _ => all, fun q => ⟨fun _ => all, fun q2 => absurd ?_ hv⟩⟩
    rw [i_lt, e20] at q
    rw [i_le, e24] at q2
    unfold vCnt; omega
theorem R_count {x : Int32} (hR : QR μ n S D tn tb F T K M) (h0 : ¬ vCnt x → ∀ m, Fr zScR μ m → m 106 3 = 1 → KI 0 m) (h1 : vCnt x → ∀ m, Fr zScR μ m → m 106 3 = 0 → KI (sCnt n S D tn T x) m) : zcI (d + 2) mX9_count [.ref 106, .int x] μ KI X := by
  refine cX9_count_ (fun m1 e1 => ?_)
  have f1 : Fr zScR μ m1 := by rw [e1]; exact code_q
  have k1 : m1 106 3 = 0 := by rw [e1, zw_s]
  obtain ⟨⟨c1, c2, c3⟩, ⟨c7, c8⟩, c9, c10, -⟩ := hR.q f1
  obtain ⟨t1, t2, ⟨t3, t4⟩, ⟨t5, t6⟩, t7, t8⟩ := c10
  refine R_isIn (A := 20) (B := 23) (by decide) (by decide) (b2i_go (fun q => R_isIn (A := 0) (B := 4) (by decide) (by decide) (b2i_go (fun q2 => ?_) (fun q2 => ?_))) (fun q => ?_))
  · by_cases hv : vCnt x
    · have hh := h1 hv m1 f1 k1
      obtain ⟨k, e, hk⟩ := cnt_cases hv
      subst e
      rw [n_i (by omega)] at q q2
      match k, hk, q, q2 with
      | 5, _, _, _ => exact ⟨fun _ => by rw [t3]; exact hh, fun q => absurd q (by decide), fun q => absurd q (by decide), fun q => absurd q (by decide), fun q => absurd q (by decide), fun q => absurd q (by decide), fun q => absurd q (by decide), fun q => absurd rfl q⟩
      | 6, _, _, _ => exact ⟨fun q => absurd q (by decide), fun _ => by rw [t5]; exact hh, fun q => absurd q (by decide), fun q => absurd q (by decide), fun q => absurd q (by decide), fun q => absurd q (by decide), fun q => absurd q (by decide), fun _ q => absurd rfl q⟩
      | 7, _, _, _ => exact ⟨fun q => absurd q (by decide), fun q => absurd q (by decide), fun _ => by rw [t7]; exact hh, fun q => absurd q (by decide), fun q => absurd q (by decide), fun q => absurd q (by decide), fun q => absurd q (by decide), fun _ _ q => absurd rfl q⟩
      | 8, _, _, _ => exact ⟨fun q => absurd q (by decide), fun q => absurd q (by decide), fun q => absurd q (by decide), fun _ => by rw [c7]; exact hh, fun q => absurd q (by decide), fun q => absurd q (by decide), fun q => absurd q (by decide), fun _ _ _ q => absurd rfl q⟩
      | 9, _, _, _ => exact ⟨fun q => absurd q (by decide), fun q => absurd q (by decide), fun q => absurd q (by decide), fun q => absurd q (by decide), fun _ => ⟨vlit (n := 0) (by decide) (by omega), by rw [show (nI 9 - 9).toNatClampNeg = 0 from by decide, t2 0 (by omega)]; exact hh⟩, fun q => absurd q (by decide), fun q => absurd q (by decide), fun _ _ _ _ q => absurd rfl q⟩
      | 10, _, _, _ => exact ⟨fun q => absurd q (by decide), fun q => absurd q (by decide), fun q => absurd q (by decide), fun q => absurd q (by decide), fun q => absurd q (by decide), fun _ => ⟨vlit (n := 1) (by decide) (by omega), by rw [show (nI 10 - 9).toNatClampNeg = 1 from by decide, t2 1 (by omega)]; exact hh⟩, fun q => absurd q (by decide), fun _ _ _ _ _ q => absurd rfl q⟩
      | 11, _, _, _ => exact ⟨fun q => absurd q (by decide), fun q => absurd q (by decide), fun q => absurd q (by decide), fun q => absurd q (by decide), fun q => absurd q (by decide), fun q => absurd q (by decide), fun _ => ⟨vlit (n := 2) (by decide) (by omega), by rw [show (nI 11 - 9).toNatClampNeg = 2 from by decide, t2 2 (by omega)]; exact hh⟩, fun _ _ _ _ _ _ q => absurd rfl q⟩
      | 0, hk, q, q2 | 1, hk, q, q2 | 2, hk, q, q2 | 3, hk, q, q2 | 4, hk, q, q2 => exact absurd (by omega) q2
      | k + 12, hk, q, q2 => exact absurd (by omega) q
    · have ne : ∀ k : Nat, k < 1000 → (k ≤ 11 ∨ (20 ≤ k ∧ k ≤ 23)) → ¬ x = nI k := by
        intro k hk hr q
        apply hv
        rw [q]
        unfold vCnt
        rw [n_i (by omega)]; omega
      exact ⟨fun q => absurd q (ne 5 (by omega) (by omega)), fun q => absurd q (ne 6 (by omega) (by omega)), fun q => absurd q (ne 7 (by omega) (by omega)), fun q => absurd q (ne 8 (by omega) (by omega)), fun q => absurd q (ne 9 (by omega) (by omega)), fun q => absurd q (ne 10 (by omega) (by omega)), fun q => absurd q (ne 11 (by omega) (by omega)), fun _ _ _ _ _ _ _ => R_fail (fun m e => h0 hv m (f1.tr (by rw [e]; exact code_q)) (by rw [e, zw_s]))⟩
  · have hv : vCnt x := by unfold vCnt; omega
    have hh := h1 hv m1 f1 k1
    obtain ⟨k, e, hk⟩ := cnt_cases hv
    subst e
    rw [n_i (by omega)] at q q2
    rw [tN_nI (by omega)]
    refine ⟨vin (by omega), ?_⟩
    match k, q2 with
    | 0, _ => rw [c1]; exact hh
    | 1, _ => rw [c2.2.1]; exact hh
    | 2, _ => rw [c3 2 (by omega) (by omega)]; exact hh
    | 3, _ => rw [c3 3 (by omega) (by omega)]; exact hh
    | 4, _ => rw [c3 4 (by omega) (by omega)]; exact hh
    | k + 5, q2 => omega
  · have hv : vCnt x := by unfold vCnt; omega
    have hh := h1 hv m1 f1 k1
    obtain ⟨k, e, hk⟩ := cnt_cases hv
    subst e
    rw [n_i (by omega)] at q
    match k, q with
    | 20, _ => exact ⟨vlit (n := 5) (by decide) (by omega), by rw [show (nI 20 - 15).toNatClampNeg = 5 from by decide, c3 5 (by omega) (by omega)]; exact hh⟩
    | 21, _ => exact ⟨vlit (n := 6) (by decide) (by omega), by rw [show (nI 21 - 15).toNatClampNeg = 6 from by decide, c3 6 (by omega) (by omega)]; exact hh⟩
    | 22, _ => exact ⟨vlit (n := 7) (by decide) (by omega), by rw [show (nI 22 - 15).toNatClampNeg = 7 from by decide, c3 7 (by omega) (by omega)]; exact hh⟩
    | 23, _ => exact ⟨vlit (n := 8) (by decide) (by omega), by rw [show (nI 23 - 15).toNatClampNeg = 8 from by decide, c3 8 (by omega) (by omega)]; exact hh⟩
    | k + 24, q => omega
    | 0, q | 1, q | 2, q | 3, q | 4, q | 5, q | 6, q | 7, q | 8, q | 9, q | 10, q | 11, q | 12, q | 13, q | 14, q | 15, q | 16, q | 17, q | 18, q | 19, q => omega
theorem P_count {x1 : Int32} (h : QS μ n S D tn tb F T K M) : PI (d + 2) mX8_count mX9_count [.ref 0, .int x1] [.ref 106, .int x1] c10 μ := by
  intro KI X hK hX
  refine C_count h.2.1 (fun q => hX _ _ Fr.rf (fun m2 g => R_count (h.2.2.r (Fr.rf (P := zCls)) g) (fun _ m f e => ⟨e, h.q Fr.rf g f⟩) (fun a => absurd a q)) (by decide))
    (fun a => hK _ _ Fr.rf (fun m2 g => R_count (h.2.2.r (Fr.rf (P := zCls)) g) (fun q => absurd a q) (fun _ m f e => ⟨e, rfl, h.q Fr.rf g f⟩)))
end Pair
