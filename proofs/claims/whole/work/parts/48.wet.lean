section Wet
variable {d : Nat} {μ : zMem} {KI : Int32 → zMem → Prop} {KV : zMem → Prop} {X : Nat → zMem → Prop} {n : Nat} {S : zSky} {D : Nat → Int32} {tn : Nat} {tb : Nat → Int32} {F : Int32} {T : zT} {K : Option (Nat → Int32)} {M : Option zT}
def zTal (c _j : Nat) : Prop := c = 103
theorem zTal_q {m1 m2 : zMem} (f : Fr zTal m1 m2) : Fr zScC m1 m2 := f.mono fun c j q => by unfold zTal at q; unfold zScC; omega
theorem L_clear {x : Int32} {μ0 : zMem} : ∀ (m i : Nat) (μ : zMem), i + m = 6 → Fr zTal μ0 μ → (∀ j, j < i → μ 103 j = x) → (∀ μ', Fr zTal μ0 μ' → (∀ j, j < 6 → μ' 103 j = x) → KV μ') → pX8_clearTally_2 (m + 1) d x (nI i) μ KV X := by
  intro m
  induction m with
  | zero =>
    intro i μ hi hf h1 hK
    exact ⟨fun _ => hK μ hf (fun j hj => h1 j (by omega)), fun q => absurd ((n_le (a := 6) (by omega) (by omega)).mpr (by omega)) q⟩
  | succ m ih =>
    intro i μ hi hf h1 hK
    refine ⟨fun q => absurd ((n_le (a := 6) (by omega) (by omega)).mp q) (by omega), fun _ => ⟨vin (by omega), fun m1 e1 v2 e2 => ?_⟩⟩
    rw [tN_nI (by omega)] at e1
    rw [e2, nI_1]
    refine ih (i + 1) m1 (by omega) (hf.tr (by rw [e1]; exact Fr.w rfl)) (fun j hj => ?_) hK
    by_cases q : j = i
    · subst q; rw [e1, zw_s]
    · rw [e1, zw_j q]; exact h1 j (by omega)
theorem C_clear {x : Int32} (h : ∀ μ', Fr zTal μ μ' → (∀ j, j < 6 → μ' 103 j = x) → KV μ') : zcV (d + 1) mX8_clearTally [.ref 0, .int x] μ KV X :=
  cX8_clearTally_ ⟨7, L_clear 6 0 μ (by omega) Fr.rf (fun j hj => absurd hj (by omega)) h⟩
theorem L_most : ∀ (m k : Nat) (b s : Int32), k + m = 6 → KI (mxS (μ 103) m k b s) μ → pX8_mostInTally_6 (m + 1) d s b (nI k) μ KI X := by
  intro m
  induction m with
  | zero =>
    intro k b s hk h
    exact ⟨fun _ => h, fun q => absurd ((n_le (a := 6) (by omega) (by omega)).mpr (by omega)) q⟩
  | succ m ih =>
    intro k b s hk h
    unfold mxS at h
    refine ⟨fun q => absurd ((n_le (a := 6) (by omega) (by omega)).mp q) (by omega), fun _ => ⟨vin (by omega), ?_⟩⟩
    rw [tN_nI (by omega)]
    refine ⟨fun q v1 e1 => ?_, fun q => ⟨vin (by omega), fun v2 e2 v3 e3 => ?_⟩⟩
    · rw [e1, nI_1]
      rw [if_pos q] at h
      exact ih (k + 1) b s (by omega) h
    · rw [e3, nI_1, e2]
      rw [if_neg q] at h
      exact ih (k + 1) _ _ (by omega) h
theorem C_most (h : KI (mxS (μ 103) 6 0 (-1) 0) μ) : zcI (d + 1) mX8_mostInTally [.ref 0] μ KI X := cX8_mostInTally_ ⟨7, L_most 6 0 (-1) 0 (by omega) h⟩
theorem C_mostN {f : Nat → Int32} (hn : n ≤ 6) (hf : ∀ k, k < 6 → μ 103 k = f k) (h0 : ∀ k, n ≤ k → k < 6 → f k = 0) (h : KI (mxS f n 0 (-1) 0) μ) : zcI (d + 1) mX8_mostInTally [.ref 0] μ KI X := by
  refine C_most ?_
  rw [mxS_c (g := f) 6 0 (-1) 0 (fun j _ h2 => hf j (by omega)), show (6 : Nat) = n + (6 - n) by omega, mxS_n n (6 - n) 0 (-1) 0 (fun j h1 h2 => h0 j (by omega) (by omega)) (by decide)]
  exact h
theorem oI_eq {a : Option Nat} {k : Nat} (ha : ∀ c, a = some c → c < 6) (hk : k < 6) : nI k = oI a ↔ a = some k := by
  cases a with
  | none => exact ⟨fun q => absurd q (oI_n (by omega)), fun q => by cases q⟩
  | some c =>
    have := ha c rfl
    show nI k = nI c ↔ _
    rw [n_eq (by omega) (by omega)]
    exact ⟨fun q => by rw [q], fun q => by cases q; rfl⟩
theorem oI_none {a : Option Nat} (ha : ∀ c, a = some c → c < 6) : oI a = -1 ↔ a = none := by
  cases a with
  | none => exact ⟨fun _ => rfl, fun _ => rfl⟩
  | some c => exact ⟨fun q => absurd q (oI_n (by have := ha c rfl; omega)), fun q => by cases q⟩
theorem rcS_ge {I : zI} {i k : Nat} (hn : n ≤ 6) (hk : n ≤ k) (hk6 : k < 6) : ∀ (m h : Nat) (a : Int32), rcS S I n i (nI k) m h a = a
  | 0, _, _ => rfl
  | m + 1, h, a => by
    unfold rcS
    have hr : ∀ c, rn (sG S I (nI h) 0) i n = some c → c < n := fun c hc => rn_lt hc
    have e : (if oI (rn (sG S I (nI h) 0) i n) = -1 then (0 : Int32) else (if nI k = -1 then 1 else (if nI k = oI (rn (sG S I (nI h) 0) i n) then 1 else 0))) = 0 := by
      split
      · rfl
      · rw [if_neg (oI_n (by omega)), if_neg]
        rw [oI_eq (fun c hc => by have := hr c hc; omega) hk6]
        intro q
        have := hr k q; omega
    rw [e, Int32.add_zero]
    exact rcS_ge hn hk hk6 m (h + 1) a
theorem L_wetC {μ0 : zMem} {q i : Nat} (hi : i < n) (hq : q ≤ 167) (hW : QW n S D tn T K M) (hC : QC μ0 n S D tn tb F T K M) : ∀ (m h : Nat) (a : Nat → Int32) (μ : zMem), h + m = q + 1 → Fr zScC μ0 μ → (∀ k, k < 6 → μ 103 k = a k) →
    (∀ μ', Fr zScC μ0 μ' → (∀ k, k < 6 → μ' 103 k = rcS S T.1 n i (nI k) m h (a k)) → zcI (d + 6) mX8_mostInTally [.ref 0] μ' KI X) → pX8_wet_21 (m + 1) (d + 6) (nI i) (nI q) (nI h) μ KI X := by
  have n6 := hW.1
  intro m
  induction m with
  | zero =>
    intro h a μ hh hf ht hK
    exact ⟨fun _ => hK μ hf ht, fun z => absurd ((n_lt (by omega) (by omega)).mpr (by omega)) z⟩
  | succ m ih =>
    intro h a μ hh hf ht hK
    refine ⟨fun z => absurd ((n_lt (by omega) (by omega)).mp z) (by omega), fun _ => C_blowNow hW (hC.q hf) (fun m1 f1 g1 => ?_)⟩
    have hf1 := hf.tr (zAir_q f1)
    have ht1 : ∀ k, k < 6 → m1 103 k = a k := fun k hk => by rw [f1 _ _ (by unfold zAir; omega)]; exact ht k hk
    refine C_rainFrom rfl (hC.q hf1).cn n6 hi g1 (fun j hj => hW.zsm hj gst0) ?_
    have hr : ∀ c, rn (sG S T.1 (nI h) 0) i n = some c → c < n := fun c hc => rn_lt hc
    cases er : rn (sG S T.1 (nI h) 0) i n with
    | none =>
      refine ⟨fun _ v4 e4 => ?_, fun z => absurd rfl z⟩
      rw [e4, nI_1]
      refine ih (h + 1) a m1 (by omega) hf1 ht1 (fun μ' f' t' => hK μ' f' (fun k hk => ?_))
      rw [t' k hk]
      show _ = rcS S T.1 n i (nI k) m (h + 1) (a k + (if oI (rn (sG S T.1 (nI h) 0) i n) = -1 then 0 else (if nI k = -1 then 1 else (if nI k = oI (rn (sG S T.1 (nI h) 0) i n) then 1 else 0))))
      rw [er, if_pos (show oI none = -1 from rfl), Int32.add_zero]
    | some c =>
      have hc := hr c er
      refine ⟨fun z => absurd z (oI_n (by omega)), fun _ => ?_⟩
      show vp_in (nI c) 6 ∧ vp_in (nI c) 6 ∧ ∀ m7 : zMem, m7 = zw m1 103 (nI c).toNatClampNeg ((m1 103 (nI c).toNatClampNeg) + 1) → ∀ v8 : Int32, v8 = nI h + 1 → pX8_wet_21 (m + 1) (d + 6) (nI i) (nI q) v8 m7 KI X
      rw [tN_nI (by omega)]
      refine ⟨vin (by omega), vin (by omega), fun m7 e7 v8 e8 => ?_⟩
      rw [e8, nI_1]
      refine ih (h + 1) (fun k => if k = c then a k + 1 else a k) m7 (by omega) (hf1.tr (by rw [e7]; exact Fr.w (by unfold zScC; omega))) (fun k hk => ?_) (fun μ' f' t' => hK μ' f' (fun k hk => ?_))
      · by_cases z : k = c
        · subst z; rw [e7, zw_s, ht1 k hk]; simp
        · rw [e7, zw_j z, ht1 k hk]; simp [z]
      · rw [t' k hk]
        show _ = rcS S T.1 n i (nI k) m (h + 1) (a k + (if oI (rn (sG S T.1 (nI h) 0) i n) = -1 then 0 else (if nI k = -1 then 1 else (if nI k = oI (rn (sG S T.1 (nI h) 0) i n) then 1 else 0))))
        have o1 : ¬ oI (rn (sG S T.1 (nI h) 0) i n) = -1 := by rw [er]; exact oI_n (by omega)
        rw [if_neg o1, if_neg (oI_n (by omega))]
        by_cases z : k = c
        · rw [if_pos ((oI_eq (fun c hc => by have := hr c hc; omega) hk).mpr (by rw [er, z]))]
          show rcS S T.1 n i (nI k) m (h + 1) (if k = c then a k + 1 else a k) = _
          rw [if_pos z]
        · rw [if_neg z, if_neg (fun y => z (by have := (oI_eq (fun c hc => by have := hr c hc; omega) hk).mp y; rw [er] at this; cases this; rfl)), Int32.add_zero]
theorem C_wet {x1 x2 x3 : Int32} (hW : QW n S D tn T K M) (hC : QC μ n S D tn tb F T K M) (h0 : ¬ vIs n x1 → X 0 μ) (h2 : vIs n x1 → ¬ vSp x2 x3 → X 1 μ)
    (h1 : ∀ i p q, i < n → x1 = nI i → p ≤ q → q ≤ 167 → x2 = nI p → x3 = nI q → ∀ m, Fr zScC μ m → KI (mxS (fun k => rcS S T.1 n i (nI k) (q + 1 - p) p 0) n 0 (-1) 0) m) : zcI (d + 7) mX8_wet [.ref 0, .int x1, .int x2, .int x3] μ KI X := by
  refine cX8_wet_ (C_needIsle hC.cn hW.1 h0 (fun i hi e => C_needSpan (m := 168) (by decide) (fun q => h2 (by rw [e]; exact vIs_n hi hW.1) fun z => q ⟨z, by unfold vSp at z; omega⟩) (fun q4 _ => C_clear (fun m1 f1 t1 => ?_))))
  obtain ⟨p, q, hpq, hq, e1, e2⟩ := q4.get
  have hh := h1 i p q hi e hpq hq e1 e2
  subst e e1 e2
  refine ⟨q + 1 - p + 1, L_wetC hi hq hW (hC.q (zTal_q f1)) (q + 1 - p) p (fun _ => 0) m1 (by omega) Fr.rf t1 (fun μ' f' t' => C_mostN hW.1 t' (fun k hk hk6 => rcS_ge hW.1 hk hk6 _ _ _) (hh μ' ((zTal_q f1).tr f')))⟩
theorem L_wetR {μ0 : zMem} {p q i : Nat} (hi : i < n) (hpq : p ≤ q) (hq : q ≤ 167) (hW : QW n S D tn T K M) (hR : QR μ0 n S D tn tb F T K M) : ∀ (m k : Nat) (b s : Int32) (μ : zMem), k + m = n → Fr zTell μ0 μ →
    (∀ μ', Fr zTell μ0 μ' → KI (mxS (fun k => rcS S T.1 n i (nI k) (q + 1 - p) p 0) m k b s) μ') → pX9_wet_42 (m + 1) (d + 7) (nI i) (nI p) (nI q) b s (nI k) μ KI X := by
  have n6 := hW.1
  intro m
  induction m with
  | zero =>
    intro k b s μ hk hf hK
    exact ⟨fun _ => hK μ hf, fun z => absurd (by rw [(hR.q (zTell_q hf)).cn]; exact (n_le (by omega) (by omega)).mpr (by omega)) z⟩
  | succ m ih =>
    intro k b s μ hk hf hK
    refine ⟨fun z => absurd z (by rw [(hR.q (zTell_q hf)).cn, n_le (by omega) (by omega)]; omega), fun _ => R_rained hi hpq hq hW (hR.q (zTell_q hf)) (fun m1 f1 => ⟨fun z v3 e3 => ?_, fun z v4 e4 => ?_⟩)⟩
    · rw [e3, nI_1]
      refine ih (k + 1) _ _ m1 (by omega) (hf.tr f1) (fun μ' f' => ?_)
      have := hK μ' f'
      unfold mxS at this
      rw [if_neg (by rw [i_nle]; exact z)] at this; exact this
    · rw [e4, nI_1]
      refine ih (k + 1) _ _ m1 (by omega) (hf.tr f1) (fun μ' f' => ?_)
      have := hK μ' f'
      unfold mxS at this
      rw [if_pos ((i_nlt _ _).mp z)] at this; exact this
theorem R_wet {x1 x2 x3 : Int32} (hW : QW n S D tn T K M) (hR : QR μ n S D tn tb F T K M) (h0 : ¬ vIs n x1 → ∀ m, Fr zScR μ m → m 106 3 = 1 → KI 0 m) (h2 : vIs n x1 → ¬ vSp x2 x3 → ∀ m, Fr zScR μ m → m 106 3 = 2 → KI 0 m)
    (h1 : ∀ i p q, i < n → x1 = nI i → p ≤ q → q ≤ 167 → x2 = nI p → x3 = nI q → ∀ m, Fr zScR μ m → m 106 3 = 0 → KI (mxS (fun k => rcS S T.1 n i (nI k) (q + 1 - p) p 0) n 0 (-1) 0) m) : zcI (d + 8) mX9_wet [.ref 106, .int x1, .int x2, .int x3] μ KI X := by
  refine cX9_wet_ (fun m1 e1 => ?_)
  have f1 : Fr zScR μ m1 := by rw [e1]; exact code_q
  have k1 : m1 106 3 = 0 := by rw [e1, zw_s]
  have hR1 := hR.q f1
  refine R_isIsle hR1.cn hW.1 (b2i_go (fun q => R_fail (fun m e => h0 q m (f1.tr (by rw [e]; exact code_q)) (by rw [e, zw_s]))) (fun q1 => R_isSpan (b2i_go (fun q => R_fail (fun m e => h2 q1 q m (f1.tr (by rw [e]; exact code_q)) (by rw [e, zw_s]))) (fun q4 => ?_))))
  obtain ⟨i, hi, e⟩ := q1.get
  obtain ⟨p, q, hpq, hq, e1, e2⟩ := q4.get
  have hh := h1 i p q hi e hpq hq e1 e2
  subst e e1 e2
  exact ⟨n + 1, L_wetR hi hpq hq hW hR1 n 0 (-1) 0 m1 (by omega) Fr.rf (fun μ' f => hh μ' (f1.tr (zTell_q f)) (by rw [zTell_c f, k1]))⟩
theorem P_wet {x1 x2 x3 : Int32} (h : QS μ n S D tn tb F T K M) : PI (d + 8) mX8_wet mX9_wet [.ref 0, .int x1, .int x2, .int x3] [.ref 106, .int x1, .int x2, .int x3] c12 μ := by
  intro KI X hK hX
  have n6 := h.1.1
  refine C_wet h.1 h.2.1 (fun a => hX _ _ Fr.rf (fun m2 g => R_wet h.1 (h.2.2.r (Fr.rf (P := zCls)) g) (fun _ m f e => ⟨e, h.q Fr.rf g f⟩) (fun b => absurd b a) (fun i _ _ hi e _ _ _ _ => absurd (by rw [e]; exact vIs_n hi n6) a)) (by decide))
    (fun a b => hX _ _ Fr.rf (fun m2 g => R_wet h.1 (h.2.2.r (Fr.rf (P := zCls)) g) (fun c => absurd a c) (fun _ _ m f e => ⟨e, h.q Fr.rf g f⟩) (fun i p q _ _ hpq hq e1 e2 => absurd (by rw [e1, e2]; exact vSp_n hpq hq) b)) (by decide))
    (fun i p q hi e hpq hq e1 e2 m1 f1 => hK _ _ (zScC_c f1) (fun m2 g => R_wet h.1 (h.2.2.r (zScC_c f1) g) (fun c => absurd (by rw [e]; exact vIs_n hi n6) c) (fun _ b => absurd (by rw [e1, e2]; exact vSp_n hpq hq) b) (fun i' p' q' hi' e' hpq' hq' e1' e2' m f e3 => ⟨e3, ?_, h.q f1 g f⟩)))
  cases nj hi hi' n6 (e.symm.trans e')
  cases nj' (by omega) (by omega) (e1.symm.trans e1')
  cases nj' (by omega) (by omega) (e2.symm.trans e2'); rfl
/-! winds -/
def wdV (S : zSky) (I : zI) (a b h : Nat) : Int32 := if sX S I a (nI h) 0 ≤ sX S I b (nI h) 0 then 0 else 1
def wdS (S : zSky) (I : zI) (a b p : Nat) : Nat → Nat → Int32 → Int32 → Int32
  | 0, _, c, _ => c
  | m + 1, h, c, w => wdS S I a b p m (h + 1) (if h ≤ p then c else if wdV S I a b h = w then c else if sY S I b (nI h) 0 ≤ sY S I a (nI h) 0 then c else c + (if w = 0 then 1 else -1)) (wdV S I a b h)
theorem L_windsC {μ0 : zMem} {p q a b : Nat} (ha : a < n) (hb : b < n) (hab : a ≠ b) (hpq : p ≤ q) (hq : q ≤ 167) (hW : QW n S D tn T K M) (hC : QC μ0 n S D tn tb F T K M) : ∀ (m h : Nat) (c w : Int32) (μ : zMem), h + m = q + 1 → Fr zScC μ0 μ →
    (∀ μ', Fr zScC μ0 μ' → KI (wdS S T.1 a b p m h c w) μ') → pX8_winds_33 (m + 1) (d + 5) (nI a) (nI b) (nI p) (nI q) c w (nI h) μ KI X := by
  have n6 := hW.1
  intro m
  induction m with
  | zero =>
    intro h c w μ hh hf hK
    exact ⟨fun _ => hK μ hf, fun z => absurd ((n_lt (by omega) (by omega)).mpr (by omega)) z⟩
  | succ m ih =>
    intro h c w μ hh hf hK
    refine ⟨fun z => absurd ((n_lt (by omega) (by omega)).mp z) (by omega), fun _ => C_putNow hW (hC.q hf) ha (fun m1 f1 _ a1 => C_putNow hW ((hC.q hf).q f1) hb (fun m2 f2 fp a2 => ?_))⟩
    have ga : gAt m2 (sG S T.1 (nI h) 0) a := (gAt_now a1).fr fp (sky_rng (zsk_sh m1 0 4)) hab
    have gb := gAt_now a2
    have hf2 := (hf.tr f1).tr f2
    rw [tN_nI (by omega), tN_nI (by omega), ga.1, ga.2.1, gb.1, gb.2.1]
    refine ⟨vin (by omega), vin (by omega), fun v3 e3 => ?_⟩
    have e3' : v3 = wdV S T.1 a b h := e3
    subst e3'
    have step : ∀ c', c' = (if h ≤ p then c else if wdV S T.1 a b h = w then c else if sY S T.1 b (nI h) 0 ≤ sY S T.1 a (nI h) 0 then c else c + (if w = 0 then 1 else -1)) → ∀ v, v = nI h + 1 → pX8_winds_33 (m + 1) (d + 5) (nI a) (nI b) (nI p) (nI q) c' (wdV S T.1 a b h) v m2 KI X := by
      intro c' e v ev
      rw [ev, nI_1]
      refine ih (h + 1) c' _ m2 (by omega) hf2 (fun μ' f' => ?_)
      have := hK μ' f'
      unfold wdS at this
      rw [← e] at this; exact this
    refine ⟨fun z v4 e4 => step c ?_ v4 e4, fun z => ⟨fun z2 v5 e5 => step c ?_ v5 e5, fun z2 => ⟨vin (by omega), vin (by omega), fun z3 v6 e6 => step c ?_ v6 e6, fun z3 v7 e7 v8 e8 => step v7 ?_ v8 e8⟩⟩⟩
    · rw [if_pos ((n_le (by omega) (by omega)).mp z)]
    · rw [if_neg (fun y => z ((n_le (by omega) (by omega)).mpr y)), if_pos z2]
    · rw [if_neg (fun y => z ((n_le (by omega) (by omega)).mpr y)), if_neg z2]; exact (if_pos z3).symm
    · rw [if_neg (fun y => z ((n_le (by omega) (by omega)).mpr y)), if_neg z2, e7]; exact (if_neg z3).symm
theorem C_winds {x1 x2 x3 x4 : Int32} (hW : QW n S D tn T K M) (hC : QC μ n S D tn tb F T K M) (h0 : ¬ (vIs n x1 ∧ vIs n x2) → X 0 μ) (h2 : (vIs n x1 ∧ vIs n x2) → ¬ (vSp x3 x4 ∧ ¬ x1 = x2) → X 1 μ)
    (h1 : ∀ a b p q, a < n → b < n → a ≠ b → x1 = nI a → x2 = nI b → p ≤ q → q ≤ 167 → x3 = nI p → x4 = nI q → ∀ m, Fr zScC μ m → KI (wdS S T.1 a b p (q + 1 - p) p 0 0) m) : zcI (d + 6) mX8_winds [.ref 0, .int x1, .int x2, .int x3, .int x4] μ KI X := by
  have n6 := hW.1
  refine cX8_winds_ (C_needIsle hC.cn n6 (fun q => h0 fun z => q z.1) (fun i hi e => C_needIsle hC.cn n6 (fun q => h0 fun z => q z.2) (fun j hj e' => ?_)))
  have hv : vIs n x1 ∧ vIs n x2 := ⟨by rw [e]; exact vIs_n hi n6, by rw [e']; exact vIs_n hj n6⟩
  refine C_needSpan (m := 168) (by decide) (fun q => h2 hv fun z => q ⟨z.1, by have := z.1; unfold vSp at this; omega⟩) (fun q4 _ => C_needTwo (fun q => h2 hv fun z => z.2 q) (fun q5 => ?_))
  obtain ⟨p, q, hpq, hq, e1, e2⟩ := q4.get
  have hij : i ≠ j := fun z => q5 (by rw [e, e', z])
  have hh := h1 i j p q hi hj hij e e' hpq hq e1 e2
  subst e e' e1 e2
  exact ⟨q + 1 - p + 1, L_windsC hi hj hij hpq hq hW hC (q + 1 - p) p 0 0 μ (by omega) Fr.rf hh⟩
theorem L_windsR {μ0 : zMem} {p q a b : Nat} (ha : a < n) (hb : b < n) (hpq : p ≤ q) (hq : q ≤ 167) (hW : QW n S D tn T K M) (hR : QR μ0 n S D tn tb F T K M) : ∀ (m h : Nat) (c w : Int32) (μ : zMem), h + m = q + 1 → (w = 0 ∨ w = 1) → Fr zTell μ0 μ →
    (∀ μ', Fr zTell μ0 μ' → KI (wdS S T.1 a b p m h c w) μ') → pX9_winds_56 (m + 1) (d + 6) (nI a) (nI b) (nI p) (nI q) c w (nI h) μ KI X := by
  have n6 := hW.1
  intro m
  induction m with
  | zero =>
    intro h c w μ hh _ hf hK
    exact ⟨fun _ => hK μ hf, fun z => absurd ((n_lt (by omega) (by omega)).mpr (by omega)) z⟩
  | succ m ih =>
    intro h c w μ hh hw hf hK
    refine ⟨fun z => absurd ((n_lt (by omega) (by omega)).mp z) (by omega), fun _ => R_hourNow hW (hR.q (zTell_q hf)) (fun m2 f2 g2 => ?_)⟩
    have ga := g2 a ha
    have gb := g2 b hb
    have hf2 := hf.tr f2
    rw [tN_nI (by omega), tN_nI (by omega), ga.1, ga.2.1, gb.1, gb.2.1]
    refine ⟨vin (by omega), vin (by omega), fun v3 e3 => ?_⟩
    have e3' : v3 = wdV S T.1 a b h := e3
    subst e3'
    have wv : wdV S T.1 a b h = 0 ∨ wdV S T.1 a b h = 1 := by unfold wdV; split <;> simp
    have step : ∀ c', c' = (if h ≤ p then c else if wdV S T.1 a b h = w then c else if sY S T.1 b (nI h) 0 ≤ sY S T.1 a (nI h) 0 then c else c + (if w = 0 then 1 else -1)) → ∀ v, v = nI h + 1 → pX9_winds_56 (m + 1) (d + 6) (nI a) (nI b) (nI p) (nI q) c' (wdV S T.1 a b h) v m2 KI X := by
      intro c' e v ev
      rw [ev, nI_1]
      refine ih (h + 1) c' _ m2 (by omega) wv hf2 (fun μ' f' => ?_)
      have := hK μ' f'
      unfold wdS at this
      rw [← e] at this; exact this
    refine ⟨fun z v4 e4 => step c ?_ v4 e4, fun z => ⟨fun z2 v5 e5 => step c ?_ v5 e5, fun z2 => ⟨vin (by omega), vin (by omega), fun z3 v6 e6 => step c ?_ v6 e6, fun z3 v7 e7 v8 e8 => step v7 ?_ v8 e8⟩⟩⟩
    · rw [if_pos ((n_le (by omega) (by omega)).mp z)]
    · rw [if_neg (fun y => z ((n_le (by omega) (by omega)).mpr y)), if_pos z2]
    · rw [if_neg (fun y => z ((n_le (by omega) (by omega)).mpr y)), if_neg z2]; exact (if_pos z3).symm
    · rw [if_neg (fun y => z ((n_le (by omega) (by omega)).mpr y)), if_neg z2, e7]
      refine Eq.trans ?_ (if_neg z3).symm
      rcases hw with hw | hw <;> rcases wv with wv | wv
      · exact absurd (wv.trans hw.symm) z2
      · rw [hw, wv]; rfl
      · rw [hw, wv]; rfl
      · exact absurd (wv.trans hw.symm) z2
theorem R_winds {x1 x2 x3 x4 : Int32} (hW : QW n S D tn T K M) (hR : QR μ n S D tn tb F T K M) (h0 : ¬ (vIs n x1 ∧ vIs n x2) → ∀ m, Fr zScR μ m → m 106 3 = 1 → KI 0 m) (h2 : (vIs n x1 ∧ vIs n x2) → ¬ (vSp x3 x4 ∧ ¬ x1 = x2) → ∀ m, Fr zScR μ m → m 106 3 = 2 → KI 0 m)
    (h1 : ∀ a b p q, a < n → b < n → a ≠ b → x1 = nI a → x2 = nI b → p ≤ q → q ≤ 167 → x3 = nI p → x4 = nI q → ∀ m, Fr zScR μ m → m 106 3 = 0 → KI (wdS S T.1 a b p (q + 1 - p) p 0 0) m) : zcI (d + 7) mX9_winds [.ref 106, .int x1, .int x2, .int x3, .int x4] μ KI X := by
  have n6 := hW.1
  refine cX9_winds_ (fun m1 e1 => ?_)
  have f1 : Fr zScR μ m1 := by rw [e1]; exact code_q
  have k1 : m1 106 3 = 0 := by rw [e1, zw_s]
  have hR1 := hR.q f1
  have bad : ¬ (vIs n x1 ∧ vIs n x2) → pX9_winds_21 (d + 6) m1 KI X := fun q => R_fail (fun m e => h0 q m (f1.tr (by rw [e]; exact code_q)) (by rw [e, zw_s]))
  have bad2 : (vIs n x1 ∧ vIs n x2) → ¬ (vSp x3 x4 ∧ ¬ x1 = x2) → pX9_winds_41 (d + 6) m1 KI X := fun q q' => R_fail (fun m e => h2 q q' m (f1.tr (by rw [e]; exact code_q)) (by rw [e, zw_s]))
  refine R_isIsle hR1.cn n6 (b2i_go (fun q => bad fun z => q z.1) (fun q1 => R_isIsle hR1.cn n6 (b2i_go (fun q => bad fun z => q z.2) (fun q2 => R_isSpan (b2i_go (fun q => bad2 ⟨q1, q2⟩ fun z => q z.1) (fun q4 => ⟨fun q => bad2 ⟨q1, q2⟩ fun z => z.2 q, fun q5 => ?_⟩))))))
  obtain ⟨i, hi, e⟩ := q1.get
  obtain ⟨j, hj, e'⟩ := q2.get
  obtain ⟨p, q, hpq, hq, e1, e2⟩ := q4.get
  have hij : i ≠ j := fun z => q5 (by rw [e, e', z])
  have hh := h1 i j p q hi hj hij e e' hpq hq e1 e2
  subst e e' e1 e2
  exact ⟨q + 1 - p + 1, L_windsR hi hj hpq hq hW hR1 (q + 1 - p) p 0 0 m1 (by omega) (Or.inl rfl) Fr.rf (fun μ' f => hh μ' (f1.tr (zTell_q f)) (by rw [zTell_c f, k1]))⟩
theorem P_winds {x1 x2 x3 x4 : Int32} (h : QS μ n S D tn tb F T K M) : PI (d + 7) mX8_winds mX9_winds [.ref 0, .int x1, .int x2, .int x3, .int x4] [.ref 106, .int x1, .int x2, .int x3, .int x4] c12 μ := by
  intro KI X hK hX
  have n6 := h.1.1
  refine C_winds h.1 h.2.1 (fun a => hX _ _ Fr.rf (fun m2 g => R_winds h.1 (h.2.2.r (Fr.rf (P := zCls)) g) (fun _ m f e => ⟨e, h.q Fr.rf g f⟩) (fun b => absurd b a) (fun i j _ _ hi hj _ e e' _ _ _ _ => absurd ⟨by rw [e]; exact vIs_n hi n6, by rw [e']; exact vIs_n hj n6⟩ a)) (by decide))
    (fun a b => hX _ _ Fr.rf (fun m2 g => R_winds h.1 (h.2.2.r (Fr.rf (P := zCls)) g) (fun c => absurd a c) (fun _ _ m f e => ⟨e, h.q Fr.rf g f⟩) (fun i j p q hi hj hij e e' hpq hq e1 e2 => absurd ⟨by rw [e1, e2]; exact vSp_n hpq hq, fun z => hij (nj hi hj n6 (e.symm.trans (z.trans e')))⟩ b)) (by decide))
    (fun i j p q hi hj hij e e' hpq hq e1 e2 m1 f1 => hK _ _ (zScC_c f1) (fun m2 g => R_winds h.1 (h.2.2.r (zScC_c f1) g) (fun c => absurd ⟨by rw [e]; exact vIs_n hi n6, by rw [e']; exact vIs_n hj n6⟩ c) (fun _ b => absurd ⟨by rw [e1, e2]; exact vSp_n hpq hq, fun z => hij (nj hi hj n6 (e.symm.trans (z.trans e')))⟩ b) (fun i' j' p' q' hi' hj' _ ee ee' hpq' hq' e1' e2' m f e3 => ⟨e3, ?_, h.q f1 g f⟩)))
  cases nj hi hi' n6 (e.symm.trans ee)
  cases nj hj hj' n6 (e'.symm.trans ee')
  cases nj' (by omega) (by omega) (e1.symm.trans e1')
  cases nj' (by omega) (by omega) (e2.symm.trans e2'); rfl
end Wet
