def PV (d : Nat) (mC mR : zMD) (aC aR : List Value) (μ : zMem) : Prop := ∀ (KV : zMem → Prop) (X : Nat → zMem → Prop),
  (∀ m1, Fr zCls μ m1 → (∀ m2, Fr z143 m1 m2 → zcV d mR aR m2 (fun m3 => QI m3 ∧ Fr zRef m2 m3) zNo) → KV m1) → zcV d mC aC μ KV X
section See
variable {d : Nat} {μ : zMem} {KI : Int32 → zMem → Prop} {KV : zMem → Prop} {X : Nat → zMem → Prop} {n : Nat} {S : zSky} {D : Nat → Int32} {tn : Nat} {tb : Nat → Int32} {F : Int32} {T T' : zT} {K : Option (Nat → Int32)} {M : Option zT}
def tSee (T : zT) (i : Nat) (h z : Int32) : zT := (T.1, T.2.1, T.2.2.1, T.2.2.2.1, (T.2.2.2.2.1 + 1, fun j => if j = T.2.2.2.2.1 then (i, h, z) else T.2.2.2.2.2 j))
abbrev vSe (T : zT) (z : Int32) : Prop := T.2.2.2.2.1 < 12 ∧ 0 ≤ z.toInt ∧ z.toInt ≤ 60
theorem n3' (m : Nat) : nI m * 3 = nI (3 * m) := by
  rw [show (3 : Int32) = nI 3 from rfl, pk_mul, Nat.mul_comm]
theorem C_see {x1 x2 x3 : Int32} (hW : QW n S D tn T K M) (hC : QC μ n S D tn tb F T K M) (h0 : ¬ (vIs n x1 ∧ vHr x2) → X 0 μ)
    (h2 : ∀ i, i < n → x1 = nI i → vHr x2 → ¬ vSe T x3 → ∀ m, Fr zCls μ m → QC m n S D tn tb F (tRef T 2) K M → KI (-1) m)
    (h1 : ∀ i, i < n → x1 = nI i → vHr x2 → vSe T x3 → ∀ m, Fr zCls μ m → QC m n S D tn tb F (tSee T i x2 x3) K M → KI (nI (T.2.2.2.2.1 + 1)) m) : zcI (d + 3) mX8_see [.ref 0, .int x1, .int x2, .int x3] μ KI X := by
  have n6 := hW.1
  have t12 := hW.tw.2.2.1
  obtain ⟨t1, t2, ⟨t3, t4⟩, ⟨t5, t6⟩, t7, t8⟩ := hC.2.2.2.1
  refine cX8_see_ (C_needIsle hC.cn n6 (fun q => h0 fun z => q z.1) (fun i hi e => C_needHour (fun q => h0 fun z => q z.2) (fun q2 => ?_)))
  have no : ¬ vSe T x3 → pX8_see_31 (d + 2) μ KI X := fun q m em => h2 i hi e q2 q m (by rw [em]; exact ref_c) (by rw [em]; exact hC.ref)
  have i60 : (60 : Int32).toInt = 60 := by decide
  rw [t7, show (12 : Int32) = nI 12 from rfl, n_le (by omega) (by omega), i_lt, i_0, i_le, i60]
  refine ⟨fun q => no (by unfold vSe; omega), fun q => ⟨fun q2 => no (by unfold vSe; omega), fun q3 => ⟨fun q4 => ?_, fun q3 => no (by unfold vSe; omega)⟩⟩⟩
  have hh := h1 i hi e q2 (by unfold vSe; omega)
  rw [n3', nI_1, nI_2, tN_nI (n := 3 * T.2.2.2.2.1) (by omega), tN_nI (n := 3 * T.2.2.2.2.1 + 1) (by omega), tN_nI (n := 3 * T.2.2.2.2.1 + 2) (by omega)]
  refine ⟨vin (by omega), fun m3 e3 => ⟨vin (by omega), fun m4 e4 => ⟨vin (by omega), fun m5 e5 m6 e6 => ?_⟩⟩⟩
  have c6 : m6 46 6 = nI (T.2.2.2.2.1 + 1) := by rw [e6, zw_s, e5, zw_c (by omega), e4, zw_c (by omega), e3, zw_c (by omega), t7, nI_1]
  rw [c6]
  have g : ∀ c j, c ≠ 61 → ¬ (c = 46 ∧ j = 6) → m6 c j = μ c j := fun c j a b => by rw [e6, zw_n b, e5, zw_c a, e4, zw_c a, e3, zw_c a]
  refine hh m6 (fun c j z => g c j (fun y => z (by unfold zCls; omega)) (fun y => z (by unfold zCls; omega))) (hC.t (fun c j _ a _ => g c j (by omega) (by omega)) ⟨t1.go fun c j a b => g c j (by omega) (by omega), fun k hk => ?_, ⟨?_, fun j hj => (t4 j hj).xt fun k _ => g _ _ (by omega) (by omega)⟩, ⟨?_, fun k hk => ?_⟩, c6, fun k hk => ?_⟩)
  · rw [g _ _ (by omega) (by omega)]; exact t2 k hk
  · rw [g _ _ (by omega) (by omega)]; exact t3
  · rw [g _ _ (by omega) (by omega)]; exact t5
  · rw [g _ _ (by omega) (by omega)]; exact t6 k hk
  · have hk' : k < T.2.2.2.2.1 + 1 := hk
    show m6 61 (3 * k) = nI (if k = T.2.2.2.2.1 then (i, x2, x3) else T.2.2.2.2.2 k).1 ∧ m6 61 (3 * k + 1) = (if k = T.2.2.2.2.1 then (i, x2, x3) else T.2.2.2.2.2 k).2.1 ∧ m6 61 (3 * k + 2) = (if k = T.2.2.2.2.1 then (i, x2, x3) else T.2.2.2.2.2 k).2.2
    by_cases z : k = T.2.2.2.2.1
    · rw [if_pos z, e6, zw_c (by omega), zw_c (by omega), zw_c (by omega), e5, z, zw_j (by omega), zw_j (by omega), zw_s, e4, zw_j (by omega), zw_s, e3, zw_s]
      exact ⟨e, rfl, rfl⟩
    · rw [if_neg z, e6, zw_c (by omega), zw_c (by omega), zw_c (by omega), e5, zw_j (by omega), zw_j (by omega), zw_j (by omega), e4, zw_j (by omega), zw_j (by omega), zw_j (by omega), e3, zw_j (by omega), zw_j (by omega), zw_j (by omega)]
      exact t8 k (by omega)
theorem R_see {x1 x2 x3 : Int32} (hW : QW n S D tn T K M) (hR : QR μ n S D tn tb F T K M) (h0 : ¬ (vIs n x1 ∧ vHr x2) → ∀ m, Fr zScR μ m → m 106 3 = 1 → KI 0 m)
    (h2 : ∀ i, i < n → x1 = nI i → vHr x2 → ¬ vSe T x3 → ∀ m, Fr zRef μ m → m 106 3 = 0 → QR m n S D tn tb F (tRef T 2) K M → KI (-1) m)
    (h1 : ∀ i, i < n → x1 = nI i → vHr x2 → vSe T x3 → ∀ m, Fr zRef μ m → m 106 3 = 0 → QR m n S D tn tb F (tSee T i x2 x3) K M → KI (nI (T.2.2.2.2.1 + 1)) m) : zcI (d + 3) mX9_see [.ref 106, .int x1, .int x2, .int x3] μ KI X := by
  have n6 := hW.1
  have t12 := hW.tw.2.2.1
  refine cX9_see_ (fun m1 e1 => ?_)
  have f1 : Fr zScR μ m1 := by rw [e1]; exact code_q
  have k1 : m1 106 3 = 0 := by rw [e1, zw_s]
  have hR1 := hR.q f1
  have bad : ¬ (vIs n x1 ∧ vHr x2) → pX9_see_20 (d + 2) m1 KI X := fun q => R_fail (fun m e => h0 q m (f1.tr (by rw [e]; exact code_q)) (by rw [e, zw_s]))
  refine R_isIsle hR1.cn n6 (b2i_go (fun q => bad fun z => q z.1) (fun q1 => R_isHour (b2i_go (fun q => bad fun z => q z.2) (fun q2 => ?_))))
  obtain ⟨i, hi, e⟩ := q1.get
  obtain ⟨t1, t2, ⟨t3, t4⟩, ⟨t5, t6⟩, t7, t8⟩ := hR1.2.2.2.1
  have no : ¬ vSe T x3 → pX9_see_47 (d + 2) m1 KI X := fun q => R_refuse (j := 2) rfl (by omega) (fun m e2 => h2 i hi e q2 q m ((zScR_r f1).tr (by rw [e2]; exact ref_r)) (by rw [e2, zw_c (by omega), k1]) (by rw [e2]; exact hR1.ref))
  rw [t7, show (12 : Int32) = nI 12 from rfl, n_eq (by omega) (by omega)]
  refine ⟨fun q => no (by unfold vSe; omega), fun q => R_isIn (A := 0) (B := 60) (by decide) (by decide) (b2i_go (fun q3 => no fun z => q3 z.2) (fun q3 => ?_))⟩
  have hh := h1 i hi e q2 (by unfold vSe; omega)
  rw [t7, tN_nI (by omega)]
  refine ⟨vin (by omega), fun m3 e3 => ?_⟩
  have c3 : m3 106 29 = nI T.2.2.2.2.1 := by rw [e3, zw_c (by omega)]; exact t7
  rw [c3, tN_nI (by omega)]
  refine ⟨vin (by omega), fun m4 e4 => ?_⟩
  have c4 : m4 106 29 = nI T.2.2.2.2.1 := by rw [e4, zw_c (by omega)]; exact c3
  rw [c4, tN_nI (by omega)]
  refine ⟨vin (by omega), fun m5 e5 m6 e6 => ?_⟩
  have c6 : m6 106 29 = nI (T.2.2.2.2.1 + 1) := by rw [e6, zw_s, e5, zw_c (by omega), c4, nI_1]
  rw [c6]
  have g : ∀ c j, c ≠ 132 → c ≠ 133 → c ≠ 134 → ¬ (c = 106 ∧ j = 29) → m6 c j = m1 c j := fun c j a b b2 b3 => by rw [e6, zw_n b3, e5, zw_c b2, e4, zw_c b, e3, zw_c a]
  refine hh m6 (fun c j z => by unfold zRef at z; rw [g _ _ (by omega) (by omega) (by omega) (by omega)]; exact f1 _ _ (by unfold zScR; omega)) (by rw [g _ _ (by omega) (by omega) (by omega) (by omega), k1]) (hR1.t (fun c j _ _ z _ => g c j (fun y => z (by unfold zLiv; omega)) (fun y => z (by unfold zLiv; omega)) (fun y => z (by unfold zLiv; omega)) (fun y => z (by unfold zLiv; omega))) ⟨fun i hi k hk => ?_, fun k hk => ?_, ⟨?_, fun j hj i hi k hk => ?_⟩, ⟨?_, fun k hk => ?_⟩, c6, fun k hk => ?_⟩)
  · rw [g _ _ (by omega) (by omega) (by omega) (by omega)]; exact t1 i hi k hk
  · rw [g _ _ (by omega) (by omega) (by omega) (by omega)]; exact t2 k hk
  · rw [g _ _ (by omega) (by omega) (by omega) (by omega)]; exact t3
  · rw [g _ _ (by omega) (by omega) (by omega) (by omega)]; exact t4 j hj i hi k hk
  · rw [g _ _ (by omega) (by omega) (by omega) (by omega)]; exact t5
  · rw [g _ _ (by omega) (by omega) (by omega) (by omega)]; exact t6 k hk
  · have hk' : k < T.2.2.2.2.1 + 1 := hk
    show m6 132 k = nI (if k = T.2.2.2.2.1 then (i, x2, x3) else T.2.2.2.2.2 k).1 ∧ m6 133 k = (if k = T.2.2.2.2.1 then (i, x2, x3) else T.2.2.2.2.2 k).2.1 ∧ m6 134 k = (if k = T.2.2.2.2.1 then (i, x2, x3) else T.2.2.2.2.2 k).2.2
    by_cases z : k = T.2.2.2.2.1
    · rw [if_pos z, e6, zw_c (by omega), zw_c (by omega), zw_c (by omega), e5, z, zw_c (by omega), zw_c (by omega), zw_s, e4, zw_c (by omega), zw_s, e3, zw_s]
      exact ⟨e, rfl, rfl⟩
    · rw [if_neg z, e6, zw_c (by omega), zw_c (by omega), zw_c (by omega), e5, zw_c (by omega), zw_c (by omega), zw_j z, e4, zw_c (by omega), zw_j z, zw_c (by omega), e3, zw_j z, zw_c (by omega), zw_c (by omega)]
      exact t8 k (by omega)
theorem TW.see {i : Nat} {x y : Int32} (h : TW n T) (hi : i < n) (h12 : T.2.2.2.2.1 < 12) : TW n (tSee T i x y) := by
  obtain ⟨h1, h2, h3, h4, h5, h6, h7⟩ := h
  refine ⟨h1, h2, by show T.2.2.2.2.1 + 1 ≤ 12; omega, h4, h5, h6, fun j hj => ?_⟩
  have hj' : j < T.2.2.2.2.1 + 1 := hj
  show (if j = T.2.2.2.2.1 then (i, x, y) else T.2.2.2.2.2 j).1 < n
  split
  · exact hi
  · exact h7 j (by omega)
theorem P_see {x1 x2 x3 : Int32} (h : QS μ n S D tn tb F T K M) : PI (d + 3) mX8_see mX9_see [.ref 0, .int x1, .int x2, .int x3] [.ref 106, .int x1, .int x2, .int x3] c10 μ := by
  intro KI X hK hX
  have n6 := h.1.1
  refine C_see h.1 h.2.1 (fun a => hX _ _ Fr.rf (fun m2 g => R_see h.1 (h.2.2.r (Fr.rf (P := zCls)) g) (fun _ m f e => ⟨e, h.q Fr.rf g f⟩) (fun i hi e b => absurd ⟨by rw [e]; exact vIs_n hi n6, b⟩ a) (fun i hi e b => absurd ⟨by rw [e]; exact vIs_n hi n6, b⟩ a)) (by decide))
    (fun i hi e b a m1 f1 c1 => hK _ _ f1 (fun m2 g => R_see h.1 (h.2.2.r f1 g) (fun c => absurd ⟨by rw [e]; exact vIs_n hi n6, b⟩ c) (fun _ _ _ _ _ m f e r => ⟨e, rfl, QS.t (h.1.t h.1.tw.ref) c1 g f r⟩) (fun _ _ _ _ c => absurd c a)))
    (fun i hi e b a m1 f1 c1 => hK _ _ f1 (fun m2 g => R_see h.1 (h.2.2.r f1 g) (fun c => absurd ⟨by rw [e]; exact vIs_n hi n6, b⟩ c) (fun _ _ _ _ c => absurd a c) (fun j hj e' _ _ m f e3 r => ?_)))
  cases nj hi hj n6 (e.symm.trans e')
  exact ⟨e3, rfl, QS.t (h.1.t (h.1.tw.see hi a.1)) c1 g f r⟩
/-! rope -/
theorem C_rope {x1 : Int32} (hW : QW n S D tn T K M) (hC : QC μ n S D tn tb F T K M) (h0 : ¬ (vIs n x1 ∧ K ≠ none) → X 0 μ) (h1 : ∀ i ρ, i < n → x1 = nI i → K = some ρ → KI (ρ i) μ) : zcI (d + 3) mX8_rope [.ref 0, .int x1] μ KI X := by
  have n6 := hW.1
  refine cX8_rope_ (C_needIsle hC.cn n6 (fun q => h0 fun z => q z.1) (fun i hi e => ?_))
  have hk := hC.2.2.2.2.1
  cases K with
  | none => exact ⟨fun _ => h0 fun z => z.2 rfl, fun q => absurd hk q⟩
  | some ρ =>
    obtain ⟨a, b⟩ := hk
    have n4 := hW.2.2.2.2.2.2.1 (by simp)
    have hh := h1 i ρ hi e rfl
    subst e
    rw [a, show (4 : Int32) = nI 4 from rfl, n_lt (by omega) (by omega), tN_nI (by omega)]
    exact ⟨fun q => absurd q (by decide), fun _ => ⟨fun _ => ⟨vin (by omega), by rw [b i hi]; exact hh⟩, fun q => absurd (by omega) q⟩⟩
theorem R_rope {x1 : Int32} (hW : QW n S D tn T K M) (hR : QR μ n S D tn tb F T K M) (h0 : ¬ (vIs n x1 ∧ K ≠ none) → ∀ m, Fr zScR μ m → m 106 3 = 1 → KI 0 m) (h1 : ∀ i ρ, i < n → x1 = nI i → K = some ρ → ∀ m, Fr zScR μ m → m 106 3 = 0 → KI (ρ i) m) : zcI (d + 3) mX9_rope [.ref 106, .int x1] μ KI X := by
  have n6 := hW.1
  refine cX9_rope_ (fun m1 e1 => ?_)
  have f1 : Fr zScR μ m1 := by rw [e1]; exact code_q
  have k1 : m1 106 3 = 0 := by rw [e1, zw_s]
  have hR1 := hR.q f1
  have bad : ¬ (vIs n x1 ∧ K ≠ none) → pX9_rope_29 (d + 2) m1 KI X := fun q => R_fail (fun m e => h0 q m (f1.tr (by rw [e]; exact code_q)) (by rw [e, zw_s]))
  refine R_isIsle hR1.cn n6 (b2i_go (fun q => bad fun z => q z.1) (fun q1 => ?_))
  obtain ⟨i, hi, e⟩ := q1.get
  have hk := hR1.2.2.2.2.1
  cases K with
  | none => exact ⟨fun _ => bad fun z => z.2 rfl, fun q => absurd hk q⟩
  | some ρ =>
    obtain ⟨a, b⟩ := hk
    have hh := h1 i ρ hi e rfl m1 f1 k1
    subst e
    rw [a, tN_nI (by omega)]
    exact ⟨fun q => absurd q (by decide), fun _ => ⟨vin (by omega), by rw [b i hi]; exact hh⟩⟩
theorem P_rope {x1 : Int32} (h : QS μ n S D tn tb F T K M) : PI (d + 3) mX8_rope mX9_rope [.ref 0, .int x1] [.ref 106, .int x1] c10 μ := by
  intro KI X hK hX
  have n6 := h.1.1
  refine C_rope h.1 h.2.1 (fun a => hX _ _ Fr.rf (fun m2 g => R_rope h.1 (h.2.2.r (Fr.rf (P := zCls)) g) (fun _ m f e => ⟨e, h.q Fr.rf g f⟩) (fun i ρ hi e b => absurd ⟨by rw [e]; exact vIs_n hi n6, by rw [b]; simp⟩ a)) (by decide))
    (fun i ρ hi e b => hK _ _ Fr.rf (fun m2 g => R_rope h.1 (h.2.2.r (Fr.rf (P := zCls)) g) (fun c => absurd ⟨by rw [e]; exact vIs_n hi n6, by rw [b]; simp⟩ c) (fun j ρ' hj e' b' m f e3 => ⟨e3, ?_, h.q Fr.rf g f⟩)))
  cases nj hi hj n6 (e.symm.trans e')
  rw [b] at b'
  cases b'; rfl
/-! the image -/
theorem QC.m {μ' : zMem} (h : QC μ n S D tn tb F T K M) (e : ∀ c j, c ≤ 105 → ¬ (63 ≤ c ∧ c ≤ 79) → ¬ (c = 0 ∧ j = 8) → μ' c j = μ c j) (k1 : μ' 0 8 = 1) (t : TC 63 μ' n T') : QC μ' n S D tn tb F T K (some T') := by
  obtain ⟨⟨h1, h2, h3, h4, h5, h6⟩, ⟨h7, h8⟩, h9, h10, h11, h12⟩ := h
  have z4 : zsk μ' 0 4 = zsk μ 0 4 := by unfold zsk; rw [e 0 4 (by omega) (by omega) (by omega)]
  have z5 : zsk μ' 0 5 = zsk μ 0 5 := by unfold zsk; rw [e 0 5 (by omega) (by omega) (by omega)]
  have sr := sky_rng (zsk_sh μ 0 4)
  refine ⟨?_, ⟨by rw [e _ _ (by omega) (by omega) (by omega)]; exact h7, fun j hj => by rw [e _ _ (by omega) (by omega) (by omega)]; exact h8 j hj⟩, by rw [e _ _ (by omega) (by omega) (by omega)]; exact h9, h10.go fun c j _ _ => e _ _ (by omega) (by omega) (by omega), ?_, k1, t⟩
  · rw [z4, z5]
    refine ⟨h1.go fun c j q => e _ _ (by omega) (by omega) (by omega), h2, ?_, ?_, ?_, fun j hj => ?_⟩
    · rw [e _ _ (by omega) (by omega) (by omega)]; exact h3
    · rw [e _ _ (by omega) (by omega) (by omega)]; exact h4
    · rw [e _ _ (by omega) (by omega) (by omega)]; exact h5
    · rw [e _ _ (by omega) (by omega) (by omega)]; exact h6 j hj
  · cases K with
    | none => show μ' 98 4 = 0; rw [e _ _ (by omega) (by omega) (by omega)]; exact h11
    | some ρ =>
      refine ⟨by rw [e _ _ (by omega) (by omega) (by omega)]; exact h11.1, fun i hi => by rw [e _ _ (by omega) (by omega) (by omega)]; exact h11.2 i hi⟩
def zImg (c j : Nat) : Prop := (136 ≤ c ∧ c ≤ 142) ∨ (c = 106 ∧ 53 ≤ j ∧ j ≤ 56) ∨ (c = 106 ∧ j = 3)
theorem QR.m {μ' : zMem} (h : QR μ n S D tn tb F T K M) (e : ∀ c j, 106 ≤ c → c ≤ 142 → ¬ zImg c j → μ' c j = μ c j) (k1 : μ' 106 53 = 1) (t : TRk μ' n T') : QR μ' n S D tn tb F T K (some T') := by
  obtain ⟨⟨h1, h2, h3⟩, ⟨h7, h8⟩, h9, h10, h11, h12⟩ := h
  refine ⟨⟨?_, ?_, ?_⟩, ⟨by rw [e _ _ (by omega) (by omega) (by unfold zImg; omega)]; exact h7, fun j hj => by rw [e _ _ (by omega) (by omega) (by unfold zImg; omega)]; exact h8 j hj⟩, by rw [e _ _ (by omega) (by omega) (by unfold zImg; omega)]; exact h9, h10.go fun c j q => e _ _ (by omega) (by omega) (by unfold zImg; omega), ?_, k1, t⟩
  · rw [e _ _ (by omega) (by omega) (by unfold zImg; omega)]; exact h1
  · exact h2.go fun c j q1 q2 q3 => e _ _ (by omega) (by omega) (by unfold zImg; omega)
  · intro j hj1 hj2
    rw [e _ _ (by omega) (by omega) (by unfold zImg; omega)]; exact h3 j hj1 hj2
  · cases K with
    | none => show μ' 106 36 = 0; rw [e _ _ (by omega) (by omega) (by unfold zImg; omega)]; exact h11
    | some ρ =>
      refine ⟨by rw [e _ _ (by omega) (by omega) (by unfold zImg; omega)]; exact h11.1, fun i hi => by rw [e _ _ (by omega) (by omega) (by unfold zImg; omega)]; exact h11.2 i hi⟩
theorem C_image (hW : QW n S D tn T K M) (hC : QC μ n S D tn tb F T K M) (h : ∀ m, Fr zCls μ m → QC m n S D tn tb F T K (some T) → KV m) : zcV (d + 3) mX8_image [.ref 0] μ KV X := by
  refine cX8_image_ (C_copyS (by decide +kernel) (by decide +kernel) (by omega) hW.1 hW.tw hC.2.2.2.1 (fun m1 f1 t1 m2 e2 => ?_))
  have g : ∀ c j, ¬ (63 ≤ c ∧ c ≤ 79) → ¬ (c = 0 ∧ j = 8) → m2 c j = μ c j := fun c j a b => by rw [e2, zw_n b, f1 _ _ (by unfold zSt; omega)]
  exact h m2 (fun c j z => g c j (fun y => z (by unfold zCls; omega)) (fun y => z (by unfold zCls; omega))) (hC.m (fun c j _ a b => g c j a b) (by rw [e2, zw_s]) (t1.go fun c j a b => by rw [e2, zw_c (by omega)]))
theorem R_image (hW : QW n S D tn T K M) (hR : QR μ n S D tn tb F T K M) (h : ∀ m, Fr zRef μ m → QR m n S D tn tb F T K (some T) → KV m) : zcV (d + 2) mX9_image [.ref 106] μ KV X := by
  have n6 := hW.1
  obtain ⟨w1, w2, w3, -⟩ := hW.tw
  refine cX9_image_ (fun m1 e1 m2 e2 m3 e3 m4 e4 m5 e5 => ?_)
  have f1 : Fr zScR μ m1 := by rw [e1]; exact code_q
  obtain ⟨t1, t2, ⟨t3, t4⟩, ⟨t5, t6⟩, t7, t8⟩ := hR.2.2.2.1
  have g5 : ∀ c j, ¬ (c = 106 ∧ 53 ≤ j ∧ j ≤ 56) → ¬ (c = 106 ∧ j = 3) → m5 c j = μ c j := fun c j a b => by
    rw [e5, zw_n (by omega), e4, zw_n (by omega), e3, zw_n (by omega), e2, zw_n (by omega), e1, zw_n (by omega)]
  refine R_be (n0 := 168) (n1 := 168) (by decide +kernel) (by decide +kernel) (by omega) (by omega) (by omega) (fun m6 f6 g6 => ?_)
  refine R_be (n0 := 3360) (n1 := 3360) (by decide +kernel) (by decide +kernel) (by omega) (by omega) (by omega) (fun m7 f7 g7 => ?_)
  refine R_be (n0 := 40) (n1 := 40) (by decide +kernel) (by decide +kernel) (by omega) (by omega) (by omega) (fun m8 f8 g8 => ?_)
  refine R_be (n0 := 12) (n1 := 12) (by decide +kernel) (by decide +kernel) (by omega) (by omega) (by omega) (fun m9 f9 g9 => ?_)
  refine R_be (n0 := 12) (n1 := 12) (by decide +kernel) (by decide +kernel) (by omega) (by omega) (by omega) (fun m10 f10 g10 => ?_)
  refine R_be (n0 := 12) (n1 := 12) (by decide +kernel) (by decide +kernel) (by omega) (by omega) (by omega) (fun m11 f11 g11 => ?_)
  refine R_be (n0 := 3) (n1 := 3) (by decide +kernel) (by decide +kernel) (by omega) (by omega) (by omega) (fun m12 f12 g12 => ?_)
  have a12 : ∀ c j, c < 136 → m12 c j = m5 c j := fun c j a => by
    rw [f12 _ _ (by omega), f11 _ _ (by omega), f10 _ _ (by omega), f9 _ _ (by omega), f8 _ _ (by omega), f7 _ _ (by omega), f6 _ _ (by omega)]
  have all : ∀ c j, ¬ (136 ≤ c ∧ c ≤ 142) → m12 c j = m5 c j := fun c j a => by
    rw [f12 _ _ (by omega), f11 _ _ (by omega), f10 _ _ (by omega), f9 _ _ (by omega), f8 _ _ (by omega), f7 _ _ (by omega), f6 _ _ (by omega)]
  refine h m12 (fun c j z => ?_) (hR.m (fun c j _ _ z => ?_) ?_ ⟨fun i hi k hk => ?_, fun k hk => ?_, ⟨?_, fun j hj i hi k hk => ?_⟩, ⟨?_, fun k hk => ?_⟩, ?_, fun k hk => ⟨?_, ?_, ?_⟩⟩)
  · unfold zRef at z
    rw [all _ _ (by omega), g5 _ _ (by omega) (by omega)]
  · unfold zImg at z
    rw [all _ _ (by omega), g5 _ _ (by omega) (by omega)]
  · rw [a12 _ _ (by omega), e5, zw_j (by omega), e4, zw_j (by omega), e3, zw_j (by omega), e2, zw_s]
  · rw [f12 _ _ (by omega), f11 _ _ (by omega), f10 _ _ (by omega), f9 _ _ (by omega), f8 _ _ (by omega), f7 _ _ (by omega), g6 _ (by omega), g5 _ _ (by omega) (by omega)]; exact t1 i hi k hk
  · rw [g12 _ (by omega), f11 _ _ (by omega), f10 _ _ (by omega), f9 _ _ (by omega), f8 _ _ (by omega), f7 _ _ (by omega), f6 _ _ (by omega), g5 _ _ (by omega) (by omega)]; exact t2 k hk
  · rw [a12 _ _ (by omega), e5, zw_j (by omega), e4, zw_j (by omega), e3, zw_s, e2, zw_j (by omega), e1, zw_j (by omega)]; exact t3
  · rw [f12 _ _ (by omega), f11 _ _ (by omega), f10 _ _ (by omega), f9 _ _ (by omega), f8 _ _ (by omega), g7 _ (by omega), f6 _ _ (by omega), g5 _ _ (by omega) (by omega)]; exact t4 j hj i hi k hk
  · rw [a12 _ _ (by omega), e5, zw_j (by omega), e4, zw_s, e3, zw_j (by omega), e2, zw_j (by omega), e1, zw_j (by omega)]; exact t5
  · rw [f12 _ _ (by omega), f11 _ _ (by omega), f10 _ _ (by omega), f9 _ _ (by omega), g8 _ (by omega), f7 _ _ (by omega), f6 _ _ (by omega), g5 _ _ (by omega) (by omega)]; exact t6 k hk
  · rw [a12 _ _ (by omega), e5, zw_s, e4, zw_j (by omega), e3, zw_j (by omega), e2, zw_j (by omega), e1, zw_j (by omega)]; exact t7
  · rw [f12 _ _ (by omega), f11 _ _ (by omega), f10 _ _ (by omega), g9 _ (by omega), f8 _ _ (by omega), f7 _ _ (by omega), f6 _ _ (by omega), g5 _ _ (by omega) (by omega)]; exact (t8 k hk).1
  · rw [f12 _ _ (by omega), f11 _ _ (by omega), g10 _ (by omega), f9 _ _ (by omega), f8 _ _ (by omega), f7 _ _ (by omega), f6 _ _ (by omega), g5 _ _ (by omega) (by omega)]; exact (t8 k hk).2.1
  · rw [f12 _ _ (by omega), g11 _ (by omega), f10 _ _ (by omega), f9 _ _ (by omega), f8 _ _ (by omega), f7 _ _ (by omega), f6 _ _ (by omega), g5 _ _ (by omega) (by omega)]; exact (t8 k hk).2.2
theorem QW.m (h : QW n S D tn T K M) (t : TW n T') : QW n S D tn T K (some T') := ⟨h.1, h.2.1, h.2.2.1, h.2.2.2.1, h.2.2.2.2.1, h.2.2.2.2.2.1, h.2.2.2.2.2.2.1, fun _ e => by cases e; exact t⟩
theorem P_image (h : QS μ n S D tn tb F T K M) : PV (d + 3) mX8_image mX9_image [.ref 0] [.ref 106] μ := by
  intro KV X hK
  exact C_image h.1 h.2.1 (fun m1 f1 c1 => hK _ f1 (fun m2 g => R_image h.1 (h.2.2.r f1 g) (fun m f r => QS.t (h.1.m h.1.tw) c1 g f r)))
theorem C_restore (hW : QW n S D tn T K M) (hC : QC μ n S D tn tb F T K M) (h0 : M = none → KI 0 μ) (h1 : ∀ T', M = some T' → ∀ m, Fr zCls μ m → QC m n S D tn tb F T' K M → KI 1 m) : zcI (d + 3) mX8_restore [.ref 0] μ KI X := by
  refine cX8_restore_ ?_
  unfold pX8_restore
  have hm := hC.2.2.2.2.2
  cases M with
  | none => exact ⟨fun _ => h0 rfl, fun q => absurd hm q⟩
  | some T' =>
    obtain ⟨a, b⟩ := hm
    refine ⟨fun q => absurd (a.symm.trans q) (by decide), fun _ => C_copyS (by decide +kernel) (by decide +kernel) (by omega) hW.1 (hW.2.2.2.2.2.2.2 T' rfl) b (fun m1 f1 t1 => ?_)⟩
    exact h1 T' rfl m1 (fun c j z => f1 _ _ (fun y => z (by unfold zSt at y; unfold zCls; omega))) (hC.t (fun c j _ q _ => f1 _ _ (by unfold zSt; omega)) t1)
theorem R_restore (hW : QW n S D tn T K M) (hR : QR μ n S D tn tb F T K M) (h0 : M = none → ∀ m, Fr zScR μ m → m 106 3 = 0 → KI 0 m) (h1 : ∀ T', M = some T' → ∀ m, Fr zRef μ m → m 106 3 = 0 → QR m n S D tn tb F T' K M → KI 1 m) : zcI (d + 2) mX9_restore [.ref 106] μ KI X := by
  have n6 := hW.1
  refine cX9_restore_ (fun m1 e1 => ?_)
  have f1 : Fr zScR μ m1 := by rw [e1]; exact code_q
  have k1 : m1 106 3 = 0 := by rw [e1, zw_s]
  have hR1 := hR.q f1
  have hm := hR1.2.2.2.2.2
  cases M with
  | none => exact ⟨fun _ => h0 rfl m1 f1 k1, fun q => absurd hm q⟩
  | some T' =>
    obtain ⟨a, t1, t2, ⟨t3, t4⟩, ⟨t5, t6⟩, t7, t8⟩ := hm
    obtain ⟨w1, w2, w3, -⟩ := hW.2.2.2.2.2.2.2 T' rfl
    refine ⟨fun q => absurd (a.symm.trans q) (by decide), fun _ m2 e2 m3 e3 m4 e4 => ?_⟩
    have g4 : ∀ c j, ¬ (c = 106 ∧ 27 ≤ j ∧ j ≤ 29) → m4 c j = m1 c j := fun c j a => by
      rw [e4, zw_n (by omega), e3, zw_n (by omega), e2, zw_n (by omega)]
    refine R_be (n0 := 168) (n1 := 168) (by decide +kernel) (by decide +kernel) (by omega) (by omega) (by omega) (fun m6 f6 g6 => ?_)
    refine R_be (n0 := 3360) (n1 := 3360) (by decide +kernel) (by decide +kernel) (by omega) (by omega) (by omega) (fun m7 f7 g7 => ?_)
    refine R_be (n0 := 40) (n1 := 40) (by decide +kernel) (by decide +kernel) (by omega) (by omega) (by omega) (fun m8 f8 g8 => ?_)
    refine R_be (n0 := 12) (n1 := 12) (by decide +kernel) (by decide +kernel) (by omega) (by omega) (by omega) (fun m9 f9 g9 => ?_)
    refine R_be (n0 := 12) (n1 := 12) (by decide +kernel) (by decide +kernel) (by omega) (by omega) (by omega) (fun m10 f10 g10 => ?_)
    refine R_be (n0 := 12) (n1 := 12) (by decide +kernel) (by decide +kernel) (by omega) (by omega) (by omega) (fun m11 f11 g11 => ?_)
    refine R_be (n0 := 3) (n1 := 3) (by decide +kernel) (by decide +kernel) (by omega) (by omega) (by omega) (fun m12 f12 g12 => ?_)
    have all : ∀ c j, c ≠ 111 → c ≠ 123 → c ≠ 129 → c ≠ 132 → c ≠ 133 → c ≠ 134 → c ≠ 116 → m12 c j = m4 c j := fun c j a1 a2 a3 a4 a5 a6 a7 => by
      rw [f12 _ _ a7, f11 _ _ a6, f10 _ _ a5, f9 _ _ a4, f8 _ _ a3, f7 _ _ a2, f6 _ _ a1]
    refine h1 T' rfl m12 (fun c j z => ?_) ?_ (hR1.t (fun c j _ _ z _ => ?_) ⟨fun i hi k hk => ?_, fun k hk => ?_, ⟨?_, fun j hj i hi k hk => ?_⟩, ⟨?_, fun k hk => ?_⟩, ?_, fun k hk => ⟨?_, ?_, ?_⟩⟩)
    · unfold zRef at z
      rw [all _ _ (by omega) (by omega) (by omega) (by omega) (by omega) (by omega) (by omega), g4 _ _ (by omega)]; exact f1 _ _ (by unfold zScR; omega)
    · rw [all _ _ (by omega) (by omega) (by omega) (by omega) (by omega) (by omega) (by omega), g4 _ _ (by omega)]; exact k1
    · have z' : ¬ (c = 111 ∨ c = 123 ∨ c = 129 ∨ c = 132 ∨ c = 133 ∨ c = 134 ∨ c = 116 ∨ (c = 106 ∧ (j = 27 ∨ j = 28 ∨ j = 29))) := z
      rw [all _ _ (by omega) (by omega) (by omega) (by omega) (by omega) (by omega) (by omega), g4 _ _ (by omega)]
    · rw [f12 _ _ (by omega), f11 _ _ (by omega), f10 _ _ (by omega), f9 _ _ (by omega), f8 _ _ (by omega), f7 _ _ (by omega), g6 _ (by omega), g4 _ _ (by omega)]; exact t1 i hi k hk
    · rw [g12 _ (by omega), f11 _ _ (by omega), f10 _ _ (by omega), f9 _ _ (by omega), f8 _ _ (by omega), f7 _ _ (by omega), f6 _ _ (by omega), g4 _ _ (by omega)]; exact t2 k hk
    · rw [all _ _ (by omega) (by omega) (by omega) (by omega) (by omega) (by omega) (by omega), e4, zw_j (by omega), e3, zw_j (by omega), e2, zw_s]; exact t3
    · rw [f12 _ _ (by omega), f11 _ _ (by omega), f10 _ _ (by omega), f9 _ _ (by omega), f8 _ _ (by omega), g7 _ (by omega), f6 _ _ (by omega), g4 _ _ (by omega)]; exact t4 j hj i hi k hk
    · rw [all _ _ (by omega) (by omega) (by omega) (by omega) (by omega) (by omega) (by omega), e4, zw_j (by omega), e3, zw_s, e2, zw_j (by omega)]; exact t5
    · rw [f12 _ _ (by omega), f11 _ _ (by omega), f10 _ _ (by omega), f9 _ _ (by omega), g8 _ (by omega), f7 _ _ (by omega), f6 _ _ (by omega), g4 _ _ (by omega)]; exact t6 k hk
    · rw [all _ _ (by omega) (by omega) (by omega) (by omega) (by omega) (by omega) (by omega), e4, zw_s, e3, zw_j (by omega), e2, zw_j (by omega)]; exact t7
    · rw [f12 _ _ (by omega), f11 _ _ (by omega), f10 _ _ (by omega), g9 _ (by omega), f8 _ _ (by omega), f7 _ _ (by omega), f6 _ _ (by omega), g4 _ _ (by omega)]; exact (t8 k hk).1
    · rw [f12 _ _ (by omega), f11 _ _ (by omega), g10 _ (by omega), f9 _ _ (by omega), f8 _ _ (by omega), f7 _ _ (by omega), f6 _ _ (by omega), g4 _ _ (by omega)]; exact (t8 k hk).2.1
    · rw [f12 _ _ (by omega), g11 _ (by omega), f10 _ _ (by omega), f9 _ _ (by omega), f8 _ _ (by omega), f7 _ _ (by omega), f6 _ _ (by omega), g4 _ _ (by omega)]; exact (t8 k hk).2.2
theorem P_restore (h : QS μ n S D tn tb F T K M) : PI (d + 3) mX8_restore mX9_restore [.ref 0] [.ref 106] c00 μ := by
  intro KI X hK hX
  refine C_restore h.1 h.2.1 (fun a => hK _ _ Fr.rf (fun m2 g => R_restore h.1 (h.2.2.r (Fr.rf (P := zCls)) g) (fun _ m f e => ⟨e, rfl, h.q Fr.rf g f⟩) (fun T' b => by rw [a] at b; cases b)))
    (fun T' a m1 f1 c1 => hK _ _ f1 (fun m2 g => R_restore h.1 (h.2.2.r f1 g) (fun b => by rw [a] at b; cases b) (fun T'' b m f e r => ?_)))
  rw [a] at b
  cases b
  exact ⟨e, rfl, QS.t (h.1.t (h.1.2.2.2.2.2.2.2 T' a)) c1 g f r⟩
end See
