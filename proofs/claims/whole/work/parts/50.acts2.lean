section Acts2
variable {d : Nat} {μ : zMem} {KI : Int32 → zMem → Prop} {KV : zMem → Prop} {X : Nat → zMem → Prop} {n : Nat} {S : zSky} {D : Nat → Int32} {tn : Nat} {tb : Nat → Int32} {F : Int32} {T T' : zT} {K : Option (Nat → Int32)} {M : Option zT}
abbrev v60 (a : Int) (x : Int32) : Prop := a ≤ x.toInt ∧ x.toInt ≤ 60
theorem i60 : (60 : Int32).toInt = 60 := by decide
theorem zw_x {μ : zMem} {a i : Nat} {x : Int32} {P : Nat → Nat → Prop} (h : ∀ j, P a j) : Fr P μ (zw μ a i x) := Fr.w (h i)
theorem ref_c {j : Nat} {x : Int32} : Fr zCls μ (zw μ 62 j x) := Fr.w (by unfold zCls; omega)
theorem ref_r {j : Nat} {x : Int32} : Fr zRef μ (zw μ 116 j x) := Fr.w (by unfold zRef; omega)
/-- a number of an isle, set by one act: kind, column -/
theorem C_winch {x1 x2 : Int32} (hW : QW n S D tn T K M) (hC : QC μ n S D tn tb F T K M) (h0 : ¬ vIs n x1 → X 0 μ) (h2 : ∀ i, i < n → x1 = nI i → ¬ v60 1 x2 → ∀ m, Fr zCls μ m → QC m n S D tn tb F (tRef T 1) K M → KI (-1) m)
    (h1 : ∀ i, i < n → x1 = nI i → v60 1 x2 → ∀ m, Fr zCls μ m → QC m n S D tn tb F (tPush T (zset T.1 i 3 x2)) K M → KI (T.1 i 3) m) : zcI (d + 3) mX8_winch [.ref 0, .int x1, .int x2] μ KI X := by
  have n6 := hW.1
  refine cX8_winch_ (C_needIsle hC.cn n6 h0 (fun i hi e => ?_))
  have bad : ¬ v60 1 x2 → pX8_winch_16 (d + 2) μ KI X := fun q m em => h2 i hi e q m (by rw [em]; exact ref_c) (by rw [em]; exact hC.ref)
  subst e
  rw [i_lt, i_le, i_1, i60]
  refine ⟨fun q => bad (by unfold v60; omega), fun q => ⟨fun q2 => ?_, fun q2 => bad (by unfold v60; omega)⟩⟩
  rw [tN_nI (by omega)]
  refine ⟨vin (by omega), fun v2 e2 => ⟨vin (by omega), fun m3 e3 => ?_⟩⟩
  have e2' : v2 = T.1 i 3 := by rw [e2]; exact hC.I.lo (k := 3) hi (by omega)
  subst e2'
  refine C_act hW hC (I' := zset T.1 i 3 x2) (fun c j z => by rw [e3, zw_c (by omega)]) (by rw [e3]; exact IsC_w (o := 47) (k := 3) hC.I (by omega) fun a ha b hb => rfl) ?_ (fun μ' f q _ => h1 i hi rfl (by unfold v60; omega) μ' f q)
  refine ⟨i, hi, rfl, Or.inl ⟨rfl, ?_⟩⟩
  show eqI n T.1 (zset (zset T.1 i 3 x2) i 3 (T.1 i 3))
  rw [zset_back]; exact eqI.rf
theorem R_winch {x1 x2 : Int32} (hW : QW n S D tn T K M) (hR : QR μ n S D tn tb F T K M) (h0 : ¬ vIs n x1 → ∀ m, Fr zScR μ m → m 106 3 = 1 → KI 0 m) (h2 : ∀ i, i < n → x1 = nI i → ¬ v60 1 x2 → ∀ m, Fr zRef μ m → m 106 3 = 0 → QR m n S D tn tb F (tRef T 1) K M → KI (-1) m)
    (h1 : ∀ i, i < n → x1 = nI i → v60 1 x2 → ∀ m, Fr zRef μ m → m 106 3 = 0 → QR m n S D tn tb F (tPush T (zset T.1 i 3 x2)) K M → KI (T.1 i 3) m) : zcI (d + 3) mX9_winch [.ref 106, .int x1, .int x2] μ KI X := by
  have n6 := hW.1
  refine cX9_winch_ (fun m1 e1 => ?_)
  have f1 : Fr zScR μ m1 := by rw [e1]; exact code_q
  have k1 : m1 106 3 = 0 := by rw [e1, zw_s]
  have hR1 := hR.q f1
  refine R_isIsle hR1.cn n6 (b2i_go (fun q => R_fail (fun m e => h0 q m (f1.tr (by rw [e]; exact code_q)) (by rw [e, zw_s]))) (fun q1 => ?_))
  obtain ⟨i, hi, e⟩ := q1.get
  refine R_isIn (A := 1) (B := 60) (by decide) (by decide) (b2i_go (fun q => R_refuse (j := 1) rfl (by omega) (fun m e2 => h2 i hi e q m ((zScR_r f1).tr (by rw [e2]; exact ref_r)) (by rw [e2, zw_c (by omega), k1]) (by rw [e2]; exact hR1.ref))) (fun q => ?_))
  subst e
  refine R_keepNow (I' := zset T.1 i 3 x2) hW hR1 (fun m2 f2 l2 => R_of rfl rfl (by omega) (k := 3) (by omega) (R_set rfl rfl (by omega) (k := 3) (by omega) (fun m3 e3 => ?_)))
  have g2 : ∀ a, a < n → ∀ b, b < 14 → m2 111 (14 * a + b) = T.1 a b := fun a ha b hb => by rw [f2 _ _ (by unfold zKeep; omega)]; exact hR1.2.2.2.1.1 a ha b hb
  have e8 : rI m2 i 3 = T.1 i 3 := g2 i hi 3 (by omega)
  rw [e8]
  refine h1 i hi rfl q m3 (((zScR_r f1).tr (zKeep_r f2)).tr (by rw [e3]; exact Fr.w (by unfold zRef; omega))) (by rw [e3, zw_c (by omega), f2 _ _ (by unfold zKeep; omega), k1]) (hR1.act f2 l2 (fun c j z => by rw [e3, zw_c z]) ?_)
  rw [e3]; exact isl_set (by omega) g2
theorem P_winch {x1 x2 : Int32} (h : QS μ n S D tn tb F T K M) : PI (d + 3) mX8_winch mX9_winch [.ref 0, .int x1, .int x2] [.ref 106, .int x1, .int x2] c10 μ := by
  intro KI X hK hX
  have n6 := h.1.1
  refine C_winch h.1 h.2.1 (fun a => hX _ _ Fr.rf (fun m2 g => R_winch h.1 (h.2.2.r (Fr.rf (P := zCls)) g) (fun _ m f e => ⟨e, h.q Fr.rf g f⟩) (fun i hi e => absurd (by rw [e]; exact vIs_n hi n6) a) (fun i hi e => absurd (by rw [e]; exact vIs_n hi n6) a)) (by decide))
    (fun i hi e a m1 f1 c1 => hK _ _ f1 (fun m2 g => R_winch h.1 (h.2.2.r f1 g) (fun b => absurd (by rw [e]; exact vIs_n hi n6) b) (fun _ _ _ _ m f e r => ⟨e, rfl, QS.t (h.1.t h.1.tw.ref) c1 g f r⟩) (fun _ _ _ b => absurd b a)))
    (fun i hi e a m1 f1 c1 => hK _ _ f1 (fun m2 g => R_winch h.1 (h.2.2.r f1 g) (fun b => absurd (by rw [e]; exact vIs_n hi n6) b) (fun _ _ _ b => absurd a b) (fun j hj e' _ m f e3 r => ?_)))
  cases nj hi hj n6 (e.symm.trans e')
  exact ⟨e3, rfl, QS.t (h.1.t (h.1.tw.push (rowK_set h.1.tw.2.2.2.1 ⟨fun _ => a, fun z => by omega, fun z => by omega⟩))) c1 g f r⟩
theorem C_load {x1 x2 : Int32} (hW : QW n S D tn T K M) (hC : QC μ n S D tn tb F T K M) (h0 : ¬ vIs n x1 → X 0 μ) (h2 : ∀ i, i < n → x1 = nI i → ¬ v60 0 x2 → ∀ m, Fr zCls μ m → QC m n S D tn tb F (tRef T 1) K M → KI (-1) m)
    (h1 : ∀ i, i < n → x1 = nI i → v60 0 x2 → ∀ m, Fr zCls μ m → QC m n S D tn tb F (tPush T (zset T.1 i 7 x2)) K M → KI (T.1 i 7) m) : zcI (d + 3) mX8_load [.ref 0, .int x1, .int x2] μ KI X := by
  have n6 := hW.1
  refine cX8_load_ (C_needIsle hC.cn n6 h0 (fun i hi e => ?_))
  have bad : ¬ v60 0 x2 → pX8_load_15 (d + 2) μ KI X := fun q m em => h2 i hi e q m (by rw [em]; exact ref_c) (by rw [em]; exact hC.ref)
  subst e
  rw [i_lt, i_le, i_0, i60]
  refine ⟨fun q => bad (by unfold v60; omega), fun q => ⟨fun q2 => ?_, fun q2 => bad (by unfold v60; omega)⟩⟩
  rw [tN_nI (by omega)]
  refine ⟨vin (by omega), fun v2 e2 => ⟨vin (by omega), fun m3 e3 => ?_⟩⟩
  have e2' : v2 = T.1 i 7 := by rw [e2]; exact hC.I.lo (k := 7) hi (by omega)
  subst e2'
  refine C_act hW hC (I' := zset T.1 i 7 x2) (fun c j z => by rw [e3, zw_c (by omega)]) (by rw [e3]; exact IsC_w (o := 47) (k := 7) hC.I (by omega) fun a ha b hb => rfl) ?_ (fun μ' f q _ => h1 i hi rfl (by unfold v60; omega) μ' f q)
  refine ⟨i, hi, rfl, Or.inr (Or.inr (Or.inl ⟨rfl, ?_⟩))⟩
  show eqI n T.1 (zset (zset T.1 i 7 x2) i 7 (T.1 i 7))
  rw [zset_back]; exact eqI.rf
theorem R_load {x1 x2 : Int32} (hW : QW n S D tn T K M) (hR : QR μ n S D tn tb F T K M) (h0 : ¬ vIs n x1 → ∀ m, Fr zScR μ m → m 106 3 = 1 → KI 0 m) (h2 : ∀ i, i < n → x1 = nI i → ¬ v60 0 x2 → ∀ m, Fr zRef μ m → m 106 3 = 0 → QR m n S D tn tb F (tRef T 1) K M → KI (-1) m)
    (h1 : ∀ i, i < n → x1 = nI i → v60 0 x2 → ∀ m, Fr zRef μ m → m 106 3 = 0 → QR m n S D tn tb F (tPush T (zset T.1 i 7 x2)) K M → KI (T.1 i 7) m) : zcI (d + 3) mX9_load [.ref 106, .int x1, .int x2] μ KI X := by
  have n6 := hW.1
  refine cX9_load_ (fun m1 e1 => ?_)
  have f1 : Fr zScR μ m1 := by rw [e1]; exact code_q
  have k1 : m1 106 3 = 0 := by rw [e1, zw_s]
  have hR1 := hR.q f1
  refine R_isIsle hR1.cn n6 (b2i_go (fun q => R_fail (fun m e => h0 q m (f1.tr (by rw [e]; exact code_q)) (by rw [e, zw_s]))) (fun q1 => ?_))
  obtain ⟨i, hi, e⟩ := q1.get
  refine R_isIn (A := 0) (B := 60) (by decide) (by decide) (b2i_go (fun q => R_refuse (j := 1) rfl (by omega) (fun m e2 => h2 i hi e q m ((zScR_r f1).tr (by rw [e2]; exact ref_r)) (by rw [e2, zw_c (by omega), k1]) (by rw [e2]; exact hR1.ref))) (fun q => ?_))
  subst e
  refine R_keepNow (I' := zset T.1 i 7 x2) hW hR1 (fun m2 f2 l2 => R_of rfl rfl (by omega) (k := 7) (by omega) (R_set rfl rfl (by omega) (k := 7) (by omega) (fun m3 e3 => ?_)))
  have g2 : ∀ a, a < n → ∀ b, b < 14 → m2 111 (14 * a + b) = T.1 a b := fun a ha b hb => by rw [f2 _ _ (by unfold zKeep; omega)]; exact hR1.2.2.2.1.1 a ha b hb
  have e8 : rI m2 i 7 = T.1 i 7 := g2 i hi 7 (by omega)
  rw [e8]
  refine h1 i hi rfl q m3 (((zScR_r f1).tr (zKeep_r f2)).tr (by rw [e3]; exact Fr.w (by unfold zRef; omega))) (by rw [e3, zw_c (by omega), f2 _ _ (by unfold zKeep; omega), k1]) (hR1.act f2 l2 (fun c j z => by rw [e3, zw_c z]) ?_)
  rw [e3]; exact isl_set (by omega) g2
theorem P_load {x1 x2 : Int32} (h : QS μ n S D tn tb F T K M) : PI (d + 3) mX8_load mX9_load [.ref 0, .int x1, .int x2] [.ref 106, .int x1, .int x2] c10 μ := by
  intro KI X hK hX
  have n6 := h.1.1
  refine C_load h.1 h.2.1 (fun a => hX _ _ Fr.rf (fun m2 g => R_load h.1 (h.2.2.r (Fr.rf (P := zCls)) g) (fun _ m f e => ⟨e, h.q Fr.rf g f⟩) (fun i hi e => absurd (by rw [e]; exact vIs_n hi n6) a) (fun i hi e => absurd (by rw [e]; exact vIs_n hi n6) a)) (by decide))
    (fun i hi e a m1 f1 c1 => hK _ _ f1 (fun m2 g => R_load h.1 (h.2.2.r f1 g) (fun b => absurd (by rw [e]; exact vIs_n hi n6) b) (fun _ _ _ _ m f e r => ⟨e, rfl, QS.t (h.1.t h.1.tw.ref) c1 g f r⟩) (fun _ _ _ b => absurd b a)))
    (fun i hi e a m1 f1 c1 => hK _ _ f1 (fun m2 g => R_load h.1 (h.2.2.r f1 g) (fun b => absurd (by rw [e]; exact vIs_n hi n6) b) (fun _ _ _ b => absurd a b) (fun j hj e' _ m f e3 r => ?_)))
  cases nj hi hj n6 (e.symm.trans e')
  exact ⟨e3, rfl, QS.t (h.1.t (h.1.tw.push (rowK_set h.1.tw.2.2.2.1 ⟨fun z => by omega, fun z => by omega, fun z => by omega⟩))) c1 g f r⟩
/-! knots -/
def sKnt (I : zI) (i : Nat) (x : Int32) : Int32 := if x = 0 then I i 9 - 1 else I i 9 + 1
theorem sKnt' (I : zI) (i : Nat) (x : Int32) : I i 9 + (if x = 0 then (-1) else 1) = sKnt I i x := by
  unfold sKnt
  split
  · exact (Int32.sub_eq_add_neg _ _).symm
  · rfl
theorem C_knot {x1 x2 : Int32} (hW : QW n S D tn T K M) (hC : QC μ n S D tn tb F T K M) (h0 : ¬ vIs n x1 → X 0 μ) (h2 : ∀ i, i < n → x1 = nI i → ¬ v60 0 (sKnt T.1 i x2) → ∀ m, Fr zCls μ m → QC m n S D tn tb F (tRef T 1) K M → KI (-1) m)
    (h1 : ∀ i, i < n → x1 = nI i → v60 0 (sKnt T.1 i x2) → ∀ m, Fr zCls μ m → QC m n S D tn tb F (tPush T (zset T.1 i 9 (sKnt T.1 i x2))) K M → KI (sKnt T.1 i x2) m) : zcI (d + 3) mX8_knot [.ref 0, .int x1, .int x2] μ KI X := by
  have n6 := hW.1
  refine cX8_knot_ (C_needIsle hC.cn n6 h0 (fun i hi e => ?_))
  have bad : ¬ v60 0 (sKnt T.1 i x2) → pX8_knot_45 (d + 2) μ KI X := fun q m em => h2 i hi e q m (by rw [em]; exact ref_c) (by rw [em]; exact hC.ref)
  subst e
  rw [tN_nI (by omega)]
  refine ⟨vin (by omega), fun v2 e2 v3 e3 => ?_⟩
  have e2' : v2 = T.1 i 9 := by rw [e2]; exact hC.I.lo (k := 9) hi (by omega)
  subst e2'
  have e3' : v3 = sKnt T.1 i x2 := e3
  subst e3'
  rw [i_lt, i_le, i_0, i60]
  refine ⟨fun q => bad (by unfold v60; omega), fun q => ⟨fun q2 => ?_, fun q2 => bad (by unfold v60; omega)⟩⟩
  refine ⟨vin (by omega), fun m3 e3 => ?_⟩
  refine C_act hW hC (I' := zset T.1 i 9 (sKnt T.1 i x2)) (fun c j z => by rw [e3, zw_c (by omega)]) (by rw [e3]; exact IsC_w (o := 47) (k := 9) hC.I (by omega) fun a ha b hb => rfl) ?_ (fun μ' f q _ => h1 i hi rfl (by unfold v60; omega) μ' f q)
  refine ⟨i, hi, rfl, Or.inr (Or.inl ⟨rfl, ?_⟩)⟩
  show eqI n T.1 (zset (zset T.1 i 9 (sKnt T.1 i x2)) i 9 (T.1 i 9))
  rw [zset_back]; exact eqI.rf
theorem R_knot {x1 x2 : Int32} (hW : QW n S D tn T K M) (hR : QR μ n S D tn tb F T K M) (h0 : ¬ vIs n x1 → ∀ m, Fr zScR μ m → m 106 3 = 1 → KI 0 m) (h2 : ∀ i, i < n → x1 = nI i → ¬ v60 0 (sKnt T.1 i x2) → ∀ m, Fr zRef μ m → m 106 3 = 0 → QR m n S D tn tb F (tRef T 1) K M → KI (-1) m)
    (h1 : ∀ i, i < n → x1 = nI i → v60 0 (sKnt T.1 i x2) → ∀ m, Fr zRef μ m → m 106 3 = 0 → QR m n S D tn tb F (tPush T (zset T.1 i 9 (sKnt T.1 i x2))) K M → KI (sKnt T.1 i x2) m) : zcI (d + 3) mX9_knot [.ref 106, .int x1, .int x2] μ KI X := by
  have n6 := hW.1
  refine cX9_knot_ (fun m1 e1 => ?_)
  have f1 : Fr zScR μ m1 := by rw [e1]; exact code_q
  have k1 : m1 106 3 = 0 := by rw [e1, zw_s]
  have hR1 := hR.q f1
  refine R_isIsle hR1.cn n6 (b2i_go (fun q => R_fail (fun m e => h0 q m (f1.tr (by rw [e]; exact code_q)) (by rw [e, zw_s]))) (fun q1 => ?_))
  obtain ⟨i, hi, e⟩ := q1.get
  refine R_of e rfl (by omega) (k := 9) (by omega) (fun v6 e6 => ?_)
  have e9 : rI m1 i 9 = T.1 i 9 := hR1.I.2 i hi 9 (by omega)
  rw [e9, sKnt'] at e6
  subst e6
  refine R_isIn (A := 0) (B := 60) (by decide) (by decide) (b2i_go (fun q => R_refuse (j := 1) rfl (by omega) (fun m e2 => h2 i hi e q m ((zScR_r f1).tr (by rw [e2]; exact ref_r)) (by rw [e2, zw_c (by omega), k1]) (by rw [e2]; exact hR1.ref))) (fun q => ?_))
  subst e
  refine R_keepNow (I' := zset T.1 i 9 (sKnt T.1 i x2)) hW hR1 (fun m2 f2 l2 => R_set rfl rfl (by omega) (k := 9) (by omega) (fun m3 e3 => ?_))
  have g2 : ∀ a, a < n → ∀ b, b < 14 → m2 111 (14 * a + b) = T.1 a b := fun a ha b hb => by rw [f2 _ _ (by unfold zKeep; omega)]; exact hR1.2.2.2.1.1 a ha b hb
  refine h1 i hi rfl q m3 (((zScR_r f1).tr (zKeep_r f2)).tr (by rw [e3]; exact Fr.w (by unfold zRef; omega))) (by rw [e3, zw_c (by omega), f2 _ _ (by unfold zKeep; omega), k1]) (hR1.act f2 l2 (fun c j z => by rw [e3, zw_c z]) ?_)
  rw [e3]; exact isl_set (by omega) g2
theorem P_knot {x1 x2 : Int32} (h : QS μ n S D tn tb F T K M) : PI (d + 3) mX8_knot mX9_knot [.ref 0, .int x1, .int x2] [.ref 106, .int x1, .int x2] c10 μ := by
  intro KI X hK hX
  have n6 := h.1.1
  refine C_knot h.1 h.2.1 (fun a => hX _ _ Fr.rf (fun m2 g => R_knot h.1 (h.2.2.r (Fr.rf (P := zCls)) g) (fun _ m f e => ⟨e, h.q Fr.rf g f⟩) (fun i hi e => absurd (by rw [e]; exact vIs_n hi n6) a) (fun i hi e => absurd (by rw [e]; exact vIs_n hi n6) a)) (by decide))
    (fun i hi e a m1 f1 c1 => hK _ _ f1 (fun m2 g => R_knot h.1 (h.2.2.r f1 g) (fun b => absurd (by rw [e]; exact vIs_n hi n6) b) (fun _ _ _ _ m f e r => ⟨e, rfl, QS.t (h.1.t h.1.tw.ref) c1 g f r⟩) (fun j hj e' b => by cases nj hi hj n6 (e.symm.trans e'); exact absurd b a)))
    (fun i hi e a m1 f1 c1 => hK _ _ f1 (fun m2 g => R_knot h.1 (h.2.2.r f1 g) (fun b => absurd (by rw [e]; exact vIs_n hi n6) b) (fun j hj e' b => by cases nj hi hj n6 (e.symm.trans e'); exact absurd a b) (fun j hj e' _ m f e3 r => ?_)))
  cases nj hi hj n6 (e.symm.trans e')
  exact ⟨e3, rfl, QS.t (h.1.t (h.1.tw.push (rowK_set h.1.tw.2.2.2.1 ⟨fun z => by omega, fun _ => a, fun z => by omega⟩))) c1 g f r⟩
end Acts2
