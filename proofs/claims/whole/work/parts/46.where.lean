theorem church_t : ∀ k : Fin 168, ∀ v1 : Int32, v1 = nI k.val - nI k.val / 24 * 24 → (if nI k.val / 24 = 6 then (if v1 = 10 then (1 : Int32) else (if v1 = 11 then 1 else 0)) else 0) = b2i (nI k.val = 154 ∨ nI k.val = 155) := by
  have h : ∀ k : Fin 168, (if nI k.val / 24 = 6 then (if nI k.val - nI k.val / 24 * 24 = 10 then (1 : Int32) else (if nI k.val - nI k.val / 24 * 24 = 11 then 1 else 0)) else 0) = b2i (nI k.val = 154 ∨ nI k.val = 155) := by decide +kernel
  intro k v1 e
  rw [e]; exact h k
theorem vHr.get {h : Int32} (q : vHr h) : ∃ k : Fin 168, h = nI k.val := by
  unfold vHr at q
  refine ⟨⟨h.toInt.toNat, by omega⟩, ?_⟩
  rw [i_eq, n_i (by have := i_rng h; show h.toInt.toNat < _; omega)]
  show _ = ((h.toInt.toNat : Nat) : Int)
  omega
theorem nj {n i j : Nat} (hi : i < n) (hj : j < n) (hn : n ≤ 6) (e : nI i = nI j) : i = j := (n_eq (by omega) (by omega)).mp e
def sWhr (S : zSky) (I : zI) (i : Nat) (hour w : Int32) : Int32 := if w = 0 then sX S I i hour 0 else if w = 1 then sY S I i hour 0 else if w = 2 then sZ S I i hour 0 else if w = 3 then sP S I i hour 0 else if hour = 154 ∨ hour = 155 then I i 6 else sLea I i
section Where
variable {d : Nat} {μ : zMem} {KI : Int32 → zMem → Prop} {KV : zMem → Prop} {X : Nat → zMem → Prop} {n : Nat} {S : zSky} {D : Nat → Int32} {tn : Nat} {tb : Nat → Int32} {F : Int32} {T : zT} {K : Option (Nat → Int32)} {M : Option zT}
theorem C_church {h : Int32} (hh : vHr h) (hk : KI (b2i (h = 154 ∨ h = 155)) μ) : zcI (d + 1) mX8_isAtChurch [.int h] μ KI X := by
  refine cX8_isAtChurch_ (fun v1 e1 => ?_)
  obtain ⟨k, e⟩ := hh.get
  subst e
  rw [church_t k v1 e1]; exact hk
theorem C_where {x1 x2 x3 : Int32} (hW : QW n S D tn T K M) (hC : QC μ n S D tn tb F T K M) (h0 : ¬ (vIs n x1 ∧ vHr x2 ∧ vWh 5 x3) → X 0 μ) (h1 : ∀ i, i < n → x1 = nI i → vHr x2 → vWh 5 x3 → ∀ m, Fr zScC μ m → KI (sWhr S T.1 i x2 x3) m) : zcI (d + 6) mX8_where [.ref 0, .int x1, .int x2, .int x3] μ KI X := by
  have n6 := hW.1
  refine cX8_where_ (C_needIsle hC.cn n6 (fun q => h0 fun z => q z.1) (fun i hi e => C_needHour (fun q => h0 fun z => q z.2.1) (fun q2 => C_needWhat (m := 5) (by decide) (fun q => h0 fun z => q z.2.2) (fun q3 => ?_))))
  subst e
  refine C_putNow hW hC hi (fun m f _ a => ?_)
  have hh := h1 i hi rfl q2 q3 m f
  obtain ⟨a1, a2, a3, a4, a5⟩ := a
  have v := vin (n := i) (N := 36) (by omega)
  rw [tN_nI (by omega)]
  obtain ⟨k, hk, e⟩ := q3.get
  subst e
  have hk : k < 5 := by omega
  match k, hk with
  | 0, _ => exact ⟨fun _ => ⟨v, by rw [a1]; exact hh⟩, fun q => absurd q (by decide), fun q => absurd q (by decide), fun q => absurd q (by decide), fun q => absurd rfl q⟩
  | 1, _ => exact ⟨fun q => absurd q (by decide), fun _ => ⟨v, by rw [a2]; exact hh⟩, fun q => absurd q (by decide), fun q => absurd q (by decide), fun _ q => absurd rfl q⟩
  | 2, _ => exact ⟨fun q => absurd q (by decide), fun q => absurd q (by decide), fun _ => ⟨v, by rw [a3]; exact hh⟩, fun q => absurd q (by decide), fun _ _ q => absurd rfl q⟩
  | 3, _ => exact ⟨fun q => absurd q (by decide), fun q => absurd q (by decide), fun q => absurd q (by decide), fun _ => ⟨v, by rw [a4]; exact hh⟩, fun _ _ _ q => absurd rfl q⟩
  | 4, _ =>
    refine ⟨fun q => absurd q (by decide), fun q => absurd q (by decide), fun q => absurd q (by decide), fun q => absurd q (by decide), fun _ _ _ _ => C_church q2 (b2i_go (fun q => C_leaning (by decide +kernel) rfl (by omega) ?_) (fun q => ⟨vin (by omega), ?_⟩))⟩
    · rw [sLea_c ((hC.q f).I.2 i hi)]
      have e : sWhr S T.1 i x2 (nI 4) = sLea T.1 i := by
        show (if x2 = 154 ∨ x2 = 155 then T.1 i 6 else sLea T.1 i) = _
        rw [if_neg q]
      rw [e] at hh; exact hh
    · have e : sWhr S T.1 i x2 (nI 4) = T.1 i 6 := by
        show (if x2 = 154 ∨ x2 = 155 then T.1 i 6 else sLea T.1 i) = _
        rw [if_pos q]
      have g : m (47 + 1 + 6) i = T.1 i 6 := (hC.q f).I.lo hi (by omega)
      rw [e] at hh
      show KI (m (47 + 1 + 6) i) m
      rw [g]; exact hh
theorem R_leaning {i : Nat} {x1 x2 : Int32} (hx : x1 = nI i) (hi : i < 6) (h : KI (if x2 = 154 ∨ x2 = 155 then rI μ i 6 else sLea (rI μ) i) μ) : zcI (d + 2) mX9_leaning [.ref 106, .int x1, .int x2] μ KI X := by
  subst hx
  refine cX9_leaning_ ⟨fun q => R_of rfl rfl hi (k := 6) (by omega) ?_, fun q => ⟨fun q2 => R_of rfl rfl hi (k := 6) (by omega) ?_, fun q2 => R_of rfl rfl hi (k := 11) (by omega) (R_of rfl rfl hi (k := 13) (by omega) (R_of rfl rfl hi (k := 10) (by omega) (R_of rfl rfl hi (k := 12) (by omega) ?_)))⟩⟩
  · rw [if_pos (Or.inl q)] at h; exact h
  · rw [if_pos (Or.inr q2)] at h; exact h
  · rw [if_neg (by rintro (z | z); exact q z; exact q2 z)] at h; exact h
theorem R_where {x1 x2 x3 : Int32} (hW : QW n S D tn T K M) (hR : QR μ n S D tn tb F T K M) (h0 : ¬ (vIs n x1 ∧ vHr x2 ∧ vWh 5 x3) → ∀ m, Fr zScR μ m → m 106 3 = 1 → KI 0 m) (h1 : ∀ i, i < n → x1 = nI i → vHr x2 → vWh 5 x3 → ∀ m, Fr zScR μ m → m 106 3 = 0 → KI (sWhr S T.1 i x2 x3) m) : zcI (d + 7) mX9_where [.ref 106, .int x1, .int x2, .int x3] μ KI X := by
  have n6 := hW.1
  refine cX9_where_ (fun m1 e1 => ?_)
  have f1 : Fr zScR μ m1 := by rw [e1]; exact code_q
  have k1 : m1 106 3 = 0 := by rw [e1, zw_s]
  have hR1 := hR.q f1
  have bad : ¬ (vIs n x1 ∧ vHr x2 ∧ vWh 5 x3) → pX9_where_32 (d + 6) m1 KI X := fun q => R_fail (fun m e => h0 q m (f1.tr (by rw [e]; exact code_q)) (by rw [e, zw_s]))
  refine R_isIsle hR1.cn n6 (b2i_go (fun q => bad fun z => q z.1) (fun q1 => R_isHour (b2i_go (fun q => bad fun z => q z.2.1) (fun q2 => R_isIn (A := 0) (B := 4) (by decide) (by decide) (b2i_go (fun q => bad fun z => q (by have := z.2.2; unfold vWh at this; omega)) (fun q3 => ?_))))))
  obtain ⟨i, hi, e⟩ := q1.get
  subst e
  have hw : vWh 5 x3 := by unfold vWh; omega
  refine R_hourNow hW hR1 (fun m f g => ?_)
  have fm : Fr zScR μ m := f1.tr (zTell_q f)
  have hR2 := hR.q fm
  have hh := h1 i hi rfl q2 hw m fm (by rw [zTell_c f, k1])
  obtain ⟨a1, a2, a3, a4⟩ := g i hi
  have v := vin (n := i) (N := 6) (by omega)
  rw [tN_nI (by omega)]
  refine ⟨fun z => ⟨v, ?_⟩, fun z0 => ⟨fun z => ⟨v, ?_⟩, fun z1 => ⟨fun z => ⟨v, ?_⟩, fun z2 => ⟨fun z => R_floats rfl (by omega) ?_, fun z3 => R_leaning rfl (by omega) ?_⟩⟩⟩⟩
  · rw [z] at hh; rw [a1]; exact hh
  · rw [z] at hh; rw [a2]; exact hh
  · rw [z] at hh; rw [a3]; exact hh
  · rw [z] at hh
    have e : sWhr S T.1 i x2 3 = sP S T.1 i x2 0 := rfl
    rw [e, ← sP_c (hR2.I.2 i hi)] at hh
    unfold sP at hh
    refine b2i_go (fun q => ?_) (fun q => R_pushOf hR2.1.2.1 rfl (by omega) (fun m' f' => ?_))
    · rw [if_neg q] at hh; exact hh
    · have fm' : Fr zScR μ m' := fm.tr (f'.mono fun c j q => by unfold zAsk at q; unfold zScR; omega)
      have hh' := h1 i hi rfl q2 hw m' fm' (by rw [f' _ _ (by unfold zAsk; omega), zTell_c f, k1])
      rw [z, e, ← sP_c (hR2.I.2 i hi)] at hh'
      unfold sP at hh'
      rw [if_pos q] at hh'; exact hh'
  · rw [sLea_c (hR2.I.2 i hi), hR2.I.2 i hi 6 (by omega)]
    unfold sWhr at hh
    rw [if_neg z0, if_neg z1, if_neg z2, if_neg z3] at hh; exact hh
theorem P_where {x1 x2 x3 : Int32} (h : QS μ n S D tn tb F T K M) : PI (d + 7) mX8_where mX9_where [.ref 0, .int x1, .int x2, .int x3] [.ref 106, .int x1, .int x2, .int x3] c10 μ := by
  intro KI X hK hX
  refine C_where h.1 h.2.1 (fun q => hX _ _ Fr.rf (fun m2 g => R_where h.1 (h.2.2.r (Fr.rf (P := zCls)) g) (fun _ m f e => ⟨e, h.q Fr.rf g f⟩) (fun i hi e a b => absurd ⟨by rw [e]; exact vIs_n hi h.1.1, a, b⟩ q)) (by decide))
    (fun i hi e a b m1 f1 => hK _ _ (zScC_c f1) (fun m2 g => R_where h.1 (h.2.2.r (zScC_c f1) g) (fun q => absurd ⟨by rw [e]; exact vIs_n hi h.1.1, a, b⟩ q) (fun j hj e2 _ _ m f e3 => ⟨e3, ?_, h.q f1 g f⟩)))
  cases nj hi hj h.1.1 (e.symm.trans e2); rfl
/-! between -/
def sBtw (S : zSky) (D : Nat → Int32) (I : zI) (a b : Nat) (hour w : Int32) : Int32 := if w = 0 then b2i (ov (sG S I hour 0) a b 0) else if w = 1 then b2i (kn (sG S I hour 0) a b) else if w = 2 then b2i (sh (sG S I hour 0) a b) else b2i (bri (sG S I hour 0) a b (D 3))
theorem gAt_now {S : zSky} {I : zI} {i : Nat} {hour g : Int32} (h : AirS μ S I i i hour g) : gAt μ (sG S I hour g) i := ⟨h.1, h.2.1, h.2.2.1, h.2.2.2.2⟩
theorem gAt.fr {μ' : zMem} {G : zG} {i s k : Nat} (h : gAt μ G i) (f : Fr (zPut k s) μ μ') (hk : k = 6 ∨ k = 26) (his : i ≠ s) : gAt μ' G i := by
  obtain ⟨a, b, c, e⟩ := h
  exact ⟨by rw [f _ _ (by unfold zPut; omega)]; exact a, by rw [f _ _ (by unfold zPut; omega)]; exact b, by rw [f _ _ (by unfold zPut; omega)]; exact c, by rw [f _ _ (by unfold zPut; omega)]; exact e⟩
theorem C_between {x1 x2 x3 x4 : Int32} (hW : QW n S D tn T K M) (hC : QC μ n S D tn tb F T K M) (h0 : ¬ (vIs n x1 ∧ vIs n x2 ∧ vHr x3 ∧ vWh 4 x4) → X 0 μ) (h2 : (vIs n x1 ∧ vIs n x2 ∧ vHr x3 ∧ vWh 4 x4) → x1 = x2 → X 1 μ)
    (h1 : ∀ i j, i < n → j < n → i ≠ j → x1 = nI i → x2 = nI j → vHr x3 → vWh 4 x4 → ∀ m, Fr zScC μ m → KI (sBtw S D T.1 i j x3 x4) m) : zcI (d + 6) mX8_between [.ref 0, .int x1, .int x2, .int x3, .int x4] μ KI X := by
  have n6 := hW.1
  refine cX8_between_ (C_needIsle hC.cn n6 (fun q => h0 fun z => q z.1) (fun i hi e => C_needIsle hC.cn n6 (fun q => h0 fun z => q z.2.1) (fun j hj e' => C_needHour (fun q => h0 fun z => q z.2.2.1) (fun q2 => C_needWhat (m := 4) (by decide) (fun q => h0 fun z => q z.2.2.2) (fun q3 => C_needTwo (fun q => h2 ⟨by rw [e]; exact vIs_n hi n6, by rw [e']; exact vIs_n hj n6, q2, q3⟩ q) (fun q4 => ?_))))))
  subst e e'
  have hij : i ≠ j := fun z => q4 (by rw [z])
  refine C_putNow hW hC hi (fun m f _ a => ?_)
  refine C_putNow hW (hC.q f) hj (fun m' f' fp a' => ?_)
  have hh := h1 i j hi hj hij rfl rfl q2 q3 m' (f.tr f')
  have ga : gAt m' (sG S T.1 x3 0) i := (gAt_now a).fr fp (sky_rng (zsk_sh m 0 4)) hij
  have gb := gAt_now a'
  have za : zsm ((sG S T.1 x3 0).2.2.1 i) := hW.zsm hi gst0
  have zb : zsm ((sG S T.1 x3 0).2.2.1 j) := hW.zsm hj gst0
  have hC2 := (hC.q f).q f'
  obtain ⟨k, hk, e⟩ := q3.get
  subst e
  have hk : k < 4 := by omega
  match k, hk with
  | 0, _ => exact ⟨fun _ => C_areOver rfl rfl (by omega) (by omega) ga gb (b2i_go' hh), fun q => absurd q (by decide), fun q => absurd q (by decide), fun q => absurd rfl q⟩
  | 1, _ => exact ⟨fun q => absurd q (by decide), fun _ => C_knocks rfl rfl (by omega) (by omega) ga gb (b2i_go' hh), fun q => absurd q (by decide), fun _ q => absurd rfl q⟩
  | 2, _ => exact ⟨fun q => absurd q (by decide), fun q => absurd q (by decide), fun _ => C_isShaded rfl rfl (by omega) (by omega) ga gb za zb (b2i_go' hh), fun _ _ q => absurd rfl q⟩
  | 3, _ =>
    refine ⟨fun q => absurd q (by decide), fun q => absurd q (by decide), fun q => absurd q (by decide), fun _ _ _ => ?_⟩
    rw [hC2.1.2.2.2.1]
    exact C_hasBridge rfl rfl (by omega) (by omega) ga gb (b2i_go' hh)
theorem R_between {x1 x2 x3 x4 : Int32} (hW : QW n S D tn T K M) (hR : QR μ n S D tn tb F T K M) (h0 : ¬ (vIs n x1 ∧ vIs n x2 ∧ vHr x3 ∧ vWh 4 x4) → ∀ m, Fr zScR μ m → m 106 3 = 1 → KI 0 m) (h2 : (vIs n x1 ∧ vIs n x2 ∧ vHr x3 ∧ vWh 4 x4) → x1 = x2 → ∀ m, Fr zScR μ m → m 106 3 = 2 → KI 0 m)
    (h1 : ∀ i j, i < n → j < n → i ≠ j → x1 = nI i → x2 = nI j → vHr x3 → vWh 4 x4 → ∀ m, Fr zScR μ m → m 106 3 = 0 → KI (sBtw S D T.1 i j x3 x4) m) : zcI (d + 7) mX9_between [.ref 106, .int x1, .int x2, .int x3, .int x4] μ KI X := by
  have n6 := hW.1
  refine cX9_between_ (fun m1 e1 => ?_)
  have f1 : Fr zScR μ m1 := by rw [e1]; exact code_q
  have k1 : m1 106 3 = 0 := by rw [e1, zw_s]
  have hR1 := hR.q f1
  have bad : ¬ (vIs n x1 ∧ vIs n x2 ∧ vHr x3 ∧ vWh 4 x4) → pX9_between_41 (d + 6) m1 KI X := fun q m e => h0 q m (f1.tr (by rw [e]; exact code_q)) (by rw [e, zw_s])
  refine R_isIsle hR1.cn n6 (b2i_go (fun q => bad fun z => q z.1) (fun q1 => R_isIsle hR1.cn n6 (b2i_go (fun q => bad fun z => q z.2.1) (fun q1' => R_isHour (b2i_go (fun q => bad fun z => q z.2.2.1) (fun q2 => R_isIn (A := 0) (B := 3) (by decide) (by decide) (b2i_go (fun q => bad fun z => q (by have := z.2.2.2; unfold vWh at this; omega)) (fun q3 => ?_))))))))
  have hw : vWh 4 x4 := by unfold vWh; omega
  refine ⟨fun q m e => h2 ⟨q1, q1', q2, hw⟩ q m (f1.tr (by rw [e]; exact code_q)) (by rw [e, zw_s]), fun q4 => ?_⟩
  obtain ⟨i, hi, e⟩ := q1.get
  obtain ⟨j, hj, e'⟩ := q1'.get
  subst e e'
  have hij : i ≠ j := fun z => q4 (by rw [z])
  refine R_hourNow hW hR1 (fun m f g => ?_)
  have fm : Fr zScR μ m := f1.tr (zTell_q f)
  have hR2 := hR.q fm
  have hh := h1 i j hi hj hij rfl rfl q2 hw m fm (by rw [zTell_c f, k1])
  have ga := g i hi
  have gb := g j hj
  refine ⟨fun z => R_isOver rfl rfl (by omega) (by omega) ga gb (b2i_go' ?_), fun z0 => ⟨fun z => R_knocks rfl rfl (by omega) (by omega) ga gb (b2i_go' ?_), fun z1 => ⟨fun z => R_isShaded rfl rfl (by omega) (by omega) ga gb (b2i_go' ?_), fun z2 => R_isBridge rfl rfl (by omega) (by omega) (hR2.1.2.2 3 (by omega) (by omega)) ga gb (b2i_go' ?_)⟩⟩⟩
  · rw [z] at hh; exact hh
  · rw [z] at hh; exact hh
  · rw [z] at hh; exact hh
  · unfold sBtw at hh
    rw [if_neg z0, if_neg z1, if_neg z2] at hh; exact hh
theorem P_between {x1 x2 x3 x4 : Int32} (h : QS μ n S D tn tb F T K M) : PI (d + 7) mX8_between mX9_between [.ref 0, .int x1, .int x2, .int x3, .int x4] [.ref 106, .int x1, .int x2, .int x3, .int x4] c12 μ := by
  intro KI X hK hX
  have n6 := h.1.1
  refine C_between h.1 h.2.1 (fun q => hX _ _ Fr.rf (fun m2 g => R_between h.1 (h.2.2.r (Fr.rf (P := zCls)) g) (fun _ m f e => ⟨e, h.q Fr.rf g f⟩) (fun a => absurd a q) (fun i j hi hj _ e e' a b => absurd ⟨by rw [e]; exact vIs_n hi n6, by rw [e']; exact vIs_n hj n6, a, b⟩ q)) (by decide))
    (fun a q => hX _ _ Fr.rf (fun m2 g => R_between h.1 (h.2.2.r (Fr.rf (P := zCls)) g) (fun z => absurd a z) (fun _ _ m f e => ⟨e, h.q Fr.rf g f⟩) (fun i j hi hj hij e e' _ _ => absurd (nj hi hj n6 (e.symm.trans (q.trans e'))) hij)) (by decide))
    (fun i j hi hj hij e e' a b m1 f1 => hK _ _ (zScC_c f1) (fun m2 g => R_between h.1 (h.2.2.r (zScC_c f1) g) (fun q => absurd ⟨by rw [e]; exact vIs_n hi n6, by rw [e']; exact vIs_n hj n6, a, b⟩ q) (fun _ q => absurd (nj hi hj n6 (e.symm.trans (q.trans e'))) hij) (fun i' j' hi' hj' _ e2 e2' _ _ m f e3 => ⟨e3, ?_, h.q f1 g f⟩)))
  cases nj hi hi' n6 (e.symm.trans e2)
  cases nj hj hj' n6 (e'.symm.trans e2'); rfl
/-! rain -/
theorem C_rain {x1 x2 : Int32} (hW : QW n S D tn T K M) (hC : QC μ n S D tn tb F T K M) (h0 : ¬ (vIs n x1 ∧ vHr x2) → X 0 μ) (h1 : ∀ i, i < n → x1 = nI i → vHr x2 → ∀ m, Fr zScC μ m → KI (oI (rn (sG S T.1 x2 0) i n)) m) : zcI (d + 7) mX8_rain [.ref 0, .int x1, .int x2] μ KI X := by
  have n6 := hW.1
  refine cX8_rain_ (C_needIsle hC.cn n6 (fun q => h0 fun z => q z.1) (fun i hi e => C_needHour (fun q => h0 fun z => q z.2) (fun q2 => C_blowNow hW hC (fun m f g => ?_))))
  have hC2 := hC.q (zAir_q f)
  exact C_rainFrom e hC2.cn n6 hi g (fun j hj => hW.zsm hj gst0) (h1 i hi e q2 m (zAir_q f))
theorem R_rain {x1 x2 : Int32} (hW : QW n S D tn T K M) (hR : QR μ n S D tn tb F T K M) (h0 : ¬ (vIs n x1 ∧ vHr x2) → ∀ m, Fr zScR μ m → m 106 3 = 1 → KI 0 m) (h1 : ∀ i, i < n → x1 = nI i → vHr x2 → ∀ m, Fr zScR μ m → m 106 3 = 0 → KI (oI (rn (sG S T.1 x2 0) i n)) m) : zcI (d + 7) mX9_rain [.ref 106, .int x1, .int x2] μ KI X := by
  have n6 := hW.1
  refine cX9_rain_ (fun m1 e1 => ?_)
  have f1 : Fr zScR μ m1 := by rw [e1]; exact code_q
  have k1 : m1 106 3 = 0 := by rw [e1, zw_s]
  have hR1 := hR.q f1
  have bad : ¬ (vIs n x1 ∧ vHr x2) → pX9_rain_20 (d + 6) m1 KI X := fun q => R_fail (fun m e => h0 q m (f1.tr (by rw [e]; exact code_q)) (by rw [e, zw_s]))
  refine R_isIsle hR1.cn n6 (b2i_go (fun q => bad fun z => q z.1) (fun q1 => R_isHour (b2i_go (fun q => bad fun z => q z.2) (fun q2 => R_hourNow hW hR1 (fun m f g => ?_)))))
  obtain ⟨i, hi, e⟩ := q1.get
  have fm : Fr zScR μ m := f1.tr (zTell_q f)
  exact R_rainOf e n6 (hR.q fm).cn hi g (h1 i hi e q2 m fm (by rw [zTell_c f, k1]))
theorem P_rain {x1 x2 : Int32} (h : QS μ n S D tn tb F T K M) : PI (d + 7) mX8_rain mX9_rain [.ref 0, .int x1, .int x2] [.ref 106, .int x1, .int x2] c10 μ := by
  intro KI X hK hX
  have n6 := h.1.1
  refine C_rain h.1 h.2.1 (fun q => hX _ _ Fr.rf (fun m2 g => R_rain h.1 (h.2.2.r (Fr.rf (P := zCls)) g) (fun _ m f e => ⟨e, h.q Fr.rf g f⟩) (fun i hi e a => absurd ⟨by rw [e]; exact vIs_n hi n6, a⟩ q)) (by decide))
    (fun i hi e a m1 f1 => hK _ _ (zScC_c f1) (fun m2 g => R_rain h.1 (h.2.2.r (zScC_c f1) g) (fun q => absurd ⟨by rw [e]; exact vIs_n hi n6, a⟩ q) (fun i' hi' e2 _ m f e3 => ⟨e3, ?_, h.q f1 g f⟩)))
  cases nj hi hi' n6 (e.symm.trans e2); rfl
end Where
