/-! spans of hours -/
theorem vSp.get {a b : Int32} (h : vSp a b) : ∃ p q : Nat, p ≤ q ∧ q ≤ 167 ∧ a = nI p ∧ b = nI q := by
  unfold vSp at h
  have := i_rng a
  have := i_rng b
  refine ⟨a.toInt.toNat, b.toInt.toNat, by omega, by omega, ?_, ?_⟩
  · rw [i_eq, n_i (by omega)]; omega
  · rw [i_eq, n_i (by omega)]; omega
theorem vSp_n {p q : Nat} (h : p ≤ q) (h2 : q ≤ 167) : vSp (nI p) (nI q) := by
  unfold vSp
  rw [n_i (by omega), n_i (by omega)]; omega
def knS (S : zSky) (I : zI) (n : Nat) (w : Int32) : Nat → Nat → Int32
  | 0, _ => -1
  | m + 1, h => if fk (sG S I (nI h) 0) n = -1 then knS S I n w m (h + 1) else (if w = 0 then nI h else fk (sG S I (nI h) 0) n)
def rcS (S : zSky) (I : zI) (n i : Nat) (x : Int32) : Nat → Nat → Int32 → Int32
  | 0, _, a => a
  | m + 1, h, a => rcS S I n i x m (h + 1) (a + (if oI (rn (sG S I (nI h) 0) i n) = -1 then 0 else (if x = -1 then 1 else (if x = oI (rn (sG S I (nI h) 0) i n) then 1 else 0))))
def mxS (f : Nat → Int32) : Nat → Nat → Int32 → Int32 → Int32
  | 0, _, b, _ => b
  | m + 1, k, b, s => if f k ≤ s then mxS f m (k + 1) b s else mxS f m (k + 1) (nI k) (f k)
theorem mxS_0 {f : Nat → Int32} : ∀ (m k : Nat) (b s : Int32), (∀ j, k ≤ j → j < k + m → f j = 0) → 0 ≤ s → mxS f m k b s = b
  | 0, _, _, _, _, _ => rfl
  | m + 1, k, b, s, h, hs => by
    unfold mxS
    rw [h k (by omega) (by omega), if_pos hs]
    exact mxS_0 m (k + 1) b s (fun j h1 h2 => h j (by omega) (by omega)) hs
theorem mxS_n {f : Nat → Int32} : ∀ (m r k : Nat) (b s : Int32), (∀ j, k + m ≤ j → j < k + m + r → f j = 0) → 0 ≤ s → mxS f (m + r) k b s = mxS f m k b s
  | 0, r, k, b, s, h, hs => by rw [Nat.zero_add]; exact mxS_0 r k b s (fun j h1 h2 => h j (by omega) (by omega)) hs
  | m + 1, r, k, b, s, h, hs => by
    rw [show m + 1 + r = (m + r) + 1 by omega]
    unfold mxS
    by_cases q : f k ≤ s
    · rw [if_pos q, if_pos q]
      exact mxS_n m r (k + 1) b s (fun j h1 h2 => h j (by omega) (by omega)) hs
    · rw [if_neg q, if_neg q]
      refine mxS_n m r (k + 1) (nI k) (f k) (fun j h1 h2 => h j (by omega) (by omega)) ?_
      rw [i_le] at q hs ⊢; omega
theorem mxS_c {f g : Nat → Int32} : ∀ (m k : Nat) (b s : Int32), (∀ j, k ≤ j → j < k + m → f j = g j) → mxS f m k b s = mxS g m k b s
  | 0, _, _, _, _ => rfl
  | m + 1, k, b, s, h => by
    unfold mxS
    rw [h k (by omega) (by omega)]
    split
    · exact mxS_c m (k + 1) b s (fun j h1 h2 => h j (by omega) (by omega))
    · exact mxS_c m (k + 1) _ _ (fun j h1 h2 => h j (by omega) (by omega))
section Span
variable {d : Nat} {μ : zMem} {KI : Int32 → zMem → Prop} {KV : zMem → Prop} {X : Nat → zMem → Prop} {n : Nat} {S : zSky} {D : Nat → Int32} {tn : Nat} {tb : Nat → Int32} {F : Int32} {T : zT} {K : Option (Nat → Int32)} {M : Option zT}
theorem L_knockC {w : Int32} {μ0 : zMem} {q : Nat} (hq : q ≤ 167) (hW : QW n S D tn T K M) (hC : QC μ0 n S D tn tb F T K M) : ∀ (m h : Nat) (μ : zMem), h + m = q + 1 → Fr zScC μ0 μ → (∀ μ', Fr zScC μ0 μ' → KI (knS S T.1 n w m h) μ') → pX8_knock_16 (m + 1) (d + 6) (nI q) w (nI h) μ KI X := by
  intro m
  induction m with
  | zero =>
    intro h μ hh hf hK
    exact ⟨fun _ => hK μ hf, fun z => absurd ((n_lt (by omega) (by omega)).mpr (by omega)) z⟩
  | succ m ih =>
    intro h μ hh hf hK
    refine ⟨fun z => absurd ((n_lt (by omega) (by omega)).mp z) (by omega), fun _ => C_blowNow hW (hC.q hf) (fun m1 f1 g1 => ?_)⟩
    have hf1 := hf.tr (zAir_q f1)
    refine C_firstKnock (hC.q hf1).cn hW.1 g1 ⟨fun z v4 e4 => ?_, fun z => ?_⟩
    · rw [e4, nI_1]
      refine ih (h + 1) m1 (by omega) hf1 (fun μ' f' => ?_)
      have := hK μ' f'
      unfold knS at this
      rw [if_pos z] at this; exact this
    · have := hK m1 hf1
      unfold knS at this
      rw [if_neg z] at this; exact this
theorem C_knock {x1 x2 x3 : Int32} (hW : QW n S D tn T K M) (hC : QC μ n S D tn tb F T K M) (h0 : ¬ vWh 2 x3 → X 0 μ) (h2 : vWh 2 x3 → ¬ vSp x1 x2 → X 1 μ)
    (h1 : ∀ p q, p ≤ q → q ≤ 167 → x1 = nI p → x2 = nI q → vWh 2 x3 → ∀ m, Fr zScC μ m → KI (knS S T.1 n x3 (q + 1 - p) p) m) : zcI (d + 7) mX8_knock [.ref 0, .int x1, .int x2, .int x3] μ KI X := by
  refine cX8_knock_ (C_needWhat (m := 2) (by decide) h0 (fun q3 => C_needSpan (m := 168) (by decide) (fun q => h2 q3 fun z => q ⟨z, by unfold vSp at z; omega⟩) (fun q4 _ => ?_)))
  obtain ⟨p, q, hpq, hq, e1, e2⟩ := q4.get
  have hh := h1 p q hpq hq e1 e2 q3
  subst e1 e2
  exact ⟨q + 1 - p + 1, L_knockC hq hW hC (q + 1 - p) p μ (by omega) Fr.rf hh⟩
theorem L_knockR {w : Int32} {μ0 : zMem} {q : Nat} (hq : q ≤ 167) (hW : QW n S D tn T K M) (hR : QR μ0 n S D tn tb F T K M) : ∀ (m h : Nat) (μ : zMem), h + m = q + 1 → Fr zTell μ0 μ → (∀ μ', Fr zTell μ0 μ' → KI (knS S T.1 n w m h) μ') → pX9_knock_37 (m + 1) (d + 6) (nI q) w (nI h) μ KI X := by
  intro m
  induction m with
  | zero =>
    intro h μ hh hf hK
    exact ⟨fun _ => hK μ hf, fun z => absurd ((n_lt (by omega) (by omega)).mpr (by omega)) z⟩
  | succ m ih =>
    intro h μ hh hf hK
    refine ⟨fun z => absurd ((n_lt (by omega) (by omega)).mp z) (by omega), fun _ => R_hourNow hW (hR.q (zTell_q hf)) (fun m1 f1 g1 => ?_)⟩
    have hf1 := hf.tr f1
    refine R_knocked hW.1 (hR.q (zTell_q hf1)).cn g1 ⟨fun z v4 e4 => ?_, fun z => ?_⟩
    · rw [e4, nI_1]
      refine ih (h + 1) m1 (by omega) hf1 (fun μ' f' => ?_)
      have := hK μ' f'
      unfold knS at this
      rw [if_pos z] at this; exact this
    · have := hK m1 hf1
      unfold knS at this
      rw [if_neg z] at this; exact this
theorem R_knock {x1 x2 x3 : Int32} (hW : QW n S D tn T K M) (hR : QR μ n S D tn tb F T K M) (h0 : ¬ vWh 2 x3 → ∀ m, Fr zScR μ m → m 106 3 = 1 → KI 0 m) (h2 : vWh 2 x3 → ¬ vSp x1 x2 → ∀ m, Fr zScR μ m → m 106 3 = 2 → KI 0 m)
    (h1 : ∀ p q, p ≤ q → q ≤ 167 → x1 = nI p → x2 = nI q → vWh 2 x3 → ∀ m, Fr zScR μ m → m 106 3 = 0 → KI (knS S T.1 n x3 (q + 1 - p) p) m) : zcI (d + 7) mX9_knock [.ref 106, .int x1, .int x2, .int x3] μ KI X := by
  refine cX9_knock_ (fun m1 e1 => ?_)
  have f1 : Fr zScR μ m1 := by rw [e1]; exact code_q
  have k1 : m1 106 3 = 0 := by rw [e1, zw_s]
  have hR1 := hR.q f1
  have bad : ¬ vWh 2 x3 → pX9_knock_14 (d + 6) m1 KI X := fun q => R_fail (fun m e => h0 q m (f1.tr (by rw [e]; exact code_q)) (by rw [e, zw_s]))
  rw [i_lt, i_le, i_0, i_1]
  refine ⟨fun q => bad fun z => by unfold vWh at z; omega, fun q => ⟨fun q2 => ?_, fun q2 => bad fun z => by unfold vWh at z; omega⟩⟩
  have hw : vWh 2 x3 := by unfold vWh; omega
  refine R_isSpan (b2i_go (fun q => R_fail (fun m e => h2 hw q m (f1.tr (by rw [e]; exact code_q)) (by rw [e, zw_s]))) (fun q4 => ?_))
  obtain ⟨p, q, hpq, hq, e1, e2⟩ := q4.get
  have hh := h1 p q hpq hq e1 e2 hw
  subst e1 e2
  exact ⟨q + 1 - p + 1, L_knockR hq hW hR1 (q + 1 - p) p m1 (by omega) Fr.rf (fun μ' f => hh μ' (f1.tr (zTell_q f)) (by rw [zTell_c f, k1]))⟩
theorem nj' {i j : Nat} (hi : i ≤ 1000) (hj : j ≤ 1000) (e : nI i = nI j) : i = j := (n_eq (by omega) (by omega)).mp e
theorem P_knock {x1 x2 x3 : Int32} (h : QS μ n S D tn tb F T K M) : PI (d + 7) mX8_knock mX9_knock [.ref 0, .int x1, .int x2, .int x3] [.ref 106, .int x1, .int x2, .int x3] c12 μ := by
  intro KI X hK hX
  refine C_knock h.1 h.2.1 (fun a => hX _ _ Fr.rf (fun m2 g => R_knock h.1 (h.2.2.r (Fr.rf (P := zCls)) g) (fun _ m f e => ⟨e, h.q Fr.rf g f⟩) (fun b => absurd b a) (fun _ _ _ _ _ _ b => absurd b a)) (by decide))
    (fun a b => hX _ _ Fr.rf (fun m2 g => R_knock h.1 (h.2.2.r (Fr.rf (P := zCls)) g) (fun c => absurd a c) (fun _ _ m f e => ⟨e, h.q Fr.rf g f⟩) (fun p q hpq hq e1 e2 _ => absurd (by rw [e1, e2]; exact vSp_n hpq hq) b)) (by decide))
    (fun p q hpq hq e1 e2 a m1 f1 => hK _ _ (zScC_c f1) (fun m2 g => R_knock h.1 (h.2.2.r (zScC_c f1) g) (fun c => absurd a c) (fun _ b => absurd (by rw [e1, e2]; exact vSp_n hpq hq) b) (fun p' q' hpq' hq' e1' e2' _ m f e3 => ⟨e3, ?_, h.q f1 g f⟩)))
  cases nj' (by omega) (by omega) (e1.symm.trans e1')
  cases nj' (by omega) (by omega) (e2.symm.trans e2'); rfl
/-! shade -/
theorem L_shadeC {μ0 : zMem} {q i : Nat} (hi : i < n) (hq : q ≤ 167) (hW : QW n S D tn T K M) (hC : QC μ0 n S D tn tb F T K M) : ∀ (m h : Nat) (a : Int32) (μ : zMem), h + m = q + 1 → Fr zScC μ0 μ → (∀ μ', Fr zScC μ0 μ' → KI (rcS S T.1 n i (-1) m h a) μ') → pX8_shade_19 (m + 1) (d + 6) (nI i) (nI q) a (nI h) μ KI X := by
  intro m
  induction m with
  | zero =>
    intro h a μ hh hf hK
    exact ⟨fun _ => hK μ hf, fun z => absurd ((n_lt (by omega) (by omega)).mpr (by omega)) z⟩
  | succ m ih =>
    intro h a μ hh hf hK
    refine ⟨fun z => absurd ((n_lt (by omega) (by omega)).mp z) (by omega), fun _ => C_blowNow hW (hC.q hf) (fun m1 f1 g1 => ?_)⟩
    have hf1 := hf.tr (zAir_q f1)
    refine C_rainFrom rfl (hC.q hf1).cn hW.1 hi g1 (fun j hj => hW.zsm hj gst0) ⟨fun z v4 e4 => ?_, fun z v5 e5 v6 e6 => ?_⟩
    · rw [e4, nI_1]
      refine ih (h + 1) a m1 (by omega) hf1 (fun μ' f' => ?_)
      have := hK μ' f'
      unfold rcS at this
      rw [if_pos z, Int32.add_zero] at this; exact this
    · rw [e6, nI_1, e5]
      refine ih (h + 1) _ m1 (by omega) hf1 (fun μ' f' => ?_)
      have := hK μ' f'
      unfold rcS at this
      rw [if_neg z, if_pos rfl] at this; exact this
theorem C_shade {x1 x2 x3 : Int32} (hW : QW n S D tn T K M) (hC : QC μ n S D tn tb F T K M) (h0 : ¬ vIs n x1 → X 0 μ) (h2 : vIs n x1 → ¬ vSp x2 x3 → X 1 μ)
    (h1 : ∀ i p q, i < n → x1 = nI i → p ≤ q → q ≤ 167 → x2 = nI p → x3 = nI q → ∀ m, Fr zScC μ m → KI (rcS S T.1 n i (-1) (q + 1 - p) p 0) m) : zcI (d + 7) mX8_shade [.ref 0, .int x1, .int x2, .int x3] μ KI X := by
  refine cX8_shade_ (C_needIsle hC.cn hW.1 h0 (fun i hi e => C_needSpan (m := 168) (by decide) (fun q => h2 (by rw [e]; exact vIs_n hi hW.1) fun z => q ⟨z, by unfold vSp at z; omega⟩) (fun q4 _ => ?_)))
  obtain ⟨p, q, hpq, hq, e1, e2⟩ := q4.get
  have hh := h1 i p q hi e hpq hq e1 e2
  subst e e1 e2
  exact ⟨q + 1 - p + 1, L_shadeC hi hq hW hC (q + 1 - p) p 0 μ (by omega) Fr.rf hh⟩
theorem L_rained {x : Int32} {μ0 : zMem} {q i : Nat} (hi : i < n) (hq : q ≤ 167) (hW : QW n S D tn T K M) (hR : QR μ0 n S D tn tb F T K M) : ∀ (m h : Nat) (a : Int32) (μ : zMem), h + m = q + 1 → Fr zTell μ0 μ → (∀ μ', Fr zTell μ0 μ' → KI (rcS S T.1 n i x m h a) μ') → pX9_rained_6 (m + 1) (d + 6) (nI i) x (nI q) a (nI h) μ KI X := by
  intro m
  induction m with
  | zero =>
    intro h a μ hh hf hK
    exact ⟨fun _ => hK μ hf, fun z => absurd ((n_lt (by omega) (by omega)).mpr (by omega)) z⟩
  | succ m ih =>
    intro h a μ hh hf hK
    refine ⟨fun z => absurd ((n_lt (by omega) (by omega)).mp z) (by omega), fun _ => R_hourNow hW (hR.q (zTell_q hf)) (fun m1 f1 g1 => ?_)⟩
    have hf1 := hf.tr f1
    refine R_rainOf rfl hW.1 (hR.q (zTell_q hf1)).cn hi g1 (fun v4 e4 v5 e5 => ?_)
    rw [e5, nI_1, e4]
    exact ih (h + 1) _ m1 (by omega) hf1 (fun μ' f' => hK μ' f')
theorem R_rained {x : Int32} {p q i : Nat} (hi : i < n) (hpq : p ≤ q) (hq : q ≤ 167) (hW : QW n S D tn T K M) (hR : QR μ n S D tn tb F T K M) (h : ∀ μ', Fr zTell μ μ' → KI (rcS S T.1 n i x (q + 1 - p) p 0) μ') : zcI (d + 7) mX9_rained [.ref 106, .int (nI i), .int x, .int (nI p), .int (nI q)] μ KI X := by
  refine cX9_rained_ ⟨q + 1 - p + 1, ?_⟩
  exact L_rained hi hq hW hR (q + 1 - p) p 0 μ (by omega) Fr.rf h
theorem R_shade {x1 x2 x3 : Int32} (hW : QW n S D tn T K M) (hR : QR μ n S D tn tb F T K M) (h0 : ¬ vIs n x1 → ∀ m, Fr zScR μ m → m 106 3 = 1 → KI 0 m) (h2 : vIs n x1 → ¬ vSp x2 x3 → ∀ m, Fr zScR μ m → m 106 3 = 2 → KI 0 m)
    (h1 : ∀ i p q, i < n → x1 = nI i → p ≤ q → q ≤ 167 → x2 = nI p → x3 = nI q → ∀ m, Fr zScR μ m → m 106 3 = 0 → KI (rcS S T.1 n i (-1) (q + 1 - p) p 0) m) : zcI (d + 8) mX9_shade [.ref 106, .int x1, .int x2, .int x3] μ KI X := by
  refine cX9_shade_ (fun m1 e1 => ?_)
  have f1 : Fr zScR μ m1 := by rw [e1]; exact code_q
  have k1 : m1 106 3 = 0 := by rw [e1, zw_s]
  have hR1 := hR.q f1
  refine R_isIsle hR1.cn hW.1 (b2i_go (fun q => R_fail (fun m e => h0 q m (f1.tr (by rw [e]; exact code_q)) (by rw [e, zw_s]))) (fun q1 => R_isSpan (b2i_go (fun q => R_fail (fun m e => h2 q1 q m (f1.tr (by rw [e]; exact code_q)) (by rw [e, zw_s]))) (fun q4 => ?_))))
  obtain ⟨i, hi, e⟩ := q1.get
  obtain ⟨p, q, hpq, hq, e1, e2⟩ := q4.get
  have hh := h1 i p q hi e hpq hq e1 e2
  subst e e1 e2
  exact R_rained hi hpq hq hW hR1 (fun μ' f => hh μ' (f1.tr (zTell_q f)) (by rw [zTell_c f, k1]))
theorem P_shade {x1 x2 x3 : Int32} (h : QS μ n S D tn tb F T K M) : PI (d + 8) mX8_shade mX9_shade [.ref 0, .int x1, .int x2, .int x3] [.ref 106, .int x1, .int x2, .int x3] c12 μ := by
  intro KI X hK hX
  have n6 := h.1.1
  refine C_shade h.1 h.2.1 (fun a => hX _ _ Fr.rf (fun m2 g => R_shade h.1 (h.2.2.r (Fr.rf (P := zCls)) g) (fun _ m f e => ⟨e, h.q Fr.rf g f⟩) (fun b => absurd b a) (fun i _ _ hi e _ _ _ _ => absurd (by rw [e]; exact vIs_n hi n6) a)) (by decide))
    (fun a b => hX _ _ Fr.rf (fun m2 g => R_shade h.1 (h.2.2.r (Fr.rf (P := zCls)) g) (fun c => absurd a c) (fun _ _ m f e => ⟨e, h.q Fr.rf g f⟩) (fun i p q _ _ hpq hq e1 e2 => absurd (by rw [e1, e2]; exact vSp_n hpq hq) b)) (by decide))
    (fun i p q hi e hpq hq e1 e2 m1 f1 => hK _ _ (zScC_c f1) (fun m2 g => R_shade h.1 (h.2.2.r (zScC_c f1) g) (fun c => absurd (by rw [e]; exact vIs_n hi n6) c) (fun _ b => absurd (by rw [e1, e2]; exact vSp_n hpq hq) b) (fun i' p' q' hi' e' hpq' hq' e1' e2' m f e3 => ⟨e3, ?_, h.q f1 g f⟩)))
  cases nj hi hi' n6 (e.symm.trans e')
  cases nj' (by omega) (by omega) (e1.symm.trans e1')
  cases nj' (by omega) (by omega) (e2.symm.trans e2'); rfl
end Span
