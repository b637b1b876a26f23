section Isle
variable {d : Nat} {μ : zMem} {KI : Int32 → zMem → Prop} {KV : zMem → Prop} {X : Nat → zMem → Prop} {n : Nat} {S : zSky} {D : Nat → Int32} {tn : Nat} {tb : Nat → Int32} {F : Int32} {T : zT} {K : Option (Nat → Int32)} {M : Option zT}
theorem vWh.get {m : Int} {w : Int32} (h : vWh m w) : ∃ k : Nat, (k : Int) < m ∧ w = nI k := by
  unfold vWh at h
  have := i_rng w
  refine ⟨w.toInt.toNat, by omega, ?_⟩
  rw [i_eq, n_i (by omega)]; omega
def sIsl (I : zI) (i : Nat) (w : Int32) : Int32 := if w = 10 then sWgt I i else if w = 11 then b2i (sFlo I i) else if w.toInt < 10 then I i w.toInt.toNat else I i (w.toInt.toNat - 2)
theorem sIsl_lo {I : zI} {i k : Nat} (h : k < 10) : sIsl I i (nI k) = I i k := by
  unfold sIsl
  rw [if_neg (by rw [show (10 : Int32) = nI 10 from rfl, n_eq (by omega) (by omega)]; omega), if_neg (by rw [show (11 : Int32) = nI 11 from rfl, n_eq (by omega) (by omega)]; omega), n_i (by omega), if_pos (by omega)]; rfl
theorem sIsl_hi {I : zI} {i k : Nat} (h : 12 ≤ k) (h2 : k < 16) : sIsl I i (nI k) = I i (k - 2) := by
  unfold sIsl
  rw [if_neg (by rw [show (10 : Int32) = nI 10 from rfl, n_eq (by omega) (by omega)]; omega), if_neg (by rw [show (11 : Int32) = nI 11 from rfl, n_eq (by omega) (by omega)]; omega), n_i (by omega), if_neg (by omega)]; rfl
theorem b2i_if {p : Prop} [Decidable p] : (if b2i p = 0 then (0 : Int32) else 1) = b2i p := by
  by_cases q : p
  · rw [b2i_t q]; rfl
  · rw [b2i_f q]; rfl
theorem flo_b {I J : zI} {i : Nat} (h : rowE I J i) : b2i (sFlo I i) = b2i (sFlo J i) := flo_if h 1 0
theorem C_isle {x1 x2 : Int32} (hW : QW n S D tn T K M) (hC : QC μ n S D tn tb F T K M) (h0 : ¬ (vIs n x1 ∧ vWh 16 x2) → X 0 μ) (h1 : ∀ i, i < n → x1 = nI i → vWh 16 x2 → KI (sIsl T.1 i x2) μ) : zcI (d + 3) mX8_isle [.ref 0, .int x1, .int x2] μ KI X := by
  have n6 := hW.1
  refine cX8_isle_ (C_needIsle hC.cn n6 (fun q => h0 fun z => q z.1) (fun i hi e => ?_))
  subst e
  have hv : vIs n (nI i) := vIs_n hi n6
  have row := hC.I.2 i hi
  by_cases hw : vWh 16 x2
  · have hh := h1 i hi rfl hw
    obtain ⟨k, hk, e⟩ := hw.get
    subst e
    have hk : k < 16 := by omega
    have lo : k < 12 → pX8_isle_39 (d + 2) (nI i) (nI k) μ KI X := by
      intro hk
      unfold pX8_isle_39
      rw [tN_nI (by omega)]
      have v := vin (n := i) (N := 6) (by omega)
      have g : ∀ a, a < 10 → μ (47 + 1 + a) i = T.1 i a := fun a ha => hC.I.lo hi ha
      match k, hk with
      | 0, _ => exact ⟨fun _ => ⟨v, by rw [g 0 (by omega)]; rw [sIsl_lo (by omega)] at hh; exact hh⟩, fun q => absurd q (by decide), fun q => absurd q (by decide), fun q => absurd q (by decide), fun q => absurd q (by decide), fun q => absurd q (by decide), fun q => absurd q (by decide), fun q => absurd q (by decide), fun q => absurd q (by decide), fun q => absurd q (by decide), fun q => absurd q (by decide), fun q => absurd q (by decide), fun q => absurd rfl q⟩
      | 1, _ => exact ⟨fun q => absurd q (by decide), fun _ => ⟨v, by rw [g 1 (by omega)]; rw [sIsl_lo (by omega)] at hh; exact hh⟩, fun q => absurd q (by decide), fun q => absurd q (by decide), fun q => absurd q (by decide), fun q => absurd q (by decide), fun q => absurd q (by decide), fun q => absurd q (by decide), fun q => absurd q (by decide), fun q => absurd q (by decide), fun q => absurd q (by decide), fun q => absurd q (by decide), fun _ q => absurd rfl q⟩
      | 2, _ => exact ⟨fun q => absurd q (by decide), fun q => absurd q (by decide), fun _ => ⟨v, by rw [g 2 (by omega)]; rw [sIsl_lo (by omega)] at hh; exact hh⟩, fun q => absurd q (by decide), fun q => absurd q (by decide), fun q => absurd q (by decide), fun q => absurd q (by decide), fun q => absurd q (by decide), fun q => absurd q (by decide), fun q => absurd q (by decide), fun q => absurd q (by decide), fun q => absurd q (by decide), fun _ _ q => absurd rfl q⟩
      | 3, _ => exact ⟨fun q => absurd q (by decide), fun q => absurd q (by decide), fun q => absurd q (by decide), fun _ => ⟨v, by rw [g 3 (by omega)]; rw [sIsl_lo (by omega)] at hh; exact hh⟩, fun q => absurd q (by decide), fun q => absurd q (by decide), fun q => absurd q (by decide), fun q => absurd q (by decide), fun q => absurd q (by decide), fun q => absurd q (by decide), fun q => absurd q (by decide), fun q => absurd q (by decide), fun _ _ _ q => absurd rfl q⟩
      | 4, _ => exact ⟨fun q => absurd q (by decide), fun q => absurd q (by decide), fun q => absurd q (by decide), fun q => absurd q (by decide), fun _ => ⟨v, by rw [g 4 (by omega)]; rw [sIsl_lo (by omega)] at hh; exact hh⟩, fun q => absurd q (by decide), fun q => absurd q (by decide), fun q => absurd q (by decide), fun q => absurd q (by decide), fun q => absurd q (by decide), fun q => absurd q (by decide), fun q => absurd q (by decide), fun _ _ _ _ q => absurd rfl q⟩
      | 5, _ => exact ⟨fun q => absurd q (by decide), fun q => absurd q (by decide), fun q => absurd q (by decide), fun q => absurd q (by decide), fun q => absurd q (by decide), fun _ => ⟨v, by rw [g 5 (by omega)]; rw [sIsl_lo (by omega)] at hh; exact hh⟩, fun q => absurd q (by decide), fun q => absurd q (by decide), fun q => absurd q (by decide), fun q => absurd q (by decide), fun q => absurd q (by decide), fun q => absurd q (by decide), fun _ _ _ _ _ q => absurd rfl q⟩
      | 6, _ => exact ⟨fun q => absurd q (by decide), fun q => absurd q (by decide), fun q => absurd q (by decide), fun q => absurd q (by decide), fun q => absurd q (by decide), fun q => absurd q (by decide), fun _ => ⟨v, by rw [g 6 (by omega)]; rw [sIsl_lo (by omega)] at hh; exact hh⟩, fun q => absurd q (by decide), fun q => absurd q (by decide), fun q => absurd q (by decide), fun q => absurd q (by decide), fun q => absurd q (by decide), fun _ _ _ _ _ _ q => absurd rfl q⟩
      | 7, _ => exact ⟨fun q => absurd q (by decide), fun q => absurd q (by decide), fun q => absurd q (by decide), fun q => absurd q (by decide), fun q => absurd q (by decide), fun q => absurd q (by decide), fun q => absurd q (by decide), fun _ => ⟨v, by rw [g 7 (by omega)]; rw [sIsl_lo (by omega)] at hh; exact hh⟩, fun q => absurd q (by decide), fun q => absurd q (by decide), fun q => absurd q (by decide), fun q => absurd q (by decide), fun _ _ _ _ _ _ _ q => absurd rfl q⟩
      | 8, _ => exact ⟨fun q => absurd q (by decide), fun q => absurd q (by decide), fun q => absurd q (by decide), fun q => absurd q (by decide), fun q => absurd q (by decide), fun q => absurd q (by decide), fun q => absurd q (by decide), fun q => absurd q (by decide), fun _ => ⟨v, by rw [g 8 (by omega)]; rw [sIsl_lo (by omega)] at hh; exact hh⟩, fun q => absurd q (by decide), fun q => absurd q (by decide), fun q => absurd q (by decide), fun _ _ _ _ _ _ _ _ q => absurd rfl q⟩
      | 9, _ => exact ⟨fun q => absurd q (by decide), fun q => absurd q (by decide), fun q => absurd q (by decide), fun q => absurd q (by decide), fun q => absurd q (by decide), fun q => absurd q (by decide), fun q => absurd q (by decide), fun q => absurd q (by decide), fun q => absurd q (by decide), fun _ => ⟨v, by rw [g 9 (by omega)]; rw [sIsl_lo (by omega)] at hh; exact hh⟩, fun q => absurd q (by decide), fun q => absurd q (by decide), fun _ _ _ _ _ _ _ _ _ q => absurd rfl q⟩
      | 10, _ => exact ⟨fun q => absurd q (by decide), fun q => absurd q (by decide), fun q => absurd q (by decide), fun q => absurd q (by decide), fun q => absurd q (by decide), fun q => absurd q (by decide), fun q => absurd q (by decide), fun q => absurd q (by decide), fun q => absurd q (by decide), fun q => absurd q (by decide), fun _ => C_weight (by decide +kernel) rfl (by omega) (by rw [sWgt_c row]; exact hh), fun q => absurd q (by decide), fun _ _ _ _ _ _ _ _ _ _ q => absurd rfl q⟩
      | 11, _ => exact ⟨fun q => absurd q (by decide), fun q => absurd q (by decide), fun q => absurd q (by decide), fun q => absurd q (by decide), fun q => absurd q (by decide), fun q => absurd q (by decide), fun q => absurd q (by decide), fun q => absurd q (by decide), fun q => absurd q (by decide), fun q => absurd q (by decide), fun q => absurd q (by decide), fun _ => C_floats (by decide +kernel) rfl (by omega) (by rw [b2i_if, flo_b row]; exact hh), fun _ _ _ _ _ _ _ _ _ _ _ q => absurd rfl q⟩
    refine ⟨fun q => lo (by rw [show (12 : Int32) = nI 12 from rfl, n_lt (by omega) (by omega)] at q; exact q), fun q => ⟨fun q2 => absurd ((n_le (a := 16) (by omega) (by omega)).mp q2) (by omega), fun _ => ?_⟩⟩
    rw [show (12 : Int32) = nI 12 from rfl, n_lt (by omega) (by omega)] at q
    have e : nI i * 4 + nI k - 12 = nI (4 * i + (k - 12)) := by
      rw [n4, i_eq, i_sub (by rw [n_i (by omega), show (12 : Int32).toInt = 12 from by decide]; omega) (by rw [n_i (by omega), show (12 : Int32).toInt = 12 from by decide]; omega), n_i (by omega), n_i (by omega), show (12 : Int32).toInt = 12 from by decide]
      omega
    rw [e, tN_nI (by omega)]
    refine ⟨vin (by omega), ?_⟩
    have g : μ (47 + 11) (4 * i + (k - 12)) = T.1 i (10 + (k - 12)) := hC.I.hi hi (by omega)
    rw [sIsl_hi (by omega) (by omega)] at hh
    show KI (μ (47 + 11) (4 * i + (k - 12))) μ
    rw [g, show 10 + (k - 12) = k - 2 by omega]; exact hh
  · have x0 := h0 (fun z => hw z.2)
    have ne : ∀ k : Nat, k < 16 → ¬ x2 = nI k := by
      intro k hk q
      apply hw
      rw [q]; unfold vWh; rw [n_i (by omega)]; omega
    have all : pX8_isle_39 (d + 2) (nI i) x2 μ KI X := ⟨fun q => absurd q (ne 0 (by omega)), fun q => absurd q (ne 1 (by omega)), fun q => absurd q (ne 2 (by omega)), fun q => absurd q (ne 3 (by omega)), fun q => absurd q (ne 4 (by omega)), fun q => absurd q (ne 5 (by omega)), fun q => absurd q (ne 6 (by omega)), fun q => absurd q (ne 7 (by omega)), fun q => absurd q (ne 8 (by omega)), fun q => absurd q (ne 9 (by omega)), fun q => absurd q (ne 10 (by omega)), fun q => absurd q (ne 11 (by omega)), fun _ _ _ _ _ _ _ _ _ _ _ _ => x0⟩
    refine ⟨fun _ => all, fun q => ⟨fun _ => all, fun q2 => absurd ?_ hw⟩⟩
    rw [i_lt, show (12 : Int32).toInt = 12 from by decide] at q
    rw [i_le, show (16 : Int32).toInt = 16 from by decide] at q2
    unfold vWh; omega
theorem R_isle {x1 x2 : Int32} (hW : QW n S D tn T K M) (hR : QR μ n S D tn tb F T K M) (h0 : ¬ (vIs n x1 ∧ vWh 16 x2) → ∀ m, Fr zScR μ m → m 106 3 = 1 → KI 0 m) (h1 : ∀ i, i < n → x1 = nI i → vWh 16 x2 → ∀ m, Fr zScR μ m → m 106 3 = 0 → KI (sIsl T.1 i x2) m) : zcI (d + 4) mX9_isle [.ref 106, .int x1, .int x2] μ KI X := by
  have n6 := hW.1
  refine cX9_isle_ (fun m1 e1 => ?_)
  have f1 : Fr zScR μ m1 := by rw [e1]; exact code_q
  have k1 : m1 106 3 = 0 := by rw [e1, zw_s]
  have hR1 := hR.q f1
  have bad : ¬ (vIs n x1 ∧ vWh 16 x2) → pX9_isle_25 (d + 3) m1 KI X := fun q => R_fail (fun m e => h0 q m (f1.tr (by rw [e]; exact code_q)) (by rw [e, zw_s]))
  refine R_isIsle hR1.cn n6 (b2i_go (fun q => bad fun z => q z.1) (fun q1 => R_isIn (A := 0) (B := 15) (by decide) (by decide) (b2i_go (fun q => bad fun z => q (by have := z.2; unfold vWh at this; omega)) (fun q2 => ?_))))
  obtain ⟨i, hi, e⟩ := q1.get
  subst e
  have hw : vWh 16 x2 := by unfold vWh; omega
  have hh := h1 i hi rfl hw m1 f1 k1
  obtain ⟨k, hk, e⟩ := hw.get
  subst e
  have row := hR1.I.2 i hi
  have e10 : (10 : Int32) = nI 10 := rfl
  have e11 : (11 : Int32) = nI 11 := rfl
  refine ⟨fun q => ⟨fun q3 => R_weightOf rfl (by omega) ?_, fun q3 => ⟨fun q4 => R_floats rfl (by omega) ?_, fun q4 => ?_⟩⟩, fun q => R_of rfl rfl (by omega) (k := k) ?_ ?_⟩
  · rw [q3] at hh; rw [sWgt_c row]; exact hh
  · rw [q4] at hh; rw [b2i_if, flo_b row]; exact hh
  · rw [e10, n_le (by omega) (by omega)] at q
    rw [e10, n_eq (by omega) (by omega)] at q3
    rw [e11, n_eq (by omega) (by omega)] at q4
    have e : nI k - 2 = nI (k - 2) := by
      rw [i_eq, i_sub (by rw [n_i (by omega), show (2 : Int32).toInt = 2 from by decide]; omega) (by rw [n_i (by omega), show (2 : Int32).toInt = 2 from by decide]; omega), n_i (by omega), n_i (by omega), show (2 : Int32).toInt = 2 from by decide]
      omega
    refine R_of rfl e (by omega) (by omega) ?_
    rw [row (k - 2) (by omega)]
    rw [sIsl_hi (by omega) (by omega)] at hh; exact hh
  · rw [e10, n_le (by omega) (by omega)] at q; omega
  · rw [e10, n_le (by omega) (by omega)] at q
    rw [row k (by omega)]
    rw [sIsl_lo (by omega)] at hh; exact hh
theorem P_isle {x1 x2 : Int32} (h : QS μ n S D tn tb F T K M) : PI (d + 4) mX8_isle mX9_isle [.ref 0, .int x1, .int x2] [.ref 106, .int x1, .int x2] c10 μ := by
  intro KI X hK hX
  refine C_isle h.1 h.2.1 (fun q => hX _ _ Fr.rf (fun m2 g => R_isle h.1 (h.2.2.r (Fr.rf (P := zCls)) g) (fun _ m f e => ⟨e, h.q Fr.rf g f⟩) (fun i hi e b => absurd ⟨by rw [e]; exact vIs_n hi h.1.1, b⟩ q)) (by decide))
    (fun i hi e b => hK _ _ Fr.rf (fun m2 g => R_isle h.1 (h.2.2.r (Fr.rf (P := zCls)) g) (fun q => absurd ⟨by rw [e]; exact vIs_n hi h.1.1, b⟩ q) (fun j hj e2 _ m f e3 => ⟨e3, ?_, h.q Fr.rf g f⟩)))
  have n6 := h.1.1
  have : j = i := by rw [e] at e2; exact ((n_eq (by omega) (by omega)).mp e2).symm
  rw [this]
end Isle
