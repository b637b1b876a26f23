section Fits
variable {d : Nat} {μ : zMem} {KI : Int32 → zMem → Prop} {KV : zMem → Prop} {X : Nat → zMem → Prop} {n : Nat} {S : zSky} {D : Nat → Int32} {tn : Nat} {tb : Nat → Int32} {F : Int32} {T T' : zT} {K : Option (Nat → Int32)} {M : Option zT}
def asS (S : zSky) (V : Nat → Nat × Int32 × Int32) (I : zI) : Nat → Nat → Int32
  | 0, _ => 1
  | m + 1, j => if sZ S I (V j).1 (V j).2.1 0 = (V j).2.2 then asS S V I m (j + 1) else 0
theorem C_high {I : zI} {i : Nat} {hour : Int32} {μ0 : zMem} (hW : QW n S D tn T K M) (hC : QC μ0 n S D tn tb F T K M) (f : Fr zScC μ0 μ) (hI : IsC μ 80 n I) (hi : i < n) (h : ∀ μ', Fr zScC μ0 μ' → IsC μ' 80 n I → KI (sZ S I i hour 0) μ') : zcI (d + 6) mX8_highOnTrial [.ref 0, .int (nI i), .int hour] μ KI X := by
  have n6 := hW.1
  refine cX8_highOnTrial_ (C_has' (by decide +kernel) hI.1 n6 (b2i_go (fun q => absurd (vIs_n hi n6) q) (fun _ => C_putTry hW hC f hI hi (fun m1 f1 fp a1 => ⟨vin (by omega), ?_⟩))))
  rw [tN_nI (by omega), a1.2.2.1]
  exact h m1 (f.tr f1) (hI.go fun c j q1 q2 => fp _ _ (by unfold zPut; have := sky_rng (zsk_sh μ 0 4); omega))
theorem L_seenC {I : zI} {μ0 : zMem} (hW : QW n S D tn T K M) (hC : QC μ0 n S D tn tb F T K M) : ∀ (m j : Nat) (μ : zMem), j + m = T.2.2.2.2.1 → Fr zScC μ0 μ → IsC μ 80 n I → (∀ μ', Fr zScC μ0 μ' → IsC μ' 80 n I → KI (asS S T.2.2.2.2.2 I m j) μ') → pX8_isAllSeenSo_2 (m + 1) (d + 6) (nI j) μ KI X := by
  have n6 := hW.1
  have t12 := hW.tw.2.2.1
  intro m
  induction m with
  | zero =>
    intro j μ hj hf hI hK
    have c : μ 46 6 = nI T.2.2.2.2.1 := (hC.q hf).2.2.2.1.2.2.2.2.1
    exact ⟨fun _ => hK μ hf hI, fun z => absurd (by rw [c]; exact (n_le (by omega) (by omega)).mpr (by omega)) z⟩
  | succ m ih =>
    intro j μ hj hf hI hK
    have c : μ 46 6 = nI T.2.2.2.2.1 := (hC.q hf).2.2.2.1.2.2.2.2.1
    obtain ⟨s1, s2, s3⟩ := (hC.q hf).2.2.2.1.2.2.2.2.2 j (by omega)
    have s1' : μ 61 (3 * j) = nI (T.2.2.2.2.2 j).1 := s1
    have s2' : μ 61 (3 * j + 1) = (T.2.2.2.2.2 j).2.1 := s2
    have e31 : nI (3 * j) + 1 = nI (3 * j + 1) := nI_add _ 1
    have e32 : nI (3 * j) + 2 = nI (3 * j + 2) := nI_add _ 2
    refine ⟨fun z => absurd z (by rw [c, n_le (by omega) (by omega)]; omega), fun _ => ?_⟩
    rw [n3', e31, e32, tN_nI (n := 3 * j) (by omega), tN_nI (n := 3 * j + 1) (by omega), tN_nI (n := 3 * j + 2) (by omega), s1', s2']
    refine ⟨vin (by omega), vin (by omega), C_high hW hC hf hI (hW.tw.2.2.2.2.2.2 j (by omega)) (fun m1 f1 I1 => ⟨vin (by omega), ?_⟩)⟩
    have s3' : m1 61 (3 * j + 2) = (T.2.2.2.2.2 j).2.2 := ((hC.q f1).2.2.2.1.2.2.2.2.2 j (by omega)).2.2
    rw [s3']
    refine ⟨fun z v3 e3 => ?_, fun z => ?_⟩
    · rw [nI_1] at e3
      subst e3
      refine ih (j + 1) m1 (by omega) f1 I1 (fun μ' f' i' => ?_)
      have := hK μ' f' i'
      unfold asS at this
      rw [if_pos z] at this; exact this
    · have := hK m1 f1 I1
      unfold asS at this
      rw [if_neg z] at this; exact this
theorem C_allSeen {I : zI} {μ0 : zMem} (hW : QW n S D tn T K M) (hC : QC μ0 n S D tn tb F T K M) (f : Fr zScC μ0 μ) (hI : IsC μ 80 n I) (h : ∀ μ', Fr zScC μ0 μ' → IsC μ' 80 n I → KI (asS S T.2.2.2.2.2 I T.2.2.2.2.1 0) μ') : zcI (d + 7) mX8_isAllSeenSo [.ref 0] μ KI X :=
  cX8_isAllSeenSo_ ⟨T.2.2.2.2.1 + 1, L_seenC hW hC T.2.2.2.2.1 0 μ (by omega) f hI h⟩
theorem QR.seen {μ' : zMem} (h : QR μ n S D tn tb F T K M) (f : Fr zTry μ μ') : μ' 106 29 = nI T.2.2.2.2.1 ∧ ∀ j, j < T.2.2.2.2.1 → μ' 132 j = nI (T.2.2.2.2.2 j).1 ∧ μ' 133 j = (T.2.2.2.2.2 j).2.1 ∧ μ' 134 j = (T.2.2.2.2.2 j).2.2 := by
  have e : ∀ c j, ¬ zScR c j → c ≠ 111 → μ' c j = μ c j := fun c j a b => f _ _ (by unfold zTry; intro z; rcases z with z | z; exact a z; exact b z)
  obtain ⟨t7, t8⟩ := h.2.2.2.1.2.2.2.2
  refine ⟨by rw [e _ _ (by unfold zScR; omega) (by omega)]; exact t7, fun j hj => ?_⟩
  rw [e _ _ (by unfold zScR; omega) (by omega), e _ _ (by unfold zScR; omega) (by omega), e _ _ (by unfold zScR; omega) (by omega)]; exact t8 j hj
theorem L_seenR {I : zI} {μ0 : zMem} (hW : QW n S D tn T K M) (hR : QR μ0 n S D tn tb F T K M) : ∀ (m j : Nat) (μ : zMem), j + m = T.2.2.2.2.1 → Fr zTry μ0 μ → isl μ n I → μ 106 3 = 0 → (∀ μ', Fr zTry μ0 μ' → isl μ' n I → μ' 106 3 = 0 → KI (asS S T.2.2.2.2.2 I m j) μ') → pX9_isAsSeen_2 (m + 1) (d + 6) (nI j) μ KI X := by
  have n6 := hW.1
  have t12 := hW.tw.2.2.1
  intro m
  induction m with
  | zero =>
    intro j μ hj hf hI hk hK
    have c := (hR.seen hf).1
    exact ⟨fun _ => hK μ hf hI hk, fun z => absurd (by rw [c]; exact (n_le (by omega) (by omega)).mpr (by omega)) z⟩
  | succ m ih =>
    intro j μ hj hf hI hk hK
    obtain ⟨c, s⟩ := hR.seen hf
    obtain ⟨s1, s2, s3⟩ := s j (by omega)
    have si := hW.tw.2.2.2.2.2.2 j (by omega)
    refine ⟨fun z => absurd z (by rw [c, n_le (by omega) (by omega)]; omega), fun _ => ?_⟩
    rw [tN_nI (n := j) (by omega), s2]
    refine ⟨vin (by omega), R_hourTry hW hR hf hI (fun m1 f1 g1 => ?_)⟩
    have hf1 := hf.tr (zTry_c f1)
    obtain ⟨s1', s2', s3'⟩ := (hR.seen hf1).2 j (by omega)
    have k1 : m1 106 3 = 0 := by rw [zTell_c f1]; exact hk
    have I1 : isl m1 n I := hI.go fun j => f1 _ _ (by unfold zTell; omega)
    have z1 : m1 122 (T.2.2.2.2.2 j).1 = sZ S I (T.2.2.2.2.2 j).1 (T.2.2.2.2.2 j).2.1 0 := (g1 _ si).2.2.1
    rw [s1', s3', tN_nI (by omega), z1]
    refine ⟨vin (by omega), vin (by omega), vin (by omega), fun z v3 e3 => ?_, fun z => ?_⟩
    · rw [nI_1] at e3
      subst e3
      refine ih (j + 1) m1 (by omega) hf1 I1 k1 (fun μ' f' i' k' => ?_)
      have := hK μ' f' i' k'
      unfold asS at this
      rw [if_pos z] at this; exact this
    · have := hK m1 hf1 I1 k1
      unfold asS at this
      rw [if_neg z] at this; exact this
theorem R_asSeen {I : zI} {μ0 : zMem} (hW : QW n S D tn T K M) (hR : QR μ0 n S D tn tb F T K M) (f : Fr zTry μ0 μ) (hI : isl μ n I) (hk : μ 106 3 = 0) (h : ∀ μ', Fr zTry μ0 μ' → isl μ' n I → μ' 106 3 = 0 → KI (asS S T.2.2.2.2.2 I T.2.2.2.2.1 0) μ') : zcI (d + 7) mX9_isAsSeen [.ref 106] μ KI X :=
  cX9_isAsSeen_ ⟨T.2.2.2.2.1 + 1, L_seenR hW hR T.2.2.2.2.1 0 μ (by omega) f hI hk h⟩
/-! fits -/
def ftI (S : zSky) (T : zT) (i r : Nat) : Nat → Nat → Nat × Int32 → Nat × Int32
  | 0, _, p => p
  | m + 1, y, p => ftI S T i r m (y + 1) (if asS S T.2.2.2.2.2 (zset T.1 i 3 (nI (r + y))) T.2.2.2.2.1 0 = 0 then p else (p.1 + 1, if p.1 = 0 then nI (10 * i + y) else p.2))
def ftR (T : zT) (i : Nat) : Nat := (T.1 i 3).toInt.toNat
def ftO (S : zSky) (T : zT) : Nat → Nat → Nat × Int32 → Nat × Int32
  | 0, _, p => p
  | m + 1, i, p => ftO S T m (i + 1) (ftI S T i (ftR T i) (min 9 (60 - ftR T i)) 1 p)
def ftOK (c : Nat) (p : Nat × Int32) : Prop := p.1 ≤ c ∧ (p.1 = 0 ↔ p.2 = -1)
def sFit (S : zSky) (T : zT) (n : Nat) (w : Int32) : Int32 := if w = 0 then nI (ftO S T n 0 (0, -1)).1 else (ftO S T n 0 (0, -1)).2
theorem ftOK_s {c i y : Nat} {p : Nat × Int32} (h : ftOK c p) (hi : i ≤ 100) (hy : y ≤ 100) : ftOK (c + 1) (p.1 + 1, if p.1 = 0 then nI (10 * i + y) else p.2) := by
  refine ⟨by have := h.1; show p.1 + 1 ≤ c + 1; omega, ?_⟩
  show p.1 + 1 = 0 ↔ (if p.1 = 0 then nI (10 * i + y) else p.2) = -1
  refine ⟨fun q => by omega, fun q => ?_⟩
  by_cases z : p.1 = 0
  · rw [if_pos z] at q; exact absurd q (oI_n (by omega))
  · rw [if_neg z] at q; exact absurd (h.2.mpr q) z
theorem ftOK_m {c c' : Nat} {p : Nat × Int32} (h : ftOK c p) (hc : c ≤ c') : ftOK c' p := ⟨by have := h.1; omega, h.2⟩
theorem e10i (i y : Nat) : 10 * nI i + nI y = nI (10 * i + y) := by rw [show (10 : Int32) = nI 10 from rfl, pk_mul, nI_add]
end Fits
