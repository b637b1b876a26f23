section Tangle
variable {d : Nat} {μ : zMem} {KI : Int32 → zMem → Prop} {KV : zMem → Prop} {X : Nat → zMem → Prop} {n : Nat} {S : zSky} {D : Nat → Int32} {tn : Nat} {tb : Nat → Int32} {F : Int32} {T T' : zT} {K : Option (Nat → Int32)} {M : Option zT}
theorem L_place {N i : Nat} {q : Nat → Nat} (hN : N ≤ 40) (hn : n ≤ 6) (hi : i < n) (hc : μ 46 4 = nI N) (hx : ∀ j, j < N → μ 60 j = nI (enX (q j)) ∧ q j < 10) (hq : ∀ j, j < N → q j / 2 + 1 < n) : ∀ (m k : Nat), k + m = N → KI (nI (poS q N i)) μ → pX8_placeBehindCrossings_4 (m + 1) d (nI (poS q k i)) (nI k) μ KI X := by
  intro m
  induction m with
  | zero =>
    intro k hk h
    refine ⟨fun _ => ?_, fun z => absurd (by rw [hc]; exact (n_le (by omega) (by omega)).mpr (by omega)) z⟩
    rw [show k = N by omega]; exact h
  | succ m ih =>
    intro k hk h
    obtain ⟨xk, q10⟩ := hx k (by omega)
    have qk := hq k (by omega)
    have pl := poS_lt hq k i (by omega) hi
    have nx := ih (k + 1) (by omega) h
    have en : poS q (k + 1) i = swp (q k / 2) (poS q k i) := rfl
    rw [en] at nx
    refine ⟨fun z => absurd z (by rw [hc, n_le (by omega) (by omega)]; omega), fun _ => ⟨vin (by omega), fun v1 e1 => ?_⟩⟩
    rw [tN_nI (by omega), xk, mod_t ⟨q k, q10⟩] at e1
    have e1' : v1 = nI (q k / 2) := e1
    subst e1'
    have ep : nI (q k / 2) + 1 = nI (q k / 2 + 1) := nI_add _ 1
    rw [ep, n_eq (by omega) (by omega), n_eq (by omega) (by omega)]
    unfold swp at nx
    refine ⟨fun z v4 e4 => ?_, fun z => ⟨fun z2 v3 e3 => ?_, fun z2 v2 e2 => ?_⟩⟩
    · rw [if_pos z] at nx
      rw [nI_1] at e4
      subst e4
      exact nx
    · rw [if_neg z, if_pos z2] at nx
      rw [nI_1] at e3
      subst e3
      exact nx
    · rw [if_neg z, if_neg z2] at nx
      rw [nI_1] at e2
      subst e2
      exact nx
abbrev poT (T : zT) (i : Nat) : Nat := poS T.2.2.2.1.2 T.2.2.2.1.1 i
abbrev raT (T : zT) (i : Nat) : Nat := raS T.2.2.2.1.2 T.2.2.2.1.1 i
theorem C_place {i : Nat} (hW : QW n S D tn T K M) (hC : QC μ n S D tn tb F T K M) (hi : i < n) (h : KI (nI (poT T i)) μ) : zcI (d + 1) mX8_placeBehindCrossings [.ref 0, .int (nI i)] μ KI X := by
  obtain ⟨c4, cx⟩ := hC.2.2.2.1.2.2.2.1
  refine cX8_placeBehindCrossings_ ⟨T.2.2.2.1.1 + 1, ?_⟩
  exact L_place hW.tw.2.1 hW.1 hi c4 (fun j hj => ⟨cx j hj, (hW.q j hj).1⟩) (fun j hj => (hW.q j hj).2) T.2.2.2.1.1 0 (by omega) h
/-- is every rope where it was; what is answered then -/
def sBak (T : zT) : Nat → Nat → Int32
  | 0, _ => nI (frT T).1
  | m + 1, k => if poT T k = k then sBak T m (k + 1) else 0
theorem sBak_iff {T : zT} : ∀ m k, (bkS (poT T) m k → sBak T m k = nI (frT T).1) ∧ (¬ bkS (poT T) m k → sBak T m k = 0)
  | 0, _ => ⟨fun _ => rfl, fun h => absurd trivial h⟩
  | m + 1, k => by
    have ih := sBak_iff (T := T) m (k + 1)
    unfold sBak
    refine ⟨fun h => ?_, fun h => ?_⟩
    · rw [if_pos h.1]; exact ih.1 h.2
    · by_cases q : poT T k = k
      · rw [if_pos q]; exact ih.2 (fun z => h ⟨q, z⟩)
      · rw [if_neg q]
theorem L_tangleC (hW : QW n S D tn T K M) (hC : QC μ n S D tn tb F T K M) (hK : ∀ μ', Fr zScC μ μ' → KI (sBak T n 0) μ') : ∀ (m k : Nat), k + m = n → (sBak T n 0 = sBak T m k) → pX8_tangle_22 (m + 1) (d + 1) (nI k) μ KI X := by
  have n6 := hW.1
  intro m
  induction m with
  | zero =>
    intro k hk e
    refine ⟨fun _ => C_free hW hC (fun μ' f _ => ?_), fun z => absurd (by rw [hC.cn]; exact (n_le (by omega) (by omega)).mpr (by omega)) z⟩
    have := hK μ' f
    rw [e] at this; exact this
  | succ m ih =>
    intro k hk e
    refine ⟨fun z => absurd z (by rw [hC.cn, n_le (by omega) (by omega)]; omega), fun _ => C_place hW hC (by omega) ?_⟩
    have pl : poT T k < n := poS_lt (fun j hj => (hW.q j hj).2) _ k (by omega) (by omega)
    rw [n_eq (by omega) (by omega)]
    have eu : sBak T (m + 1) k = if poT T k = k then sBak T m (k + 1) else 0 := rfl
    rw [eu] at e
    refine ⟨fun z v5 e5 => ?_, fun z => ?_⟩
    · rw [if_pos z] at e
      rw [nI_1] at e5
      subst e5
      exact ih (k + 1) (by omega) e
    · rw [if_neg z] at e
      have := hK μ Fr.rf
      rw [← e]; exact this
def sTan (n : Nat) (T : zT) (i : Nat) (w : Int32) : Int32 := if w = 0 then nI (poT T i) else sBak T n 0
theorem C_tangle {x1 x2 : Int32} (hW : QW n S D tn T K M) (hC : QC μ n S D tn tb F T K M) (h0 : ¬ (vIs n x1 ∧ vWh 2 x2) → X 0 μ) (h1 : ∀ i, i < n → x1 = nI i → vWh 2 x2 → ∀ m, Fr zScC μ m → KI (sTan n T i x2) m) : zcI (d + 3) mX8_tangle [.ref 0, .int x1, .int x2] μ KI X := by
  have n6 := hW.1
  refine cX8_tangle_ (C_needIsle hC.cn n6 (fun q => h0 fun z => q z.1) (fun i hi e => C_needWhat (m := 2) (by decide) (fun q => h0 fun z => q z.2) (fun q2 => ?_)))
  have hh := h1 i hi e q2
  subst e
  unfold sTan at hh
  refine ⟨fun z => C_place hW hC hi ?_, fun z => ⟨n + 1, L_tangleC hW hC (fun μ' f => ?_) n 0 (by omega) rfl⟩⟩
  · have := hh μ Fr.rf
    rw [if_pos z] at this; exact this
  · have := hh μ' f
    rw [if_neg z] at this; exact this
theorem L_tp82 {A : Nat → Nat} (hn : n ≤ 6) (hc : μ 110 0 = nI n) (hA : ∀ j, j < n → μ 131 j = nI (A j) ∧ A j < n) (h1 : bkS A n 0 → KI 1 μ) (h0 : ¬ bkS A n 0 → KI 0 μ) : ∀ (m k : Nat), k + m = n → (bkS A m k → bkS A n 0) → (¬ bkS A m k → ¬ bkS A n 0) → pX9_tellPlaces_82 (m + 1) d (nI k) μ KI X := by
  intro m
  induction m with
  | zero =>
    intro k hk b1 b0
    exact ⟨fun _ => h1 (b1 trivial), fun z => absurd (by rw [hc]; exact (n_le (by omega) (by omega)).mpr (by omega)) z⟩
  | succ m ih =>
    intro k hk b1 b0
    refine ⟨fun z => absurd z (by rw [hc, n_le (by omega) (by omega)]; omega), fun _ => ⟨vin (by omega), ?_⟩⟩
    obtain ⟨a1, a2⟩ := hA k (by omega)
    rw [tN_nI (by omega), a1, n_eq (by omega) (by omega)]
    refine ⟨fun z v1 e1 => ?_, fun z => h0 (b0 fun y => z y.1)⟩
    rw [nI_1] at e1
    subst e1
    exact ih (k + 1) (by omega) (fun y => b1 ⟨z, y⟩) (fun y => b0 fun w => y w.2)
theorem L_tp27 {μ0 : zMem} {N : Nat} {q : Nat → Nat} (hN : N ≤ 40) (hn : n ≤ 6) (hc0 : μ0 110 0 = nI n) (hc : μ0 106 28 = nI N) (hx : ∀ j, j < N → μ0 129 j = nI (q j) ∧ q j < 10) (hq : ∀ j, j < N → q j / 2 + 1 < n)
    (hK : ∀ μ', Fr (fun c _ => c = 131) μ0 μ' → (∀ j, j < n → μ' 131 j = nI (raS q N j)) → (bkS (raS q N) n 0 → KI 1 μ') ∧ (¬ bkS (raS q N) n 0 → KI 0 μ')) : ∀ (m k : Nat) (μ : zMem), k + m = N → Fr (fun c _ => c = 131) μ0 μ → (∀ j, j < n → μ 131 j = nI (raS q k j)) → pX9_tellPlaces_27 (m + 1) d (nI k) μ KI X := by
  intro m
  induction m with
  | zero =>
    intro k μ hk hf hr
    have c : μ 106 28 = nI N := by rw [hf _ _ (by omega)]; exact hc
    have c0 : μ 110 0 = nI n := by rw [hf _ _ (by omega)]; exact hc0
    have ek : k = N := by omega
    subst ek
    obtain ⟨k1, k0⟩ := hK μ hf hr
    refine ⟨fun _ => ⟨n + 1, L_tp82 hn c0 (fun j hj => ⟨hr j hj, raS_lt hq k j (by omega) hj⟩) k1 k0 n 0 (by omega) (fun y => y) (fun y => y)⟩, fun z => absurd (by rw [c]; exact (n_le (by omega) (by omega)).mpr (by omega)) z⟩
  | succ m ih =>
    intro k μ hk hf hr
    have c : μ 106 28 = nI N := by rw [hf _ _ (by omega)]; exact hc
    obtain ⟨xk, q10⟩ := hx k (by omega)
    have qk := hq k (by omega)
    have xk' : μ 129 k = nI (q k) := by rw [hf _ _ (by omega)]; exact xk
    refine ⟨fun z => absurd z (by rw [c, n_le (by omega) (by omega)]; omega), fun _ => ⟨vin (by omega), fun v1 e1 => ?_⟩⟩
    rw [tN_nI (by omega), xk', hal_t ⟨q k, q10⟩] at e1
    have e1' : v1 = nI (q k / 2) := e1
    subst e1'
    have ep : nI (q k / 2) + 1 = nI (q k / 2 + 1) := nI_add _ 1
    rw [ep, tN_nI (n := q k / 2) (by omega), tN_nI (n := q k / 2 + 1) (by omega)]
    refine ⟨vin (by omega), fun v2 e2 => ⟨vin (by omega), vin (by omega), fun m3 e3 => ⟨vin (by omega), fun m4 e4 v5 e5 => ?_⟩⟩⟩
    rw [nI_1] at e5
    subst e5
    refine ih (k + 1) m4 (by omega) (hf.tr (by rw [e4, e3]; exact (Fr.w (P := fun c _ => c = 131) rfl).tr (Fr.w rfl))) (fun j hj => ?_)
    have en : raS q (k + 1) j = raS q k (swp (q k / 2) j) := rfl
    rw [en]
    unfold swp
    by_cases z : j = q k / 2
    · rw [if_pos z, e4, zw_j (by omega), e3, z, zw_s]; exact hr _ (by omega)
    · by_cases z2 : j = q k / 2 + 1
      · rw [if_neg z, if_pos z2, e4, z2, zw_s, e2]; exact hr _ (by omega)
      · rw [if_neg z, if_neg z2, e4, zw_j z2, e3, zw_j z]; exact hr j hj
theorem L_tp2 {μ0 : zMem} (hn : n ≤ 6) (hc0 : μ0 110 0 = nI n) (hK : ∀ μ', Fr (fun c _ => c = 131) μ0 μ' → (∀ j, j < n → μ' 131 j = nI j) → ∃ n2 : Nat, pX9_tellPlaces_27 n2 d 0 μ' KI X) : ∀ (m k : Nat) (μ : zMem), k + m = n → Fr (fun c _ => c = 131) μ0 μ → (∀ j, j < k → μ 131 j = nI j) → pX9_tellPlaces_2 (m + 1) d (nI k) μ KI X := by
  intro m
  induction m with
  | zero =>
    intro k μ hk hf hr
    have c0 : μ 110 0 = nI n := by rw [hf _ _ (by omega)]; exact hc0
    exact ⟨fun _ => hK μ hf (fun j hj => hr j (by omega)), fun z => absurd (by rw [c0]; exact (n_le (by omega) (by omega)).mpr (by omega)) z⟩
  | succ m ih =>
    intro k μ hk hf hr
    have c0 : μ 110 0 = nI n := by rw [hf _ _ (by omega)]; exact hc0
    refine ⟨fun z => absurd z (by rw [c0, n_le (by omega) (by omega)]; omega), fun _ => ⟨vin (by omega), fun m1 e1 v2 e2 => ?_⟩⟩
    rw [tN_nI (by omega)] at e1
    rw [nI_1] at e2
    subst e2
    refine ih (k + 1) m1 (by omega) (hf.tr (by rw [e1]; exact Fr.w rfl)) (fun j hj => ?_)
    by_cases z : j = k
    · rw [e1, z, zw_s]
    · rw [e1, zw_j z]; exact hr j (by omega)
theorem R_places (hW : QW n S D tn T K M) (hR : QR μ n S D tn tb F T K M) (h : ∀ μ', Fr (fun c _ => c = 131) μ μ' → (∀ j, j < n → μ' 131 j = nI (raT T j)) → (bkS (raT T) n 0 → KI 1 μ') ∧ (¬ bkS (raT T) n 0 → KI 0 μ')) : zcI (d + 1) mX9_tellPlaces [.ref 106] μ KI X := by
  have n6 := hW.1
  obtain ⟨c4, cx⟩ := hR.2.2.2.1.2.2.2.1
  refine cX9_tellPlaces_ ⟨n + 1, L_tp2 n6 hR.cn (fun m1 f1 g1 => ⟨T.2.2.2.1.1 + 1, ?_⟩) n 0 μ (by omega) Fr.rf (fun j hj => absurd hj (by omega))⟩
  exact L_tp27 hW.tw.2.1 n6 hR.cn c4 (fun j hj => ⟨cx j hj, (hW.q j hj).1⟩) (fun j hj => (hW.q j hj).2) h T.2.2.2.1.1 0 m1 (by omega) f1 g1
theorem L_tangle54 {i p : Nat} {A : Nat → Nat} (hn : n ≤ 6) (hi : i < n) (hp : p < n) (hA : ∀ j, j < n → μ 131 j = nI (A j) ∧ A j < n) (h1 : A p = i) (h2 : ∀ j, j < p → A j ≠ i) (h : KI (nI p) μ) : ∀ (m k : Nat), k + m = p → pX9_tangle_54 (m + 1) d (nI i) (nI k) μ KI X := by
  intro m
  induction m with
  | zero =>
    intro k hk
    have ek : k = p := by omega
    subst ek
    obtain ⟨a1, a2⟩ := hA k hp
    refine ⟨vin (by omega), ?_⟩
    rw [tN_nI (by omega), a1, n_eq (by omega) (by omega)]
    exact ⟨fun _ => h, fun z => absurd h1 z⟩
  | succ m ih =>
    intro k hk
    obtain ⟨a1, a2⟩ := hA k (by omega)
    refine ⟨vin (by omega), ?_⟩
    rw [tN_nI (by omega), a1, n_eq (by omega) (by omega)]
    refine ⟨fun z => absurd z (h2 k (by omega)), fun _ v1 e1 => ?_⟩
    rw [nI_1] at e1
    subst e1
    exact ih (k + 1) (by omega)
theorem R_tangle {x1 x2 : Int32} (hW : QW n S D tn T K M) (hR : QR μ n S D tn tb F T K M) (h0 : ¬ (vIs n x1 ∧ vWh 2 x2) → ∀ m, Fr zScR μ m → m 106 3 = 1 → KI 0 m) (h1 : ∀ i, i < n → x1 = nI i → vWh 2 x2 → ∀ m, Fr zScR μ m → m 106 3 = 0 → KI (sTan n T i x2) m) : zcI (d + 3) mX9_tangle [.ref 106, .int x1, .int x2] μ KI X := by
  have n6 := hW.1
  refine cX9_tangle_ (fun m1 e1 => ?_)
  have f1 : Fr zScR μ m1 := by rw [e1]; exact code_q
  have k1 : m1 106 3 = 0 := by rw [e1, zw_s]
  have hR1 := hR.q f1
  have bad : ¬ (vIs n x1 ∧ vWh 2 x2) → pX9_tangle_22 (d + 2) m1 KI X := fun q => R_fail (fun m e => h0 q m (f1.tr (by rw [e]; exact code_q)) (by rw [e, zw_s]))
  refine R_isIsle hR1.cn n6 (b2i_go (fun q => bad fun z => q z.1) (fun q1 => ?_))
  have le1 : x2 ≤ 1 ↔ x2.toInt ≤ 1 := by rw [i_le, i_1]
  have lt0 : x2 < 0 ↔ x2.toInt < 0 := by rw [i_lt, i_0]
  rw [lt0, le1]
  refine ⟨fun q => bad fun z => by have := z.2; unfold vWh at this; omega, fun q => ⟨fun q2 => ?_, fun q2 => bad fun z => by have := z.2; unfold vWh at this; omega⟩⟩
  have hw : vWh 2 x2 := by unfold vWh; omega
  obtain ⟨i, hi, e⟩ := q1.get
  have hh := h1 i hi e hw
  subst e
  unfold sTan at hh
  refine R_places hW hR1 (fun m f g => ?_)
  have fm : Fr zScR μ m := f1.tr (f.mono fun c j q => by unfold zScR; omega)
  have km : m 106 3 = 0 := by rw [f _ _ (by omega), k1]
  have bi := back_iff (n := n) (q := T.2.2.2.1.2) (N := T.2.2.2.1.1) (fun j hj => (hW.q j hj).2)
  have zero : ∀ u : Int32, ¬ x2 = 1 → ∃ n2, pX9_tangle_54 n2 (d + 2) (nI i) 0 m KI X := by
    intro u z
    have z0 : x2 = 0 := by rw [i_eq, i_1] at z; rw [i_eq, i_0]; omega
    have h2 := hh m fm km
    rw [if_pos z0] at h2
    have pl : poT T i < n := poS_lt (fun j hj => (hW.q j hj).2) _ i (Nat.le_refl _) hi
    refine ⟨poT T i + 1, L_tangle54 (p := poT T i) n6 hi pl (A := raT T) (fun j hj => ⟨g j hj, raS_lt (fun j hj => (hW.q j hj).2) _ j (Nat.le_refl _) hj⟩) (ra_po _ _ _) (fun j hj y => ?_) h2 (poT T i) 0 (Nat.zero_add _)⟩
    have e : poT T (raT T j) = j := po_ra _ _ _
    have y' : raT T j = i := y
    rw [y'] at e; omega
  have ne1 : x2 = 1 → ¬ x2 = 0 := fun z y => by rw [z] at y; exact absurd y (by decide)
  refine ⟨fun b => ⟨fun z => ⟨fun y => absurd y (by decide), fun _ => R_free hW (hR.q fm) (fun m' f' _ => ?_)⟩, zero 1⟩, fun b => ⟨fun z => ⟨fun _ => ?_, fun y => absurd rfl y⟩, zero 0⟩⟩
  · have h2 := hh m' (fm.tr (f'.mono fun c j q => by unfold zScR; omega)) (by rw [f' _ _ (by omega), km])
    rw [if_neg (ne1 z), (sBak_iff n 0).1 (bi.mpr b)] at h2; exact h2
  · have h2 := hh m fm km
    rw [if_neg (ne1 z), (sBak_iff n 0).2 (fun y => b (bi.mp y))] at h2; exact h2
theorem P_tangle {x1 x2 : Int32} (h : QS μ n S D tn tb F T K M) : PI (d + 3) mX8_tangle mX9_tangle [.ref 0, .int x1, .int x2] [.ref 106, .int x1, .int x2] c10 μ := by
  intro KI X hK hX
  have n6 := h.1.1
  refine C_tangle h.1 h.2.1 (fun q => hX _ _ Fr.rf (fun m2 g => R_tangle h.1 (h.2.2.r (Fr.rf (P := zCls)) g) (fun _ m f e => ⟨e, h.q Fr.rf g f⟩) (fun i hi e b => absurd ⟨by rw [e]; exact vIs_n hi n6, b⟩ q)) (by decide))
    (fun i hi e b m1 f1 => hK _ _ (zScC_c f1) (fun m2 g => R_tangle h.1 (h.2.2.r (zScC_c f1) g) (fun q => absurd ⟨by rw [e]; exact vIs_n hi n6, b⟩ q) (fun j hj e' _ m f e3 => ⟨e3, ?_, h.q f1 g f⟩)))
  cases nj hi hj n6 (e.symm.trans e'); rfl
end Tangle
