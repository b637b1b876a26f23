section Debt
variable {d : Nat} {μ : zMem} {KI : Int32 → zMem → Prop} {KV : zMem → Prop} {X : Nat → zMem → Prop} {n : Nat} {S : zSky} {D : Nat → Int32} {tn : Nat} {tb : Nat → Int32} {F : Int32} {T T' : zT} {K : Option (Nat → Int32)} {M : Option zT}
def inS (S : zSky) (I : zI) (n i h : Nat) (x : Int32) : Int32 := if oI (rn (sG S I (nI h) 0) i n) = -1 then 0 else (if x = -1 then 1 else (if x = oI (rn (sG S I (nI h) 0) i n) then 1 else 0))
theorem inS_none {I : zI} {i h k : Nat} (e : rn (sG S I (nI h) 0) i n = none) : inS S I n i h (nI k) = 0 := by
  unfold inS; rw [e]; exact if_pos rfl
theorem inS_some {I : zI} {i h k c : Nat} (hn : n ≤ 6) (hk : k < 6) (e : rn (sG S I (nI h) 0) i n = some c) : inS S I n i h (nI k) = if k = c then 1 else 0 := by
  have hc := rn_lt e
  unfold inS
  rw [e, if_neg (show ¬ oI (some c) = -1 from oI_n (by omega)), if_neg (oI_n (by omega))]
  by_cases z : k = c
  · rw [if_pos z, if_pos (by rw [z]; rfl)]
  · rw [if_neg z]
    exact if_neg (fun y => z (nj' (by omega) (by omega) y))
theorem n6' (m : Nat) : nI m * 6 = nI (6 * m) := by
  rw [show (6 : Int32) = nI 6 from rfl, pk_mul, Nat.mul_comm]
theorem n6l (m : Nat) : (6 : Int32) * nI m = nI (6 * m) := by
  rw [show (6 : Int32) = nI 6 from rfl, pk_mul]
def zOwe (c _j : Nat) : Prop := c = 104
theorem L_sd47 {x2 x3 : Int32} {h : Nat} {E : Nat → Nat → Int32} {μ0 : zMem} {C26 : Int32 → Int32 → zMem → Prop} (hn : n ≤ 6) (hc0 : μ0 47 0 = nI n) (hg0 : ∀ i, i < n → gAt μ0 (sG S T.1 (nI h) 0) i) (hz : ∀ i, i < n → zsm ((sG S T.1 (nI h) 0).2.2.1 i))
    (hK : ∀ μ', Fr zOwe μ0 μ' → (∀ i, i < n → ∀ k, k < 6 → μ' 104 (6 * i + k) = E i k + inS S T.1 n i h (nI k)) → C26 x2 (x3 + 1) μ') : ∀ (m j : Nat) (μ : zMem), j + m = n → Fr zOwe μ0 μ → (∀ i, i < n → ∀ k, k < 6 → μ 104 (6 * i + k) = if i < j then E i k + inS S T.1 n i h (nI k) else E i k) → pX8_sumDebts_47 (m + 1) (d + 4) x2 x3 (nI j) μ KV X C26 := by
  intro m
  induction m with
  | zero =>
    intro j μ hj hf hE
    have c : μ 47 0 = nI n := by rw [hf _ _ (by unfold zOwe; omega)]; exact hc0
    refine ⟨fun _ v1 e1 => ?_, fun z => absurd (by rw [c]; exact (n_le (by omega) (by omega)).mpr (by omega)) z⟩
    rw [e1]
    refine hK μ hf (fun i hi k hk => ?_)
    rw [hE i hi k hk, if_pos (by omega)]
  | succ m ih =>
    intro j μ hj hf hE
    have c : μ 47 0 = nI n := by rw [hf _ _ (by unfold zOwe; omega)]; exact hc0
    have g : ∀ i, i < n → gAt μ (sG S T.1 (nI h) 0) i := fun i hi => by
      obtain ⟨a1, a2, a3, a4⟩ := hg0 i hi
      exact ⟨by rw [hf _ _ (by unfold zOwe; omega)]; exact a1, by rw [hf _ _ (by unfold zOwe; omega)]; exact a2, by rw [hf _ _ (by unfold zOwe; omega)]; exact a3, by rw [hf _ _ (by unfold zOwe; omega)]; exact a4⟩
    refine ⟨fun z => absurd z (by rw [c, n_le (by omega) (by omega)]; omega), fun _ => C_rainFrom rfl c hn (by omega) g hz ?_⟩
    cases er : rn (sG S T.1 (nI h) 0) j n with
    | none =>
      refine ⟨fun _ v4 e4 => ?_, fun z => absurd rfl z⟩
      rw [nI_1] at e4
      subst e4
      refine ih (j + 1) μ (by omega) hf (fun i hi k hk => ?_)
      rw [hE i hi k hk]
      by_cases z : i < j
      · rw [if_pos z, if_pos (by omega)]
      · by_cases z2 : i = j
        · subst z2; rw [if_neg z, if_pos (by omega), inS_none er, Int32.add_zero]
        · rw [if_neg z, if_neg (by omega)]
    | some cc =>
      have hcc := rn_lt er
      refine ⟨fun z => absurd z (oI_n (by omega)), fun _ => ?_⟩
      show vp_in (nI j * 6 + nI cc) 36 ∧ vp_in (nI j * 6 + nI cc) 36 ∧ ∀ m5 : zMem, m5 = zw μ 104 (nI j * 6 + nI cc).toNatClampNeg ((μ 104 (nI j * 6 + nI cc).toNatClampNeg) + 1) → ∀ v6 : Int32, v6 = nI j + 1 → pX8_sumDebts_47 (m + 1) (d + 4) x2 x3 v6 m5 KV X C26
      rw [n6', nI_add, tN_nI (by omega)]
      refine ⟨vin (by omega), vin (by omega), fun m5 e5 v6 e6 => ?_⟩
      rw [nI_1] at e6
      subst e6
      refine ih (j + 1) m5 (by omega) (hf.tr (by rw [e5]; exact Fr.w rfl)) (fun i hi k hk => ?_)
      by_cases z2 : i = j
      · subst z2
        rw [if_pos (by omega), inS_some hn hk er]
        by_cases z3 : k = cc
        · subst z3
          rw [e5, zw_s, hE i hi k hk, if_neg (by omega), if_pos rfl]
        · rw [e5, zw_j (by omega), hE i hi k hk, if_neg (by omega), if_neg z3, Int32.add_zero]
      · rw [e5, zw_j (by omega), hE i hi k hk]
        by_cases z : i < j
        · rw [if_pos z, if_pos (by omega)]
        · rw [if_neg z, if_neg (by omega)]
theorem L_sd26 {μ0 : zMem} {q : Nat} (hq : q ≤ 167) (hW : QW n S D tn T K M) (hC : QC μ0 n S D tn tb F T K M) : ∀ (m h : Nat) (E : Nat → Nat → Int32) (μ : zMem), h + m = q + 1 → Fr zScC μ0 μ → (∀ i, i < n → ∀ k, k < 6 → μ 104 (6 * i + k) = E i k) →
    (∀ μ', Fr zScC μ0 μ' → (∀ i, i < n → ∀ k, k < 6 → μ' 104 (6 * i + k) = rcS S T.1 n i (nI k) m h (E i k)) → KV μ') → pX8_sumDebts_26 (m + 1) (d + 6) (nI q) (nI h) μ KV X := by
  have n6 := hW.1
  intro m
  induction m with
  | zero =>
    intro h E μ hh hf hE hK
    exact ⟨fun _ => hK μ hf hE, fun z => absurd ((n_lt (by omega) (by omega)).mpr (by omega)) z⟩
  | succ m ih =>
    intro h E μ hh hf hE hK
    refine ⟨fun z => absurd ((n_lt (by omega) (by omega)).mp z) (by omega), fun _ => C_blowNow hW (hC.q hf) (fun m1 f1 g1 => ⟨n + 1, ?_⟩)⟩
    have hf1 := hf.tr (zAir_q f1)
    refine L_sd47 (E := E) n6 (hC.q hf1).cn g1 (fun i hi => hW.zsm hi gst0) (fun μ' f g => ?_) n 0 m1 (by omega) Fr.rf (fun i hi k hk => ?_)
    · rw [nI_1]
      exact ih (h + 1) _ μ' (by omega) (hf1.tr (f.mono fun c j z => by unfold zOwe at z; unfold zScC; omega)) g hK
    · rw [if_neg (by omega), f1 _ _ (by unfold zAir; omega)]; exact hE i hi k hk
theorem L_sd2 {x1 x2 : Int32} {μ0 : zMem} (hK : ∀ μ', Fr zOwe μ0 μ' → (∀ j, j < 36 → μ' 104 j = 0) → ∃ n2 : Nat, pX8_sumDebts_26 n2 d x2 x1 μ' KV X) : ∀ (m k : Nat) (μ : zMem), k + m = 36 → Fr zOwe μ0 μ → (∀ j, j < k → μ 104 j = 0) → pX8_sumDebts_2 (m + 1) d x1 x2 (nI k) μ KV X := by
  intro m
  induction m with
  | zero =>
    intro k μ hk hf hr
    exact ⟨fun _ => hK μ hf (fun j hj => hr j (by omega)), fun z => absurd ((n_le (a := 36) (by omega) (by omega)).mpr (by omega)) z⟩
  | succ m ih =>
    intro k μ hk hf hr
    refine ⟨fun z => absurd ((n_le (a := 36) (by omega) (by omega)).mp z) (by omega), fun _ => ⟨vin (by omega), fun m1 e1 v2 e2 => ?_⟩⟩
    rw [tN_nI (by omega)] at e1
    rw [nI_1] at e2
    subst e2
    refine ih (k + 1) m1 (by omega) (hf.tr (by rw [e1]; exact Fr.w rfl)) (fun j hj => ?_)
    by_cases z : j = k
    · rw [e1, z, zw_s]
    · rw [e1, zw_j z]; exact hr j (by omega)
def owS (S : zSky) (I : zI) (n p q i k : Nat) : Int32 := rcS S I n i (nI k) (q + 1 - p) p 0
theorem C_sumDebts {p q : Nat} (hpq : p ≤ q) (hq : q ≤ 167) (hW : QW n S D tn T K M) (hC : QC μ n S D tn tb F T K M) (h : ∀ μ', Fr zScC μ μ' → (∀ i, i < n → ∀ k, k < 6 → μ' 104 (6 * i + k) = owS S T.1 n p q i k) → KV μ') : zcV (d + 7) mX8_sumDebts [.ref 0, .int (nI p), .int (nI q)] μ KV X := by
  have n6 := hW.1
  have zo : ∀ {m1 m2 : zMem}, Fr zOwe m1 m2 → Fr zScC m1 m2 := fun f => f.mono fun c j z => by unfold zOwe at z; unfold zScC; omega
  refine cX8_sumDebts_ ⟨37, L_sd2 (fun m1 f1 g1 => ⟨q + 1 - p + 1, ?_⟩) 36 0 μ (by omega) Fr.rf (fun j hj => absurd hj (by omega))⟩
  exact L_sd26 hq hW (hC.q (zo f1)) (q + 1 - p) p (fun _ _ => 0) m1 (by omega) Fr.rf (fun i hi k hk => g1 _ (by omega)) (fun μ' f g => h μ' ((zo f1).tr f) g)
/-- what is owed still -/
def dbS (E : Nat → Nat → Int32) (a b : Nat) : Int32 := zmax 0 (E a b - E b a)
theorem C_debtLeft {a b : Nat} {E : Nat → Nat → Int32} (hn : n ≤ 6) (ha : a < n) (hb : b < n) (hE : ∀ i, i < n → ∀ k, k < 6 → μ 104 (6 * i + k) = E i k) (h : KI (dbS E a b) μ) : zcI (d + 1) mX8_debtLeft [.ref 0, .int (nI a), .int (nI b)] μ KI X := by
  refine cX8_debtLeft_ ?_
  unfold pX8_debtLeft
  rw [n6', n6', nI_add, nI_add, tN_nI (by omega), tN_nI (by omega), hE a ha b (by omega), hE b hb a (by omega)]
  refine ⟨vin (by omega), vin (by omega), fun v1 e1 => ?_⟩
  rw [e1, zmax_c]; exact h
theorem C_debt {x1 x2 x3 x4 : Int32} (hW : QW n S D tn T K M) (hC : QC μ n S D tn tb F T K M) (h0 : ¬ (vIs n x1 ∧ vIs n x2) → X 0 μ) (h2 : (vIs n x1 ∧ vIs n x2) → ¬ (vSp x3 x4 ∧ ¬ x1 = x2) → X 1 μ)
    (h1 : ∀ a b p q, a < n → b < n → a ≠ b → x1 = nI a → x2 = nI b → p ≤ q → q ≤ 167 → x3 = nI p → x4 = nI q → ∀ m, Fr zScC μ m → KI (dbS (owS S T.1 n p q) a b) m) : zcI (d + 8) mX8_debt [.ref 0, .int x1, .int x2, .int x3, .int x4] μ KI X := by
  have n6 := hW.1
  refine cX8_debt_ (C_needIsle hC.cn n6 (fun q => h0 fun z => q z.1) (fun i hi e => C_needIsle hC.cn n6 (fun q => h0 fun z => q z.2) (fun j hj e' => ?_)))
  have hv : vIs n x1 ∧ vIs n x2 := ⟨by rw [e]; exact vIs_n hi n6, by rw [e']; exact vIs_n hj n6⟩
  refine C_needSpan (m := 168) (by decide) (fun q => h2 hv fun z => q ⟨z.1, by have := z.1; unfold vSp at this; omega⟩) (fun q4 _ => C_needTwo (fun q => h2 hv fun z => z.2 q) (fun q5 => ?_))
  obtain ⟨p, q, hpq, hq, e1, e2⟩ := q4.get
  have hij : i ≠ j := fun z => q5 (by rw [e, e', z])
  have hh := h1 i j p q hi hj hij e e' hpq hq e1 e2
  subst e e' e1 e2
  exact C_sumDebts hpq hq hW hC (fun m f g => C_debtLeft n6 hi hj g (hh m f))
/-! the reference's -/
def zOwR (c _j : Nat) : Prop := c = 135
theorem gAr.fr' {G : zG} {μ0 μ : zMem} {i : Nat} (h : gAr μ0 G i) (f : Fr zOwR μ0 μ) : gAr μ G i := by
  obtain ⟨a1, a2, a3, a4⟩ := h
  refine ⟨by rw [f _ _ (by unfold zOwR; omega)]; exact a1, by rw [f _ _ (by unfold zOwR; omega)]; exact a2, by rw [f _ _ (by unfold zOwR; omega)]; exact a3, ?_⟩
  rw [rI_congr (fun j => f _ _ (by unfold zOwR; omega))]; exact a4
theorem L_td40 {x2 x3 : Int32} {h : Nat} {E : Nat → Nat → Int32} {μ0 : zMem} {C26 : Int32 → Int32 → zMem → Prop} (hn : n ≤ 6) (hc0 : μ0 110 0 = nI n) (hg0 : ∀ i, i < n → gAr μ0 (sG S T.1 (nI h) 0) i)
    (hK : ∀ μ', Fr zOwR μ0 μ' → (∀ i, i < n → ∀ k, k < 6 → μ' 135 (6 * i + k) = E i k + inS S T.1 n i h (nI k)) → C26 x2 (x3 + 1) μ') : ∀ (m j : Nat) (μ : zMem), j + m = n → Fr zOwR μ0 μ → (∀ i, i < n → ∀ k, k < 6 → μ 135 (6 * i + k) = if i < j then E i k + inS S T.1 n i h (nI k) else E i k) → pX9_tellDebts_40 (m + 1) (d + 4) x2 x3 (nI j) μ KV X C26 := by
  intro m
  induction m with
  | zero =>
    intro j μ hj hf hE
    have c : μ 110 0 = nI n := by rw [hf _ _ (by unfold zOwR; omega)]; exact hc0
    refine ⟨fun _ v1 e1 => ?_, fun z => absurd (by rw [c]; exact (n_le (by omega) (by omega)).mpr (by omega)) z⟩
    rw [e1]
    refine hK μ hf (fun i hi k hk => ?_)
    rw [hE i hi k hk, if_pos (by omega)]
  | succ m ih =>
    intro j μ hj hf hE
    have c : μ 110 0 = nI n := by rw [hf _ _ (by unfold zOwR; omega)]; exact hc0
    have g : ∀ i, i < n → gAr μ (sG S T.1 (nI h) 0) i := fun i hi => (hg0 i hi).fr' hf
    refine ⟨fun z => absurd z (by rw [c, n_le (by omega) (by omega)]; omega), fun _ => R_rainOf rfl hn c (by omega) g ?_⟩
    cases er : rn (sG S T.1 (nI h) 0) j n with
    | none =>
      refine ⟨fun _ v4 e4 => ?_, fun z => absurd rfl z⟩
      rw [nI_1] at e4
      subst e4
      refine ih (j + 1) μ (by omega) hf (fun i hi k hk => ?_)
      rw [hE i hi k hk]
      by_cases z : i < j
      · rw [if_pos z, if_pos (by omega)]
      · by_cases z2 : i = j
        · subst z2; rw [if_neg z, if_pos (by omega), inS_none er, Int32.add_zero]
        · rw [if_neg z, if_neg (by omega)]
    | some cc =>
      have hcc := rn_lt er
      refine ⟨fun z => absurd z (oI_n (by omega)), fun _ => R_rainOf rfl hn c (by omega) g ?_⟩
      rw [er]
      show vp_in (6 * nI j + nI cc) 36 ∧ vp_in (6 * nI j + nI cc) 36 ∧ ∀ m5 : zMem, m5 = zw μ 135 (6 * nI j + nI cc).toNatClampNeg ((μ 135 (6 * nI j + nI cc).toNatClampNeg) + 1) → ∀ v6 : Int32, v6 = nI j + 1 → pX9_tellDebts_40 (m + 1) (d + 4) x2 x3 v6 m5 KV X C26
      rw [n6l, nI_add, tN_nI (by omega)]
      refine ⟨vin (by omega), vin (by omega), fun m5 e5 v6 e6 => ?_⟩
      rw [nI_1] at e6
      subst e6
      refine ih (j + 1) m5 (by omega) (hf.tr (by rw [e5]; exact Fr.w rfl)) (fun i hi k hk => ?_)
      by_cases z2 : i = j
      · subst z2
        rw [if_pos (by omega), inS_some hn hk er]
        by_cases z3 : k = cc
        · subst z3
          rw [e5, zw_s, hE i hi k hk, if_neg (by omega), if_pos rfl]
        · rw [e5, zw_j (by omega), hE i hi k hk, if_neg (by omega), if_neg z3, Int32.add_zero]
      · rw [e5, zw_j (by omega), hE i hi k hk]
        by_cases z : i < j
        · rw [if_pos z, if_pos (by omega)]
        · rw [if_neg z, if_neg (by omega)]
def zTeO (c j : Nat) : Prop := zTell c j ∨ zOwR c j
theorem zTeO_q {m1 m2 : zMem} (f : Fr zTeO m1 m2) : Fr zScR m1 m2 := f.mono fun c j q => by unfold zTeO zTell zOwR at q; unfold zScR; omega
theorem zTeO_c {m1 m2 : zMem} (f : Fr zTeO m1 m2) : m2 106 3 = m1 106 3 := f _ _ (by unfold zTeO zTell zOwR; omega)
theorem L_td26 {μ0 : zMem} {q : Nat} (hq : q ≤ 167) (hW : QW n S D tn T K M) (hR : QR μ0 n S D tn tb F T K M) : ∀ (m h : Nat) (E : Nat → Nat → Int32) (μ : zMem), h + m = q + 1 → Fr zTeO μ0 μ → (∀ i, i < n → ∀ k, k < 6 → μ 135 (6 * i + k) = E i k) →
    (∀ μ', Fr zTeO μ0 μ' → (∀ i, i < n → ∀ k, k < 6 → μ' 135 (6 * i + k) = rcS S T.1 n i (nI k) m h (E i k)) → KV μ') → pX9_tellDebts_26 (m + 1) (d + 6) (nI q) (nI h) μ KV X := by
  have n6 := hW.1
  intro m
  induction m with
  | zero =>
    intro h E μ hh hf hE hK
    exact ⟨fun _ => hK μ hf hE, fun z => absurd ((n_lt (by omega) (by omega)).mpr (by omega)) z⟩
  | succ m ih =>
    intro h E μ hh hf hE hK
    refine ⟨fun z => absurd ((n_lt (by omega) (by omega)).mp z) (by omega), fun _ => R_hourNow hW (hR.q (zTeO_q hf)) (fun m1 f1 g1 => ⟨n + 1, ?_⟩)⟩
    have hf1 := hf.tr (f1.mono fun c j z => Or.inl z)
    refine L_td40 (E := E) n6 (hR.q (zTeO_q hf1)).cn g1 (fun μ' f g => ?_) n 0 m1 (by omega) Fr.rf (fun i hi k hk => ?_)
    · rw [nI_1]
      exact ih (h + 1) _ μ' (by omega) (hf1.tr (f.mono fun c j z => Or.inr z)) g hK
    · rw [if_neg (by omega), f1 _ _ (by unfold zTell; omega)]; exact hE i hi k hk
theorem L_td2 {x1 x2 : Int32} {μ0 : zMem} (hK : ∀ μ', Fr zOwR μ0 μ' → (∀ j, j < 36 → μ' 135 j = 0) → ∃ n2 : Nat, pX9_tellDebts_26 n2 d x2 x1 μ' KV X) : ∀ (m k : Nat) (μ : zMem), k + m = 36 → Fr zOwR μ0 μ → (∀ j, j < k → μ 135 j = 0) → pX9_tellDebts_2 (m + 1) d x1 x2 (nI k) μ KV X := by
  intro m
  induction m with
  | zero =>
    intro k μ hk hf hr
    exact ⟨fun _ => hK μ hf (fun j hj => hr j (by omega)), fun z => absurd ((n_le (a := 36) (by omega) (by omega)).mpr (by omega)) z⟩
  | succ m ih =>
    intro k μ hk hf hr
    refine ⟨fun z => absurd ((n_le (a := 36) (by omega) (by omega)).mp z) (by omega), fun _ => ⟨vin (by omega), fun m1 e1 v2 e2 => ?_⟩⟩
    rw [tN_nI (by omega)] at e1
    rw [nI_1] at e2
    subst e2
    refine ih (k + 1) m1 (by omega) (hf.tr (by rw [e1]; exact Fr.w rfl)) (fun j hj => ?_)
    by_cases z : j = k
    · rw [e1, z, zw_s]
    · rw [e1, zw_j z]; exact hr j (by omega)
theorem R_tellDebts {p q : Nat} (hpq : p ≤ q) (hq : q ≤ 167) (hW : QW n S D tn T K M) (hR : QR μ n S D tn tb F T K M) (h : ∀ μ', Fr zTeO μ μ' → (∀ i, i < n → ∀ k, k < 6 → μ' 135 (6 * i + k) = owS S T.1 n p q i k) → KV μ') : zcV (d + 7) mX9_tellDebts [.ref 106, .int (nI p), .int (nI q)] μ KV X := by
  have n6 := hW.1
  have zo : ∀ {m1 m2 : zMem}, Fr zOwR m1 m2 → Fr zTeO m1 m2 := fun f => f.mono fun c j z => Or.inr z
  refine cX9_tellDebts_ ⟨37, L_td2 (fun m1 f1 g1 => ⟨q + 1 - p + 1, ?_⟩) 36 0 μ (by omega) Fr.rf (fun j hj => absurd hj (by omega))⟩
  exact L_td26 hq hW (hR.q (zTeO_q (zo f1))) (q + 1 - p) p (fun _ _ => 0) m1 (by omega) Fr.rf (fun i hi k hk => g1 _ (by omega)) (fun μ' f g => h μ' ((zo f1).tr f) g)
theorem R_still {a b : Nat} {E : Nat → Nat → Int32} (hn : n ≤ 6) (ha : a < n) (hb : b < n) (hE : ∀ i, i < n → ∀ k, k < 6 → μ 135 (6 * i + k) = E i k) (h : KI (dbS E a b) μ) : zcI (d + 1) mX9_still [.ref 106, .int (nI a), .int (nI b)] μ KI X := by
  refine cX9_still_ ?_
  unfold pX9_still
  rw [n6l, n6l, nI_add, nI_add, tN_nI (by omega), tN_nI (by omega), hE a ha b (by omega), hE b hb a (by omega)]
  exact ⟨vin (by omega), vin (by omega), h⟩
theorem R_debt {x1 x2 x3 x4 : Int32} (hW : QW n S D tn T K M) (hR : QR μ n S D tn tb F T K M) (h0 : ¬ (vIs n x1 ∧ vIs n x2) → ∀ m, Fr zScR μ m → m 106 3 = 1 → KI 0 m) (h2 : (vIs n x1 ∧ vIs n x2) → ¬ (vSp x3 x4 ∧ ¬ x1 = x2) → ∀ m, Fr zScR μ m → m 106 3 = 2 → KI 0 m)
    (h1 : ∀ a b p q, a < n → b < n → a ≠ b → x1 = nI a → x2 = nI b → p ≤ q → q ≤ 167 → x3 = nI p → x4 = nI q → ∀ m, Fr zScR μ m → m 106 3 = 0 → KI (dbS (owS S T.1 n p q) a b) m) : zcI (d + 8) mX9_debt [.ref 106, .int x1, .int x2, .int x3, .int x4] μ KI X := by
  have n6 := hW.1
  refine cX9_debt_ (fun m1 e1 => ?_)
  have f1 : Fr zScR μ m1 := by rw [e1]; exact code_q
  have k1 : m1 106 3 = 0 := by rw [e1, zw_s]
  have hR1 := hR.q f1
  have bad : ¬ (vIs n x1 ∧ vIs n x2) → pX9_debt_21 (d + 7) m1 KI X := fun q => R_fail (fun m e => h0 q m (f1.tr (by rw [e]; exact code_q)) (by rw [e, zw_s]))
  have bad2 : (vIs n x1 ∧ vIs n x2) → ¬ (vSp x3 x4 ∧ ¬ x1 = x2) → pX9_debt_41 (d + 7) m1 KI X := fun q q' => R_fail (fun m e => h2 q q' m (f1.tr (by rw [e]; exact code_q)) (by rw [e, zw_s]))
  refine R_isIsle hR1.cn n6 (b2i_go (fun q => bad fun z => q z.1) (fun q1 => R_isIsle hR1.cn n6 (b2i_go (fun q => bad fun z => q z.2) (fun q2 => R_isSpan (b2i_go (fun q => bad2 ⟨q1, q2⟩ fun z => q z.1) (fun q4 => ⟨fun q => bad2 ⟨q1, q2⟩ fun z => z.2 q, fun q5 => ?_⟩))))))
  obtain ⟨i, hi, e⟩ := q1.get
  obtain ⟨j, hj, e'⟩ := q2.get
  obtain ⟨p, q, hpq, hq, e1, e2⟩ := q4.get
  have hij : i ≠ j := fun z => q5 (by rw [e, e', z])
  have hh := h1 i j p q hi hj hij e e' hpq hq e1 e2
  subst e e' e1 e2
  exact R_tellDebts hpq hq hW hR1 (fun m f g => R_still n6 hi hj g (hh m (f1.tr (zTeO_q f)) (by rw [zTeO_c f, k1])))
theorem P_debt {x1 x2 x3 x4 : Int32} (h : QS μ n S D tn tb F T K M) : PI (d + 8) mX8_debt mX9_debt [.ref 0, .int x1, .int x2, .int x3, .int x4] [.ref 106, .int x1, .int x2, .int x3, .int x4] c12 μ := by
  intro KI X hK hX
  have n6 := h.1.1
  refine C_debt h.1 h.2.1 (fun a => hX _ _ Fr.rf (fun m2 g => R_debt h.1 (h.2.2.r (Fr.rf (P := zCls)) g) (fun _ m f e => ⟨e, h.q Fr.rf g f⟩) (fun b => absurd b a) (fun i j _ _ hi hj _ e e' _ _ _ _ => absurd ⟨by rw [e]; exact vIs_n hi n6, by rw [e']; exact vIs_n hj n6⟩ a)) (by decide))
    (fun a b => hX _ _ Fr.rf (fun m2 g => R_debt h.1 (h.2.2.r (Fr.rf (P := zCls)) g) (fun c => absurd a c) (fun _ _ m f e => ⟨e, h.q Fr.rf g f⟩) (fun i j p q hi hj hij e e' hpq hq e1 e2 => absurd ⟨by rw [e1, e2]; exact vSp_n hpq hq, fun z => hij (nj hi hj n6 (e.symm.trans (z.trans e')))⟩ b)) (by decide))
    (fun i j p q hi hj hij e e' hpq hq e1 e2 m1 f1 => hK _ _ (zScC_c f1) (fun m2 g => R_debt h.1 (h.2.2.r (zScC_c f1) g) (fun c => absurd ⟨by rw [e]; exact vIs_n hi n6, by rw [e']; exact vIs_n hj n6⟩ c) (fun _ b => absurd ⟨by rw [e1, e2]; exact vSp_n hpq hq, fun z => hij (nj hi hj n6 (e.symm.trans (z.trans e')))⟩ b) (fun i' j' p' q' hi' hj' _ ee ee' hpq' hq' e1' e2' m f e3 => ⟨e3, ?_, h.q f1 g f⟩)))
  cases nj hi hi' n6 (e.symm.trans ee)
  cases nj hj hj' n6 (e'.symm.trans ee')
  cases nj' (by omega) (by omega) (e1.symm.trans e1')
  cases nj' (by omega) (by omega) (e2.symm.trans e2'); rfl
end Debt
