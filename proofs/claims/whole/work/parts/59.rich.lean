section Rich
variable {d : Nat} {μ : zMem} {KI : Int32 → zMem → Prop} {KV : zMem → Prop} {X : Nat → zMem → Prop} {n : Nat} {S : zSky} {D : Nat → Int32} {tn : Nat} {tb : Nat → Int32} {F : Int32} {T T' : zT} {K : Option (Nat → Int32)} {M : Option zT}
def suS (L : Nat → Nat → Int32) (o : Nat) : Nat → Nat → Int32 → Int32
  | 0, _, a => a
  | m + 1, k, a => suS L o m (k + 1) (a + L k o)
theorem suS_s (L : Nat → Nat → Int32) (o : Nat) : ∀ (m k : Nat) (a : Int32), suS L o (m + 1) k a = suS L o m k a + L (k + m) o
  | 0, _, _ => rfl
  | m + 1, k, a => by
    show suS L o (m + 1) (k + 1) (a + L k o) = suS L o m (k + 1) (a + L k o) + L (k + (m + 1)) o
    rw [suS_s L o m (k + 1), show k + 1 + m = k + (m + 1) by omega]
def riS (n : Nat) (E : Nat → Nat → Int32) : Int32 := mxS (fun o => suS (dbS E) o n 0 0) n 0 (-1) 0
theorem L_rich38 {a : Nat} {E : Nat → Nat → Int32} {A : Nat → Int32} {μ0 : zMem} {C21 : Int32 → zMem → Prop} (hn : n ≤ 6) (ha : a < n) (hc0 : μ0 47 0 = nI n) (hE0 : ∀ i, i < n → ∀ k, k < 6 → μ0 104 (6 * i + k) = E i k)
    (hK : ∀ μ', Fr zTal μ0 μ' → (∀ o, o < 6 → μ' 103 o = if o < n then A o + dbS E a o else A o) → C21 (nI a + 1) μ') : ∀ (m j : Nat) (μ : zMem), j + m = n → Fr zTal μ0 μ → (∀ o, o < 6 → μ 103 o = if o < j then A o + dbS E a o else A o) → pX8_rich_38 (m + 1) (d + 1) (nI a) (nI j) μ KI X C21 := by
  intro m
  induction m with
  | zero =>
    intro j μ hj hf hA
    have c : μ 47 0 = nI n := by rw [hf _ _ (by unfold zTal; omega)]; exact hc0
    have ej : j = n := by omega
    subst ej
    exact ⟨fun _ v1 e1 => by rw [e1]; exact hK μ hf hA, fun z => absurd (by rw [c]; exact (n_le (by omega) (by omega)).mpr (by omega)) z⟩
  | succ m ih =>
    intro j μ hj hf hA
    have c : μ 47 0 = nI n := by rw [hf _ _ (by unfold zTal; omega)]; exact hc0
    have hE : ∀ i, i < n → ∀ k, k < 6 → μ 104 (6 * i + k) = E i k := fun i hi k hk => by rw [hf _ _ (by unfold zTal; omega)]; exact hE0 i hi k hk
    refine ⟨fun z => absurd z (by rw [c, n_le (by omega) (by omega)]; omega), fun _ => ⟨vin (by omega), C_debtLeft hn ha (by omega) hE ⟨vin (by omega), fun m4 e4 v5 e5 => ?_⟩⟩⟩
    rw [tN_nI (by omega)] at e4
    rw [nI_1] at e5
    subst e5
    refine ih (j + 1) m4 (by omega) (hf.tr (by rw [e4]; exact Fr.w rfl)) (fun o ho => ?_)
    by_cases z : o = j
    · subst z
      rw [e4, zw_s, hA o ho, if_neg (by omega), if_pos (by omega)]
    · rw [e4, zw_j z, hA o ho]
      by_cases z2 : o < j
      · rw [if_pos z2, if_pos (by omega)]
      · rw [if_neg z2, if_neg (by omega)]
theorem L_rich21 {E : Nat → Nat → Int32} {μ0 : zMem} (hn : n ≤ 6) (hc0 : μ0 47 0 = nI n) (hE0 : ∀ i, i < n → ∀ k, k < 6 → μ0 104 (6 * i + k) = E i k) (hK : ∀ μ', Fr zTal μ0 μ' → KI (riS n E) μ') : ∀ (m j : Nat) (μ : zMem), j + m = n → Fr zTal μ0 μ → (∀ o, o < 6 → μ 103 o = if o < n then suS (dbS E) o j 0 0 else 0) → pX8_rich_21 (m + 1) (d + 1) (nI j) μ KI X := by
  intro m
  induction m with
  | zero =>
    intro j μ hj hf hA
    have c : μ 47 0 = nI n := by rw [hf _ _ (by unfold zTal; omega)]; exact hc0
    have ej : j = n := by omega
    subst ej
    refine ⟨fun _ => C_mostN (f := fun o => if o < j then suS (dbS E) o j 0 0 else 0) hn hA (fun k h1 h2 => if_neg (by omega)) ?_, fun z => absurd (by rw [c]; exact (n_le (by omega) (by omega)).mpr (by omega)) z⟩
    have := hK μ hf
    unfold riS at this
    rw [mxS_c (f := fun o => if o < j then suS (dbS E) o j 0 0 else 0) (g := fun o => suS (dbS E) o j 0 0) j 0 (-1) 0 (fun k h1 h2 => if_pos (by omega))]
    exact this
  | succ m ih =>
    intro j μ hj hf hA
    have c : μ 47 0 = nI n := by rw [hf _ _ (by unfold zTal; omega)]; exact hc0
    have hE : ∀ i, i < n → ∀ k, k < 6 → μ 104 (6 * i + k) = E i k := fun i hi k hk => by rw [hf _ _ (by unfold zTal; omega)]; exact hE0 i hi k hk
    refine ⟨fun z => absurd z (by rw [c, n_le (by omega) (by omega)]; omega), fun _ => ⟨n + 1, ?_⟩⟩
    refine L_rich38 (E := E) (A := fun o => if o < n then suS (dbS E) o j 0 0 else 0) hn (by omega) c hE (fun μ' f g => ?_) n 0 μ (by omega) Fr.rf (fun o ho => by rw [if_neg (by omega)]; exact hA o ho)
    rw [nI_1]
    refine ih (j + 1) μ' (by omega) (hf.tr f) (fun o ho => ?_)
    rw [g o ho]
    by_cases z : o < n
    · rw [if_pos z, if_pos z, if_pos z, suS_s, Nat.zero_add]
    · rw [if_neg z, if_neg z, if_neg z]
theorem C_rich {x1 x2 : Int32} (hW : QW n S D tn T K M) (hC : QC μ n S D tn tb F T K M) (h0 : ¬ vSp x1 x2 → X 1 μ) (h1 : ∀ p q, p ≤ q → q ≤ 167 → x1 = nI p → x2 = nI q → ∀ m, Fr zScC μ m → KI (riS n (owS S T.1 n p q)) m) : zcI (d + 8) mX8_rich [.ref 0, .int x1, .int x2] μ KI X := by
  have n6 := hW.1
  refine cX8_rich_ (C_needSpan (m := 168) (by decide) (fun q => h0 fun z => q ⟨z, by unfold vSp at z; omega⟩) (fun q4 _ => ?_))
  obtain ⟨p, q, hpq, hq, e1, e2⟩ := q4.get
  have hh := h1 p q hpq hq e1 e2
  subst e1 e2
  refine C_sumDebts hpq hq hW hC (fun m1 f1 g1 => C_clear (fun m2 f2 g2 => ⟨n + 1, ?_⟩))
  have hC2 := (hC.q f1).q (zTal_q f2)
  exact L_rich21 n6 hC2.cn (fun i hi k hk => by rw [f2 _ _ (by unfold zTal; omega)]; exact g1 i hi k hk) (fun μ' f => hh μ' ((f1.tr (zTal_q f2)).tr (zTal_q f))) n 0 m2 (by omega) Fr.rf (fun o ho => by rw [g2 o ho]; split <;> rfl)
theorem L_rich50 {o : Nat} {b s : Int32} {E : Nat → Nat → Int32} {C33 : Int32 → Int32 → Int32 → zMem → Prop} (hn : n ≤ 6) (ho : o < n) (hc : μ 110 0 = nI n) (hE : ∀ i, i < n → ∀ k, k < 6 → μ 135 (6 * i + k) = E i k) (h : if suS (dbS E) o n 0 0 ≤ s then C33 b s (nI o + 1) μ else C33 (nI o) (suS (dbS E) o n 0 0) (nI o + 1) μ) : ∀ (m j : Nat) (a : Int32), j + m = n → suS (dbS E) o m j a = suS (dbS E) o n 0 0 → pX9_rich_50 (m + 1) (d + 1) b s (nI o) a (nI j) μ KI X C33 := by
  intro m
  induction m with
  | zero =>
    intro j a hj e
    have e' : a = suS (dbS E) o n 0 0 := e
    refine ⟨fun _ => ⟨fun z v1 e1 => ?_, fun z v2 e2 => ?_⟩, fun z => absurd (by rw [hc]; exact (n_le (by omega) (by omega)).mpr (by omega)) z⟩
    · rw [e'] at z
      rw [if_neg (by rw [i_nle]; exact z)] at h
      rw [e1, e']; exact h
    · rw [e'] at z
      rw [if_pos ((i_nlt _ _).mp z)] at h
      rw [e2]; exact h
  | succ m ih =>
    intro j a hj e
    refine ⟨fun z => absurd z (by rw [hc, n_le (by omega) (by omega)]; omega), fun _ => R_still hn (by omega) ho hE (fun v5 e5 => ?_)⟩
    rw [nI_1] at e5
    subst e5
    exact ih (j + 1) _ (by omega) e
theorem L_rich33 {E : Nat → Nat → Int32} (hn : n ≤ 6) (hc : μ 110 0 = nI n) (hE : ∀ i, i < n → ∀ k, k < 6 → μ 135 (6 * i + k) = E i k) : ∀ (m o : Nat) (b s : Int32), o + m = n → KI (mxS (fun o => suS (dbS E) o n 0 0) m o b s) μ → pX9_rich_33 (m + 1) (d + 1) b s (nI o) μ KI X := by
  intro m
  induction m with
  | zero =>
    intro o b s ho h
    exact ⟨fun _ => h, fun z => absurd (by rw [hc]; exact (n_le (by omega) (by omega)).mpr (by omega)) z⟩
  | succ m ih =>
    intro o b s ho h
    refine ⟨fun z => absurd z (by rw [hc, n_le (by omega) (by omega)]; omega), fun _ => ⟨n + 1, L_rich50 (E := E) hn (by omega) hc hE ?_ n 0 0 (by omega) rfl⟩⟩
    unfold mxS at h
    by_cases z : suS (dbS E) o n 0 0 ≤ s
    · rw [if_pos z] at h ⊢
      rw [nI_1]
      exact ih (o + 1) b s (by omega) h
    · rw [if_neg z] at h ⊢
      rw [nI_1]
      exact ih (o + 1) _ _ (by omega) h
theorem R_rich {x1 x2 : Int32} (hW : QW n S D tn T K M) (hR : QR μ n S D tn tb F T K M) (h0 : ¬ vSp x1 x2 → ∀ m, Fr zScR μ m → m 106 3 = 1 → KI 0 m) (h1 : ∀ p q, p ≤ q → q ≤ 167 → x1 = nI p → x2 = nI q → ∀ m, Fr zScR μ m → m 106 3 = 0 → KI (riS n (owS S T.1 n p q)) m) : zcI (d + 8) mX9_rich [.ref 106, .int x1, .int x2] μ KI X := by
  have n6 := hW.1
  refine cX9_rich_ (fun m1 e1 => ?_)
  have f1 : Fr zScR μ m1 := by rw [e1]; exact code_q
  have k1 : m1 106 3 = 0 := by rw [e1, zw_s]
  have hR1 := hR.q f1
  refine R_isSpan (b2i_go (fun q => R_fail (fun m e => h0 q m (f1.tr (by rw [e]; exact code_q)) (by rw [e, zw_s]))) (fun q4 => ?_))
  obtain ⟨p, q, hpq, hq, e1, e2⟩ := q4.get
  have hh := h1 p q hpq hq e1 e2
  subst e1 e2
  exact R_tellDebts hpq hq hW hR1 (fun m f g => ⟨n + 1, L_rich33 n6 (hR1.q (zTeO_q f)).cn g n 0 (-1) 0 (by omega) (hh m (f1.tr (zTeO_q f)) (by rw [zTeO_c f, k1]))⟩)
theorem P_rich {x1 x2 : Int32} (h : QS μ n S D tn tb F T K M) : PI (d + 8) mX8_rich mX9_rich [.ref 0, .int x1, .int x2] [.ref 106, .int x1, .int x2] c11 μ := by
  intro KI X hK hX
  refine C_rich h.1 h.2.1 (fun b => hX _ _ Fr.rf (fun m2 g => R_rich h.1 (h.2.2.r (Fr.rf (P := zCls)) g) (fun _ m f e => ⟨e, h.q Fr.rf g f⟩) (fun p q hpq hq e1 e2 => absurd (by rw [e1, e2]; exact vSp_n hpq hq) b)) (by decide))
    (fun p q hpq hq e1 e2 m1 f1 => hK _ _ (zScC_c f1) (fun m2 g => R_rich h.1 (h.2.2.r (zScC_c f1) g) (fun b => absurd (by rw [e1, e2]; exact vSp_n hpq hq) b) (fun p' q' hpq' hq' e1' e2' m f e3 => ⟨e3, ?_, h.q f1 g f⟩)))
  cases nj' (by omega) (by omega) (e1.symm.trans e1')
  cases nj' (by omega) (by omega) (e2.symm.trans e2'); rfl
end Rich
