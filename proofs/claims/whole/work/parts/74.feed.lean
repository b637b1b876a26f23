/-! feed -/
def TPC (μ : zMem) (t : Nat) (tb : Nat → Int32) : Prop := μ 0 1 = nI t ∧ ∀ j, j < t → μ 1 j = zby (tb j)
def TPR (μ : zMem) (t : Nat) (tb : Nat → Int32) : Prop := μ 106 12 = nI t ∧ ∀ j, j < t → μ 117 j = tb j &&& 255
def zTp (c j : Nat) : Prop := (c = 0 ∧ j = 1) ∨ c = 1
def zTpR (c j : Nat) : Prop := (c = 106 ∧ j = 12) ∨ c = 117
def fdB (x1 x2 x3 x4 x5 : Int32) (k : Nat) : Int32 := (if 4 ≤ nI k then (if 8 ≤ nI k then (if 12 ≤ nI k then (if 16 ≤ nI k then x5 else x4) else x3) else x2) else x1) >>> ((24 - (8 * (nI k - nI k / 4 * 4))) &&& (31))
def fdT (tb : Nat → Int32) (t : Nat) (x1 x2 x3 x4 x5 : Int32) : Nat → Int32 := fun j => if j < t then tb j else fdB x1 x2 x3 x4 x5 (j - t)
theorem TPC.st {μ m2 m3 : zMem} {t : Nat} {tb : Nat → Int32} {v : Int32} (h : TPC μ t tb) (hv : v = zby (tb t)) (e2 : m2 = zw μ 1 t v) (e3 : m3 = zw m2 0 1 (m2 0 1 + 1)) : TPC m3 (t + 1) tb ∧ Fr zTp μ m3 := by
  refine ⟨⟨?_, fun j hj => ?_⟩, ?_⟩
  · rw [e3, zw_s, e2, zw_c (by omega), h.1, nI_1]
  · rw [e3, zw_c (by omega), e2]
    by_cases y : j = t
    · subst y; rw [zw_s, hv]
    · rw [zw_j y]; exact h.2 j (by omega)
  · refine Fr.tr (μ1 := m2) ?_ ?_
    · rw [e2]; exact Fr.w (Or.inr rfl)
    · rw [e3]; exact Fr.w (Or.inl ⟨rfl, rfl⟩)
section Feed
variable {d : Nat} {μ : zMem} {KI : Int32 → zMem → Prop} {KV : zMem → Prop} {X : Nat → zMem → Prop} {n : Nat} {S : zSky} {D : Nat → Int32} {tn tn' : Nat} {tb tb' : Nat → Int32} {F : Int32} {T T' : zT} {K K' : Option (Nat → Int32)} {M : Option zT}
theorem L_pt {m t : Nat} {x y y' : Int32} (h : TPC μ t tb) (ht : t < 700) (hy : ¬ y < 0) (hb : tb t = x >>> (y &&& 31)) (ey : y + (-8) = y') (go : ∀ μ', TPC μ' (t + 1) tb → Fr zTp μ μ' → pX8_putOnTape_3 m d x y' μ' KV X) : pX8_putOnTape_3 (m + 1) d x y μ KV X := by
  refine ⟨fun z => absurd z hy, fun _ => ⟨fun z => absurd z ?_, fun _ => ⟨?_, fun m2 e2 m3 e3 v4 e4 => ?_⟩⟩⟩
  · rw [h.1, show (700 : Int32) = nI 700 from rfl, n_le (by omega) (by omega)]; omega
  · rw [h.1]; exact vin ht
  · rw [h.1, tN_nI (by omega)] at e2
    obtain ⟨a, b⟩ := h.st (v := vp_nar .byte ((x >>> (y &&& (31))).toInt8.toInt32)) (by unfold zby; rw [hb]) e2 e3
    rw [e4, ey]
    exact go m3 a b
theorem C_putOnTape {t : Nat} {x : Int32} (h : TPC μ t tb) (ht : t + 4 ≤ 700) (h0 : tb t = x >>> ((24 : Int32) &&& 31)) (h1 : tb (t + 1) = x >>> ((16 : Int32) &&& 31)) (h2 : tb (t + 2) = x >>> ((8 : Int32) &&& 31)) (h3 : tb (t + 3) = x >>> ((0 : Int32) &&& 31)) (hK : ∀ μ', Fr zTp μ μ' → TPC μ' (t + 4) tb → KV μ') : zcV (d + 1) mX8_putOnTape [.ref 0, .int x] μ KV X := by
  refine cX8_putOnTape_ ⟨5, ?_⟩
  refine L_pt h (by omega) (by decide) h0 (y' := 16) (by decide) (fun m1 t1 f1 => ?_)
  refine L_pt t1 (by omega) (by decide) h1 (y' := 8) (by decide) (fun m2 t2 f2 => ?_)
  refine L_pt t2 (by omega) (by decide) h2 (y' := 0) (by decide) (fun m3 t3 f3 => ?_)
  refine L_pt t3 (by omega) (by decide) h3 (y' := -8) (by decide) (fun m4 t4 f4 => ?_)
  exact ⟨fun _ => hK m4 (f1.tr (f2.tr (f3.tr f4))) t4, fun z => absurd (by decide) z⟩
theorem QC.tp {μ' : zMem} (h : QC μ n S D tn tb F T K M) (f : Fr zTp μ μ') (t : TPC μ' tn' tb') : QC μ' n S D tn' tb' F T K M := by
  obtain ⟨⟨h1, h2, h3, h4, h5, h6⟩, ⟨h7, h8⟩, h9, h10, h11, h12⟩ := h
  have e : ∀ c j, ¬ (c = 0 ∧ j = 1) → c ≠ 1 → μ' c j = μ c j := fun c j a b => f c j (fun z => by rcases z with z | z; exact a z; exact b z)
  have z4 : zsk μ' 0 4 = zsk μ 0 4 := by unfold zsk; rw [e 0 4 (by omega) (by omega)]
  have z5 : zsk μ' 0 5 = zsk μ 0 5 := by unfold zsk; rw [e 0 5 (by omega) (by omega)]
  have sr := sky_rng (zsk_sh μ 0 4)
  refine ⟨?_, t, by rw [e _ _ (by omega) (by omega)]; exact h9, h10.go fun c j q1 q2 => e _ _ (by omega) (by omega), h11.go (e _ _ (by omega) (by omega)) (fun j => e _ _ (by omega) (by omega)), ?_⟩
  · rw [z4, z5]
    refine ⟨h1.go fun c j q => e _ _ (by omega) (by omega), h2, ?_, ?_, ?_, fun j hj => ?_⟩
    · rw [e _ _ (by omega) (by omega)]; exact h3
    · rw [e _ _ (by omega) (by omega)]; exact h4
    · rw [e _ _ (by omega) (by omega)]; exact h5
    · rw [e _ _ (by omega) (by omega)]; exact h6 j hj
  · cases M with
    | none => show μ' 0 8 = 0; rw [e _ _ (by omega) (by omega)]; exact h12
    | some T' => exact ⟨by rw [e _ _ (by omega) (by omega)]; exact h12.1, h12.2.go fun c j q1 q2 => e _ _ (by omega) (by omega)⟩
theorem QR.tp {μ' : zMem} (h : QR μ n S D tn tb F T K M) (f : Fr zTpR μ μ') (t : TPR μ' tn' tb') : QR μ' n S D tn' tb' F T K M := by
  obtain ⟨⟨h1, h2, h3⟩, ⟨h7, h8⟩, h9, h10, h11, h12⟩ := h
  have e : ∀ c j, ¬ (c = 106 ∧ j = 12) → c ≠ 117 → μ' c j = μ c j := fun c j a b => f c j (fun z => by rcases z with z | z; exact a z; exact b z)
  refine ⟨⟨by rw [e _ _ (by omega) (by omega)]; exact h1, h2.go fun c j q1 q2 q3 => e _ _ (by omega) (by omega), fun j a b => by rw [e _ _ (by omega) (by omega)]; exact h3 j a b⟩, t, by rw [e _ _ (by omega) (by omega)]; exact h9, h10.go fun c j q => e _ _ (by omega) (by omega), ?_, ?_⟩
  · cases K with
    | none => show μ' 106 36 = 0; rw [e _ _ (by omega) (by omega)]; exact h11
    | some ρ => exact ⟨by rw [e _ _ (by omega) (by omega)]; exact h11.1, fun i hi => by rw [e _ _ (by omega) (by omega)]; exact h11.2 i hi⟩
  · cases M with
    | none => show μ' 106 53 = 0; rw [e _ _ (by omega) (by omega)]; exact h12
    | some T' => exact ⟨by rw [e _ _ (by omega) (by omega)]; exact h12.1, h12.2.go fun c j q => e _ _ (by omega) (by omega)⟩
theorem fdT_at {x1 x2 x3 x4 x5 : Int32} {t k : Nat} : fdT tb t x1 x2 x3 x4 x5 (t + k) = fdB x1 x2 x3 x4 x5 k := by
  unfold fdT
  rw [if_neg (by omega), show t + k - t = k by omega]
theorem feed_le (ht : tn ≤ 700) : (nI tn + 20 ≤ (700 : Int32)) ↔ tn + 20 ≤ 700 := by
  rw [show (20 : Int32) = nI 20 from rfl, nI_add, show (700 : Int32) = nI 700 from rfl, n_le (by omega) (by omega)]
theorem C_feed {x1 x2 x3 x4 x5 : Int32} (hW : QW n S D tn T K M) (hC : QC μ n S D tn tb F T K M) (h0 : ¬ tn + 20 ≤ 700 → KI (-1) μ) (h1 : tn + 20 ≤ 700 → ∀ m, Fr zTp μ m → QC m n S D (tn + 20) (fdT tb tn x1 x2 x3 x4 x5) F T K M → KI (nI (tn + 20)) m) : zcI (d + 2) mX8_feed [.ref 0, .int x1, .int x2, .int x3, .int x4, .int x5] μ KI X := by
  have ht := hW.2.2.2.2.1
  refine cX8_feed_ ?_
  unfold pX8_feed
  rw [hC.2.1.1, feed_le ht]
  refine ⟨fun z => ?_, h0⟩
  have t0 : TPC μ tn (fdT tb tn x1 x2 x3 x4 x5) := ⟨hC.2.1.1, fun j hj => by rw [hC.2.1.2 j hj]; unfold fdT; rw [if_pos hj]⟩
  have b : ∀ k, fdT tb tn x1 x2 x3 x4 x5 (tn + k) = fdB x1 x2 x3 x4 x5 k := fun k => fdT_at
  refine C_putOnTape t0 (by omega) (b 0) (b 1) (b 2) (b 3) (fun m1 f1 t1 => ?_)
  refine C_putOnTape t1 (by omega) (b 4) (b 5) (b 6) (b 7) (fun m2 f2 t2 => ?_)
  refine C_putOnTape t2 (by omega) (b 8) (b 9) (b 10) (b 11) (fun m3 f3 t3 => ?_)
  refine C_putOnTape t3 (by omega) (b 12) (b 13) (b 14) (b 15) (fun m4 f4 t4 => ?_)
  refine C_putOnTape t4 (by omega) (b 16) (b 17) (b 18) (b 19) (fun m5 f5 t5 => ?_)
  have ff := f1.tr (f2.tr (f3.tr (f4.tr f5)))
  have := h1 z m5 ff (hC.tp ff t5)
  rw [t5.1]; exact this
theorem L_fd {x1 x2 x3 x4 x5 : Int32} {t : Nat} (ht : t + 20 ≤ 700) (hb : ∀ k, k < 20 → tb (t + k) = fdB x1 x2 x3 x4 x5 k) {μ0 : zMem} (hK : ∀ μ', Fr zTpR μ0 μ' → TPR μ' (t + 20) tb → KI (nI (t + 20)) μ') : ∀ (m k : Nat) (μ : zMem), k + m = 20 → Fr zTpR μ0 μ → TPR μ (t + k) tb → pX9_feed_23 (m + 1) d x1 x2 x3 x4 x5 (nI k) μ KI X := by
  intro m
  induction m with
  | zero =>
    intro k μ hk hf h
    have : k = 20 := by omega
    subst this
    exact ⟨fun _ => by rw [h.1]; exact hK μ hf h, fun z => absurd (by decide) z⟩
  | succ m ih =>
    intro k μ hk hf h
    refine ⟨fun z => absurd ((n_le (a := 20) (by omega) (by omega)).mp z) (by omega), fun _ v1 e1 => ⟨by rw [h.1]; exact vin (by omega), fun m2 e2 m3 e3 v4 e4 => ?_⟩⟩
    rw [h.1, tN_nI (by omega)] at e2
    have ev : (v1 >>> ((24 - (8 * (nI k - nI k / 4 * 4))) &&& (31))) &&& 255 = tb (t + k) &&& 255 := by rw [hb k (by omega), e1]; rfl
    rw [ev] at e2
    rw [e4, nI_1]
    refine ih (k + 1) m3 (by omega) (hf.tr (Fr.tr (μ1 := m2) (by rw [e2]; exact Fr.w (Or.inr rfl)) (by rw [e3]; exact Fr.w (Or.inl ⟨rfl, rfl⟩)))) ⟨?_, fun j hj => ?_⟩
    · rw [e3, zw_s, e2, zw_c (by omega), h.1, nI_1]; rfl
    · rw [e3, zw_c (by omega), e2]
      by_cases y : j = t + k
      · subst y; rw [zw_s]
      · rw [zw_j y]; exact h.2 j (by omega)
theorem R_feed {x1 x2 x3 x4 x5 : Int32} (hW : QW n S D tn T K M) (hR : QR μ n S D tn tb F T K M) (h0 : ¬ tn + 20 ≤ 700 → ∀ m, Fr zScR μ m → m 106 3 = 0 → KI (-1) m) (h1 : tn + 20 ≤ 700 → ∀ m, Fr zRef μ m → QR m n S D (tn + 20) (fdT tb tn x1 x2 x3 x4 x5) F T K M → m 106 3 = 0 → KI (nI (tn + 20)) m) : zcI (d + 2) mX9_feed [.ref 106, .int x1, .int x2, .int x3, .int x4, .int x5] μ KI X := by
  have ht := hW.2.2.2.2.1
  refine cX9_feed_ (fun m1 e1 => ?_)
  have f1 : Fr zScR μ m1 := by rw [e1]; exact code_q
  have k1 : m1 106 3 = 0 := by rw [e1, zw_s]
  have hR1 := hR.q f1
  rw [hR1.2.1.1, feed_le ht]
  refine ⟨fun z => ⟨20 + 1, ?_⟩, fun z => h0 z m1 f1 k1⟩
  refine L_fd (tb := fdT tb tn x1 x2 x3 x4 x5) z (fun k _ => fdT_at) (fun μ' f' t' => ?_) 20 0 m1 (by omega) Fr.rf ⟨hR1.2.1.1, fun j hj => by rw [hR1.2.1.2 j hj]; unfold fdT; rw [if_pos (show j < tn from hj)]⟩
  exact h1 z μ' ((zScR_r f1).tr (f'.mono fun c j q => by unfold zTpR at q; unfold zRef; omega)) (hR1.tp f' t') (by rw [f' _ _ (by unfold zTpR; omega)]; exact k1)
theorem P_feed {x1 x2 x3 x4 x5 : Int32} (h : QS μ n S D tn tb F T K M) : PI (d + 2) mX8_feed mX9_feed [.ref 0, .int x1, .int x2, .int x3, .int x4, .int x5] [.ref 106, .int x1, .int x2, .int x3, .int x4, .int x5] c00 μ := by
  intro KI X hK hX
  have hW := h.1
  have tc : ∀ {m1 m2 : zMem}, Fr zTp m1 m2 → Fr zCls m1 m2 := fun f => f.mono fun c j q => by unfold zTp at q; unfold zCls; omega
  refine C_feed h.1 h.2.1 (fun q => hK _ _ Fr.rf (fun m2 g => R_feed h.1 (h.2.2.r (Fr.rf (P := zCls)) g) (fun _ m f e => ⟨e, rfl, h.q Fr.rf g f⟩) (fun z => absurd z q))) (fun z m1 f1 c1 => hK _ _ (tc f1) (fun m2 g => R_feed h.1 (h.2.2.r (tc f1) g) (fun q => absurd z q) (fun _ m f q e => ⟨e, rfl, ⟨n, S, D, tn + 20, _, F, T, K, M, ⟨hW.1, hW.2.1, hW.2.2.1, hW.2.2.2.1, z, hW.2.2.2.2.2⟩, c1.r g f, q⟩, f⟩)))
end Feed
