/-! the least winching: the class's hours and search -/
def vI (I : zI) (q s : Nat) : zI := zset I (s / 9) 3 (I (s / 9) 3 + yd q (s % 9 + q - 4))
def sGs (S : zSky) (I : zI) (q : Nat) (h : Int32) : zG := (fun s => sX S (vI I q s) (s / 9) h 0, fun s => sY S (vI I q s) (s / 9) h 0, fun s => sZ S (vI I q s) (s / 9) h 0, fun s => I (s / 9) 5)
theorem slN_d {q i y : Nat} (hq : q ≤ 4) (hy : y < 2 * q + 1) : slN q i y / 9 = i ∧ slN q i y % 9 + q - 4 = y := by unfold slN; omega
def zPr (i c j : Nat) : Prop := (93 ≤ c ∧ c ≤ 97 ∧ 9 * i ≤ j ∧ j < 9 * i + 9) ∨ c = 25 ∨ c = 45 ∨ (c = 84 ∧ j = i)
def zHr (c _j : Nat) : Prop := (80 ≤ c ∧ c ≤ 97) ∨ c = 25 ∨ c = 45 ∨ c = 99
theorem zHr_q {m1 m2 : zMem} (f : Fr zHr m1 m2) : Fr zScC m1 m2 := f.mono fun c j q => by unfold zHr at q; unfold zScC; omega
theorem AirS.go {μ μ' : zMem} {S : zSky} {I : zI} {i s : Nat} {h g : Int32} (a : AirS μ S I i s h g) (e : ∀ c, 93 ≤ c → c ≤ 97 → μ' c s = μ c s) : AirS μ' S I i s h g :=
  ⟨by rw [e _ (by omega) (by omega)]; exact a.1, by rw [e _ (by omega) (by omega)]; exact a.2.1, by rw [e _ (by omega) (by omega)]; exact a.2.2.1, by rw [e _ (by omega) (by omega)]; exact a.2.2.2.1, by rw [e _ (by omega) (by omega)]; exact a.2.2.2.2⟩
section LeastC2
variable {d : Nat} {μ : zMem} {KI : Int32 → zMem → Prop} {KV : zMem → Prop} {X : Nat → zMem → Prop} {n : Nat} {S : zSky} {D : Nat → Int32} {tn : Nat} {tb : Nat → Int32} {F : Int32} {T T' : zT} {K K' : Option (Nat → Int32)} {M : Option zT} {a H q : Nat} {L : Bool} {lim : Nat} {I0 I : zI}
theorem zPr_h {i : Nat} {m1 m2 : zMem} (f : Fr (zPr i) m1 m2) : Fr zHr m1 m2 := f.mono fun c j q => by unfold zPr at q; unfold zHr; omega
theorem L_pr {i : Nat} {h : Int32} {μ0 : zMem} (hq : q ≤ 4) (hn : n ≤ 4) (hi : i < n) (hS : SkyC μ0 (zsk μ0 0 4) S) : ∀ (m y : Nat) (μ : zMem) (I1 : zI), y + m = 2 * q + 1 → Fr (zPr i) μ0 μ → IsC μ 80 n I1 → zset I1 i 3 0 = zset I i 3 0 → (∀ z, z < y → AirS μ S (zset I i 3 (I i 3 + yd q z)) i (slN q i z) h 0) →
    (∀ μ', Fr (zPr i) μ0 μ' → IsC μ' 80 n I → (∀ z, z < 2 * q + 1 → AirS μ' S (zset I i 3 (I i 3 + yd q z)) i (slN q i z) h 0) → KV μ') → pX8_putRopes_18 (m + 1) (d + 5) (nI i) (nI q) h (I i 3) (yd q y) μ KV X := by
  have sr := sky_rng (zsk_sh μ0 0 4)
  intro m
  induction m with
  | zero =>
    intro y μ I1 hy hf hI hz hA hK
    have y9 := yd_i (q := q) (y := y) (by omega) (by omega)
    refine ⟨fun _ => ⟨vin (by omega), fun m1 e1 => ?_⟩, fun z => absurd (by rw [i_lt, n_i (by omega), y9]; omega) z⟩
    rw [tN_nI (by omega)] at e1
    refine hK m1 (hf.tr (by rw [e1]; exact Fr.w (by unfold zPr; omega))) ?_ (fun z hz' => ?_)
    · rw [e1]
      exact IsC_w (o := 80) (k := 3) hI (by omega) fun a ha b hb => by rw [zset_z hz, zset_id]
    · exact (hA z (by omega)).go fun c h1 h2 => by rw [e1, zw_c (by omega)]
  | succ m ih =>
    intro y μ I1 hy hf hI hz hA hK
    have y9 := yd_i (q := q) (y := y) (by omega) (by omega)
    refine ⟨fun z => absurd z (by rw [i_lt, n_i (by omega), y9]; omega), fun _ => ⟨vin (by omega), fun m2 e2 => ?_⟩⟩
    rw [tN_nI (by omega)] at e2
    have f2 : Fr (zPr i) μ0 m2 := hf.tr (by rw [e2]; exact Fr.w (by unfold zPr; omega))
    have I2 : IsC m2 80 n (zset I i 3 (I i 3 + yd q y)) := by
      rw [e2]
      exact IsC_w (o := 80) (k := 3) hI (by omega) fun a ha b hb => by rw [zset_z hz]
    have zz : zsk m2 0 4 = zsk μ0 0 4 := by unfold zsk; rw [f2 _ _ (by unfold zPr; omega)]
    refine cX7_slotOf_ ?_
    unfold pX7_slotOf
    rw [yd_slot hq (by omega) (by omega) (by omega), zz]
    have hS2 : SkyC m2 (zsk μ0 0 4) S := hS.go fun c j hc => f2 _ _ (by unfold zPr; omega)
    refine C_put (s := slN q i y) (zsk_sh μ0 0 4) (by decide +kernel) hS2 I2.1 (by omega) rfl hi rfl (by unfold slN; omega) (fun m5 f5 a5 v6 e6 => ?_)
    rw [e6, yd_1 (by omega) (by omega)]
    refine ih (y + 1) m5 _ (by omega) (f2.tr (f5.mono fun c j z => ?_)) (I2.go fun c j q1 q2 => f5 _ _ (by unfold zPut; omega)) (by rw [zset2]) (fun z hz' => ?_) hK
    · unfold zPut at z; unfold zPr; unfold slN at z; omega
    · by_cases ze : z = y
      · subst ze; exact a5.c (I2.2 i hi)
      · exact ((hA z (by omega)).go fun c h1 h2 => by rw [e2, zw_c (by omega)]).go fun c h1 h2 => f5 _ _ (by unfold zPut slN; omega)
theorem C_putRopes {i : Nat} {h : Int32} (hq : q ≤ 4) (hn : n ≤ 4) (hi : i < n) (hS : SkyC μ (zsk μ 0 4) S) (hI : IsC μ 80 n I) (h51 : μ 51 i = I i 3)
    (hK : ∀ μ', Fr (zPr i) μ μ' → IsC μ' 80 n I → (∀ z, z < 2 * q + 1 → AirS μ' S (zset I i 3 (I i 3 + yd q z)) i (slN q i z) h 0) → KV μ') : zcV (d + 6) mX8_putRopes [.ref 0, .int (nI i), .int (nI q), .int h] μ KV X := by
  refine cX8_putRopes_ ⟨vin (by omega), fun v1 e1 => ⟨2 * q + 1 + 1, ?_⟩⟩
  rw [tN_nI (by omega), h51] at e1
  rw [e1, yd_0 (by omega)]
  exact L_pr hq hn hi hS (2 * q + 1) 0 μ I (by omega) Fr.rf hI rfl (fun z hz => by omega) hK
theorem ds_eq {μ : zMem} {G : zG} {s1 s2 : Nat} (g1 : gAt μ G s1) (g2 : gAt μ G s2) (z1 : zsm (G.2.2.1 s1)) (z2 : zsm (G.2.2.1 s2)) : dsM L μ s1 s2 ↔ dsQ L G s1 s2 := by
  obtain ⟨a1, a2, a3, a4⟩ := g1
  obtain ⟨b1, b2, b3, b4⟩ := g2
  unfold dsM dsQ
  cases L with
  | false =>
    rw [if_neg (by decide), if_neg (by decide)]
    unfold Gm kn ov
    dsimp only
    rw [a1, a2, a3, a4, b1, b2, b3, b4]
  | true =>
    rw [if_pos rfl, if_pos rfl]
    unfold Gm sh ov
    dsimp only
    rw [a1, a2, a3, a4, b1, b2, b3, b4, sh_c z1 z2]
    exact ⟨fun h => ⟨h.2, h.1⟩, fun h => ⟨h.2, h.1⟩⟩
def mkV (S : zSky) (I : zI) (L : Bool) (q n a j : Nat) (P : Nat → Nat → Nat → Prop) : Prop := ∀ b i k y z, i < n → k < n → y < 2 * q + 1 → z < 2 * q + 1 → (P b (slN q i y) (slN q k z) ↔ (b < j ∧ i ≠ k ∧ dsQ L (sGs S I q (nI (a + b))) (slN q i y) (slN q k z)))
theorem vw_B {i : Nat} (hq : q ≤ 4) (hR : rowK I i) {y : Nat} (hy : y < 2 * q + 1) : rowB (zset I i 3 (I i 3 + yd q y)) i := by
  unfold rowK at hR
  have y9 := yd_i (q := q) (y := y) (by omega) (by omega)
  unfold rowB
  rw [zset_s, zset_n (by omega), i_add (by omega) (by omega), y9]; omega
theorem L_l77 {x2 : Int32} {j : Nat} {P : Nat → Nat → Nat → Prop} {C : Int32 → Int32 → Int32 → Int32 → Int32 → zMem → Prop} {μ0 : zMem} (hq : q ≤ 4) (hn : n ≤ 4) (hj : j < 24) (ha : a < 1000) (hW : QW n S D tn T K M) (hC : QC μ0 n S D tn tb F T K M) (hV : mkV S T.1 L q n a j P) :
    ∀ (m i : Nat) (μ : zMem), i + m = n → Fr zHr μ0 μ → IsC μ 80 n T.1 → mkR μ P → (∀ k, k < i → ∀ z, z < 2 * q + 1 → AirS μ S (zset T.1 k 3 (T.1 k 3 + yd q z)) k (slN q k z) (nI (a + j)) 0) →
      (∀ μ' P', Fr zHr μ0 μ' → IsC μ' 80 n T.1 → mkR μ' P' → mkV S T.1 L q n a (j + 1) P' → C (nI a) x2 (nI q) (b1 L) (nI (a + j + 1)) μ') → pX8_least_77 (m + 1) (d + 6) (nI a) x2 (nI q) (b1 L) (nI (a + j)) (nI i) μ KI X C := by
  have sr := sky_rng (zsk_sh μ0 0 4)
  intro m
  induction m with
  | zero =>
    intro i μ hi hf hI hm hA hK
    have : i = n := by omega
    subst this
    refine ⟨fun _ => ?_, fun z => absurd (by rw [hI.1]; exact (n_le (by omega) (by omega)).mpr (by omega)) z⟩
    rw [hI.1]
    refine C_markHour hj hn (by rw [pk_sub (by omega)]; congr 1; omega) hm (fun μ' f' m' v2 e2 => ?_)
    rw [e2, nI_1]
    refine hK μ' _ (hf.tr (f'.mono fun c k z => by unfold zMk at z; unfold zHr; omega)) (hI.go fun c k q1 q2 => f' _ _ (by unfold zMk; omega)) m' (fun b k1 k2 y z h1 h2 hy hz => ?_)
    have d1 := slN_d (i := k1) hq hy
    have d2 := slN_d (i := k2) hq hz
    have dq : dsM L μ (slN q k1 y) (slN q k2 z) ↔ dsQ L (sGs S T.1 q (nI (a + j))) (slN q k1 y) (slN q k2 z) := by
      have gg : ∀ k y, k < i → y < 2 * q + 1 → gAt μ (sGs S T.1 q (nI (a + j))) (slN q k y) ∧ zsm ((sGs S T.1 q (nI (a + j))).2.2.1 (slN q k y)) := by
        intro k y hk hy
        have dd := slN_d (i := k) hq hy
        obtain ⟨b1, b2, b3, b4, b5⟩ := hA k hk y hy
        have ev : vI T.1 q (slN q k y) = zset T.1 k 3 (T.1 k 3 + yd q y) := by unfold vI; rw [dd.1, dd.2]
        refine ⟨⟨?_, ?_, ?_, ?_⟩, ?_⟩
        · show _ = sX S (vI T.1 q (slN q k y)) (slN q k y / 9) (nI (a + j)) 0
          rw [ev, dd.1]; exact b1
        · show _ = sY S (vI T.1 q (slN q k y)) (slN q k y / 9) (nI (a + j)) 0
          rw [ev, dd.1]; exact b2
        · show _ = sZ S (vI T.1 q (slN q k y)) (slN q k y / 9) (nI (a + j)) 0
          rw [ev, dd.1]; exact b3
        · show _ = T.1 (slN q k y / 9) 5
          rw [dd.1, b5, zset_n (by omega)]
        · show zsm (sZ S (vI T.1 q (slN q k y)) (slN q k y / 9) (nI (a + j)) 0)
          rw [ev, dd.1]
          exact sZ_zsm hW.2.2.1 (vw_B hq (hW.rK hk) hy) (by unfold gst; rw [i_0]; omega)
      obtain ⟨g1, z1⟩ := gg k1 y h1 hy
      obtain ⟨g2, z2⟩ := gg k2 z h2 hz
      exact ds_eq g1 g2 z1 z2
    rw [hV b k1 k2 y z h1 h2 hy hz, d1.1, d2.1, dq]
    constructor
    · rintro (⟨w1, w2, w3⟩ | ⟨w1, w2, w3, w4, w5⟩)
      · exact ⟨by omega, w2, w3⟩
      · subst w1; exact ⟨by omega, w4, w5⟩
    · rintro ⟨w1, w2, w3⟩
      by_cases bj : b = j
      · subst bj
        exact Or.inr ⟨rfl, by unfold slN; omega, by unfold slN; omega, w2, w3⟩
      · exact Or.inl ⟨by omega, w2, w3⟩
  | succ m ih =>
    intro i μ hi hf hI hm hA hK
    have hC1 := hC.q (zHr_q hf)
    refine ⟨fun z => absurd z (by rw [hI.1, n_le (by omega) (by omega)]; omega), fun _ => ?_⟩
    refine C_putRopes hq hn (by omega) hC1.1.1 hI (hC1.I.lo (k := 3) (by omega) (by omega)) (fun m3 f3 I3 A3 v4 e4 => ?_)
    rw [e4, nI_1]
    refine ih (i + 1) m3 (by omega) (hf.tr (zPr_h f3)) I3 (hm.go fun k => f3 _ _ (by unfold zPr; omega)) (fun k hk z hz => ?_) hK
    by_cases ke : k = i
    · subst ke; exact A3 z hz
    · exact (hA k (by omega) z hz).go fun c h1 h2 => f3 _ _ (by unfold zPr slN; omega)
theorem L_l68 {μ0 : zMem} (hq : q ≤ 4) (hn : n ≤ 4) (hH : H ≤ 24) (hH1 : 1 ≤ H) (ha : a + H ≤ 168) (hW : QW n S D tn T K M) (hC : QC μ0 n S D tn tb F T K M)
    (hK : ∀ μ' P', Fr zHr μ0 μ' → mkR μ' P' → mkV S T.1 L q n a H P' → zcI (d + 6) mX7_search [.ref 98, .ref 47, .int (nI q), .int (if b1 L = 0 then 0 else μ' (zsk μ' 0 4) 7)] μ' (fun u2 m1 => KI u2 m1) X) :
    ∀ (m j : Nat) (P : Nat → Nat → Nat → Prop) (μ : zMem), j + m = H → Fr zHr μ0 μ → IsC μ 80 n T.1 → mkR μ P → mkV S T.1 L q n a j P → pX8_least_68 (m + 1) (d + 6) (nI a) (nI (a + H - 1)) (nI q) (b1 L) (nI (a + j)) μ KI X := by
  intro m
  induction m with
  | zero =>
    intro j P μ hj hf hI hm hV
    have : j = H := by omega
    subst this
    exact ⟨fun _ => hK μ P hf hm hV, fun z => absurd ((n_lt (by omega) (by omega)).mpr (by omega)) z⟩
  | succ m ih =>
    intro j P μ hj hf hI hm hV
    refine ⟨fun z => absurd ((n_lt (by omega) (by omega)).mp z) (by omega), fun _ => ⟨n + 1, ?_⟩⟩
    exact L_l77 hq hn (by omega) (by omega) hW hC hV n 0 μ (by omega) hf hI hm (fun k hk => by omega) (fun μ' P' f' i' m' V' => ih (j + 1) P' μ' (by omega) f' i' m' V')
/-! the search -/
def zSe (c j : Nat) : Prop := zTk c j ∨ c = 102 ∨ (c = 98 ∧ j = 4)
theorem KC.go {μ' : zMem} (h : KC μ n K) (e : μ' 98 4 = μ 98 4) (e2 : ∀ j, μ' 102 j = μ 102 j) : KC μ' n K := by
  cases K with
  | none => show μ' 98 4 = 0; rw [e]; exact h
  | some ρ => exact ⟨by rw [e]; exact h.1, fun i hi => by rw [e2]; exact h.2 i hi⟩
theorem cnt_tail {f : Nat → Bool} {H : Nat} (h : ∀ b, H ≤ b → ¬ f b = true) : ∀ m, cntB f (H + m) = cntB f H
  | 0 => rfl
  | m + 1 => by
    show cntB f (H + m) + (if f (H + m) = true then 1 else 0) = _
    rw [cnt_tail h m, if_neg (h _ (by omega))]; omega
theorem L_search {P : Nat → Nat → Nat → Prop} {w : Nat} {μ0 : zMem} (hw : w = 2 * q + 1) (hq : q ≤ 4) (hn : n ≤ 4) (hH : H ≤ 24) (hl : lim < 1000) (hR : ∀ i, i < n → 1 ≤ (I i 3).toInt ∧ (I i 3).toInt ≤ 60) (hm0 : mkR μ0 P) (hV : mkV S I L q n a H P) (hI0 : IsC μ0 47 n I) (hR9 : w ^ n < 10000)
    (hK : ∀ μ', Fr zSe μ0 μ' → KC μ' n (lsK q w n I K (zscan (lsF w q n (rpN I) (lsQ S I L lim q w n a H)) (w ^ n) 0 none)) → KI (enS w q n (zscan (lsF w q n (rpN I) (lsQ S I L lim q w n a H)) (w ^ n) 0 none)) μ') :
    ∀ (m r : Nat) (s : Option Nat) (μ : zMem), r + m = w ^ n → Fr zSe μ0 μ → KC μ n (lsK q w n I K s) → zscan (lsF w q n (rpN I) (lsQ S I L lim q w n a H)) m r s = zscan (lsF w q n (rpN I) (lsQ S I L lim q w n a H)) (w ^ n) 0 none → pX7_search_41 (m + 1) (d + 2) 98 47 (nI q) (nI lim) (nI (w ^ n)) (enS w q n s) (nI r) μ KI X := by
  intro m
  induction m with
  | zero =>
    intro r s μ hr hf hk hs
    refine ⟨fun _ => ?_, fun z => absurd ((n_le (by omega) (by omega)).mpr (by omega)) z⟩
    have hs' : s = zscan (lsF w q n (rpN I) (lsQ S I L lim q w n a H)) (w ^ n) 0 none := hs
    rw [← hs'] at hK
    exact hK μ hf hk
  | succ m ih =>
    intro r s μ hr hf hk hs
    have hI1 : IsC μ 47 n I := hI0.go fun c j q1 q2 => hf _ _ (by unfold zSe zTk; omega)
    have nxt : ∀ (s' : Option Nat) (μ' : zMem), lsF w q n (rpN I) (lsQ S I L lim q w n a H) r s = s' → Fr zSe μ0 μ' → KC μ' n (lsK q w n I K s') → ∀ x, x = nI r + 1 → pX7_search_41 (m + 1) (d + 2) 98 47 (nI q) (nI lim) (nI (w ^ n)) (enS w q n s') x μ' KI X := by
      intro s' μ' es f' k' x ex
      rw [ex, nI_1]
      refine ih (r + 1) s' μ' (by omega) f' k' ?_
      rw [← hs, ← es]; rfl
    have kg : ∀ μ', Fr zTk μ μ' → KC μ' n (lsK q w n I K s) := fun μ' f' => hk.go (f' _ _ (by unfold zTk; omega)) (fun j => f' _ _ (by unfold zTk; omega))
    refine ⟨fun z => absurd z (by rw [n_le (by omega) (by omega)]; omega), fun _ => ?_⟩
    subst hw
    refine C_takeRow hq hn (by decide +kernel) hI1 hR (by omega) (by omega) (fun i hi no μ' f' v3 e3 => ?_) (fun ok μ' f' sl v3 e3 => ?_)
    · have e3' : v3 = 0 := by rw [e3]; exact if_pos rfl
      exact ⟨fun _ x ex => nxt s μ' (lsF_o hi no) (hf.tr (f'.mono fun c j z => Or.inl z)) (kg μ' f') x ex, fun z => absurd e3' z⟩
    · have hf1 : Fr zSe μ0 μ' := hf.tr (f'.mono fun c j z => Or.inl z)
      have k1 := kg μ' f'
      have sle := smN_le (q := q) (n := n) (r := r) rfl n
      have sb : q * n ≤ 16 := Nat.mul_le_mul hq hn
      rw [if_neg (oI_n (by omega))] at e3
      have better : (∀ b, s = some b → smN (2 * q + 1) q n r n < smN (2 * q + 1) q n b n) → zcI (d + 2) mX7_isQuiet [.ref 98, .int (μ' 47 0), .int (nI lim)] μ' (fun u6 m5 => ((u6 = 0 → ∀ v7 : Int32, v7 = nI r + 1 → pX7_search_41 (m + 1) (d + 2) 98 47 (nI q) (nI lim) (nI ((2 * q + 1) ^ n)) (enS (2 * q + 1) q n s) v7 m5 KI X) ∧ (¬ (u6 = 0) → ∀ m8 : zMem, m8 = zcp m5 (98 + 3) 0 (98 + 4) 0 4 → ∀ m9 : zMem, m9 = zw m8 98 4 1 → ∀ v10 : Int32, v10 = nI r + 1 → pX7_search_41 (m + 1) (d + 2) 98 47 (nI q) (nI lim) (nI ((2 * q + 1) ^ n)) (nI (smN (2 * q + 1) q n r n)) v10 m9 KI X))) X := by
        intro lt
        have hI2 : IsC μ' 47 n I := hI0.go fun c j q1 q2 => hf1 _ _ (by unfold zSe zTk; omega)
        rw [hI2.1]
        have dgl : ∀ i, dg (2 * q + 1) n r i < 2 * q + 1 := fun i => dg_lt (by omega)
        refine C_isQuiet (P := P) (σ := fun i => slN q i (dg (2 * q + 1) n r i)) (f := fun i => cfN S (rwI q (2 * q + 1) n I r) L n a i H) hn (fun i hi => ⟨(sl i hi).1, by have := dgl i; unfold slN; omega⟩) (hm0.go fun j => hf1 _ _ (by unfold zSe zTk; omega)) hl (fun i hi A hA => ?_) (fun i hi no => ?_) (fun al => ?_)
        · have tail : ∀ b, H ≤ b → ¬ A.testBit b = true := by
            intro b hb y
            obtain ⟨k, hk', hp⟩ := (hA b).mp y
            have := (hV b i k _ _ hi hk' (dgl i) (dgl k)).mp hp
            omega
          rw [show 32 = H + (32 - H) by omega, cnt_tail tail]
          refine cntB_c H (fun b hb => ?_)
          have e : A.testBit b = true ↔ dsP L (sG S (rwI q (2 * q + 1) n I r) (nI (a + b)) 0) n i := by
            rw [hA b]
            have cg : ∀ k, sX S (vI I q (slN q k (dg (2 * q + 1) n r k))) (slN q k (dg (2 * q + 1) n r k) / 9) (nI (a + b)) 0 = sX S (rwI q (2 * q + 1) n I r) k (nI (a + b)) 0 ∧ sY S (vI I q (slN q k (dg (2 * q + 1) n r k))) (slN q k (dg (2 * q + 1) n r k) / 9) (nI (a + b)) 0 = sY S (rwI q (2 * q + 1) n I r) k (nI (a + b)) 0 ∧ sZ S (vI I q (slN q k (dg (2 * q + 1) n r k))) (slN q k (dg (2 * q + 1) n r k) / 9) (nI (a + b)) 0 = sZ S (rwI q (2 * q + 1) n I r) k (nI (a + b)) 0 ∧ I (slN q k (dg (2 * q + 1) n r k) / 9) 5 = rwI q (2 * q + 1) n I r k 5 := by
              intro k
              have dd := slN_d (i := k) hq (dgl k)
              have ev : vI I q (slN q k (dg (2 * q + 1) n r k)) = zset I k 3 (I k 3 + yd q (dg (2 * q + 1) n r k)) := by unfold vI; rw [dd.1, dd.2]
              have er : rowE (zset I k 3 (I k 3 + yd q (dg (2 * q + 1) n r k))) (rwI q (2 * q + 1) n I r) k := by
                intro c _
                unfold zset rwI
                by_cases z : c = 3
                · rw [if_pos ⟨rfl, z⟩, if_pos z]
                · rw [if_neg (fun y => z y.2), if_neg z]
              rw [ev, dd.1]
              exact ⟨sX_c er, sY_c er, sZ_c er, by unfold rwI; rw [if_neg (by omega)]⟩
            have dq : ∀ k, dsQ L (sGs S I q (nI (a + b))) (slN q i (dg (2 * q + 1) n r i)) (slN q k (dg (2 * q + 1) n r k)) ↔ dsQ L (sG S (rwI q (2 * q + 1) n I r) (nI (a + b)) 0) i k := by
              intro k
              obtain ⟨a1, a2, a3, a4⟩ := cg i
              obtain ⟨b1, b2, b3, b4⟩ := cg k
              unfold dsQ sh kn ov sGs sG
              dsimp only
              rw [a1, a2, a3, a4, b1, b2, b3, b4]
            unfold dsP
            constructor
            · rintro ⟨k, hk', hp⟩
              have hh := (hV b i k _ _ hi hk' (dgl i) (dgl k)).mp hp
              exact ⟨k, hk', fun y => hh.2.1 y.symm, (dq k).mp hh.2.2⟩
            · rintro ⟨k, hk', hne, hd⟩
              exact ⟨k, hk', (hV b i k _ _ hi hk' (dgl i) (dgl k)).mpr ⟨hb, fun y => hne y.symm, (dq k).mpr hd⟩⟩
          by_cases z : A.testBit b = true
          · rw [z, zdec_t.mpr (e.mp z)]
          · have z2 : ¬ zdec (dsP L (sG S (rwI q (2 * q + 1) n I r) (nI (a + b)) 0) n i) = true := fun y => z (e.mpr (zdec_t.mp y))
            rw [Bool.not_eq_true] at z z2
            rw [z, z2]
        · refine ⟨fun _ x ex => nxt s μ' (lsF_q fun y => no ?_) hf1 k1 x ex, fun z => absurd rfl z⟩
          exact zdec_t.mp y i hi
        · refine ⟨fun z => absurd z (by decide), fun _ m8 e8 m9 e9 x ex => ?_⟩
          have e8' : m8 = zcp μ' 101 0 102 0 4 := e8
          refine nxt (some r) m9 (lsF_t ok lt (zdec_t.mpr al)) (hf1.tr (Fr.tr (μ1 := m8) (by rw [e8']; exact Fr.cp fun j => Or.inr (Or.inl rfl)) (by rw [e9]; exact Fr.w (Or.inr (Or.inr ⟨rfl, rfl⟩))))) ?_ x ex
          refine ⟨by rw [e9, zw_s], fun i hi => ?_⟩
          rw [e9, zw_c (by omega), e8', zcp_s (by omega)]
          exact (sl i hi).2
      cases s with
      | none =>
        rw [if_pos (show enS (2 * q + 1) q n none = -1 from rfl)] at e3
        refine ⟨fun z => absurd (z.symm.trans e3) (by decide), fun _ => better (fun b e => by cases e)⟩
      | some b =>
        have sle2 := smN_le (q := q) (n := n) (r := b) rfl n
        have eb : enS (2 * q + 1) q n (some b) = nI (smN (2 * q + 1) q n b n) := rfl
        rw [eb, if_neg (oI_n (by omega))] at e3
        by_cases z : smN (2 * q + 1) q n b n ≤ smN (2 * q + 1) q n r n
        · rw [if_pos ((n_le (by omega) (by omega)).mpr z)] at e3
          exact ⟨fun _ x ex => nxt (some b) μ' (lsF_s z) hf1 k1 x ex, fun y => absurd e3 y⟩
        · rw [if_neg (fun y => z ((n_le (by omega) (by omega)).mp y))] at e3
          exact ⟨fun y => absurd (y.symm.trans e3) (by decide), fun _ => better (fun c e => by cases e; omega)⟩
theorem L_s13 {x3 x5 : Int32} {w : Nat} {μ0 : zMem} (hn : n ≤ 4) (hw : w < 1000) (hI : IsC μ 47 n I) (hK : ∃ n2 : Nat, pX7_search_41 n2 d 98 47 (nI q) x3 (nI (w ^ n)) (-1) 0 μ KI X) : ∀ (m k : Nat), k + m = n → pX7_search_13 (m + 1) d 98 47 (nI q) x3 (nI w) (nI (w ^ k)) (nI k) μ KI X := by
  intro m
  induction m with
  | zero =>
    intro k hk
    have : k = n := by omega
    subst this
    exact ⟨fun _ => hK, fun z => absurd (by rw [hI.1]; exact (n_le (by omega) (by omega)).mpr (by omega)) z⟩
  | succ m ih =>
    intro k hk
    refine ⟨fun z => absurd z (by rw [hI.1, n_le (by omega) (by omega)]; omega), fun _ v1 e1 => ?_⟩
    rw [e1, nI_1, pk_mul, ← Nat.pow_succ]
    exact ih (k + 1) (by omega)
theorem pw_lt (hq : q ≤ 4) (hn : n ≤ 4) : (2 * q + 1) ^ n < 10000 := by
  have h1 : (2 * q + 1) ^ n ≤ 9 ^ n := Nat.pow_le_pow_left (by omega) n
  have h2 : 9 ^ n ≤ 9 ^ 4 := Nat.pow_le_pow_right (by omega) hn
  omega
theorem C_search {P : Nat → Nat → Nat → Prop} (hq : q ≤ 4) (hn : n ≤ 4) (hH : H ≤ 24) (hl : lim < 1000) (hR : ∀ i, i < n → 1 ≤ (I i 3).toInt ∧ (I i 3).toInt ≤ 60) (hm0 : mkR μ P) (hV : mkV S I L q n a H P) (hI0 : IsC μ 47 n I) (hk : KC μ n K)
    (hK : ∀ μ', Fr zSe μ μ' → KC μ' n (lsK q (2 * q + 1) n I K (lsZ S I L lim q n a H)) → KI (enS (2 * q + 1) q n (lsZ S I L lim q n a H)) μ') : zcI (d + 3) mX7_search [.ref 98, .ref 47, .int (nI q), .int (nI lim)] μ KI X := by
  refine cX7_search_ (by decide +kernel) (by decide +kernel) ⟨n + 1, ?_⟩
  have go := L_s13 (d := d + 2) (KI := KI) (X := X) (x3 := nI lim) (x5 := 0) (q := q) (w := 2 * q + 1) (μ0 := μ) hn (by omega) hI0 ⟨(2 * q + 1) ^ n + 1, L_search rfl hq hn hH hl hR hm0 hV hI0 (pw_lt hq hn) hK ((2 * q + 1) ^ n) 0 none μ (by omega) Fr.rf hk rfl⟩ n 0 (by omega)
  rw [Nat.pow_zero] at go
  rw [n2q (by omega)]
  exact go
theorem QC.k {μ' : zMem} (h : QC μ n S D tn tb F T K M) (e : ∀ c j, c ≤ 105 → ¬ zScC c j → c ≠ 102 → ¬ (c = 98 ∧ j = 4) → μ' c j = μ c j) (k : KC μ' n K') : QC μ' n S D tn tb F T K' M := by
  obtain ⟨⟨h1, h2, h3, h4, h5, h6⟩, ⟨h7, h8⟩, h9, h10, h11, h12⟩ := h
  have e' : ∀ c j, c ≤ 97 → ¬ zScC c j → μ' c j = μ c j := fun c j q1 q2 => e c j (by omega) q2 (by omega) (by omega)
  have z4 : zsk μ' 0 4 = zsk μ 0 4 := by unfold zsk; rw [e' 0 4 (by omega) (by unfold zScC; omega)]
  have z5 : zsk μ' 0 5 = zsk μ 0 5 := by unfold zsk; rw [e' 0 5 (by omega) (by unfold zScC; omega)]
  have sr := sky_rng (zsk_sh μ 0 4)
  refine ⟨?_, ⟨by rw [e' _ _ (by omega) (by unfold zScC; omega)]; exact h7, fun j hj => by rw [e' _ _ (by omega) (by unfold zScC; omega)]; exact h8 j hj⟩, by rw [e' _ _ (by omega) (by unfold zScC; omega)]; exact h9, h10.go fun c j q1 q2 => e' _ _ (by omega) (by unfold zScC; omega), k, ?_⟩
  · rw [z4, z5]
    refine ⟨h1.go fun c j q => e' _ _ (by omega) (by unfold zScC; omega), h2, ?_, ?_, ?_, fun j hj => ?_⟩
    · rw [e' _ _ (by omega) (by unfold zScC; omega)]; exact h3
    · rw [e' _ _ (by omega) (by unfold zScC; omega)]; exact h4
    · rw [e' _ _ (by omega) (by unfold zScC; omega)]; exact h5
    · rw [e' _ _ (by omega) (by unfold zScC; omega)]; exact h6 j hj
  · cases M with
    | none => show μ' 0 8 = 0; rw [e' _ _ (by omega) (by unfold zScC; omega)]; exact h12
    | some T' =>
      exact ⟨by rw [e' _ _ (by omega) (by unfold zScC; omega)]; exact h12.1, h12.2.go fun c j q1 q2 => e' _ _ (by omega) (by unfold zScC; omega)⟩
/-! what was asked -/
def asA (x1 : Int32) : Nat := x1.toInt.toNat
def asH (x1 x2 : Int32) : Nat := (x2.toInt - x1.toInt).toNat + 1
def asL (x4 : Int32) : Bool := decide (¬ x4 = 0)
def asM (D : Nat → Int32) (x4 : Int32) : Nat := if x4 = 0 then 0 else (D 4).toInt.toNat
abbrev vLs (x1 x2 x3 : Int32) : Prop := vSp x1 x2 ∧ x2.toInt - x1.toInt < 24 ∧ 0 ≤ x3.toInt ∧ x3.toInt ≤ 4
noncomputable def sLs (S : zSky) (D : Nat → Int32) (I : zI) (n : Nat) (x1 x2 x3 x4 : Int32) : Option Nat := lsZ S I (asL x4) (asM D x4) (asA x3) n (asA x1) (asH x1 x2)
theorem vLs.g {x1 x2 x3 : Int32} (h : vLs x1 x2 x3) : x1 = nI (asA x1) ∧ x2 = nI (asA x1 + asH x1 x2 - 1) ∧ x3 = nI (asA x3) ∧ asA x3 ≤ 4 ∧ 1 ≤ asH x1 x2 ∧ asH x1 x2 ≤ 24 ∧ asA x1 + asH x1 x2 ≤ 168 := by
  unfold vLs vSp at h
  unfold asA asH
  refine ⟨?_, ?_, ?_, by omega, by omega, by omega, by omega⟩
  · rw [i_eq, n_i (by omega)]; omega
  · rw [i_eq, n_i (by omega)]; omega
  · rw [i_eq, n_i (by omega)]; omega
theorem b1_as {x4 : Int32} (h : x4 = 0 ∨ x4 = 1) : x4 = b1 (asL x4) := by
  rcases h with rfl | rfl <;> rfl
theorem asM_e {x4 : Int32} (hW : QW n S D tn T K M) (h : x4 = 0 ∨ x4 = 1) : asM D x4 < 1000 ∧ (asL x4 = false → asM D x4 = 0) ∧ (asL x4 = true → D 4 = nI (asM D x4)) ∧ (if x4 = 0 then (0 : Int32) else D 4) = nI (asM D x4) := by
  have hd := hW.2.2.2.1
  have e : D 4 = nI (D 4).toInt.toNat := by rw [i_eq, n_i (by omega)]; omega
  unfold asM asL
  rcases h with rfl | rfl
  · exact ⟨by rw [if_pos rfl]; omega, fun _ => if_pos rfl, fun z => (by cases z), by rw [if_pos rfl, if_pos rfl]; rfl⟩
  · have : ¬ ((1 : Int32) = 0) := by decide
    exact ⟨by rw [if_neg this]; omega, fun z => (by cases z), fun _ => by rw [if_neg this]; exact e, by rw [if_neg this, if_neg this]; exact e⟩
theorem C_least {x1 x2 x3 x4 : Int32} (hb : x4 = 0 ∨ x4 = 1) (hW : QW n S D tn T K M) (hC : QC μ n S D tn tb F T K M) (h0 : ¬ vLs x1 x2 x3 → X 1 μ) (h2 : vLs x1 x2 x3 → ¬ n ≤ 4 → KI (-2) μ)
    (h1 : vLs x1 x2 x3 → n ≤ 4 → ∀ m, Fr zCls μ m → QC m n S D tn tb F T (lsK (asA x3) (2 * asA x3 + 1) n T.1 K (sLs S D T.1 n x1 x2 x3 x4)) M → KI (enS (2 * asA x3 + 1) (asA x3) n (sLs S D T.1 n x1 x2 x3 x4)) m) : zcI (d + 7) mX8_least [.ref 0, .int x1, .int x2, .int x3, .int x4] μ KI X := by
  have n6 := hW.1
  refine cX8_least_ (C_needSpan (m := 24) (by decide) (fun q => h0 fun z => q ⟨z.1, z.2.1⟩) (fun q1 q2 => ⟨fun z => h0 fun y => ?_, fun z => ⟨fun z2 => ?_, fun z2 => h0 fun y => ?_⟩⟩))
  · have := y.2.2; rw [i_lt, i_0] at z; omega
  · have hv : vLs x1 x2 x3 := ⟨q1, q2, by rw [i_lt, i_0] at z; rw [i_le, show (4 : Int32).toInt = 4 from by decide] at z2; omega⟩
    obtain ⟨g1, g2, g3, g4, g5, g6, g7⟩ := hv.g
    obtain ⟨l1, l2, l3, l4⟩ := asM_e hW hb
    rw [hC.cn, show (4 : Int32) = nI 4 from rfl, n_le (by omega) (by omega)]
    refine ⟨fun n4 => C_copyNow hW hC (fun m2 f2 e2 I2 => C_clearMarks (fun m3 f3 k3 => ⟨asH x1 x2 + 1, ?_⟩)), fun n4 => h2 hv n4⟩
    have hh := h1 hv n4
    unfold sLs at hh
    have eb := b1_as hb
    have hf : Fr zScC μ m3 := f2.tr (f3.mono fun c j q => by unfold zMk at q; unfold zScC; omega)
    have hC3 := hC.q hf
    have I3 : IsC m3 80 n T.1 := I2.go fun c j q1 q2 => f3 _ _ (by unfold zMk; omega)
    have rK : ∀ i, i < n → 1 ≤ (T.1 i 3).toInt ∧ (T.1 i 3).toInt ≤ 60 := fun i hi => by have := hW.rK hi; unfold rowK at this; omega
    have ee : pX8_least_68 (asH x1 x2 + 1) (d + 6) x1 x2 x3 x4 x1 m3 KI X = pX8_least_68 (asH x1 x2 + 1) (d + 6) (nI (asA x1)) (nI (asA x1 + asH x1 x2 - 1)) (nI (asA x3)) (b1 (asL x4)) (nI (asA x1 + 0)) m3 KI X := by
      rw [Nat.add_zero]
      congr 1
    rw [ee]
    refine L_l68 (H := asH x1 x2) (L := asL x4) g4 n4 g6 g5 g7 hW hC3 (fun m4 P f4 k4 V4 => ?_) (asH x1 x2) 0 (fun _ _ _ => False) m3 (by omega) Fr.rf I3 k3 (fun b i k y z _ _ _ _ => ⟨fun h => h.elim, fun h => by omega⟩)
    have hC4 := hC3.q (zHr_q f4)
    have ez : (if b1 (asL x4) = 0 then (0 : Int32) else m4 (zsk m4 0 4) 7) = nI (asM D x4) := by
      rw [← eb, hC4.1.2.2.2.2.1]; exact l4
    rw [ez]
    refine C_search g4 n4 g6 l1 rK k4 V4 hC4.I hC4.2.2.2.2.1 (fun m5 f5 k5 => hh m5 ?_ ?_)
    · exact (zScC_c (hf.tr (zHr_q f4))).tr (f5.mono fun c j q => by unfold zSe zTk at q; unfold zCls; omega)
    · exact hC4.k (fun c j q1 q2 q3 q4 => f5 _ _ (by unfold zSe zTk; unfold zScC at q2; omega)) k5
  · have := y.2.2; rw [i_le, show (4 : Int32).toInt = 4 from by decide] at z2; omega
end LeastC2
