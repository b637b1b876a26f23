/-- where things are: x, y, how high, the sizes -/
abbrev zG : Type := (Nat → Int32) × (Nat → Int32) × (Nat → Int32) × (Nat → Int32)
abbrev ov (G : zG) (a b : Nat) (r : Int32) : Prop := ¬ ((G.2.2.2 a + G.2.2.2 b) + r < zabs (G.1 a - G.1 b)) ∧ ¬ ((G.2.2.2 a + G.2.2.2 b) + r < zabs (G.2.1 a - G.2.1 b))
abbrev kn (G : zG) (a b : Nat) : Prop := ov G a b 0 ∧ ¬ (1 < zabs (G.2.2.1 a - G.2.2.1 b))
abbrev sh (G : zG) (a b : Nat) : Prop := ov G a b 0 ∧ ¬ (G.2.2.1 b < G.2.2.1 a + 2)
abbrev bri (G : zG) (a b : Nat) (r : Int32) : Prop := ov G a b r ∧ ¬ (r < zabs (G.2.2.1 a - G.2.2.1 b))
def gAt (μ : zMem) (G : zG) (i : Nat) : Prop := μ 93 i = G.1 i ∧ μ 94 i = G.2.1 i ∧ μ 95 i = G.2.2.1 i ∧ μ 97 i = G.2.2.2 i
def zsm (x : Int32) : Prop := -1000 ≤ x.toInt ∧ x.toInt ≤ 1000
def fkI (G : zG) : Nat → Nat → Nat → Option Int32
  | 0, _, _ => none
  | m + 1, a, b => if kn G a b then some ((10 * nI a) + nI b) else fkI G m a (b + 1)
def fkO (G : zG) (n : Nat) : Nat → Nat → Int32
  | 0, _ => -1
  | m + 1, a => match fkI G (n - (a + 1)) a (a + 1) with
    | some v => v
    | none => fkO G n m (a + 1)
def fk (G : zG) (n : Nat) : Int32 := fkO G n n 0
def rnC (G : zG) (i k : Nat) (a : Option Nat) : Option Nat := if k = i then a else if sh G i k then (match a with
  | none => some k
  | some c => if G.2.2.1 c ≤ G.2.2.1 k then a else some k) else a
def rnS (G : zG) (i : Nat) : Nat → Nat → Option Nat → Option Nat
  | 0, _, a => a
  | m + 1, k, a => rnS G i m (k + 1) (rnC G i k a)
def rn (G : zG) (i n : Nat) : Option Nat := rnS G i n 0 none
theorem rnC_lt {G : zG} {i k N : Nat} {a : Option Nat} (hk : k < N) (ha : ∀ c, a = some c → c < N) : ∀ c, rnC G i k a = some c → c < N := by
  intro c hc
  unfold rnC at hc
  split at hc
  · exact ha c hc
  · split at hc
    · split at hc
      · cases hc; exact hk
      · split at hc
        · exact ha c hc
        · cases hc; exact hk
    · exact ha c hc
theorem rnS_lt {G : zG} {i N : Nat} : ∀ (m k : Nat) (a : Option Nat), k + m ≤ N → (∀ c, a = some c → c < N) → ∀ c, rnS G i m k a = some c → c < N
  | 0, _, _, _, ha, c, hc => ha c hc
  | m + 1, k, a, hm, ha, c, hc => rnS_lt m (k + 1) _ (by omega) (rnC_lt (by omega) ha) c hc
theorem rn_lt {G : zG} {i n c : Nat} (h : rn G i n = some c) : c < n := rnS_lt (N := n) n 0 none (by omega) (fun c hc => by cases hc) c h
def lwS (G : zG) (i : Nat) : Nat → Nat → Int32 → Int32
  | 0, _, a => a
  | m + 1, k, a => lwS G i m (k + 1) (a + (if G.2.2.1 i ≤ G.2.2.1 k then 0 else 1))
section Geo
variable {d : Nat} {μ : zMem} {G : zG} {KI : Int32 → zMem → Prop} {X : Nat → zMem → Prop}
theorem C_areOver {a b : Nat} {x y r : Int32} (hx : x = nI a) (hy : y = nI b) (ha : a < 36) (hb : b < 36) (ga : gAt μ G a) (gb : gAt μ G b) (h : KI (b2i (ov G a b r)) μ) : zcI (d + 1) mX0_areOver [.ref 92, .int x, .int y, .int r] μ KI X := by
  subst hx hy
  refine cX0_areOver_ zl92 ?_
  unfold pX0_areOver
  rw [tN_nI (by omega), tN_nI (by omega)]
  refine ⟨vin ha, vin hb, fun v hv => ⟨vin ha, vin hb, ?_⟩⟩
  have e : v = (G.2.2.2 a + G.2.2.2 b) + r := by rw [hv]; show (μ 97 a + μ 97 b) + r = _; rw [ga.2.2.2, gb.2.2.2]
  show (v < zabs (μ 93 a - μ 93 b) → _) ∧ (¬ v < zabs (μ 93 a - μ 93 b) → vp_in (nI a) 36 ∧ vp_in (nI b) 36 ∧ KI (if v < zabs (μ 94 a - μ 94 b) then 0 else 1) μ)
  rw [ga.1, gb.1, ga.2.1, gb.2.1, e]
  refine ⟨fun q => ?_, fun q => ⟨vin ha, vin hb, ?_⟩⟩
  · rw [b2i_f (fun z => z.1 q)] at h; exact h
  · by_cases q2 : (G.2.2.2 a + G.2.2.2 b) + r < zabs (G.2.1 a - G.2.1 b)
    · rw [b2i_f (fun z => z.2 q2)] at h
      rw [if_pos q2]; exact h
    · rw [b2i_t ⟨q, q2⟩] at h
      rw [if_neg q2]; exact h
theorem C_knocks {a b : Nat} {x y : Int32} (hx : x = nI a) (hy : y = nI b) (ha : a < 36) (hb : b < 36) (ga : gAt μ G a) (gb : gAt μ G b) (h : KI (b2i (kn G a b)) μ) : zcI (d + 2) mX0_knocks [.ref 92, .int x, .int y] μ KI X := by
  subst hx hy
  refine cX0_knocks_ zl92 ?_
  unfold pX0_knocks
  rw [tN_nI (by omega), tN_nI (by omega)]
  refine ⟨vin ha, vin hb, ?_⟩
  show (1 < zabs (μ 95 a - μ 95 b) → _) ∧ (¬ 1 < zabs (μ 95 a - μ 95 b) → _)
  rw [ga.2.2.1, gb.2.2.1]
  refine ⟨fun q => ?_, fun q => C_areOver rfl rfl ha hb ga gb ?_⟩
  · rw [b2i_f (fun z => z.2 q)] at h; exact h
  · by_cases q2 : ov G a b 0
    · rw [b2i_t ⟨q2, q⟩] at h
      rw [b2i_t q2, if_neg (by decide)]; exact h
    · rw [b2i_f (fun z => q2 z.1)] at h
      rw [b2i_f q2, if_pos rfl]; exact h
theorem sh_c {a b : Int32} (ha : zsm a) (hb : zsm b) : (b - a < 2) ↔ (b < a + 2) := by
  obtain ⟨a1, a2⟩ := ha
  obtain ⟨b1, b2⟩ := hb
  have e2 : (2 : Int32).toInt = 2 := by decide
  rw [i_lt, i_lt, i_sub (by omega) (by omega), i_add (by omega) (by omega), e2]; omega
theorem C_isShaded {a b : Nat} {x y : Int32} (hx : x = nI a) (hy : y = nI b) (ha : a < 36) (hb : b < 36) (ga : gAt μ G a) (gb : gAt μ G b) (za : zsm (G.2.2.1 a)) (zb : zsm (G.2.2.1 b)) (h : KI (b2i (sh G a b)) μ) : zcI (d + 2) mX0_isShaded [.ref 92, .int x, .int y] μ KI X := by
  subst hx hy
  refine cX0_isShaded_ zl92 ?_
  unfold pX0_isShaded
  rw [tN_nI (by omega), tN_nI (by omega)]
  refine ⟨vin hb, vin ha, ?_⟩
  show (μ 95 b - μ 95 a < 2 → _) ∧ (¬ μ 95 b - μ 95 a < 2 → _)
  rw [ga.2.2.1, gb.2.2.1, sh_c za zb]
  refine ⟨fun q => ?_, fun q => C_areOver rfl rfl ha hb ga gb ?_⟩
  · rw [b2i_f (fun z => z.2 q)] at h; exact h
  · by_cases q2 : ov G a b 0
    · rw [b2i_t ⟨q2, q⟩] at h
      rw [b2i_t q2, if_neg (by decide)]; exact h
    · rw [b2i_f (fun z => q2 z.1)] at h
      rw [b2i_f q2, if_pos rfl]; exact h
theorem C_hasBridge {a b : Nat} {x y r : Int32} (hx : x = nI a) (hy : y = nI b) (ha : a < 36) (hb : b < 36) (ga : gAt μ G a) (gb : gAt μ G b) (h : KI (b2i (bri G a b r)) μ) : zcI (d + 2) mX0_hasBridge [.ref 92, .int x, .int y, .int r] μ KI X := by
  subst hx hy
  refine cX0_hasBridge_ zl92 ?_
  unfold pX0_hasBridge
  rw [tN_nI (by omega), tN_nI (by omega)]
  refine ⟨vin ha, vin hb, ?_⟩
  show (r < zabs (μ 95 a - μ 95 b) → _) ∧ (¬ r < zabs (μ 95 a - μ 95 b) → _)
  rw [ga.2.2.1, gb.2.2.1]
  refine ⟨fun q => ?_, fun q => C_areOver rfl rfl ha hb ga gb ?_⟩
  · rw [b2i_f (fun z => z.2 q)] at h; exact h
  · by_cases q2 : ov G a b r
    · rw [b2i_t ⟨q2, q⟩] at h
      rw [b2i_t q2, if_neg (by decide)]; exact h
    · rw [b2i_f (fun z => q2 z.1)] at h
      rw [b2i_f q2, if_pos rfl]; exact h
theorem L_fk11 {n a : Nat} {C : Int32 → Int32 → zMem → Prop} (hn : n ≤ 6) (ha : a < n) (hg : ∀ i, i < n → gAt μ G i) : ∀ (m b : Nat), b + m = n → (match fkI G m a b with
    | some v => KI v μ
    | none => C (nI n) (nI (a + 1)) μ) → pX0_firstKnock_11 (m + 1) (d + 2) 92 (nI n) (nI a) (nI b) μ KI X C := by
  intro m
  induction m with
  | zero =>
    intro b hb h
    refine ⟨fun _ v hv => by rw [hv, nI_1]; exact h, fun q => absurd ?_ q⟩
    exact (n_le (by omega) (by omega)).mpr (by omega)
  | succ m ih =>
    intro b hb h
    refine ⟨fun q => absurd q (by rw [n_le (by omega) (by omega)]; omega), fun _ => C_knocks rfl rfl (by omega) (by omega) (hg a ha) (hg b (by omega)) ?_⟩
    by_cases q : kn G a b
    · rw [b2i_t q]
      refine ⟨fun z => absurd z (by decide), fun _ => ?_⟩
      unfold fkI at h
      rw [if_pos q] at h
      exact h
    · rw [b2i_f q]
      refine ⟨fun _ v hv => ?_, fun z => absurd rfl z⟩
      rw [hv, nI_1]
      refine ih (b + 1) (by omega) ?_
      unfold fkI at h
      rw [if_neg q] at h
      exact h
theorem L_fk2 {n : Nat} (hn : n ≤ 6) (hg : ∀ i, i < n → gAt μ G i) : ∀ (m a : Nat), a + m = n → KI (fkO G n m a) μ → pX0_firstKnock_2 (m + 1) (d + 2) 92 (nI n) (nI a) μ KI X := by
  intro m
  induction m with
  | zero =>
    intro a ha h
    exact ⟨fun _ => h, fun q => absurd ((n_le (by omega) (by omega)).mpr (by omega)) q⟩
  | succ m ih =>
    intro a ha h
    refine ⟨fun q => absurd q (by rw [n_le (by omega) (by omega)]; omega), fun _ => ⟨m + 1, ?_⟩⟩
    rw [nI_1]
    refine L_fk11 hn (by omega) hg m (a + 1) (by omega) ?_
    unfold fkO at h
    rw [show n - (a + 1) = m by omega] at h
    cases e : fkI G m a (a + 1) with
    | some v => rw [e] at h; exact h
    | none => rw [e] at h; exact ih (a + 1) (by omega) h
theorem C_firstKnock {n : Nat} {x : Int32} (hx : x = nI n) (hn : n ≤ 6) (hg : ∀ i, i < n → gAt μ G i) (h : KI (fk G n) μ) : zcI (d + 3) mX0_firstKnock [.ref 92, .int x] μ KI X := by
  subst hx
  refine cX0_firstKnock_ zl92 ⟨n + 1, ?_⟩
  exact L_fk2 hn hg n 0 (by omega) h
theorem L_rain {n i : Nat} (hn : n ≤ 6) (hi : i < n) (hg : ∀ i, i < n → gAt μ G i) (hz : ∀ i, i < n → zsm (G.2.2.1 i)) : ∀ (m k : Nat) (a : Option Nat), k + m = n → (∀ c, a = some c → c < n) → KI (oI (rnS G i m k a)) μ → pX0_rainFrom_5 (m + 1) (d + 3) 92 (nI i) (nI n) (oI a) (nI k) μ KI X := by
  intro m
  induction m with
  | zero =>
    intro k a hk ha h
    exact ⟨fun _ => h, fun q => absurd ((n_le (by omega) (by omega)).mpr (by omega)) q⟩
  | succ m ih =>
    intro k a hk ha h
    have step : ∀ a', rnC G i k a = a' → ∀ v, v = nI k + 1 → pX0_rainFrom_5 (m + 1) (d + 3) 92 (nI i) (nI n) (oI a') v μ KI X := by
      intro a' e v hv
      rw [hv, nI_1]
      refine ih (k + 1) a' (by omega) (by rw [← e]; exact rnC_lt (by omega) ha) ?_
      rw [← e]; exact h
    refine ⟨fun q => absurd q (by rw [n_le (by omega) (by omega)]; omega), fun _ => ?_⟩
    cases a with
    | none =>
      refine ⟨fun _ => ?_, fun q => absurd rfl q⟩
      unfold pX0_rainFrom_37
      refine ⟨fun q => absurd q (by decide), fun _ => ⟨fun q v hv => step none ?_ v hv, fun q => ?_⟩⟩
      · rw [n_eq (by omega) (by omega)] at q
        unfold rnC; rw [if_pos q]
      · have q1 : ¬ k = i := fun z => q (by rw [z])
        refine C_isShaded rfl rfl (by omega) (by omega) (hg i hi) (hg k (by omega)) (hz i hi) (hz k (by omega)) ?_
        by_cases q2 : sh G i k
        · rw [b2i_t q2]
          exact ⟨fun z => absurd z (by decide), fun _ v hv => step (some k) (by unfold rnC; rw [if_neg q1, if_pos q2]) v hv⟩
        · rw [b2i_f q2]
          exact ⟨fun _ v hv => step none (by unfold rnC; rw [if_neg q1, if_neg q2]) v hv, fun z => absurd rfl z⟩
    | some c =>
      have hc := ha c rfl
      refine ⟨fun q => absurd q (oI_n (by omega)), fun _ => ⟨vin (by omega), vin (by omega), ?_⟩⟩
      show ∀ v1 : Int32, v1 = (if μ 95 (nI c).toNatClampNeg ≤ μ 95 (nI k).toNatClampNeg then 0 else 1) → _
      rw [tN_nI (by omega), tN_nI (by omega), (hg c hc).2.2.1, (hg k (by omega)).2.2.1]
      intro v1 e1
      by_cases q3 : G.2.2.1 c ≤ G.2.2.1 k
      · rw [if_pos q3] at e1
        refine ⟨fun _ v hv => step (some c) ?_ v hv, fun z => absurd e1 z⟩
        unfold rnC
        split
        · rfl
        · split
          · exact if_pos q3
          · rfl
      · rw [if_neg q3] at e1
        refine ⟨fun z => absurd (z.symm.trans e1) (by decide), fun _ => ⟨fun q v hv => step (some c) ?_ v hv, fun q => ?_⟩⟩
        · rw [n_eq (by omega) (by omega)] at q
          unfold rnC; rw [if_pos q]
        · have q1 : ¬ k = i := fun z => q (by rw [z])
          refine C_isShaded rfl rfl (by omega) (by omega) (hg i hi) (hg k (by omega)) (hz i hi) (hz k (by omega)) ?_
          by_cases q2 : sh G i k
          · rw [b2i_t q2]
            exact ⟨fun z => absurd z (by decide), fun _ v hv => step (some k) (by unfold rnC; rw [if_neg q1, if_pos q2]; exact if_neg q3) v hv⟩
          · rw [b2i_f q2]
            exact ⟨fun _ v hv => step (some c) (by unfold rnC; rw [if_neg q1, if_neg q2]) v hv, fun z => absurd rfl z⟩
theorem C_rainFrom {n i : Nat} {x y : Int32} (hx : x = nI i) (hy : y = nI n) (hn : n ≤ 6) (hi : i < n) (hg : ∀ i, i < n → gAt μ G i) (hz : ∀ i, i < n → zsm (G.2.2.1 i)) (h : KI (oI (rn G i n)) μ) : zcI (d + 4) mX0_rainFrom [.ref 92, .int x, .int y] μ KI X := by
  subst hx hy
  refine cX0_rainFrom_ zl92 ⟨n + 1, ?_⟩
  exact L_rain hn hi hg hz n 0 none (by omega) (fun c hc => by cases hc) h
theorem L_lower {n i : Nat} (hn : n ≤ 6) (hi : i < n) (hg : ∀ i, i < n → gAt μ G i) : ∀ (m k : Nat) (a : Int32), k + m = n → KI (lwS G i m k a) μ → pX0_lower_5 (m + 1) d 92 (nI i) (nI n) a (nI k) μ KI X := by
  intro m
  induction m with
  | zero =>
    intro k a hk h
    exact ⟨fun _ => h, fun q => absurd ((n_le (by omega) (by omega)).mpr (by omega)) q⟩
  | succ m ih =>
    intro k a hk h
    refine ⟨fun q => absurd q (by rw [n_le (by omega) (by omega)]; omega), fun _ => ⟨vin (by omega), vin (by omega), ?_⟩⟩
    show (μ 95 (nI i).toNatClampNeg ≤ μ 95 (nI k).toNatClampNeg → _) ∧ (¬ μ 95 (nI i).toNatClampNeg ≤ μ 95 (nI k).toNatClampNeg → _)
    rw [tN_nI (by omega), tN_nI (by omega), (hg i hi).2.2.1, (hg k (by omega)).2.2.1]
    unfold lwS at h
    refine ⟨fun q v hv => ?_, fun q v2 h2 v3 h3 => ?_⟩
    · rw [hv, nI_1]
      rw [if_pos q, Int32.add_zero] at h
      exact ih (k + 1) a (by omega) h
    · rw [h3, nI_1, h2]
      rw [if_neg q] at h
      exact ih (k + 1) _ (by omega) h
theorem C_lower {n i : Nat} {x y : Int32} (hx : x = nI i) (hy : y = nI n) (hn : n ≤ 6) (hi : i < n) (hg : ∀ i, i < n → gAt μ G i) (h : KI (lwS G i n 0 0) μ) : zcI (d + 1) mX0_lower [.ref 92, .int x, .int y] μ KI X := by
  subst hx hy
  refine cX0_lower_ zl92 ⟨n + 1, ?_⟩
  exact L_lower hn hi hg n 0 0 (by omega) h
end Geo
