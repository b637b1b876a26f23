/-! ways: the class's and the reference's -/
def tlV (x : Nat) : Int32 := if x = 1000 then -1 else nI x
def tal (μ : zMem) (c n : Nat) (v : Nat → Nat) : Prop := ∀ i, i < n → μ c i = tlV (v i)
theorem tlV_m {x : Nat} (h : x ≤ 1000) : tlV x = -1 ↔ ¬ x < 1000 := by
  unfold tlV
  by_cases q : x = 1000
  · rw [if_pos q]; exact ⟨fun _ => by omega, fun _ => rfl⟩
  · rw [if_neg q]; exact ⟨fun z => absurd z (oI_n (by omega)), fun z => absurd (by omega) q⟩
theorem tlV_n {x : Nat} (h : x < 1000) : tlV x = nI x := if_neg (by omega)
def wyE (G : zG) (r : Int32) (a b : Nat) : Bool := decide (bri G a b r)
theorem wyR_f {E : Nat → Nat → Bool} {a b : Nat} {v : Nat → Nat} (h : ¬ (v a < 1000 ∧ v a + 1 < v b ∧ E a b = true)) : wyR E a b v = v := by
  unfold wyR; rw [if_neg h]
theorem tal_w {μ : zMem} {c n a b : Nat} {v : Nat → Nat} {E : Nat → Nat → Bool} {x : Int32} (hn : n ≤ 6) (ha : a < n) (hb : b < n) (hv : wyOK n v) (h : tal μ c n v) (q : v a < 1000 ∧ v a + 1 < v b ∧ E a b = true) (hx : x = μ c a + 1) : tal (zw μ c b x) c n (wyR E a b v) := by
  have six := hv.six ha q.1
  intro i hi
  unfold wyR
  rw [if_pos q]
  show zw μ c b x c i = tlV (if i = b then v a + 1 else v i)
  by_cases e : i = b
  · subst e
    rw [zw_s, if_pos rfl, hx, h a ha, tlV_n q.1, nI_1, tlV_n (by omega)]
  · rw [zw_j e, if_neg e]; exact h i hi
def wyF (E : Nat → Nat → Bool) (n : Nat) (v0 : Nat → Nat) (f : Int32) (u : Nat → Nat) : Prop := (f = 0 ∧ u = v0) ∨ (f = 1 ∧ ¬ wyCl E n v0)
theorem wyF.f {E : Nat → Nat → Bool} {n a b : Nat} {v0 u u' : Nat → Nat} {f : Int32} (h : wyF E n v0 f u) (ha : a < n) (hb : b < n) (q : u a < 1000 ∧ u a + 1 < u b ∧ E a b = true) : wyF E n v0 1 u' := by
  refine Or.inr ⟨rfl, ?_⟩
  rcases h with ⟨_, e⟩ | ⟨_, h⟩
  · intro c
    have := c a b ha hb (by rw [← e]; exact q.1) q.2.2
    rw [← e] at this; omega
  · exact h
section Way
variable {d : Nat} {μ : zMem} {KI : Int32 → zMem → Prop} {KV : zMem → Prop} {X : Nat → zMem → Prop} {n : Nat} {S : zSky} {D : Nat → Int32} {tn : Nat} {tb : Nat → Int32} {F : Int32} {T T' : zT} {K : Option (Nat → Int32)} {M : Option zT}
theorem C_nearer {a b : Nat} {v : Nat → Nat} (hn : n ≤ 6) (ha : a < n) (hb : b < n) (hv : wyOK n v) (ht : tal μ 103 n v) (h : KI (b2i (v a < 1000 ∧ v a + 1 < v b)) μ) : zcI (d + 1) mX8_isNearer [.ref 0, .int (nI a), .int (nI b)] μ KI X := by
  refine cX8_isNearer_ ?_
  unfold pX8_isNearer
  rw [tN_nI (by omega), tN_nI (by omega), ht a ha, ht b hb, tlV_m (hv.1 a ha), tlV_m (hv.1 b hb)]
  refine ⟨vin (by omega), fun z => ?_, fun z => ⟨vin (by omega), fun z2 => ?_, fun z2 => ⟨vin (by omega), vin (by omega), ?_⟩⟩⟩
  · rw [b2i_f (fun q => z q.1)] at h; exact h
  · have s := hv.six ha (by omega)
    rw [b2i_t (by omega)] at h; exact h
  · have s := hv.six ha (by omega)
    have s2 := hv.six hb (by omega)
    rw [tlV_n (by omega), tlV_n (by omega), nI_1]
    by_cases q : v b ≤ v a + 1
    · rw [if_pos ((n_le (by omega) (by omega)).mpr q)]
      rw [b2i_f (by omega)] at h; exact h
    · rw [if_neg (fun y => q ((n_le (by omega) (by omega)).mp y))]
      rw [b2i_t (by omega)] at h; exact h
theorem gAt.tl {μ' : zMem} {G : zG} {i : Nat} (h : gAt μ G i) (f : Fr zTal μ μ') : gAt μ' G i := by
  obtain ⟨a1, a2, a3, a4⟩ := h
  exact ⟨by rw [f _ _ (by unfold zTal; omega)]; exact a1, by rw [f _ _ (by unfold zTal; omega)]; exact a2, by rw [f _ _ (by unfold zTal; omega)]; exact a3, by rw [f _ _ (by unfold zTal; omega)]; exact a4⟩
theorem zsk_tl {μ' : zMem} (f : Fr zTal μ μ') : zsk μ' 0 4 = zsk μ 0 4 := by unfold zsk; rw [f _ _ (by unfold zTal; omega)]
theorem L_go17 {a : Nat} {x2 r : Int32} {G : zG} {C2 : Int32 → Int32 → zMem → Prop} {C9 : Int32 → Int32 → Int32 → zMem → Prop} {μ0 : zMem} (hn : n ≤ 6) (ha : a < n) (hg : ∀ i, i < n → gAt μ0 G i) (hr : μ0 (zsk μ0 0 4) 6 = r) : ∀ (m b : Nat) (v : Nat → Nat) (μ : zMem), b + m = n → Fr zTal μ0 μ → wyOK n v → tal μ 103 n v →
    (∀ μ', Fr zTal μ0 μ' → wyOK n (wyB (wyE G r) a m b v) → tal μ' 103 n (wyB (wyE G r) a m b v) → C9 (nI n) x2 (nI (a + 1)) μ') → pX8_goOverBridges_17 (m + 1) (d + 2) (nI n) x2 (nI a) (nI b) μ KV X C2 C9 := by
  intro m
  induction m with
  | zero =>
    intro b v μ hb hf hv ht hK
    exact ⟨fun _ v1 e1 => by rw [e1, nI_1]; exact hK μ hf hv ht, fun z => absurd ((n_le (by omega) (by omega)).mpr (by omega)) z⟩
  | succ m ih =>
    intro b v μ hb hf hv ht hK
    have skip : ¬ (v a < 1000 ∧ v a + 1 < v b ∧ wyE G r a b = true) → ∀ x, x = nI b + 1 → pX8_goOverBridges_17 (m + 1) (d + 2) (nI n) x2 (nI a) x μ KV X C2 C9 := by
      intro q x e
      rw [e, nI_1]
      refine ih (b + 1) v μ (by omega) hf hv ht ?_
      rw [show wyB (wyE G r) a (m + 1) b v = wyB (wyE G r) a m (b + 1) (wyR (wyE G r) a b v) from rfl, wyR_f q] at hK
      exact hK
    refine ⟨fun z => absurd z (by rw [n_le (by omega) (by omega)]; omega), fun _ => C_nearer hn ha (by omega) hv ht (b2i_go (fun q v4 e4 => skip (fun z => q ⟨z.1, z.2.1⟩) v4 e4) (fun q => ?_))⟩
    have hr' : μ (zsk μ 0 4) 6 = r := by
      rw [zsk_tl hf, hf _ _ (by unfold zTal; have := sky_rng (zsk_sh μ0 0 4); omega)]; exact hr
    rw [hr']
    refine C_hasBridge rfl rfl (by omega) (by omega) ((hg a ha).tl hf) ((hg b (by omega)).tl hf) (b2i_go (fun q2 v7 e7 => skip (fun z => q2 (of_decide_eq_true z.2.2)) v7 e7) (fun q2 => ⟨vin (by omega), vin (by omega), fun m8 e8 v9 e9 => ?_⟩))
    have qq : v a < 1000 ∧ v a + 1 < v b ∧ wyE G r a b = true := ⟨q.1, q.2, decide_eq_true q2⟩
    rw [tN_nI (by omega), tN_nI (by omega)] at e8
    rw [e9, nI_1]
    refine ih (b + 1) _ m8 (by omega) (hf.tr (by rw [e8]; exact Fr.w rfl)) (wyR_ok ha (by omega) hv) (by rw [e8]; exact tal_w hn ha (by omega) hv ht qq rfl) hK
theorem L_go9 {x2 r : Int32} {G : zG} {C2 : Int32 → Int32 → zMem → Prop} {μ0 : zMem} (hn : n ≤ 6) (hg : ∀ i, i < n → gAt μ0 G i) (hr : μ0 (zsk μ0 0 4) 6 = r) : ∀ (m a : Nat) (v : Nat → Nat) (μ : zMem), a + m = n → Fr zTal μ0 μ → wyOK n v → tal μ 103 n v →
    (∀ μ', Fr zTal μ0 μ' → wyOK n (wyA (wyE G r) n m a v) → tal μ' 103 n (wyA (wyE G r) n m a v) → C2 (nI n) (x2 + 1) μ') → pX8_goOverBridges_9 (m + 1) (d + 2) (nI n) x2 (nI a) μ KV X C2 := by
  intro m
  induction m with
  | zero =>
    intro a v μ ha hf hv ht hK
    exact ⟨fun _ v1 e1 => by rw [e1]; exact hK μ hf hv ht, fun z => absurd ((n_le (by omega) (by omega)).mpr (by omega)) z⟩
  | succ m ih =>
    intro a v μ ha hf hv ht hK
    refine ⟨fun z => absurd z (by rw [n_le (by omega) (by omega)]; omega), fun _ => ⟨n + 1, ?_⟩⟩
    exact L_go17 hn (by omega) hg hr n 0 v μ (by omega) hf hv ht (fun μ' f' v' t' => ih (a + 1) _ μ' (by omega) f' v' t' hK)
theorem L_go2 {r : Int32} {G : zG} {μ0 : zMem} (hn : n ≤ 6) (hg : ∀ i, i < n → gAt μ0 G i) (hr : μ0 (zsk μ0 0 4) 6 = r) : ∀ (m k : Nat) (v : Nat → Nat) (μ : zMem), k + m = n → Fr zTal μ0 μ → wyOK n v → tal μ 103 n v →
    (∀ μ', Fr zTal μ0 μ' → wyOK n (wyN (wyE G r) n m v) → tal μ' 103 n (wyN (wyE G r) n m v) → KV μ') → pX8_goOverBridges_2 (m + 1) (d + 2) (nI n) (nI k) μ KV X := by
  intro m
  induction m with
  | zero =>
    intro k v μ ha hf hv ht hK
    exact ⟨fun _ => hK μ hf hv ht, fun z => absurd ((n_le (by omega) (by omega)).mpr (by omega)) z⟩
  | succ m ih =>
    intro k v μ hk hf hv ht hK
    refine ⟨fun z => absurd z (by rw [n_le (by omega) (by omega)]; omega), fun _ => ⟨n + 1, ?_⟩⟩
    refine L_go9 hn hg hr n 0 v μ (by omega) hf hv ht (fun μ' f' v' t' => ?_)
    rw [nI_1]
    exact ih (k + 1) _ μ' (by omega) f' v' t' hK
theorem C_goOver {r : Int32} {G : zG} {v : Nat → Nat} (hn : n ≤ 6) (h0 : 0 < n) (hg : ∀ i, i < n → gAt μ G i) (hr : μ (zsk μ 0 4) 6 = r) (hv : wyOK n v) (ht : tal μ 103 n v)
    (h : ∀ μ', Fr zTal μ μ' → wyOK n (wyN (wyE G r) n (n - 1) v) → tal μ' 103 n (wyN (wyE G r) n (n - 1) v) → KV μ') : zcV (d + 3) mX8_goOverBridges [.ref 0, .int (nI n)] μ KV X :=
  cX8_goOverBridges_ ⟨n - 1 + 1, L_go2 hn hg hr (n - 1) 1 v μ (by omega) Fr.rf hv ht h⟩
/-! the reference's -/
def zBr (c _j : Nat) : Prop := c = 128
theorem gAr.br {μ' : zMem} {G : zG} {i : Nat} (h : gAr μ G i) (f : Fr zBr μ μ') : gAr μ' G i := by
  obtain ⟨a1, a2, a3, a4⟩ := h
  exact ⟨by rw [f _ _ (by unfold zBr; omega)]; exact a1, by rw [f _ _ (by unfold zBr; omega)]; exact a2, by rw [f _ _ (by unfold zBr; omega)]; exact a3, by show μ' 111 (14 * i + 5) = _; rw [f _ _ (by unfold zBr; omega)]; exact a4⟩
theorem L_gr22 {a : Nat} {r : Int32} {G : zG} {C2 : Int32 → zMem → Prop} {C10 : Int32 → Int32 → zMem → Prop} {μ0 : zMem} {v0 : Nat → Nat} (hn : n ≤ 6) (ha : a < n) (hc : μ0 110 0 = nI n) (hg : ∀ i, i < n → gAr μ0 G i) (hr : μ0 110 3 = r) : ∀ (m b : Nat) (f : Int32) (v : Nat → Nat) (μ : zMem), b + m = n → Fr zBr μ0 μ → wyOK n v → tal μ 128 n v → wyF (wyE G r) n v0 f v →
    (∀ f' μ', Fr zBr μ0 μ' → wyOK n (wyB (wyE G r) a m b v) → tal μ' 128 n (wyB (wyE G r) a m b v) → wyF (wyE G r) n v0 f' (wyB (wyE G r) a m b v) → C10 f' (nI (a + 1)) μ') → pX9_goOver_22 (m + 1) (d + 3) f (nI a) (nI b) μ KV X C2 C10 := by
  intro m
  induction m with
  | zero =>
    intro b f v μ hb hf hv ht hF hK
    have c : μ 110 0 = nI n := by rw [hf _ _ (by unfold zBr; omega)]; exact hc
    exact ⟨fun _ v1 e1 => by rw [e1, nI_1]; exact hK f μ hf hv ht hF, fun z => absurd (by rw [c]; exact (n_le (by omega) (by omega)).mpr (by omega)) z⟩
  | succ m ih =>
    intro b f v μ hb hf hv ht hF hK
    have c : μ 110 0 = nI n := by rw [hf _ _ (by unfold zBr; omega)]; exact hc
    have hr' : μ 110 3 = r := by rw [hf _ _ (by unfold zBr; omega)]; exact hr
    have skip : ¬ (v a < 1000 ∧ v a + 1 < v b ∧ wyE G r a b = true) → ∀ x, x = nI b + 1 → pX9_goOver_22 (m + 1) (d + 3) f (nI a) x μ KV X C2 C10 := by
      intro q x e
      rw [e, nI_1]
      refine ih (b + 1) f v μ (by omega) hf hv ht hF ?_
      rw [show wyB (wyE G r) a (m + 1) b v = wyB (wyE G r) a m (b + 1) (wyR (wyE G r) a b v) from rfl, wyR_f q] at hK
      exact hK
    have fire : v a < 1000 ∧ v a + 1 < v b ∧ wyE G r a b = true → pX9_goOver_86 (d + 3) (nI a) (nI b) μ KV X C2 C10 (fun z0 z1 z2 m9 => pX9_goOver_22 (m + 1) (d + 3) z0 z1 z2 m9 KV X C2 C10) := by
      intro qq
      refine ⟨vin (by omega), vin (by omega), fun m1 e1 v2 e2 => ?_⟩
      rw [tN_nI (by omega), tN_nI (by omega)] at e1
      rw [e2, nI_1]
      exact ih (b + 1) 1 _ m1 (by omega) (hf.tr (by rw [e1]; exact Fr.w rfl)) (wyR_ok ha (by omega) hv) (by rw [e1]; exact tal_w hn ha (by omega) hv ht qq rfl) (hF.f ha (by omega) qq) hK
    refine ⟨fun z => absurd z (by rw [c, n_le (by omega) (by omega)]; omega), fun _ => ⟨fun z v2 e2 => skip (fun q => ?_) v2 e2, fun _ => ⟨vin (by omega), ?_⟩⟩⟩
    · have : a = b := (n_eq (by omega) (by omega)).mp z
      rw [this] at q; omega
    rw [tN_nI (by omega), ht a ha, tlV_m (hv.1 a ha)]
    refine ⟨fun z v3 e3 => skip (fun q => z q.1) v3 e3, fun z => R_isBridge rfl rfl (by omega) (by omega) hr' ((hg a ha).br hf) ((hg b (by omega)).br hf) (b2i_go (fun q2 v6 e6 => skip (fun y => q2 (of_decide_eq_true y.2.2)) v6 e6) (fun q2 => ⟨vin (by omega), ?_⟩))⟩
    have eE : wyE G r a b = true := decide_eq_true q2
    rw [tN_nI (by omega), ht b (by omega), ht a ha, tlV_m (hv.1 b (by omega))]
    have s := hv.six ha (by omega)
    refine ⟨fun z2 => fire ⟨by omega, by omega, eE⟩, fun z2 => ⟨vin (by omega), vin (by omega), ?_⟩⟩
    have s2 := hv.six (k := b) (by omega) (by omega)
    rw [tlV_n (by omega), tlV_n (by omega), nI_1, n_lt (by omega) (by omega)]
    exact ⟨fun z3 => fire ⟨by omega, z3, eE⟩, fun z3 v7 e7 => skip (fun q => z3 q.2.1) v7 e7⟩
theorem L_gr10 {r : Int32} {G : zG} {C2 : Int32 → zMem → Prop} {μ0 : zMem} {v0 : Nat → Nat} (hn : n ≤ 6) (hc : μ0 110 0 = nI n) (hg : ∀ i, i < n → gAr μ0 G i) (hr : μ0 110 3 = r) : ∀ (m a : Nat) (f : Int32) (v : Nat → Nat) (μ : zMem), a + m = n → Fr zBr μ0 μ → wyOK n v → tal μ 128 n v → wyF (wyE G r) n v0 f v →
    (∀ f' μ', Fr zBr μ0 μ' → wyOK n (wyA (wyE G r) n m a v) → tal μ' 128 n (wyA (wyE G r) n m a v) → wyF (wyE G r) n v0 f' (wyA (wyE G r) n m a v) → C2 f' μ') → pX9_goOver_10 (m + 1) (d + 3) f (nI a) μ KV X C2 := by
  intro m
  induction m with
  | zero =>
    intro a f v μ ha hf hv ht hF hK
    have c : μ 110 0 = nI n := by rw [hf _ _ (by unfold zBr; omega)]; exact hc
    exact ⟨fun _ => hK f μ hf hv ht hF, fun z => absurd (by rw [c]; exact (n_le (by omega) (by omega)).mpr (by omega)) z⟩
  | succ m ih =>
    intro a f v μ ha hf hv ht hF hK
    have c : μ 110 0 = nI n := by rw [hf _ _ (by unfold zBr; omega)]; exact hc
    refine ⟨fun z => absurd z (by rw [c, n_le (by omega) (by omega)]; omega), fun _ => ⟨n + 1, ?_⟩⟩
    exact L_gr22 hn (by omega) hc hg hr n 0 f v μ (by omega) hf hv ht hF (fun f' μ' g' v' t' F' => ih (a + 1) f' _ μ' (by omega) g' v' t' F' hK)
theorem L_gr2 {r : Int32} {G : zG} {μ0 : zMem} (hn : n ≤ 6) (hc : μ0 110 0 = nI n) (hg : ∀ i, i < n → gAr μ0 G i) (hr : μ0 110 3 = r) : ∀ (m : Nat) (v : Nat → Nat) (μ : zMem), Fr zBr μ0 μ → wyOK n v → tal μ 128 n v → wyCl (wyE G r) n (wyN (wyE G r) n m v) →
    (∀ μ', Fr zBr μ0 μ' → tal μ' 128 n (wyN (wyE G r) n m v) → KV μ') → pX9_goOver_2 (m + 2) (d + 3) 1 μ KV X := by
  intro m
  induction m with
  | zero =>
    intro v μ hf hv ht hcl hK
    refine ⟨fun z => absurd z (by decide), fun _ => ⟨n + 1, L_gr10 (v0 := v) hn hc hg hr n 0 0 v μ (by omega) hf hv ht (Or.inl ⟨rfl, rfl⟩) (fun f' μ' g' v' t' F' => ?_)⟩⟩
    rcases F' with ⟨e, e2⟩ | ⟨_, e2⟩
    · subst e
      refine ⟨fun _ => hK μ' g' ?_, fun z => absurd rfl z⟩
      rw [e2] at t'; exact t'
    · exact absurd hcl e2
  | succ m ih =>
    intro v μ hf hv ht hcl hK
    refine ⟨fun z => absurd z (by decide), fun _ => ⟨n + 1, L_gr10 (v0 := v) hn hc hg hr n 0 0 v μ (by omega) hf hv ht (Or.inl ⟨rfl, rfl⟩) (fun f' μ' g' v' t' F' => ?_)⟩⟩
    rcases F' with ⟨e, e2⟩ | ⟨e, e2⟩
    · subst e
      refine ⟨fun _ => hK μ' g' ?_, fun z => absurd rfl z⟩
      rw [wyN_fix (show wyP (wyE G r) n v = v from e2) (m + 1)]
      rw [e2] at t'; exact t'
    · subst e
      exact ih _ μ' g' v' t' hcl hK
theorem R_goOver {r : Int32} {G : zG} {v : Nat → Nat} (hn : n ≤ 6) (h0 : 0 < n) (hc : μ 110 0 = nI n) (hg : ∀ i, i < n → gAr μ G i) (hr : μ 110 3 = r) (hv : wyOK n v) (ht : tal μ 128 n v)
    (h : ∀ μ', Fr zBr μ μ' → wyOK n (wyN (wyE G r) n (n - 1) v) → tal μ' 128 n (wyN (wyE G r) n (n - 1) v) → KV μ') : zcV (d + 4) mX9_goOver [.ref 106] μ KV X :=
  cX9_goOver_ ⟨n - 1 + 2, L_gr2 hn hc hg hr (n - 1) v μ Fr.rf hv ht (wyN_cl h0 hv.1) (fun μ' f' t' => h μ' f' (wyN_ok (n - 1) v hv) t')⟩
/-! hour by hour -/
def wyH (S : zSky) (I : zI) (r : Int32) (n h : Nat) (v : Nat → Nat) : Nat → Nat := wyN (wyE (sG S I (nI h) 0) r) n (n - 1) v
def wyS (S : zSky) (I : zI) (r : Int32) (n j : Nat) (w : Int32) : Nat → Nat → (Nat → Nat) → Int32
  | 0, _, _ => -1
  | m + 1, h, v => if wyH S I r n h v j < 1000 then (if w = 0 then nI h else nI (wyH S I r n h v j)) else wyS S I r n j w m (h + 1) (wyH S I r n h v)
def wy0 (i : Nat) : Nat → Nat := fun k => if k = i then 0 else 1000
theorem wy0_ok {i : Nat} : wyOK n (wy0 i) := by
  refine ⟨fun k _ => ?_, fun k _ => ?_⟩
  · unfold wy0; split <;> omega
  · unfold wy0
    split
    · intro _; exact Nat.zero_le _
    · intro z; omega
def sWay (S : zSky) (I : zI) (r : Int32) (n i j h : Nat) (w : Int32) : Int32 := wyS S I r n j w (168 - h) h (wy0 i)
theorem L_wayC {w : Int32} {j : Nat} {μ0 : zMem} (hj : j < n) (hW : QW n S D tn T K M) (hC : QC μ0 n S D tn tb F T K M) : ∀ (m h : Nat) (v : Nat → Nat) (μ : zMem), h + m = 168 → Fr zScC μ0 μ → wyOK n v → tal μ 103 n v → (v j = 0 ∨ v j = 1000) →
    (∀ μ', Fr zScC μ0 μ' → KI (wyS S T.1 (D 3) n j w m h v) μ') → pX8_way_35 (m + 1) (d + 6) (nI j) w (nI h) μ KI X := by
  have n6 := hW.1
  intro m
  induction m with
  | zero =>
    intro h v μ hh hf hv ht hj0 hK
    exact ⟨fun _ => hK μ hf, fun z => absurd ((n_le (a := 168) (by omega) (by omega)).mpr (by omega)) z⟩
  | succ m ih =>
    intro h v μ hh hf hv ht hj0 hK
    refine ⟨fun z => absurd ((n_le (a := 168) (by omega) (by omega)).mp z) (by omega), fun _ => ⟨vin (by omega), ?_⟩⟩
    rw [tN_nI (by omega), ht j hj, tlV_m (hv.1 j hj)]
    refine ⟨fun z => ?_, fun z => ?_⟩
    · refine C_blowNow hW (hC.q hf) (fun m1 f1 g1 => ?_)
      have hf1 := hf.tr (zAir_q f1)
      have hC1 := hC.q hf1
      have t1 : tal m1 103 n v := fun i hi => by rw [f1 _ _ (by unfold zAir; omega)]; exact ht i hi
      rw [hC1.cn]
      refine C_goOver n6 (by omega) g1 hC1.1.2.2.2.1 hv t1 (fun m2 f2 v2 t2 => ⟨vin (by omega), ?_⟩)
      have hf2 := hf1.tr (zTal_q f2)
      rw [tN_nI (by omega), t2 j hj, tlV_m (v2.1 j hj)]
      refine ⟨fun z2 v3 e3 => ?_, fun z2 => ?_⟩
      · rw [e3, nI_1]
        refine ih (h + 1) _ m2 (by omega) hf2 v2 t2 (Or.inr ?_) (fun μ' f' => ?_)
        · have := v2.1 j hj
          omega
        · have := hK μ' f'
          rw [show wyS S T.1 (D 3) n j w (m + 1) h v = _ from if_neg z2] at this; exact this
      · have z3 : wyH S T.1 (D 3) n h v j < 1000 := Classical.byContradiction fun y => z2 y
        have hh2 := hK m2 hf2
        rw [show wyS S T.1 (D 3) n j w (m + 1) h v = _ from if_pos z3] at hh2
        refine ⟨fun w0 => ?_, fun w0 => ⟨vin (by omega), ?_⟩⟩
        · rw [if_pos w0] at hh2; exact hh2
        · rw [if_neg w0] at hh2
          have e : tlV (wyN (wyE (sG S T.1 (nI h) 0) (D 3)) n (n - 1) v j) = nI (wyH S T.1 (D 3) n h v j) := tlV_n z3
          rw [e]; exact hh2
    · -- there it is from the first
      have z0 : v j = 0 := by omega
      have z1 : wyH S T.1 (D 3) n h v j = 0 := by
        have := wyN_le (E := wyE (sG S T.1 (nI h) 0) (D 3)) (n := n) (n - 1) v j
        unfold wyH; omega
      have hh2 := hK μ hf
      rw [show wyS S T.1 (D 3) n j w (m + 1) h v = _ from if_pos (show wyH S T.1 (D 3) n h v j < 1000 by omega), z1] at hh2
      refine ⟨vin (by omega), ?_⟩
      rw [tN_nI (by omega), ht j hj, tlV_m (hv.1 j hj)]
      refine ⟨fun y => absurd y z, fun _ => ⟨fun w0 => ?_, fun w0 => ⟨vin (by omega), ?_⟩⟩⟩
      · rw [if_pos w0] at hh2; exact hh2
      · rw [if_neg w0] at hh2
        rw [z0]; exact hh2
theorem vHr_g {x : Int32} (h : vHr x) : ∃ k : Nat, k < 168 ∧ x = nI k := by
  obtain ⟨k, hk, e⟩ := vWh.get (m := 168) (w := x) (by unfold vHr at h; unfold vWh; omega)
  exact ⟨k, by omega, e⟩
theorem C_way {x1 x2 x3 x4 : Int32} (hW : QW n S D tn T K M) (hC : QC μ n S D tn tb F T K M) (h0 : ¬ (vIs n x1 ∧ vIs n x2 ∧ vHr x3 ∧ vWh 2 x4) → X 0 μ) (h1 : ∀ i j h, i < n → j < n → h < 168 → x1 = nI i → x2 = nI j → x3 = nI h → vWh 2 x4 → ∀ m, Fr zScC μ m → KI (sWay S T.1 (D 3) n i j h x4) m) : zcI (d + 7) mX8_way [.ref 0, .int x1, .int x2, .int x3, .int x4] μ KI X := by
  have n6 := hW.1
  refine cX8_way_ (C_needIsle hC.cn n6 (fun q => h0 fun z => q z.1) (fun i hi e1 => C_needIsle hC.cn n6 (fun q => h0 fun z => q z.2.1) (fun j hj e2 => C_needHour (fun q => h0 fun z => q z.2.2.1) (fun q3 => C_needWhat (m := 2) (by decide) (fun q => h0 fun z => q z.2.2.2) (fun q4 => C_clear (fun m5 f5 g5 => ?_))))))
  obtain ⟨h, hh, e3⟩ := (vHr_g q3)
  subst e1 e2 e3
  rw [tN_nI (by omega)]
  refine ⟨vin (by omega), fun m6 e6 => ⟨168 - h + 1, L_wayC hj hW hC (168 - h) h (wy0 i) m6 (by omega) ((zTal_q f5).tr (by rw [e6]; exact Fr.w (by unfold zScC; omega))) wy0_ok (fun k hk => ?_) ?_ (fun μ' f' => h1 i j h hi hj hh rfl rfl rfl q4 μ' f')⟩⟩
  · rw [e6]
    unfold wy0
    by_cases z : k = i
    · subst z; rw [zw_s, if_pos rfl]; rfl
    · rw [zw_j z, if_neg z, g5 k (by omega)]; rfl
  · unfold wy0
    by_cases z : j = i
    · exact Or.inl (if_pos z)
    · exact Or.inr (if_neg z)
theorem zBr_q {m1 m2 : zMem} (f : Fr zBr m1 m2) : Fr zScR m1 m2 := f.mono fun c j q => by unfold zBr at q; unfold zScR; omega
theorem L_wayR {w : Int32} {j : Nat} {μ0 : zMem} (hj : j < n) (hW : QW n S D tn T K M) (hR : QR μ0 n S D tn tb F T K M) : ∀ (m h : Nat) (v : Nat → Nat) (μ : zMem), h + m = 168 → Fr zScR μ0 μ → μ 106 3 = 0 → wyOK n v → tal μ 128 n v →
    (∀ μ', Fr zScR μ0 μ' → μ' 106 3 = 0 → KI (wyS S T.1 (D 3) n j w m h v) μ') → pX9_way_86 (m + 1) (d + 6) (nI j) w (nI h) μ KI X := by
  have n6 := hW.1
  intro m
  induction m with
  | zero =>
    intro h v μ hh hf hk hv ht hK
    exact ⟨fun _ => hK μ hf hk, fun z => absurd ((n_le (a := 168) (by omega) (by omega)).mpr (by omega)) z⟩
  | succ m ih =>
    intro h v μ hh hf hk hv ht hK
    refine ⟨fun z => absurd ((n_le (a := 168) (by omega) (by omega)).mp z) (by omega), fun _ => R_hourNow hW (hR.q hf) (fun m1 f1 g1 => ?_)⟩
    have hf1 := hf.tr (zTell_q f1)
    have hR1 := hR.q hf1
    have t1 : tal m1 128 n v := fun i hi => by rw [f1 _ _ (by unfold zTell; omega)]; exact ht i hi
    refine R_goOver n6 (by omega) hR1.cn g1 (hR1.1.2.2 3 (by omega) (by omega)) hv t1 (fun m2 f2 v2 t2 => ⟨vin (by omega), ?_⟩)
    have hf2 := hf1.tr (zBr_q f2)
    have k2 : m2 106 3 = 0 := by rw [f2 _ _ (by unfold zBr; omega), zTell_c f1]; exact hk
    rw [tN_nI (by omega), t2 j hj, tlV_m (v2.1 j hj)]
    refine ⟨fun z2 v3 e3 => ?_, fun z2 => ?_⟩
    · rw [e3, nI_1]
      refine ih (h + 1) _ m2 (by omega) hf2 k2 v2 t2 (fun μ' f' k' => ?_)
      have := hK μ' f' k'
      rw [show wyS S T.1 (D 3) n j w (m + 1) h v = _ from if_neg z2] at this; exact this
    · have z3 : wyH S T.1 (D 3) n h v j < 1000 := Classical.byContradiction fun y => z2 y
      have hh2 := hK m2 hf2 k2
      rw [show wyS S T.1 (D 3) n j w (m + 1) h v = _ from if_pos z3] at hh2
      refine ⟨fun w0 => ?_, fun w0 => ⟨vin (by omega), ?_⟩⟩
      · rw [if_pos w0] at hh2; exact hh2
      · rw [if_neg w0] at hh2
        have e : tlV (wyN (wyE (sG S T.1 (nI h) 0) (D 3)) n (n - 1) v j) = nI (wyH S T.1 (D 3) n h v j) := tlV_n z3
        rw [e]; exact hh2
theorem L_way48 {w : Int32} {i j h : Nat} {μ0 : zMem} (hi : i < n) (hj : j < n) (hh : h < 168) (hW : QW n S D tn T K M) (hR : QR μ0 n S D tn tb F T K M) : ∀ (m k : Nat) (μ : zMem), k + m = n → Fr zScR μ0 μ → μ 106 3 = 0 → (∀ a, a < k → μ 128 a = tlV (wy0 i a)) →
    (∀ μ', Fr zScR μ0 μ' → μ' 106 3 = 0 → KI (sWay S T.1 (D 3) n i j h w) μ') → pX9_way_48 (m + 1) (d + 6) (nI i) (nI j) (nI h) w (nI k) μ KI X := by
  have n6 := hW.1
  intro m
  induction m with
  | zero =>
    intro k μ hk hf hc ht hK
    refine ⟨fun _ => ⟨168 - h + 1, L_wayR hj hW hR (168 - h) h (wy0 i) μ (by omega) hf hc wy0_ok (fun a ha => ht a (by omega)) hK⟩, fun z => absurd (by rw [(hR.q hf).cn]; exact (n_le (by omega) (by omega)).mpr (by omega)) z⟩
  | succ m ih =>
    intro k μ hk hf hc ht hK
    refine ⟨fun z => absurd z (by rw [(hR.q hf).cn, n_le (by omega) (by omega)]; omega), fun _ => ⟨vin (by omega), fun m1 e1 v2 e2 => ?_⟩⟩
    rw [tN_nI (by omega)] at e1
    rw [e2, nI_1]
    refine ih (k + 1) m1 (by omega) (hf.tr (by rw [e1]; exact Fr.w (by unfold zScR; omega))) (by rw [e1, zw_c (by omega)]; exact hc) (fun a ha => ?_) hK
    rw [e1]
    by_cases z : a = k
    · subst z
      rw [zw_s]
      unfold wy0
      by_cases z2 : a = i
      · rw [if_pos z2, if_pos (by rw [z2])]; rfl
      · rw [if_neg z2, if_neg (fun y => z2 ((n_eq (by omega) (by omega)).mp y))]; rfl
    · rw [zw_j z]; exact ht a (by omega)
theorem R_way {x1 x2 x3 x4 : Int32} (hW : QW n S D tn T K M) (hR : QR μ n S D tn tb F T K M) (h0 : ¬ (vIs n x1 ∧ vIs n x2 ∧ vHr x3 ∧ vWh 2 x4) → ∀ m, Fr zScR μ m → m 106 3 = 1 → KI 0 m) (h1 : ∀ i j h, i < n → j < n → h < 168 → x1 = nI i → x2 = nI j → x3 = nI h → vWh 2 x4 → ∀ m, Fr zScR μ m → m 106 3 = 0 → KI (sWay S T.1 (D 3) n i j h x4) m) : zcI (d + 7) mX9_way [.ref 106, .int x1, .int x2, .int x3, .int x4] μ KI X := by
  have n6 := hW.1
  refine cX9_way_ (fun m1 e1 => ?_)
  have f1 : Fr zScR μ m1 := by rw [e1]; exact code_q
  have k1 : m1 106 3 = 0 := by rw [e1, zw_s]
  have hR1 := hR.q f1
  have bad : ¬ (vIs n x1 ∧ vIs n x2 ∧ vHr x3 ∧ vWh 2 x4) → pX9_way_39 (d + 6) m1 KI X := fun q => R_fail (fun m e => h0 q m (f1.tr (by rw [e]; exact code_q)) (by rw [e, zw_s]))
  refine R_isIsle hR1.cn n6 (b2i_go (fun q => bad fun z => q z.1) (fun q1 => R_isIsle hR1.cn n6 (b2i_go (fun q => bad fun z => q z.2.1) (fun q2 => R_isHour (b2i_go (fun q => bad fun z => q z.2.2.1) (fun q3 => ⟨fun z => bad fun q => ?_, fun z => ⟨fun z2 => ?_, fun z2 => bad fun q => ?_⟩⟩))))))
  · have := q.2.2.2
    rw [i_lt, i_0] at z; unfold vWh at this; omega
  · have hw : vWh 2 x4 := by rw [i_lt, i_0] at z; rw [i_le, i_1] at z2; unfold vWh; omega
    obtain ⟨i, hi, e⟩ := q1.get
    obtain ⟨j, hj, e'⟩ := q2.get
    obtain ⟨h, hh, e3⟩ := (vHr_g q3)
    subst e e' e3
    exact ⟨n + 1, L_way48 hi hj hh hW hR1 n 0 m1 (by omega) Fr.rf k1 (fun a ha => absurd ha (by omega)) (fun μ' f' k' => h1 i j h hi hj hh rfl rfl rfl hw μ' (f1.tr f') k')⟩
  · have := q.2.2.2
    rw [i_le, i_1] at z2; unfold vWh at this; omega
theorem vHr_n {h : Nat} (hh : h < 168) : vHr (nI h) := by
  unfold vHr
  rw [n_i (by omega)]; omega
theorem P_way {x1 x2 x3 x4 : Int32} (h : QS μ n S D tn tb F T K M) : PI (d + 7) mX8_way mX9_way [.ref 0, .int x1, .int x2, .int x3, .int x4] [.ref 106, .int x1, .int x2, .int x3, .int x4] c10 μ := by
  intro KI X hK hX
  have n6 := h.1.1
  refine C_way h.1 h.2.1 (fun q => hX _ _ Fr.rf (fun m2 g => R_way h.1 (h.2.2.r (Fr.rf (P := zCls)) g) (fun _ m f e => ⟨e, h.q Fr.rf g f⟩) (fun i j hh hi hj lh e e' e3 a => absurd ⟨by rw [e]; exact vIs_n hi n6, by rw [e']; exact vIs_n hj n6, by rw [e3]; exact vHr_n lh, a⟩ q)) (by decide))
    (fun i j hh hi hj lh e e' e3 a m1 f1 => hK _ _ (zScC_c f1) (fun m2 g => R_way h.1 (h.2.2.r (zScC_c f1) g) (fun q => absurd ⟨by rw [e]; exact vIs_n hi n6, by rw [e']; exact vIs_n hj n6, by rw [e3]; exact vHr_n lh, a⟩ q) (fun i' j' h' hi' hj' lh' y y' y3 _ m f k => ⟨k, ?_, h.q f1 g f⟩)))
  cases nj hi hi' n6 (e.symm.trans y)
  cases nj hj hj' n6 (e'.symm.trans y')
  cases nj' (by omega) (by omega) (e3.symm.trans y3); rfl
end Way
