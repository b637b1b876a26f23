/-! crossings: what is left, which rope is where -/
def enX (x : Nat) : Nat := x / 2 + 10 * (x % 2)
def flX (x : Nat) : Nat := if x % 2 = 0 then x + 1 else x - 1
def frS (q : Nat → Nat) : Nat → Nat → Nat → (Nat → Nat) → Nat × (Nat → Nat)
  | 0, _, h, s => (h, s)
  | m + 1, k, h, s => if 0 < h ∧ s (h - 1) = flX (q k) then frS q m (k + 1) (h - 1) s else frS q m (k + 1) (h + 1) (fun j => if j = h then q k else s j)
theorem enX_t : ∀ a b : Fin 10, zabs (nI (enX a.val) - nI (enX b.val)) = 10 ↔ a.val = flX b.val := by decide +kernel
theorem xor_t : ∀ a b : Fin 10, nI a.val = nI b.val ^^^ 1 ↔ a.val = flX b.val := by decide +kernel
theorem dec_t : ∀ a : Fin 10, nI a.val / 2 + 10 * (nI a.val - nI a.val / 2 * 2) = nI (enX a.val) := by decide +kernel
theorem mod_t : ∀ a : Fin 10, nI (enX a.val) - nI (enX a.val) / 10 * 10 = nI (a.val / 2) := by decide +kernel
theorem hal_t : ∀ a : Fin 10, nI a.val / 2 = nI (a.val / 2) := by decide +kernel
theorem frS_b {q : Nat → Nat} {N : Nat} (hq : ∀ j, j < N → q j < 10) : ∀ (m k h : Nat) (s : Nat → Nat), k + m ≤ N → h ≤ k → (∀ j, j < h → s j < 10) → (frS q m k h s).1 ≤ k + m ∧ ∀ j, j < (frS q m k h s).1 → (frS q m k h s).2 j < 10
  | 0, k, h, s, _, hk, hs => ⟨by show h ≤ k + 0; omega, hs⟩
  | m + 1, k, h, s, hm, hk, hs => by
    unfold frS
    split
    · have := frS_b hq m (k + 1) (h - 1) s (by omega) (by omega) (fun j hj => hs j (by omega))
      exact ⟨by omega, this.2⟩
    · have := frS_b hq m (k + 1) (h + 1) (fun j => if j = h then q k else s j) (by omega) (by omega) (fun j hj => by
        show (if j = h then q k else s j) < 10
        split
        · exact hq k (by omega)
        · exact hs j (by omega))
      exact ⟨by omega, this.2⟩
def swp (p x : Nat) : Nat := if x = p then p + 1 else if x = p + 1 then p else x
theorem swp_swp (p x : Nat) : swp p (swp p x) = x := by
  unfold swp
  by_cases h1 : x = p
  · rw [if_pos h1, if_neg (by omega), if_pos rfl]; exact h1.symm
  · by_cases h2 : x = p + 1
    · rw [if_neg h1, if_pos h2, if_pos rfl]; exact h2.symm
    · rw [if_neg h1, if_neg h2, if_neg h1, if_neg h2]
theorem swp_lt {p x n : Nat} (hp : p + 1 < n) (hx : x < n) : swp p x < n := by
  unfold swp; split
  · omega
  · split <;> omega
def raS (q : Nat → Nat) : Nat → Nat → Nat
  | 0, x => x
  | k + 1, x => raS q k (swp (q k / 2) x)
def poS (q : Nat → Nat) : Nat → Nat → Nat
  | 0, x => x
  | k + 1, x => swp (q k / 2) (poS q k x)
theorem ra_po (q : Nat → Nat) : ∀ k x, raS q k (poS q k x) = x
  | 0, _ => rfl
  | k + 1, x => by
    show raS q k (swp (q k / 2) (swp (q k / 2) (poS q k x))) = x
    rw [swp_swp]; exact ra_po q k x
theorem po_ra (q : Nat → Nat) : ∀ k x, poS q k (raS q k x) = x
  | 0, _ => rfl
  | k + 1, x => by
    show swp (q k / 2) (poS q k (raS q k (swp (q k / 2) x))) = x
    rw [po_ra q k, swp_swp]
theorem poS_lt {q : Nat → Nat} {n N : Nat} (hq : ∀ j, j < N → q j / 2 + 1 < n) : ∀ k x, k ≤ N → x < n → poS q k x < n
  | 0, _, _, hx => hx
  | k + 1, x, hk, hx => swp_lt (hq k (by omega)) (poS_lt hq k x (by omega) hx)
theorem raS_lt {q : Nat → Nat} {n N : Nat} (hq : ∀ j, j < N → q j / 2 + 1 < n) : ∀ k x, k ≤ N → x < n → raS q k x < n
  | 0, _, _, hx => hx
  | k + 1, x, hk, hx => raS_lt hq k _ (by omega) (swp_lt (hq k (by omega)) hx)
def bkS (f : Nat → Nat) : Nat → Nat → Prop
  | 0, _ => True
  | m + 1, k => f k = k ∧ bkS f m (k + 1)
theorem bkS_iff {f : Nat → Nat} : ∀ m k, bkS f m k ↔ ∀ j, k ≤ j → j < k + m → f j = j
  | 0, k => ⟨fun _ j h1 h2 => by omega, fun _ => trivial⟩
  | m + 1, k => by
    show (f k = k ∧ bkS f m (k + 1)) ↔ _
    rw [bkS_iff m (k + 1)]
    refine ⟨fun h j h1 h2 => ?_, fun h => ⟨h k (by omega) (by omega), fun j h1 h2 => h j (by omega) (by omega)⟩⟩
    by_cases e : j = k
    · rw [e]; exact h.1
    · exact h.2 j (by omega) (by omega)
theorem back_iff {q : Nat → Nat} {n N : Nat} (hq : ∀ j, j < N → q j / 2 + 1 < n) : bkS (poS q N) n 0 ↔ bkS (raS q N) n 0 := by
  rw [bkS_iff, bkS_iff]
  refine ⟨fun h j _ hj => ?_, fun h j _ hj => ?_⟩
  · have h1 := h (raS q N j) (by omega) (by have := raS_lt hq N j (by omega) (by omega : j < n); omega)
    rw [po_ra] at h1; exact h1.symm
  · have h1 := h (poS q N j) (by omega) (by have := poS_lt hq N j (by omega) (by omega : j < n); omega)
    rw [ra_po] at h1; exact h1.symm
section Free
variable {d : Nat} {μ : zMem} {KI : Int32 → zMem → Prop} {KV : zMem → Prop} {X : Nat → zMem → Prop} {n : Nat} {S : zSky} {D : Nat → Int32} {tn : Nat} {tb : Nat → Int32} {F : Int32} {T T' : zT} {K : Option (Nat → Int32)} {M : Option zT}
theorem QW.q (h : QW n S D tn T K M) : ∀ j, j < T.2.2.2.1.1 → T.2.2.2.1.2 j < 10 ∧ T.2.2.2.1.2 j / 2 + 1 < n := h.tw.2.2.2.2.2.1
theorem L_freeC {μ0 : zMem} {N : Nat} {q : Nat → Nat} (hN : N ≤ 40) (hc : μ0 46 4 = nI N) (hx : ∀ j, j < N → μ0 60 j = nI (enX (q j)) ∧ q j < 10) : ∀ (m k h : Nat) (s : Nat → Nat) (μ : zMem), k + m = N → h ≤ k → Fr (fun c _ => c = 105) μ0 μ → (∀ j, j < h → μ 105 j = nI (enX (s j)) ∧ s j < 10) →
    (∀ μ', Fr (fun c _ => c = 105) μ0 μ' → (∀ j, j < (frS q m k h s).1 → μ' 105 j = nI (enX ((frS q m k h s).2 j))) → KI (nI (frS q m k h s).1) μ') → pX8_freeCrossings_4 (m + 1) d (nI h) (nI k) μ KI X := by
  intro m
  induction m with
  | zero =>
    intro k h s μ hk hh hf hs hK
    have c : μ 46 4 = nI N := by rw [hf _ _ (by omega)]; exact hc
    exact ⟨fun _ => hK μ hf (fun j hj => (hs j hj).1), fun z => absurd (by rw [c]; exact (n_le (by omega) (by omega)).mpr (by omega)) z⟩
  | succ m ih =>
    intro k h s μ hk hh hf hs hK
    have c : μ 46 4 = nI N := by rw [hf _ _ (by omega)]; exact hc
    obtain ⟨xk, q10⟩ := hx k (by omega)
    have xk' : μ 60 k = nI (enX (q k)) := by rw [hf _ _ (by omega)]; exact xk
    refine ⟨fun z => absurd z (by rw [c, n_le (by omega) (by omega)]; omega), fun _ => ⟨vin (by omega), fun v1 e1 => ?_⟩⟩
    rw [tN_nI (by omega), xk'] at e1
    have put : ¬ (0 < h ∧ s (h - 1) = flX (q k)) → pX8_freeCrossings_53 d (nI h) (nI k) v1 μ KI X (fun z0 z1 m' => pX8_freeCrossings_4 (m + 1) d z0 z1 m' KI X) := by
      intro nq
      refine ⟨vin (by omega), fun m1 e v2 e2 v3 e3 => ?_⟩
      rw [tN_nI (by omega), e1] at e
      rw [nI_1] at e2 e3
      subst e2 e3
      refine ih (k + 1) (h + 1) (fun j => if j = h then q k else s j) m1 (by omega) (by omega) (hf.tr (by rw [e]; exact Fr.w rfl)) (fun j hj => ?_) (fun μ' f g => ?_)
      · show m1 105 j = nI (enX (if j = h then q k else s j)) ∧ (if j = h then q k else s j) < 10
        by_cases z : j = h
        · rw [if_pos z, z, e, zw_s]; exact ⟨rfl, q10⟩
        · rw [if_neg z, e, zw_j z]; exact hs j (by omega)
      · have hk2 := hK μ' f
        unfold frS at hk2
        rw [if_neg nq] at hk2
        exact hk2 g
    refine ⟨fun z => put fun y => ?_, fun z => ?_⟩
    · have := (n_le (b := 0) (by omega) (by omega)).mp z; omega
    · have hp : 0 < h := by
        by_cases y : 0 < h
        · exact y
        · exact absurd ((n_le (b := 0) (by omega) (by omega)).mpr (by omega)) z
      rw [nI_sub1 hp (by omega), tN_nI (by omega)]
      obtain ⟨sh1, s10⟩ := hs (h - 1) (by omega)
      rw [sh1, e1, enX_t ⟨s (h - 1), s10⟩ ⟨q k, q10⟩]
      refine ⟨vin (by omega), fun y v2 e2 v3 e3 => ?_, fun y => by rw [← e1]; exact put fun y2 => y y2.2⟩
      have e2' : v2 = nI (h - 1) := by rw [e2, ← nI_sub1 hp (by omega), Int32.sub_eq_add_neg]
      rw [nI_1] at e3
      subst e2' e3
      refine ih (k + 1) (h - 1) s μ (by omega) (by omega) hf (fun j hj => hs j (by omega)) (fun μ' f g => ?_)
      have hk2 := hK μ' f
      unfold frS at hk2
      rw [if_pos ⟨hp, y⟩] at hk2
      exact hk2 g
abbrev frT (T : zT) : Nat × (Nat → Nat) := frS T.2.2.2.1.2 T.2.2.2.1.1 0 0 (fun _ => 0)
theorem C_free (hW : QW n S D tn T K M) (hC : QC μ n S D tn tb F T K M) (h : ∀ μ', Fr zScC μ μ' → (∀ j, j < (frT T).1 → μ' 105 j = nI (enX ((frT T).2 j))) → KI (nI (frT T).1) μ') : zcI (d + 1) mX8_freeCrossings [.ref 0] μ KI X := by
  obtain ⟨c4, cx⟩ := hC.2.2.2.1.2.2.2.1
  refine cX8_freeCrossings_ ⟨T.2.2.2.1.1 + 1, ?_⟩
  exact L_freeC hW.tw.2.1 c4 (fun j hj => ⟨cx j hj, (hW.q j hj).1⟩) T.2.2.2.1.1 0 0 (fun _ => 0) μ (by omega) (by omega) Fr.rf (fun j hj => absurd hj (by omega)) (fun μ' f g => h μ' (f.mono fun c j q => by unfold zScC; omega) g)
theorem L_freeR {μ0 : zMem} {N : Nat} {q : Nat → Nat} (hN : N ≤ 40) (hc : μ0 106 28 = nI N) (hx : ∀ j, j < N → μ0 129 j = nI (q j) ∧ q j < 10) : ∀ (m k h : Nat) (s : Nat → Nat) (μ : zMem), k + m = N → h ≤ k → Fr (fun c _ => c = 130) μ0 μ → (∀ j, j < h → μ 130 j = nI (s j) ∧ s j < 10) →
    (∀ μ', Fr (fun c _ => c = 130) μ0 μ' → (∀ j, j < (frS q m k h s).1 → μ' 130 j = nI ((frS q m k h s).2 j)) → KI (nI (frS q m k h s).1) μ') → pX9_tellLeft_4 (m + 1) d (nI h) (nI k) μ KI X := by
  intro m
  induction m with
  | zero =>
    intro k h s μ hk hh hf hs hK
    have c : μ 106 28 = nI N := by rw [hf _ _ (by omega)]; exact hc
    exact ⟨fun _ => hK μ hf (fun j hj => (hs j hj).1), fun z => absurd (by rw [c]; exact (n_le (by omega) (by omega)).mpr (by omega)) z⟩
  | succ m ih =>
    intro k h s μ hk hh hf hs hK
    have c : μ 106 28 = nI N := by rw [hf _ _ (by omega)]; exact hc
    obtain ⟨xk, q10⟩ := hx k (by omega)
    have xk' : μ 129 k = nI (q k) := by rw [hf _ _ (by omega)]; exact xk
    refine ⟨fun z => absurd z (by rw [c, n_le (by omega) (by omega)]; omega), fun _ => ?_⟩
    have put : ¬ (0 < h ∧ s (h - 1) = flX (q k)) → pX9_tellLeft_41 d (nI h) (nI k) μ KI X (fun z0 z1 m' => pX9_tellLeft_4 (m + 1) d z0 z1 m' KI X) := by
      intro nq
      refine ⟨vin (by omega), vin (by omega), fun m1 e v2 e2 v3 e3 => ?_⟩
      rw [tN_nI (by omega), tN_nI (by omega), xk'] at e
      rw [nI_1] at e2 e3
      subst e2 e3
      refine ih (k + 1) (h + 1) (fun j => if j = h then q k else s j) m1 (by omega) (by omega) (hf.tr (by rw [e]; exact Fr.w rfl)) (fun j hj => ?_) (fun μ' f g => ?_)
      · show m1 130 j = nI (if j = h then q k else s j) ∧ (if j = h then q k else s j) < 10
        by_cases z : j = h
        · rw [if_pos z, z, e, zw_s]; exact ⟨rfl, q10⟩
        · rw [if_neg z, e, zw_j z]; exact hs j (by omega)
      · have hk2 := hK μ' f
        unfold frS at hk2
        rw [if_neg nq] at hk2
        exact hk2 g
    refine ⟨fun z => put fun y => ?_, fun z => ?_⟩
    · have := (n_le (b := 0) (by omega) (by omega)).mp z; omega
    · have hp : 0 < h := by
        by_cases y : 0 < h
        · exact y
        · exact absurd ((n_le (b := 0) (by omega) (by omega)).mpr (by omega)) z
      rw [nI_sub1 hp (by omega), tN_nI (n := h - 1) (by omega), tN_nI (by omega)]
      obtain ⟨sh1, s10⟩ := hs (h - 1) (by omega)
      rw [sh1, xk', xor_t ⟨s (h - 1), s10⟩ ⟨q k, q10⟩]
      refine ⟨vin (by omega), vin (by omega), fun y v2 e2 v3 e3 => ?_, fun y => put fun y2 => y y2.2⟩
      have e2' : v2 = nI (h - 1) := by rw [e2, ← nI_sub1 hp (by omega), Int32.sub_eq_add_neg]
      rw [nI_1] at e3
      subst e2' e3
      refine ih (k + 1) (h - 1) s μ (by omega) (by omega) hf (fun j hj => hs j (by omega)) (fun μ' f g => ?_)
      have hk2 := hK μ' f
      unfold frS at hk2
      rw [if_pos ⟨hp, y⟩] at hk2
      exact hk2 g
theorem R_free (hW : QW n S D tn T K M) (hR : QR μ n S D tn tb F T K M) (h : ∀ μ', Fr (fun c _ => c = 130) μ μ' → (∀ j, j < (frT T).1 → μ' 130 j = nI ((frT T).2 j)) → KI (nI (frT T).1) μ') : zcI (d + 1) mX9_tellLeft [.ref 106] μ KI X := by
  obtain ⟨c4, cx⟩ := hR.2.2.2.1.2.2.2.1
  refine cX9_tellLeft_ ⟨T.2.2.2.1.1 + 1, ?_⟩
  exact L_freeR hW.tw.2.1 c4 (fun j hj => ⟨cx j hj, (hW.q j hj).1⟩) T.2.2.2.1.1 0 0 (fun _ => 0) μ (by omega) (by omega) Fr.rf (fun j hj => absurd hj (by omega)) h
theorem frT_b (hW : QW n S D tn T K M) : (frT T).1 ≤ 40 ∧ ∀ j, j < (frT T).1 → (frT T).2 j < 10 := by
  have := frS_b (fun j hj => (hW.q j hj).1) T.2.2.2.1.1 0 0 (fun _ => 0) (by omega) (by omega) (fun j hj => absurd hj (by omega))
  have h40 := hW.tw.2.1
  refine ⟨?_, this.2⟩
  show (frS T.2.2.2.1.2 T.2.2.2.1.1 0 0 (fun _ => 0)).1 ≤ 40
  omega
abbrev vFr (T : zT) (x : Int32) : Prop := -1 ≤ x.toInt ∧ x.toInt < (frT T).1
def sFre (T : zT) (x : Int32) : Int32 := if x = -1 then nI (frT T).1 else nI (enX ((frT T).2 x.toInt.toNat))
theorem m1_i : (-1 : Int32).toInt = -1 := by decide
theorem C_freed {x : Int32} (hW : QW n S D tn T K M) (hC : QC μ n S D tn tb F T K M) (h0 : ¬ vFr T x → ∀ m, Fr zScC μ m → X 0 m) (h1 : vFr T x → ∀ m, Fr zScC μ m → KI (sFre T x) m) : zcI (d + 2) mX8_freed [.ref 0, .int x] μ KI X := by
  obtain ⟨b1, b2⟩ := frT_b hW
  refine cX8_freed_ (C_free hW hC (fun m f g => ⟨fun q => ?_, fun q => ?_⟩))
  · have hh := h1 (by unfold vFr; rw [q, m1_i]; omega) m f
    unfold sFre at hh
    rw [if_pos q] at hh; exact hh
  · have q' := q
    rw [i_eq, m1_i] at q'
    rw [i_lt, i_0, i_lt, n_i (by omega)]
    refine ⟨fun z => h0 (by unfold vFr; omega) m f, fun z => ⟨fun z2 => ?_, fun z2 => h0 (by unfold vFr; omega) m f⟩⟩
    have hh := h1 (by unfold vFr; omega) m f
    unfold sFre at hh
    rw [if_neg q] at hh
    obtain ⟨k, hk, e⟩ := vWh.get (m := 40) (w := x) (by unfold vWh; omega)
    subst e
    rw [n_i (by omega)] at hh z2
    rw [tN_nI (by omega), g k (by omega)]
    exact ⟨vin (by omega), hh⟩
theorem R_freed {x : Int32} (hW : QW n S D tn T K M) (hR : QR μ n S D tn tb F T K M) (h0 : ¬ vFr T x → ∀ m, Fr zScR μ m → m 106 3 = 1 → KI 0 m) (h1 : vFr T x → ∀ m, Fr zScR μ m → m 106 3 = 0 → KI (sFre T x) m) : zcI (d + 2) mX9_freed [.ref 106, .int x] μ KI X := by
  obtain ⟨b1, b2⟩ := frT_b hW
  refine cX9_freed_ (fun m1 e1 => ?_)
  have f1 : Fr zScR μ m1 := by rw [e1]; exact code_q
  have c1 : m1 106 3 = 0 := by rw [e1, zw_s]
  refine R_free hW (hR.q f1) (fun m f g => ?_)
  have fm : Fr zScR μ m := f1.tr (f.mono fun c j q => by unfold zScR; omega)
  have cm : m 106 3 = 0 := by rw [f _ _ (by omega), c1]
  refine R_isIn (A := -1) (B := (frT T).1 - 1) (by decide) ?_ (b2i_go (fun q => R_fail (fun m' e => h0 (fun z => q ⟨z.1, by have := z.2; omega⟩) m' (fm.tr (by rw [e]; exact code_q)) (by rw [e, zw_s]))) (fun q => ?_))
  · rw [Int32.toInt_toInt64, i_sub (by rw [n_i (by omega), i_1]; omega) (by rw [n_i (by omega), i_1]; omega), n_i (by omega), i_1]
  · have hv : vFr T x := by unfold vFr; omega
    have hh := h1 hv m fm cm
    unfold sFre at hh
    refine ⟨fun z => ?_, fun z => ?_⟩
    · rw [if_pos z] at hh; exact hh
    · rw [if_neg z] at hh
      rw [i_eq, m1_i] at z
      obtain ⟨k, hk, e⟩ := vWh.get (m := 40) (w := x) (by unfold vWh; omega)
      subst e
      rw [n_i (by omega)] at hh q
      rw [tN_nI (by omega), g k (by omega), dec_t ⟨(frT T).2 k, b2 k (by omega)⟩]
      exact ⟨vin (by omega), vin (by omega), hh⟩
theorem P_freed {x1 : Int32} (h : QS μ n S D tn tb F T K M) : PI (d + 2) mX8_freed mX9_freed [.ref 0, .int x1] [.ref 106, .int x1] c10 μ := by
  intro KI X hK hX
  refine C_freed h.1 h.2.1 (fun q m1 f1 => hX _ _ (zScC_c f1) (fun m2 g => R_freed h.1 (h.2.2.r (zScC_c f1) g) (fun _ m f e => ⟨e, h.q f1 g f⟩) (fun a => absurd a q)) (by decide))
    (fun a m1 f1 => hK _ _ (zScC_c f1) (fun m2 g => R_freed h.1 (h.2.2.r (zScC_c f1) g) (fun q => absurd a q) (fun _ m f e => ⟨e, rfl, h.q f1 g f⟩)))
end Free
