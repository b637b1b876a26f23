/-! the least winching: the class's -/
def Gm (μ : zMem) : zG := (μ 93, μ 94, μ 95, μ 97)
def dsM (L : Bool) (μ : zMem) (s1 s2 : Nat) : Prop := if L = true then (¬ (μ 95 s2 - μ 95 s1 < 2) ∧ ov (Gm μ) s1 s2 0) else kn (Gm μ) s1 s2
theorem dsM_go {L : Bool} {μ μ' : zMem} {s1 s2 : Nat} (e : ∀ c j, 93 ≤ c → c ≤ 97 → μ' c j = μ c j) : dsM L μ' s1 s2 = dsM L μ s1 s2 := by
  have e3 : μ' 93 = μ 93 := funext fun j => e 93 j (by omega) (by omega)
  have e4 : μ' 94 = μ 94 := funext fun j => e 94 j (by omega) (by omega)
  have e5 : μ' 95 = μ 95 := funext fun j => e 95 j (by omega) (by omega)
  have e7 : μ' 97 = μ 97 := funext fun j => e 97 j (by omega) (by omega)
  unfold dsM Gm
  rw [e3, e4, e5, e7]
def mkR (μ : zMem) (P : Nat → Nat → Nat → Prop) : Prop := ∀ s1 s2, s1 < 36 → s2 < 36 → ∃ m, m < 2 ^ 24 ∧ μ 99 (36 * s1 + s2) = nI m ∧ ∀ b, m.testBit b = true ↔ P b s1 s2
theorem mkR.c {μ : zMem} {P Q : Nat → Nat → Nat → Prop} (h : mkR μ P) (e : ∀ b s1 s2, s1 < 36 → s2 < 36 → (P b s1 s2 ↔ Q b s1 s2)) : mkR μ Q := by
  intro s1 s2 h1 h2
  obtain ⟨m, m1, m2, m3⟩ := h s1 s2 h1 h2
  exact ⟨m, m1, m2, fun b => (m3 b).trans (e b s1 s2 h1 h2)⟩
theorem mkR.go {μ μ' : zMem} {P : Nat → Nat → Nat → Prop} (h : mkR μ P) (e : ∀ j, μ' 99 j = μ 99 j) : mkR μ' P := by
  intro s1 s2 h1 h2
  obtain ⟨m, m1, m2, m3⟩ := h s1 s2 h1 h2
  exact ⟨m, m1, by rw [e]; exact m2, m3⟩
def zMk (c _j : Nat) : Prop := c = 99
section LeastC
variable {d : Nat} {μ : zMem} {KI : Int32 → zMem → Prop} {KV : zMem → Prop} {X : Nat → zMem → Prop} {n : Nat} {S : zSky} {a H q : Nat} {L : Bool} {lim : Nat} {I0 I : zI}
theorem gAt_m {s : Nat} : gAt μ (Gm μ) s := ⟨rfl, rfl, rfl, rfl⟩
theorem C_isShM {x y : Nat} (ha : x < 36) (hb : y < 36) (h : KI (b2i (¬ (μ 95 y - μ 95 x < 2) ∧ ov (Gm μ) x y 0)) μ) : zcI (d + 2) mX0_isShaded [.ref 92, .int (nI x), .int (nI y)] μ KI X := by
  refine cX0_isShaded_ zl92 ?_
  unfold pX0_isShaded
  rw [tN_nI (by omega), tN_nI (by omega)]
  refine ⟨vin hb, vin ha, ?_⟩
  show (μ 95 y - μ 95 x < 2 → _) ∧ (¬ μ 95 y - μ 95 x < 2 → _)
  refine ⟨fun z => ?_, fun z => C_areOver rfl rfl ha hb gAt_m gAt_m ?_⟩
  · rw [b2i_f (fun y => y.1 z)] at h; exact h
  · by_cases q2 : ov (Gm μ) x y 0
    · rw [b2i_t ⟨z, q2⟩] at h
      rw [b2i_t q2, if_neg (by decide)]; exact h
    · rw [b2i_f (fun y => q2 y.2)] at h
      rw [b2i_f q2, if_pos rfl]; exact h
theorem L_clrM {μ0 : zMem} : ∀ (m i : Nat) (μ : zMem), i + m = 1296 → Fr zMk μ0 μ → (∀ k, k < i → μ 99 k = 0) → (∀ μ', Fr zMk μ0 μ' → (∀ k, k < 1296 → μ' 99 k = 0) → KV μ') → pX7_clearMarks_2 (m + 1) d 98 (nI i) μ KV X := by
  intro m
  induction m with
  | zero =>
    intro i μ hi hf hs hK
    exact ⟨fun _ => hK μ hf (fun k hk => hs k (by omega)), fun z => absurd ((n_le (a := 1296) (by omega) (by omega)).mpr (by omega)) z⟩
  | succ m ih =>
    intro i μ hi hf hs hK
    refine ⟨fun z => absurd ((n_le (a := 1296) (by omega) (by omega)).mp z) (by omega), fun _ => ⟨vin (by omega), fun m1 e1 v2 e2 => ?_⟩⟩
    rw [tN_nI (by omega)] at e1
    have e1' : m1 = zw μ 99 i 0 := e1
    rw [e2, nI_1]
    refine ih (i + 1) m1 (by omega) (hf.tr (by rw [e1']; exact Fr.w rfl)) (fun k hk => ?_) hK
    rw [e1']
    by_cases y : k = i
    · subst y; rw [zw_s]
    · rw [zw_j y]; exact hs k (by omega)
theorem C_clearMarks (h : ∀ μ', Fr zMk μ μ' → mkR μ' (fun _ _ _ => False) → KV μ') : zcV (d + 1) mX7_clearMarks [.ref 98] μ KV X := by
  refine cX7_clearMarks_ (by decide +kernel) ⟨1296 + 1, L_clrM 1296 0 μ (by omega) Fr.rf (fun k hk => by omega) (fun μ' f s => h μ' f (fun s1 s2 h1 h2 => ⟨0, by omega, s _ (by omega), fun b => ?_⟩))⟩
  rw [Nat.zero_testBit]
  exact ⟨fun y => (by cases y), fun y => y.elim⟩
def mkP (P : Nat → Nat → Nat → Prop) (L : Bool) (μ0 : zMem) (j e one t : Nat) (b s1 s2 : Nat) : Prop := P b s1 s2 ∨ (b = j ∧ (s1 < one ∨ (s1 = one ∧ s2 < t)) ∧ s2 < e ∧ ¬ s1 / 9 = s2 / 9 ∧ dsM L μ0 s1 s2)
theorem mk_w {P : Nat → Nat → Nat → Prop} {μ0 : zMem} {j e one t : Nat} (hj : j < 24) (ho : one < 36) (ht : t < 36) (hte : t < e) (h : mkR μ (mkP P L μ0 j e one t)) (h9 : ¬ one / 9 = t / 9) (hd : dsM L μ0 one t) : vp_in (nI (36 * one + t)) 1296 ∧ mkR (zw μ 99 (36 * one + t) (μ 99 (36 * one + t) ||| nI (2 ^ j))) (mkP P L μ0 j e one (t + 1)) := by
  refine ⟨vin (by omega), fun s1 s2 h1 h2 => ?_⟩
  obtain ⟨m, m1, m2, m3⟩ := h s1 s2 h1 h2
  by_cases q : s1 = one ∧ s2 = t
  · obtain ⟨rfl, rfl⟩ := q
    have l : 2 ^ j < 2 ^ 24 := Nat.pow_lt_pow_right (by omega) hj
    refine ⟨m ||| 2 ^ j, Nat.or_lt_two_pow m1 l, by rw [zw_s, m2, zo_or], fun b => ?_⟩
    rw [Nat.testBit_or, Nat.testBit_two_pow, Bool.or_eq_true, m3 b, decide_eq_true_iff]
    unfold mkP
    constructor
    · rintro (y | y)
      · rcases y with y | ⟨y1, y2, y3, y4, y5⟩
        · exact Or.inl y
        · exact Or.inr ⟨y1, by omega, y3, y4, y5⟩
      · exact Or.inr ⟨y.symm, Or.inr ⟨rfl, by omega⟩, hte, h9, hd⟩
    · rintro (y | ⟨y1, y2, y3, y4, y5⟩)
      · exact Or.inl (Or.inl y)
      · exact Or.inr y1.symm
  · refine ⟨m, m1, by rw [zw_j (by omega)]; exact m2, fun b => ?_⟩
    rw [m3 b]
    unfold mkP
    constructor
    · rintro (y | ⟨y1, y2, y3, y4, y5⟩)
      · exact Or.inl y
      · exact Or.inr ⟨y1, by omega, y3, y4, y5⟩
    · rintro (y | ⟨y1, y2, y3, y4, y5⟩)
      · exact Or.inl y
      · exact Or.inr ⟨y1, by omega, y3, y4, y5⟩
theorem n36 (x y : Nat) : nI x * 36 + nI y = nI (36 * x + y) := by
  rw [show (36 : Int32) = nI 36 from rfl, pk_mul, nI_add, Nat.mul_comm]
theorem L_mk23 {P : Nat → Nat → Nat → Prop} {μ0 : zMem} {j e one : Nat} {C : Int32 → Int32 → Int32 → Int32 → zMem → Prop} (hj : j < 24) (he : e ≤ 36) (ho : one < e) : ∀ (m t : Nat) (μ : zMem), t + m = e → Fr zMk μ0 μ → mkR μ (mkP P L μ0 j e one t) →
    (∀ μ', Fr zMk μ0 μ' → mkR μ' (mkP P L μ0 j e one e) → C (b1 L) (nI j) (nI e) (nI (one + 1)) μ') → pX7_markHour_23 (m + 1) (d + 2) 98 92 (b1 L) (nI j) (nI e) (nI one) (nI t) μ KV X C := by
  intro m
  induction m with
  | zero =>
    intro t μ ht hf hm hK
    have : t = e := by omega
    subst this
    exact ⟨fun _ v1 e1 => by rw [e1, nI_1]; exact hK μ hf hm, fun z => absurd ((n_le (by omega) (by omega)).mpr (by omega)) z⟩
  | succ m ih =>
    intro t μ ht hf hm hK
    have dsE : dsM L μ one t = dsM L μ0 one t := dsM_go fun c k h1 h2 => hf _ _ (by unfold zMk; omega)
    have skip : ¬ (¬ one / 9 = t / 9 ∧ dsM L μ0 one t) → ∀ x, x = nI t + 1 → pX7_markHour_23 (m + 1) (d + 2) 98 92 (b1 L) (nI j) (nI e) (nI one) x μ KV X C := by
      intro z x ex
      rw [ex, nI_1]
      refine ih (t + 1) μ (by omega) hf (hm.c fun b s1 s2 h1 h2 => ?_) hK
      unfold mkP
      constructor
      · rintro (y | ⟨y1, y2, y3, y4, y5⟩)
        · exact Or.inl y
        · exact Or.inr ⟨y1, by omega, y3, y4, y5⟩
      · rintro (y | ⟨y1, y2, y3, y4, y5⟩)
        · exact Or.inl y
        · refine Or.inr ⟨y1, ?_, y3, y4, y5⟩
          by_cases q : s1 = one ∧ s2 = t
          · exact absurd ⟨by rw [← q.1, ← q.2]; exact y4, by rw [← q.1, ← q.2]; exact y5⟩ z
          · omega
    have fire : ¬ one / 9 = t / 9 → dsM L μ0 one t → pX7_markHour_84 (d + 2) 98 92 (b1 L) (nI j) (nI e) (nI one) (nI t) μ KV X C (fun z0 z1 z2 z3 z4 m9 => pX7_markHour_23 (m + 1) (d + 2) 98 92 z0 z1 z2 z3 z4 m9 KV X C) := by
      intro z1 z2
      refine cX7_markOf_ ?_
      unfold pX7_markOf
      rw [n36]
      show vp_in (nI (36 * one + t)) 1296 ∧ vp_in (nI (36 * one + t)) 1296 ∧ ∀ m3 : zMem, m3 = zw μ 99 (nI (36 * one + t)).toNatClampNeg (μ 99 (nI (36 * one + t)).toNatClampNeg ||| 1 <<< (nI j &&& 31)) → ∀ v4 : Int32, v4 = nI t + 1 → pX7_markHour_23 (m + 1) (d + 2) 98 92 (b1 L) (nI j) (nI e) (nI one) v4 m3 KV X C
      rw [tN_nI (by omega), zo_shl hj]
      obtain ⟨w1, w2⟩ := mk_w hj (by omega) (by omega) (by omega) hm z1 z2
      refine ⟨w1, w1, fun m3 e3 v4 e4 => ?_⟩
      have e3' : m3 = zw μ 99 (36 * one + t) (μ 99 (36 * one + t) ||| nI (2 ^ j)) := e3
      rw [e4, nI_1]
      exact ih (t + 1) m3 (by omega) (hf.tr (by rw [e3']; exact Fr.w rfl)) (by rw [e3']; exact w2) hK
    refine ⟨fun z => absurd z (by rw [n_le (by omega) (by omega)]; omega), fun _ v2 e2 => ?_⟩
    rw [show (9 : Int32) = nI 9 from rfl, pk_div (by omega) (by omega) (by omega), pk_div (by omega) (by omega) (by omega)] at e2
    by_cases h9 : one / 9 = t / 9
    · rw [if_pos (by rw [h9])] at e2
      exact ⟨fun _ x ex => skip (fun y => y.1 h9) x ex, fun z => absurd e2 z⟩
    · rw [if_neg (fun y => h9 ((n_eq (by omega) (by omega)).mp y))] at e2
      refine ⟨fun z => absurd (z.symm.trans e2) (by decide), fun _ => ⟨fun z => ?_, fun z => ?_⟩⟩
      · cases L with
        | true => exact absurd z (by decide)
        | false =>
          refine C_knocks rfl rfl (by omega) (by omega) gAt_m gAt_m (b2i_go (fun y x ex => skip (fun w => y ?_) x ex) (fun y => fire h9 ?_))
          · have := w.2; rw [← dsE] at this; exact this
          · rw [← dsE]; exact y
      · cases L with
        | false => exact absurd rfl z
        | true =>
          refine C_isShM (by omega) (by omega) (b2i_go (fun y x ex => skip (fun w => y ?_) x ex) (fun y => fire h9 ?_))
          · have := w.2; rw [← dsE] at this; exact this
          · rw [← dsE]; exact y
theorem L_mk13 {P : Nat → Nat → Nat → Prop} {μ0 : zMem} {j e : Nat} (hj : j < 24) (he : e ≤ 36) : ∀ (m one : Nat) (μ : zMem), one + m = e → Fr zMk μ0 μ → mkR μ (mkP P L μ0 j e one 0) →
    (∀ μ', Fr zMk μ0 μ' → mkR μ' (mkP P L μ0 j e e 0) → KV μ') → pX7_markHour_13 (m + 1) (d + 2) 98 92 (b1 L) (nI j) (nI e) (nI one) μ KV X := by
  intro m
  induction m with
  | zero =>
    intro one μ ho hf hm hK
    have : one = e := by omega
    subst this
    exact ⟨fun _ => hK μ hf hm, fun z => absurd ((n_le (by omega) (by omega)).mpr (by omega)) z⟩
  | succ m ih =>
    intro one μ ho hf hm hK
    refine ⟨fun z => absurd z (by rw [n_le (by omega) (by omega)]; omega), fun _ => ⟨e + 1, ?_⟩⟩
    refine L_mk23 hj he (by omega) e 0 μ (by omega) hf hm (fun μ' f' m' => ih (one + 1) μ' (by omega) f' (m'.c fun b s1 s2 h1 h2 => ?_) hK)
    unfold mkP
    constructor
    · rintro (y | ⟨y1, y2, y3, y4, y5⟩)
      · exact Or.inl y
      · exact Or.inr ⟨y1, by omega, y3, y4, y5⟩
    · rintro (y | ⟨y1, y2, y3, y4, y5⟩)
      · exact Or.inl y
      · exact Or.inr ⟨y1, by omega, y3, y4, y5⟩
theorem C_markHour {P : Nat → Nat → Nat → Prop} {j : Nat} {x : Int32} (hj : j < 24) (hn : n ≤ 4) (hx : x = nI j) (hm : mkR μ P) (h : ∀ μ', Fr zMk μ μ' → mkR μ' (fun b s1 s2 => P b s1 s2 ∨ (b = j ∧ s1 < 9 * n ∧ s2 < 9 * n ∧ ¬ s1 / 9 = s2 / 9 ∧ dsM L μ s1 s2)) → KV μ') : zcV (d + 3) mX7_markHour [.ref 98, .ref 92, .int (nI n), .int (b1 L), .int x] μ KV X := by
  subst hx
  refine cX7_markHour_ (by decide +kernel) zl92 (fun v1 e1 => ?_)
  have e1' : v1 = nI (9 * n) := by
    have z : zmin (nI n) 4 = nI n := by
      rw [i_eq, zmin_i, n_i (by omega), show (4 : Int32).toInt = 4 from by decide]; omega
    rw [e1, z, show (9 : Int32) = nI 9 from rfl, pk_mul, Nat.mul_comm]
  rw [e1']
  refine ⟨9 * n + 1, L_mk13 (P := P) (L := L) hj (by omega) (9 * n) 0 μ (by omega) Fr.rf (hm.c fun b s1 s2 h1 h2 => ?_) (fun μ' f' m' => h μ' f' (m'.c fun b s1 s2 h1 h2 => ?_))⟩
  · unfold mkP
    constructor
    · exact Or.inl
    · rintro (y | ⟨y1, y2, y3, y4, y5⟩)
      · exact y
      · omega
  · unfold mkP
    constructor
    · rintro (y | ⟨y1, y2, y3, y4, y5⟩)
      · exact Or.inl y
      · exact Or.inr ⟨y1, by omega, y3, y4, y5⟩
    · rintro (y | ⟨y1, y2, y3, y4, y5⟩)
      · exact Or.inl y
      · exact Or.inr ⟨y1, by omega, y3, y4, y5⟩
/-! a row taken -/
def slN (q i y : Nat) : Nat := 9 * i + (4 + y - q)
def zTk (c _j : Nat) : Prop := c = 100 ∨ c = 101
theorem L_take {r1 w r : Nat} {μ0 : zMem} (hw : w = 2 * q + 1) (hq : q ≤ 4) (hn : n ≤ 4) (hr : zsh r1 = .inr 1) (hI : IsC μ0 r1 n I0) (hR : ∀ i, i < n → 1 ≤ (I0 i 3).toInt ∧ (I0 i 3).toInt ≤ 60) (hr2 : r < 10000)
    (h0 : ∀ i, i < n → ¬ okD q (dg w n r i) (rpN I0 i) → ∀ μ', Fr zTk μ0 μ' → KI (-1) μ') (h1 : (∀ i, i < n → okD q (dg w n r i) (rpN I0 i)) → ∀ μ', Fr zTk μ0 μ' → (∀ i, i < n → μ' 100 i = nI (slN q i (dg w n r i)) ∧ μ' 101 i = I0 i 3 + yd q (dg w n r i)) → KI (nI (smN w q n r n)) μ') :
    ∀ (t : Nat) (x7 : Int32) (μ : zMem), t ≤ n → x7 = nI t - 1 → Fr zTk μ0 μ → (∀ i, t ≤ i → i < n → okD q (dg w n r i) (rpN I0 i) ∧ μ 100 i = nI (slN q i (dg w n r i)) ∧ μ 101 i = I0 i 3 + yd q (dg w n r i)) → pX7_takeRow_25 (t + 1) (d + 1) 98 r1 (nI q) (nI w) (nI (r / w ^ (n - t))) (nI (smN w q n r n - smN w q n r t)) x7 μ KI X := by
  have rr := isl_rng hr
  intro t
  induction t with
  | zero =>
    intro x7 μ ht hx hf hs
    have ex : x7 = -1 := hx
    refine ⟨fun _ => ?_, fun z => absurd (by rw [ex]; decide) z⟩
    show KI (nI (smN w q n r n - 0)) μ
    exact h1 (fun i hi => (hs i (by omega) hi).1) μ hf (fun i hi => (hs i (by omega) hi).2)
  | succ t ih =>
    intro x7 μ ht hx hf hs
    have ex : x7 = nI t := by rw [hx, n_m1 (by omega)]; rfl
    subst ex
    have edg : r / w ^ (n - (t + 1)) % w = dg w n r t := by
      unfold dg
      rw [show n - (t + 1) = n - 1 - t by omega]
    have l1 : r / w ^ (n - (t + 1)) ≤ r := Nat.div_le_self _ _
    have l2 : dg w n r t < w := dg_lt (by omega)
    have y9 := yd_i (q := q) (y := dg w n r t) (by omega) (by omega)
    have hRi := hR t (by omega)
    have eR : I0 t 3 = nI (rpN I0 t) := by
      unfold rpN
      rw [i_eq, n_i (by omega)]; omega
    have rR : rpN I0 t ≤ 60 := by unfold rpN; omega
    have ok := rp_ok (q := q) (y := dg w n r t) (R := rpN I0 t) (x := I0 t 3) hq (by omega) eR rR
    refine ⟨fun z => absurd z (nI_pos (by omega)), fun _ => ⟨fun z => ?_, fun v1 e1 => ⟨fun z => ?_, vin (by omega), vin (by omega), fun m2 e2 => ⟨vin (by omega), ?_⟩⟩⟩⟩
    · have := (n_eq (b := 0) (by omega) (by omega)).mp z; omega
    · have := (n_eq (b := 0) (by omega) (by omega)).mp z; omega
    rw [pk_rem (by omega) (by omega) (by omega), edg] at e1
    have e1' : v1 = yd q (dg w n r t) := e1
    subst e1'
    have hI1 : μ (r1 + 4) t = I0 t 3 := by
      rw [hf _ _ (by unfold zTk; omega)]
      exact hI.lo (k := 3) (by omega) (by omega)
    rw [tN_nI (by omega), hI1] at e2
    have e2' : m2 = zw μ 101 t (I0 t 3 + yd q (dg w n r t)) := e2
    have f2 : Fr zTk μ0 m2 := hf.tr (by rw [e2']; exact Fr.w (Or.inr rfl))
    have v2 : m2 (98 + 3) (nI t).toNatClampNeg = I0 t 3 + yd q (dg w n r t) := by
      rw [tN_nI (by omega), e2']; exact zw_s
    rw [v2]
    refine ⟨fun z => ?_, fun z => ⟨vin (by omega), fun z2 => ?_, fun z2 => ?_⟩⟩
    · exact h0 t (by omega) (fun y => by have := ok.mpr y; rw [i_lt, i_1] at z; omega) m2 f2
    · have okt : okD q (dg w n r t) (rpN I0 t) := ok.mp (by
        rw [i_lt, i_1] at z; rw [i_le, show (60 : Int32).toInt = 60 from by decide] at z2; omega)
      refine cX7_slotOf_ ?_
      unfold pX7_slotOf
      rw [yd_slot hq (by omega) (by omega) (by omega)]
      refine ⟨vin (by omega), fun m5 e5 v6 e6 => ?_⟩
      have e5' : m5 = zw m2 100 t (nI (slN q t (dg w n r t))) := by rw [e5, tN_nI (by omega)]; rfl
      rw [pk_div (by omega) (by omega) (by omega), Nat.div_div_eq_div_mul, yd_abs (by omega) (by omega), nI_add]
      have ep : w ^ (n - (t + 1)) * w = w ^ (n - t) := by
        rw [← Nat.pow_succ, show (n - (t + 1)).succ = n - t by omega]
      have mo := smN_mono (w := w) (q := q) (n := n) (r := r) (k := t + 1) (n - (t + 1))
      rw [show t + 1 + (n - (t + 1)) = n by omega] at mo
      have st : smN w q n r (t + 1) = smN w q n r t + az q (dg w n r t) := rfl
      rw [ep, show smN w q n r n - smN w q n r (t + 1) + az q (dg w n r t) = smN w q n r n - smN w q n r t by omega]
      refine ih v6 m5 (by omega) (by rw [e6, n_p]) (f2.tr (by rw [e5']; exact Fr.w (Or.inl rfl))) (fun i hi1 hi2 => ?_)
      by_cases y : i = t
      · subst y
        exact ⟨okt, by rw [e5', zw_s], by rw [e5', zw_c (by omega), e2', zw_s]⟩
      · obtain ⟨s1, s2, s3⟩ := hs i (by omega) hi2
        exact ⟨s1, by rw [e5', zw_j y, e2', zw_c (by omega)]; exact s2, by rw [e5', zw_c (by omega), e2', zw_j y]; exact s3⟩
    · exact h0 t (by omega) (fun y => by have := ok.mpr y; rw [i_le, show (60 : Int32).toInt = 60 from by decide] at z2; omega) m2 f2
theorem n2q (_hw : (2 * q + 1) < 1000) : 2 * nI q + 1 = nI (2 * q + 1) := by
  rw [show (2 : Int32) = nI 2 from rfl, pk_mul, nI_1]
theorem C_takeRow {r1 r : Nat} (hq : q ≤ 4) (hn : n ≤ 4) (hr : zsh r1 = .inr 1) (hI : IsC μ r1 n I0) (hR : ∀ i, i < n → 1 ≤ (I0 i 3).toInt ∧ (I0 i 3).toInt ≤ 60) (hr2 : r < 10000) (hr3 : r < (2 * q + 1) ^ n)
    (h0 : ∀ i, i < n → ¬ okD q (dg (2 * q + 1) n r i) (rpN I0 i) → ∀ μ', Fr zTk μ μ' → KI (-1) μ') (h1 : (∀ i, i < n → okD q (dg (2 * q + 1) n r i) (rpN I0 i)) → ∀ μ', Fr zTk μ μ' → (∀ i, i < n → μ' 100 i = nI (slN q i (dg (2 * q + 1) n r i)) ∧ μ' 101 i = I0 i 3 + yd q (dg (2 * q + 1) n r i)) → KI (nI (smN (2 * q + 1) q n r n)) μ') : zcI (d + 2) mX7_takeRow [.ref 98, .ref r1, .int (nI q), .int (nI r)] μ KI X := by
  refine cX7_takeRow_ (by decide +kernel) hr (fun v1 e1 => ⟨n + 1, ?_⟩)
  rw [n2q (by omega)]
  have e1' : v1 = nI n - 1 := by
    rw [e1, hI.1]
    congr 1
    rw [i_eq, zmin_i, n_i (by omega), show (4 : Int32).toInt = 4 from by decide]; omega
  have := L_take (KI := KI) (X := X) (d := d) (r1 := r1) (w := 2 * q + 1) (r := r) rfl hq hn hr hI hR hr2 h0 h1 n v1 μ (Nat.le_refl _) e1' Fr.rf (fun i hi1 hi2 => by omega)
  rw [Nat.sub_self, Nat.pow_zero, Nat.div_one, Nat.sub_self] at this
  exact this
/-! whether it is quiet -/
theorem L_q21 {P : Nat → Nat → Nat → Prop} {σ : Nat → Nat} {one lim : Nat} {C : Int32 → Int32 → Int32 → zMem → Prop} (hn : n ≤ 4) (ho : one < n) (hs : ∀ i, i < n → μ 100 i = nI (σ i) ∧ σ i < 36) (hm : mkR μ P) (hl : lim < 1000)
    (hK : ∀ A : Nat, (∀ b, A.testBit b = true ↔ ∃ k, k < n ∧ P b (σ one) (σ k)) → (cntB (fun b => A.testBit b) 32 ≤ lim → C (nI lim) (nI n) (nI (one + 1)) μ) ∧ (¬ cntB (fun b => A.testBit b) 32 ≤ lim → KI 0 μ)) :
    ∀ (m t A : Nat), t + m = n → A < 2 ^ 24 → (∀ b, A.testBit b = true ↔ ∃ k, k < t ∧ P b (σ one) (σ k)) → pX7_isQuiet_21 (m + 1) (d + 1) 98 (nI lim) (nI n) (nI one) (nI A) (nI t) μ KI X C := by
  intro m
  induction m with
  | zero =>
    intro t A ht hA hb
    have : t = n := by omega
    subst this
    obtain ⟨k1, k2⟩ := hK A hb
    refine ⟨fun _ => C_bitCount (by omega) ?_, fun z => absurd ((n_le (by omega) (by omega)).mpr (by omega)) z⟩
    have l := cntB_le (f := fun b => A.testBit b) 32
    rw [n_le (by omega) (by omega)]
    exact ⟨fun z v3 e3 => by rw [e3, nI_1]; exact k1 z, k2⟩
  | succ m ih =>
    intro t A ht hA hb
    obtain ⟨s1, s2⟩ := hs one ho
    obtain ⟨s3, s4⟩ := hs t (by omega)
    have s1' : μ (98 + 2) one = nI (σ one) := s1
    have s3' : μ (98 + 2) t = nI (σ t) := s3
    refine ⟨fun z => absurd z (by rw [n_le (by omega) (by omega)]; omega), fun _ => ⟨vin (by omega), vin (by omega), ?_⟩⟩
    rw [tN_nI (by omega), tN_nI (by omega), s1', s3']
    refine cX7_markOf_ ?_
    unfold pX7_markOf
    obtain ⟨B, b1, b2, b3⟩ := hm (σ one) (σ t) s2 s4
    rw [n36]
    show vp_in (nI (36 * σ one + σ t)) 1296 ∧ ∀ v6 : Int32, v6 = nI A ||| μ 99 (nI (36 * σ one + σ t)).toNatClampNeg → ∀ v7 : Int32, v7 = nI t + 1 → pX7_isQuiet_21 (m + 1) (d + 1) 98 (nI lim) (nI n) (nI one) v6 v7 μ KI X C
    rw [tN_nI (by omega), b2, zo_or]
    refine ⟨vin (by omega), fun v6 e6 v7 e7 => ?_⟩
    rw [e6, e7, nI_1]
    refine ih (t + 1) (A ||| B) (by omega) (Nat.or_lt_two_pow hA b1) (fun b => ?_)
    rw [Nat.testBit_or, Bool.or_eq_true, hb b, b3 b]
    constructor
    · rintro (⟨k, k1, k2⟩ | y)
      · exact ⟨k, by omega, k2⟩
      · exact ⟨t, by omega, y⟩
    · rintro ⟨k, k1, k2⟩
      by_cases y : k = t
      · subst y; exact Or.inr k2
      · exact Or.inl ⟨k, by omega, k2⟩
theorem L_q9 {P : Nat → Nat → Nat → Prop} {σ : Nat → Nat} {lim : Nat} {f : Nat → Nat} (hn : n ≤ 4) (hs : ∀ i, i < n → μ 100 i = nI (σ i) ∧ σ i < 36) (hm : mkR μ P) (hl : lim < 1000) (hf : ∀ i, i < n → ∀ A : Nat, (∀ b, A.testBit b = true ↔ ∃ k, k < n ∧ P b (σ i) (σ k)) → cntB (fun b => A.testBit b) 32 = f i)
    (h0 : ∀ i, i < n → ¬ f i ≤ lim → KI 0 μ) (h1 : (∀ i, i < n → f i ≤ lim) → KI 1 μ) : ∀ (m i : Nat), i + m = n → (∀ k, k < i → f k ≤ lim) → pX7_isQuiet_9 (m + 1) (d + 1) 98 (nI lim) (nI n) (nI i) μ KI X := by
  intro m
  induction m with
  | zero =>
    intro i hi hle
    exact ⟨fun _ => h1 (fun k hk => hle k (by omega)), fun z => absurd ((n_le (by omega) (by omega)).mpr (by omega)) z⟩
  | succ m ih =>
    intro i hi hle
    refine ⟨fun z => absurd z (by rw [n_le (by omega) (by omega)]; omega), fun _ => ⟨n + 1, L_q21 hn (by omega) hs hm hl (fun A hA => ?_) n 0 0 (by omega) (by omega) (fun b => ?_)⟩⟩
    · rw [hf i (by omega) A hA]
      refine ⟨fun z => ih (i + 1) (by omega) (fun k hk => ?_), fun z => h0 i (by omega) z⟩
      by_cases y : k = i
      · rw [y]; exact z
      · exact hle k (by omega)
    · rw [Nat.zero_testBit]
      exact ⟨fun y => (by cases y), fun ⟨k, k1, _⟩ => by omega⟩
theorem C_isQuiet {P : Nat → Nat → Nat → Prop} {σ : Nat → Nat} {lim : Nat} {f : Nat → Nat} (hn : n ≤ 4) (hs : ∀ i, i < n → μ 100 i = nI (σ i) ∧ σ i < 36) (hm : mkR μ P) (hl : lim < 1000) (hf : ∀ i, i < n → ∀ A : Nat, (∀ b, A.testBit b = true ↔ ∃ k, k < n ∧ P b (σ i) (σ k)) → cntB (fun b => A.testBit b) 32 = f i)
    (h0 : ∀ i, i < n → ¬ f i ≤ lim → KI 0 μ) (h1 : (∀ i, i < n → f i ≤ lim) → KI 1 μ) : zcI (d + 2) mX7_isQuiet [.ref 98, .int (nI n), .int (nI lim)] μ KI X := by
  refine cX7_isQuiet_ (by decide +kernel) ⟨n + 1, ?_⟩
  have z : zmin (nI n) 4 = nI n := by
    rw [i_eq, zmin_i, n_i (by omega), show (4 : Int32).toInt = 4 from by decide]; omega
  rw [z]
  exact L_q9 hn hs hm hl hf h0 h1 n 0 (by omega) (fun k hk => by omega)
end LeastC
