section View
variable {d : Nat} {μ : zMem} {KI : Int32 → zMem → Prop} {KV : zMem → Prop} {X : Nat → zMem → Prop} {n : Nat} {S : zSky} {D : Nat → Int32} {tn : Nat} {tb : Nat → Int32} {F : Int32} {T T' : zT} {K : Option (Nat → Int32)} {M : Option zT}
/-! isles that are only tried: the class's trial, the reference's isles for a while -/
def isl (μ : zMem) (n : Nat) (I : zI) : Prop := ∀ i, i < n → ∀ k, k < 14 → μ 111 (14 * i + k) = I i k
def zTry (c j : Nat) : Prop := zScR c j ∨ c = 111
theorem QR.il (h : QR μ n S D tn tb F T K M) : isl μ n T.1 := h.2.2.2.1.1
theorem zTry_c {m1 m2 : zMem} (f : Fr zTell m1 m2) : Fr zTry m1 m2 := f.mono fun c j q => Or.inl (by unfold zTell at q; unfold zScR; omega)
theorem QR.back {μ' : zMem} (h : QR μ n S D tn tb F T K M) (f : Fr zTry μ μ') (i : isl μ' n T.1) : QR μ' n S D tn tb F T K M := by
  have e : ∀ c j, ¬ zScR c j → c ≠ 111 → μ' c j = μ c j := fun c j a b => f _ _ (by unfold zTry; intro z; rcases z with z | z; exact a z; exact b z)
  obtain ⟨t1, t2, ⟨t3, t4⟩, ⟨t5, t6⟩, t7, t8⟩ := h.2.2.2.1
  refine h.t (fun c j _ _ z y => e c j y (fun w => z (by unfold zLiv; omega))) ⟨i, fun k hk => ?_, ⟨?_, fun j hj i hi k hk => ?_⟩, ⟨?_, fun k hk => ?_⟩, ?_, fun k hk => ?_⟩
  · rw [e _ _ (by unfold zScR; omega) (by omega)]; exact t2 k hk
  · rw [e _ _ (by unfold zScR; omega) (by omega)]; exact t3
  · rw [e _ _ (by unfold zScR; omega) (by omega)]; exact t4 j hj i hi k hk
  · rw [e _ _ (by unfold zScR; omega) (by omega)]; exact t5
  · rw [e _ _ (by unfold zScR; omega) (by omega)]; exact t6 k hk
  · rw [e _ _ (by unfold zScR; omega) (by omega)]; exact t7
  · rw [e _ _ (by unfold zScR; omega) (by omega), e _ _ (by unfold zScR; omega) (by omega), e _ _ (by unfold zScR; omega) (by omega)]; exact t8 k hk
theorem zTry_r {m1 m2 : zMem} (f : Fr zTry m1 m2) : Fr zRef m1 m2 := f.mono fun c j q => by unfold zTry zScR at q; unfold zRef; omega
/-- what stays of the reference's state while isles are tried -/
theorem QR.sky {μ' : zMem} (h : QR μ n S D tn tb F T K M) (f : Fr zTry μ μ') : SkyR μ' S ∧ μ' 110 0 = nI n ∧ μ' 110 3 = D 3 := by
  have e : ∀ c j, ¬ zScR c j → c ≠ 111 → μ' c j = μ c j := fun c j a b => f _ _ (by unfold zTry; intro z; rcases z with z | z; exact a z; exact b z)
  exact ⟨h.1.2.1.go fun c j q1 q2 q3 => e _ _ (by unfold zScR; omega) q3, by rw [e _ _ (by unfold zScR; omega) (by omega)]; exact h.cn, by rw [e _ _ (by unfold zScR; omega) (by omega)]; exact h.1.2.2 3 (by omega) (by omega)⟩
theorem R_hourTry {I : zI} {hour g : Int32} {μ0 : zMem} (hW : QW n S D tn T K M) (hR : QR μ0 n S D tn tb F T K M) (f : Fr zTry μ0 μ) (hI : isl μ n I) (h : ∀ μ', Fr zTell μ μ' → (∀ i, i < n → gAr μ' (sG S I hour g) i) → KV μ') :
    zcV (d + 6) mX9_tellHour [.ref 106, .int hour, .int g] μ KV X := by
  obtain ⟨a, b, _⟩ := hR.sky f
  exact R_hour a hW.2.1 hW.1 ⟨b, fun i hi k hk => hI i hi k hk⟩ h
theorem isl.set {I : zI} {i k : Nat} {v : Int32} (h : isl μ n I) (hk : k < 14) : isl (zw μ 111 (14 * i + k) v) n (zset I i k v) := isl_set hk h
theorem isl.go {μ' : zMem} {I : zI} (h : isl μ n I) (e : ∀ j, μ' 111 j = μ 111 j) : isl μ' n I := fun i hi k hk => by rw [e]; exact h i hi k hk
theorem isl.c {I J : zI} (h : isl μ n I) (e : eqI n I J) : isl μ n J := fun i hi k hk => by rw [h i hi k hk]; exact e i hi k hk
theorem C_copyNow (hW : QW n S D tn T K M) (hC : QC μ n S D tn tb F T K M) (h : ∀ m, Fr zScC μ m → (∀ c j, ¬ (80 ≤ c ∧ c ≤ 91) → m c j = μ c j) → IsC m 80 n T.1 → KV m) : zcV (d + 1) mX1_copyFrom [.ref 80, .ref 47] μ KV X :=
  C_copyI (by decide +kernel) (by decide +kernel) (by omega) hW.1 hC.I (fun m f i => h m (f.mono fun c j q => by unfold zIsl at q; unfold zScC; omega) (fun c j q => f _ _ (by unfold zIsl; omega)) i)
theorem C_putTry {I : zI} {i : Nat} {hour g : Int32} {μ0 : zMem} (hW : QW n S D tn T K M) (hC : QC μ0 n S D tn tb F T K M) (f : Fr zScC μ0 μ) (hI : IsC μ 80 n I) (hi : i < n) (h : ∀ μ', Fr zScC μ μ' → Fr (zPut (zsk μ 0 4) i) μ μ' → AirS μ' S I i i hour g → KV μ') :
    zcV (d + 5) mX0_put [.ref 92, .ref (zsk μ 0 4), .ref 80, .int (nI i), .int (nI i), .int hour, .int g] μ KV X := by
  have hC1 := hC.q f
  have sr := sky_rng (zsk_sh μ 0 4)
  have n6 := hW.1
  refine C_put (zsk_sh μ 0 4) (by decide +kernel) hC1.1.1 hI.1 n6 rfl hi rfl (by omega) (fun μ' f' a => h μ' (f'.mono fun c j q => ?_) f' (a.c (hI.2 i hi)))
  unfold zPut at q; unfold zScC; omega
theorem C_blowTry {I : zI} {hour g : Int32} {μ0 : zMem} (hW : QW n S D tn T K M) (hC : QC μ0 n S D tn tb F T K M) (f : Fr zScC μ0 μ) (hI : IsC μ 80 n I) (h : ∀ μ', Fr zAir μ μ' → (∀ i, i < n → gAt μ' (sG S I hour g) i) → KV μ') :
    zcV (d + 6) mX8_blow [.ref 0, .ref 80, .int hour, .int g] μ KV X := C_blow (by decide +kernel) (hC.q f).1.1 hI hW.1 h
theorem sG_c {I J : zI} {h g : Int32} {i : Nat} (e : rowE I J i) : (sG S I h g).1 i = (sG S J h g).1 i ∧ (sG S I h g).2.1 i = (sG S J h g).2.1 i ∧ (sG S I h g).2.2.1 i = (sG S J h g).2.2.1 i ∧ (sG S I h g).2.2.2 i = (sG S J h g).2.2.2 i :=
  ⟨sX_c e, sY_c e, sZ_c e, e 5 (by omega)⟩
theorem gAt.c {G H : zG} {i : Nat} (h : gAt μ G i) (e : G.1 i = H.1 i ∧ G.2.1 i = H.2.1 i ∧ G.2.2.1 i = H.2.2.1 i ∧ G.2.2.2 i = H.2.2.2 i) : gAt μ H i :=
  ⟨h.1.trans e.1, h.2.1.trans e.2.1, h.2.2.1.trans e.2.2.1, h.2.2.2.trans e.2.2.2⟩
theorem row_set {I : zI} {i k a : Nat} {v : Int32} (h : a ≠ i) : rowE I (zset I i k v) a := fun b _ => (zset_n (fun q => h q.1)).symm
theorem zset2 {I : zI} {i k : Nat} {u v : Int32} : zset (zset I i k u) i k v = zset I i k v := by
  funext a b
  unfold zset
  by_cases q : a = i ∧ b = k
  · rw [if_pos q, if_pos q]
  · rw [if_neg q, if_neg q, if_neg q]
theorem zset_id {I : zI} {i k : Nat} : zset I i k (I i k) = I := by
  funext a b
  unfold zset
  by_cases q : a = i ∧ b = k
  · rw [if_pos q, q.1, q.2]
  · rw [if_neg q]
theorem lwS_rng {G : zG} {i : Nat} : ∀ (m k : Nat) (a : Int32), 0 ≤ a.toInt → a.toInt + m ≤ 1000 → 0 ≤ (lwS G i m k a).toInt ∧ (lwS G i m k a).toInt ≤ a.toInt + m
  | 0, _, a, h, _ => ⟨h, by show a.toInt ≤ a.toInt + _; omega⟩
  | m + 1, k, a, h, h2 => by
    unfold lwS
    by_cases q : G.2.2.1 i ≤ G.2.2.1 k
    · rw [if_pos q, Int32.add_zero]
      have := lwS_rng (G := G) (i := i) m (k + 1) a h (by omega)
      omega
    · rw [if_neg q]
      have e : (a + 1).toInt = a.toInt + 1 := by rw [i_add (by rw [i_1]; omega) (by rw [i_1]; omega), i_1]
      have := lwS_rng (G := G) (i := i) m (k + 1) (a + 1) (by omega) (by omega)
      omega
def loY (S : zSky) (I : zI) (n i r : Nat) (hour : Int32) (y : Nat) : Int32 := lwS (sG S (zset I i 3 (nI (r + y))) hour 0) i n 0 0
def vwS (S : zSky) (I : zI) (n i r : Nat) (hour w : Int32) : Nat → Nat → Int32 → Int32 → Int32
  | 0, _, b, f => if w = 1 then f else b
  | m + 1, y, b, f => if loY S I n i r hour y ≤ b then vwS S I n i r hour w m (y + 1) b f else vwS S I n i r hour w m (y + 1) (loY S I n i r hour y) (nI y)
def sVie (S : zSky) (I : zI) (n i r : Nat) (hour w : Int32) : Int32 := if w = 0 then loY S I n i r hour 0 else vwS S I n i r hour w (60 - r) 1 (loY S I n i r hour 0) 0
theorem L_viewC {w hour : Int32} {i r : Nat} {μ0 : zMem} (hi : i < n) (hr : 1 ≤ r) (hr2 : r ≤ 60) (hW : QW n S D tn T K M) (hC : QC μ0 n S D tn tb F T K M) : ∀ (m y : Nat) (b f : Int32) (I : zI) (μ : zMem), y + m = 60 - r + 1 → Fr zScC μ0 μ → IsC μ 80 n I → (∀ a, a < n → a ≠ i → gAt μ (sG S T.1 hour 0) a) → (zset I i 3 0 = zset T.1 i 3 0) →
    (∀ μ', Fr zScC μ0 μ' → KI (vwS S T.1 n i r hour w m y b f) μ') → pX8_view_88 (m + 1) (d + 5) (nI i) hour w b f (nI r) (nI y) μ KI X := by
  have n6 := hW.1
  have e60 : (60 : Int32) - nI r = nI (60 - r) := by
    rw [i_eq, i_sub (by rw [n_i (by omega), show (60 : Int32).toInt = 60 from by decide]; omega) (by rw [n_i (by omega), show (60 : Int32).toInt = 60 from by decide]; omega), n_i (by omega), n_i (by omega), show (60 : Int32).toInt = 60 from by decide]; omega
  intro m
  induction m with
  | zero =>
    intro y b f I μ hy hf hI hg hz hK
    rw [show pX8_view_88 (0 + 1) (d + 5) (nI i) hour w b f (nI r) (nI y) μ KI X = _ from rfl]
    refine ⟨fun _ => hK μ hf, fun z => absurd ?_ z⟩
    rw [e60]; exact (n_lt (by omega) (by omega)).mpr (by omega)
  | succ m ih =>
    intro y b f I μ hy hf hI hg hz hK
    refine ⟨fun z => absurd z (by rw [e60, n_lt (by omega) (by omega)]; omega), fun _ => ⟨vin (by omega), fun m1 e1 => ?_⟩⟩
    rw [tN_nI (by omega), nI_add] at e1
    have f1 : Fr zScC μ m1 := by rw [e1]; exact Fr.w (by unfold zScC; omega)
    have eI : zset I i 3 (nI (r + y)) = zset T.1 i 3 (nI (r + y)) := by
      rw [← zset2 (I := I) (u := 0), hz, zset2]
    have I1 : IsC m1 80 n (zset T.1 i 3 (nI (r + y))) := by
      rw [e1]
      exact IsC_w (o := 80) (k := 3) hI (by omega) fun a ha b hb => by rw [eI]
    refine C_putTry hW hC (hf.tr f1) I1 hi (fun m2 f2 fp a2 => ?_)
    have g2 : ∀ a, a < n → gAt m2 (sG S (zset T.1 i 3 (nI (r + y))) hour 0) a := by
      intro a ha
      by_cases z : a = i
      · subst z; exact gAt_now a2
      · have h1 : gAt m1 (sG S T.1 hour 0) a := by
          obtain ⟨q1, q2, q3, q4⟩ := hg a ha z
          exact ⟨by rw [e1, zw_c (by omega)]; exact q1, by rw [e1, zw_c (by omega)]; exact q2, by rw [e1, zw_c (by omega)]; exact q3, by rw [e1, zw_c (by omega)]; exact q4⟩
        exact (h1.fr fp (sky_rng (zsk_sh m1 0 4)) z).c (sG_c (row_set z))
    have hf2 := (hf.tr f1).tr f2
    have I2 : IsC m2 80 n (zset T.1 i 3 (nI (r + y))) := I1.go fun c j q1 q2 => fp _ _ (by unfold zPut; have := sky_rng (zsk_sh m1 0 4); omega)
    have g3 : ∀ a, a < n → a ≠ i → gAt m2 (sG S T.1 hour 0) a := fun a ha z => (g2 a ha).c (sG_c fun b hb => (row_set z b hb).symm)
    refine C_lower rfl I2.1 n6 hi g2 ⟨fun z v5 e5 => ?_, fun z v6 e6 => ?_⟩
    · rw [nI_1] at e5
      subst e5
      refine ih (y + 1) b f _ m2 (by omega) hf2 I2 g3 (by rw [zset2]) (fun μ' f' => ?_)
      have := hK μ' f'
      unfold vwS at this
      rw [if_pos (show loY S T.1 n i r hour y ≤ b from z)] at this; exact this
    · rw [nI_1] at e6
      subst e6
      refine ih (y + 1) _ _ _ m2 (by omega) hf2 I2 g3 (by rw [zset2]) (fun μ' f' => ?_)
      have := hK μ' f'
      unfold vwS at this
      rw [if_neg (show ¬ loY S T.1 n i r hour y ≤ b from z)] at this; exact this
theorem C_view {x1 x2 x3 : Int32} (hW : QW n S D tn T K M) (hC : QC μ n S D tn tb F T K M) (h0 : ¬ (vIs n x1 ∧ vHr x2 ∧ vWh 3 x3) → X 0 μ) (h1 : ∀ i r, i < n → x1 = nI i → vHr x2 → vWh 3 x3 → 1 ≤ r → r ≤ 60 → T.1 i 3 = nI r → ∀ m, Fr zScC μ m → KI (sVie S T.1 n i r x2 x3) m) : zcI (d + 7) mX8_view [.ref 0, .int x1, .int x2, .int x3] μ KI X := by
  have n6 := hW.1
  refine cX8_view_ (C_needIsle hC.cn n6 (fun q => h0 fun z => q z.1) (fun i hi e => C_needHour (fun q => h0 fun z => q z.2.1) (fun q2 => C_needWhat (m := 3) (by decide) (fun q => h0 fun z => q z.2.2) (fun q3 => C_blowNow hW hC (fun m1 f1 g1 => ?_)))))
  have hf1 := zAir_q f1
  have rk := hW.rK hi
  unfold rowK at rk
  obtain ⟨r, hr, er⟩ := vWh.get (m := 61) (w := T.1 i 3) (by unfold vWh; omega)
  rw [er, n_i (by omega)] at rk
  have hh := h1 i r hi e q2 q3 (by omega) (by omega) er
  have eb : lwS (sG S T.1 x2 0) i n 0 0 = loY S T.1 n i r x2 0 := by
    unfold loY
    rw [show r + 0 = r from rfl, ← er, zset_id]
  subst e
  refine C_lower rfl (hC.q hf1).cn n6 hi g1 ?_
  rw [eb]
  unfold sVie at hh
  refine ⟨fun z => ?_, fun z => C_copyNow hW (hC.q hf1) (fun m2 f2 g2 I2 => ⟨vin (by omega), fun v8 e8 => ⟨60 - r + 1, ?_⟩⟩)⟩
  · have := hh m1 hf1
    rw [if_pos z] at this; exact this
  · have e8' : v8 = nI r := by
      rw [e8, tN_nI (by omega), ← er]
      have : m2 51 i = m1 51 i := g2 _ _ (by omega)
      rw [this]
      exact (hC.q hf1).I.lo (k := 3) hi (by omega)
    subst e8'
    refine L_viewC hi (by omega) (by omega) hW hC (60 - r) 1 _ 0 T.1 m2 (by omega) (hf1.tr f2) I2 (fun a ha _ => ?_) rfl (fun μ' f => ?_)
    · obtain ⟨q1, q2, q3, q4⟩ := g1 a ha
      exact ⟨by rw [g2 _ _ (by omega)]; exact q1, by rw [g2 _ _ (by omega)]; exact q2, by rw [g2 _ _ (by omega)]; exact q3, by rw [g2 _ _ (by omega)]; exact q4⟩
    · have := hh μ' f
      rw [if_neg z] at this; exact this
theorem L_viewR {w hour : Int32} {i r : Nat} {μ0 : zMem} (hi : i < n) (hr : 1 ≤ r) (hr2 : r ≤ 60) (hw : ¬ w = 0) (hw0 : 0 < w) (hW : QW n S D tn T K M) (hR : QR μ0 n S D tn tb F T K M) (hr3 : T.1 i 3 = nI r) : ∀ (m y : Nat) (b f : Int32) (I : zI) (μ : zMem), y + m = 60 - r + 1 → Fr zTry μ0 μ → isl μ n I → (zset I i 3 0 = zset T.1 i 3 0) → μ 106 3 = 0 →
    (∀ μ', Fr zTry μ0 μ' → isl μ' n T.1 → μ' 106 3 = 0 → KI (vwS S T.1 n i r hour w m y b f) μ') → pX9_view_55 (m + 1) (d + 6) (nI i) hour w (nI r) f b (nI y) μ KI X := by
  have n6 := hW.1
  intro m
  induction m with
  | zero =>
    intro y b f I μ hy hf hI hz hk hK
    refine ⟨fun _ => R_set rfl rfl (by omega) (k := 3) (by omega) (fun m1 e1 => ?_), fun z => absurd ?_ z⟩
    · have eI : zset I i 3 (nI r) = T.1 := by
        rw [← zset2 (I := I) (u := 0), hz, zset2, ← hr3, zset_id]
      refine hK m1 (hf.tr (by rw [e1]; exact Fr.w (Or.inr rfl))) ?_ (by rw [e1, zw_c (by omega)]; exact hk)
      rw [e1]
      have := hI.set (i := i) (v := nI r) (k := 3) (by omega)
      rw [eI] at this; exact this
    · rw [nI_add]; exact (n_lt (a := 60) (by omega) (by omega)).mpr (by omega)
  | succ m ih =>
    intro y b f I μ hy hf hI hz hk hK
    refine ⟨fun z => absurd z (by rw [nI_add]; exact fun q => by have := (n_lt (a := 60) (by omega) (by omega)).mp q; omega), fun _ => ⟨fun _ => ?_, fun z => absurd hw0 z⟩⟩
    refine R_set rfl rfl (by omega) (k := 3) (by omega) (fun m1 e1 => ?_)
    rw [nI_add] at e1
    have f1 : Fr zTry μ0 m1 := hf.tr (by rw [e1]; exact Fr.w (Or.inr rfl))
    have eI : zset I i 3 (nI (r + y)) = zset T.1 i 3 (nI (r + y)) := by
      rw [← zset2 (I := I) (u := 0), hz, zset2]
    have I1 : isl m1 n (zset T.1 i 3 (nI (r + y))) := by
      rw [e1, ← eI]; exact hI.set (by omega)
    refine R_hourTry hW hR f1 I1 (fun m2 f2 g2 => ?_)
    have hf2 := f1.tr (zTry_c f2)
    have c2 := (hR.sky hf2).2.1
    have k2 : m2 106 3 = 0 := by rw [zTell_c f2, e1, zw_c (by omega)]; exact hk
    have I2 : isl m2 n (zset T.1 i 3 (nI (r + y))) := I1.go fun j => f2 _ _ (by unfold zTell; omega)
    refine R_lower rfl n6 c2 hi g2 ⟨fun z => R_lower rfl n6 c2 hi g2 (fun v7 e7 => ?_), fun z v8 e8 => ?_⟩
    · rw [nI_1] at e7
      subst e7
      refine ih (y + 1) _ _ _ m2 (by omega) hf2 I2 (by rw [zset2]) k2 (fun μ' f' i' k' => ?_)
      have := hK μ' f' i' k'
      unfold vwS at this
      rw [if_neg (show ¬ loY S T.1 n i r hour y ≤ b from (i_nle _ _).mpr z)] at this; exact this
    · rw [nI_1] at e8
      subst e8
      refine ih (y + 1) _ _ _ m2 (by omega) hf2 I2 (by rw [zset2]) k2 (fun μ' f' i' k' => ?_)
      have := hK μ' f' i' k'
      unfold vwS at this
      rw [if_pos (show loY S T.1 n i r hour y ≤ b from (i_nlt _ _).mp z)] at this; exact this
theorem R_view {x1 x2 x3 : Int32} (hW : QW n S D tn T K M) (hR : QR μ n S D tn tb F T K M) (h0 : ¬ (vIs n x1 ∧ vHr x2 ∧ vWh 3 x3) → ∀ m, Fr zScR μ m → m 106 3 = 1 → KI 0 m) (h1 : ∀ i r, i < n → x1 = nI i → vHr x2 → vWh 3 x3 → 1 ≤ r → r ≤ 60 → T.1 i 3 = nI r → ∀ m, Fr zRef μ m → QR m n S D tn tb F T K M → m 106 3 = 0 → KI (sVie S T.1 n i r x2 x3) m) : zcI (d + 7) mX9_view [.ref 106, .int x1, .int x2, .int x3] μ KI X := by
  have n6 := hW.1
  refine cX9_view_ (fun m1 e1 => ?_)
  have f1 : Fr zScR μ m1 := by rw [e1]; exact code_q
  have k1 : m1 106 3 = 0 := by rw [e1, zw_s]
  have hR1 := hR.q f1
  have bad : ¬ (vIs n x1 ∧ vHr x2 ∧ vWh 3 x3) → pX9_view_32 (d + 6) m1 KI X := fun q => R_fail (fun m e => h0 q m (f1.tr (by rw [e]; exact code_q)) (by rw [e, zw_s]))
  refine R_isIsle hR1.cn n6 (b2i_go (fun q => bad fun z => q z.1) (fun q1 => R_isHour (b2i_go (fun q => bad fun z => q z.2.1) (fun q2 => R_isIn (A := 0) (B := 2) (by decide) (by decide) (b2i_go (fun q => bad fun z => q (by have := z.2.2; unfold vWh at this; omega)) (fun q3 => ?_))))))
  obtain ⟨i, hi, e⟩ := q1.get
  have hw : vWh 3 x3 := by unfold vWh; omega
  have rk := hW.rK hi
  unfold rowK at rk
  obtain ⟨r, hr, er⟩ := vWh.get (m := 61) (w := T.1 i 3) (by unfold vWh; omega)
  rw [er, n_i (by omega)] at rk
  have hh := h1 i r hi e q2 hw (by omega) (by omega) er
  subst e
  refine R_of rfl rfl (by omega) (k := 3) (by omega) ?_
  have e9 : rI m1 i 3 = nI r := by rw [← er]; exact hR1.I.2 i hi 3 (by omega)
  rw [e9]
  unfold sVie at hh
  have fin : ∀ μ', Fr zTry m1 μ' → isl μ' n T.1 → μ' 106 3 = 0 → Fr zRef μ μ' ∧ QR μ' n S D tn tb F T K M := fun μ' f i' _ => ⟨(zScR_r f1).tr (zTry_r f), hR1.back f i'⟩
  -- the first of all: as it hangs
  refine ⟨60 - r + 2, ?_⟩
  have go : pX9_view_74 (d + 6) (nI i) x2 x3 (nI r) 0 (-1) 0 m1 KI X (fun z0 z1 z2 z3 z4 z5 z6 m => pX9_view_55 (60 - r + 1) (d + 6) z0 z1 z2 z3 z4 z5 z6 m KI X) := by
    refine R_set rfl rfl (by omega) (k := 3) (by omega) (fun m2 e2 => ?_)
    rw [Int32.add_zero] at e2
    have I2 : isl m2 n T.1 := by
      have := (hR1.il).set (i := i) (v := nI r) (k := 3) (by omega)
      rw [← er, zset_id] at this
      rw [e2, ← er]; exact this
    have f2 : Fr zTry m1 m2 := by rw [e2]; exact Fr.w (Or.inr rfl)
    refine R_hourTry hW hR1 f2 I2 (fun m3 f3 g3 => ?_)
    have hf3 := f2.tr (zTry_c f3)
    have c3 := (hR1.sky hf3).2.1
    have k3 : m3 106 3 = 0 := by rw [zTell_c f3, e2, zw_c (by omega)]; exact k1
    have I3 : isl m3 n T.1 := I2.go fun j => f3 _ _ (by unfold zTell; omega)
    have eb : lwS (sG S T.1 x2 0) i n 0 0 = loY S T.1 n i r x2 0 := by
      unfold loY
      rw [show r + 0 = r from rfl, ← er, zset_id]
    have pos := lwS_rng (G := sG S T.1 x2 0) (i := i) n 0 0 (by rw [i_0]; omega) (by rw [i_0]; omega)
    refine R_lower rfl n6 c3 hi g3 ⟨fun _ => R_lower rfl n6 c3 hi g3 (fun v7 e7 => ?_), fun z => absurd ?_ z⟩
    · have e7' : v7 = nI 1 := e7
      subst e7'
      rw [eb]
      by_cases w0 : x3 = 0
      · -- only where it hangs
        subst w0
        have lt : ¬ (0 : Int32) < 0 := by decide
        have stop : pX9_view_121 (d + 6) (nI i) 0 (nI r) 0 (loY S T.1 n i r x2 0) m3 KI X := by
          refine R_set rfl rfl (by omega) (k := 3) (by omega) (fun m4 e4 => ?_)
          have I4 : isl m4 n T.1 := by
            have := I3.set (i := i) (v := nI r) (k := 3) (by omega)
            rw [← er, zset_id] at this
            rw [e4, ← er]; exact this
          obtain ⟨q1, q2⟩ := fin m4 (hf3.tr (by rw [e4]; exact Fr.w (Or.inr rfl))) I4 (by rw [e4, zw_c (by omega)]; exact k3)
          have := hh m4 q1 q2 (by rw [e4, zw_c (by omega)]; exact k3)
          rw [if_pos rfl] at this
          exact this
        exact ⟨fun _ => stop, fun _ => ⟨fun q => absurd q lt, fun _ => ⟨fun q => absurd q (by decide), fun _ => stop⟩⟩⟩
      · have w1 : (0 : Int32) < x3 := by rw [i_lt, i_0]; rw [i_eq, i_0] at w0; omega
        refine L_viewR hi (by omega) (by omega) w0 w1 hW hR1 er (60 - r) 1 _ 0 T.1 m3 (by omega) hf3 I3 rfl k3 (fun μ' f' i' k' => ?_)
        obtain ⟨q1, q2⟩ := fin μ' f' i' k'
        have := hh μ' q1 q2 k'
        rw [if_neg w0] at this; exact this
    · rw [i_lt, m1_i]; omega
  refine ⟨fun z => absurd z ?_, fun _ => ⟨fun _ => go, fun _ => ⟨fun _ => go, fun z => absurd rfl z⟩⟩⟩
  rw [Int32.add_zero, show (60 : Int32) = nI 60 from rfl, n_lt (by omega) (by omega)]; omega
theorem P_view {x1 x2 x3 : Int32} (h : QS μ n S D tn tb F T K M) : PI (d + 7) mX8_view mX9_view [.ref 0, .int x1, .int x2, .int x3] [.ref 106, .int x1, .int x2, .int x3] c10 μ := by
  intro KI X hK hX
  have n6 := h.1.1
  refine C_view h.1 h.2.1 (fun q => hX _ _ Fr.rf (fun m2 g => R_view h.1 (h.2.2.r (Fr.rf (P := zCls)) g) (fun _ m f e => ⟨e, h.q Fr.rf g f⟩) (fun i _ hi e a b => absurd ⟨by rw [e]; exact vIs_n hi n6, a, b⟩ q)) (by decide))
    (fun i r hi e a b _ _ er m1 f1 => hK _ _ (zScC_c f1) (fun m2 g => R_view h.1 (h.2.2.r (zScC_c f1) g) (fun q => absurd ⟨by rw [e]; exact vIs_n hi n6, a, b⟩ q) (fun j r' hj e2 _ _ _ _ er' m f q e3 => ⟨e3, ?_, QS.t h.1 (h.2.1.q f1) g f q⟩)))
  cases nj hi hj n6 (e.symm.trans e2)
  cases nj' (by omega) (by omega) (er.symm.trans er'); rfl
end View
