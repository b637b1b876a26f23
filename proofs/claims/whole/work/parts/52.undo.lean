section Undo
variable {d : Nat} {μ : zMem} {KI : Int32 → zMem → Prop} {KV : zMem → Prop} {X : Nat → zMem → Prop} {n : Nat} {S : zSky} {D : Nat → Int32} {tn : Nat} {tb : Nat → Int32} {F : Int32} {T T' : zT} {K : Option (Nat → Int32)} {M : Option zT}
theorem zBack_c {m1 m2 : zMem} (f : Fr (zBack 46) m1 m2) : Fr zCls m1 m2 := f.mono fun c j q => by unfold zBack at q; unfold zCls; omega
theorem C_undo (hW : QW n S D tn T K M) (hC : QC μ n S D tn tb F T K M) (h0 : T.2.2.1.1 = 0 → KI (-1) μ) (h1 : 1 ≤ T.2.2.1.1 → ∀ m, Fr zCls μ m → QC m n S D tn tb F (tPop T) K M → KI (nI (T.2.2.1.1 - 1)) m) : zcI (d + 2) mX8_undo [.ref 0] μ KI X := by
  have n6 := hW.1
  have t40 := hW.tw.1
  obtain ⟨t1, t2, ⟨t3, t4⟩, ⟨t5, t6⟩, t7, t8⟩ := hC.2.2.2.1
  refine cX8_undo_ ?_
  unfold pX8_undo
  rw [t3, show (0 : Int32) = nI 0 from rfl, n_eq (by omega) (by omega)]
  refine ⟨h0, fun q => C_takeBack (by decide +kernel) n6 t40 (by omega) t1 ⟨t3, t4⟩ (fun μ' f I' l => ?_)⟩
  have e : μ' 46 2 = nI (T.2.2.1.1 - 1) := l.1
  rw [e]
  have g : ∀ c j, ¬ (48 ≤ c ∧ c ≤ 58) → ¬ (c = 46 ∧ j = 2) → μ' c j = μ c j := fun c j a b => f _ _ (by unfold zBack; omega)
  refine h1 (by omega) μ' (zBack_c f) (hC.t (fun c j _ a _ => g c j (by omega) (by omega)) ⟨I', fun k hk => ?_, l, ⟨?_, fun k hk => ?_⟩, ?_, fun k hk => ?_⟩)
  · rw [g _ _ (by omega) (by omega)]; exact t2 k hk
  · rw [g _ _ (by omega) (by omega)]; exact t5
  · rw [g _ _ (by omega) (by omega)]; exact t6 k hk
  · rw [g _ _ (by omega) (by omega)]; exact t7
  · rw [g _ _ (by omega) (by omega), g _ _ (by omega) (by omega), g _ _ (by omega) (by omega)]; exact t8 k hk
theorem L_undoR {μ0 : zMem} {p : Nat} (hp : p < 40) (hp0 : μ0 106 27 = nI p) : ∀ (m i : Nat) (μ : zMem), i + m = 84 → Fr (fun c _ => c = 111) μ0 μ → (∀ j, j < i → μ 111 j = μ0 123 (84 * p + j)) →
    (∀ μ', Fr (fun c _ => c = 111) μ0 μ' → (∀ j, j < 84 → μ' 111 j = μ0 123 (84 * p + j)) → KI (nI p) μ') → pX9_undo_26 (m + 1) d (nI i) μ KI X := by
  intro m
  induction m with
  | zero =>
    intro i μ hi hf h1 hK
    refine ⟨fun _ => ?_, fun q => absurd ((n_le (a := 84) (by omega) (by omega)).mpr (by omega)) q⟩
    have e : μ 106 27 = nI p := by rw [hf _ _ (by omega)]; exact hp0
    rw [e]
    exact hK μ hf (fun j hj => h1 j (by omega))
  | succ m ih =>
    intro i μ hi hf h1 hK
    refine ⟨fun q => absurd ((n_le (a := 84) (by omega) (by omega)).mp q) (by omega), fun _ => ?_⟩
    have e : μ 106 27 = nI p := by rw [hf _ _ (by omega)]; exact hp0
    have e84 : (84 : Int32) * (μ 106 27) + nI i = nI (84 * p + i) := by rw [e]; exact n84 p i
    rw [e84, tN_nI (by omega), tN_nI (by omega)]
    refine ⟨vin (by omega), vin (by omega), fun m1 e1 v2 e2 => ?_⟩
    rw [e2, nI_1]
    refine ih (i + 1) m1 (by omega) (hf.tr (by rw [e1]; exact Fr.w rfl)) (fun j hj => ?_) hK
    by_cases q : j = i
    · subst q; rw [e1, zw_s]; exact hf _ _ (by omega)
    · rw [e1, zw_j q]; exact h1 j (by omega)
theorem R_undo (hW : QW n S D tn T K M) (hR : QR μ n S D tn tb F T K M) (h0 : T.2.2.1.1 = 0 → ∀ m, Fr zScR μ m → m 106 3 = 0 → KI (-1) m) (h1 : 1 ≤ T.2.2.1.1 → ∀ m, Fr zRef μ m → m 106 3 = 0 → QR m n S D tn tb F (tPop T) K M → KI (nI (T.2.2.1.1 - 1)) m) : zcI (d + 1) mX9_undo [.ref 106] μ KI X := by
  have n6 := hW.1
  have t40 := hW.tw.1
  refine cX9_undo_ (fun m1 e1 => ?_)
  have f1 : Fr zScR μ m1 := by rw [e1]; exact code_q
  have k1 : m1 106 3 = 0 := by rw [e1, zw_s]
  have hR1 := hR.q f1
  obtain ⟨t1, t2, ⟨t3, t4⟩, ⟨t5, t6⟩, t7, t8⟩ := hR1.2.2.2.1
  rw [t3, show (0 : Int32) = nI 0 from rfl, n_eq (by omega) (by omega)]
  refine ⟨fun q => h0 q m1 f1 k1, fun q m2 e2 => ⟨85, ?_⟩⟩
  have c2 : m2 106 27 = nI (T.2.2.1.1 - 1) := by
    rw [e2, zw_s, i_eq, i_sub (by rw [n_i (by omega), i_1]; omega) (by rw [n_i (by omega), i_1]; omega), n_i (by omega), n_i (by omega), i_1]; omega
  refine L_undoR (p := T.2.2.1.1 - 1) (by omega) c2 84 0 m2 (by omega) Fr.rf (fun j hj => absurd hj (by omega)) (fun μ' f g => ?_)
  have a : ∀ c j, c ≠ 111 → ¬ (c = 106 ∧ j = 27) → μ' c j = m1 c j := fun c j q1 q2 => by rw [f _ _ q1, e2, zw_n q2]
  refine h1 (by omega) μ' (fun c j z => by unfold zRef at z; rw [a _ _ (by omega) (by omega)]; exact f1 _ _ (by unfold zScR; omega)) (by rw [a _ _ (by omega) (by omega), k1]) (hR1.t (fun c j _ _ z _ => a c j (fun y => z (by unfold zLiv; omega)) (fun y => z (by unfold zLiv; omega))) ⟨fun i hi k hk => ?_, fun k hk => ?_, ⟨?_, fun j hj i hi k hk => ?_⟩, ⟨?_, fun k hk => ?_⟩, ?_, fun k hk => ?_⟩)
  · rw [g _ (by omega), e2, zw_c (by omega)]
    exact t4 _ (by omega) i hi k hk
  · rw [a _ _ (by omega) (by omega)]; exact t2 k hk
  · rw [f _ _ (by omega)]; exact c2
  · have hj' : j < T.2.2.1.1 - 1 := hj
    rw [a _ _ (by omega) (by omega)]; exact t4 j (by omega) i hi k hk
  · rw [a _ _ (by omega) (by omega)]; exact t5
  · rw [a _ _ (by omega) (by omega)]; exact t6 k hk
  · rw [a _ _ (by omega) (by omega)]; exact t7
  · rw [a _ _ (by omega) (by omega), a _ _ (by omega) (by omega), a _ _ (by omega) (by omega)]; exact t8 k hk
theorem P_undo (h : QS μ n S D tn tb F T K M) : PI (d + 2) mX8_undo mX9_undo [.ref 0] [.ref 106] c00 μ := by
  intro KI X hK hX
  refine C_undo h.1 h.2.1 (fun a => hK _ _ Fr.rf (fun m2 g => R_undo h.1 (h.2.2.r (Fr.rf (P := zCls)) g) (fun _ m f e => ⟨e, rfl, h.q Fr.rf g f⟩) (fun b => by omega)))
    (fun a m1 f1 c1 => hK _ _ f1 (fun m2 g => R_undo h.1 (h.2.2.r f1 g) (fun b => by omega) (fun _ m f e r => ⟨e, rfl, QS.t (h.1.t (h.1.tw.pop a)) c1 g f r⟩)))
/-! crossings -/
def tCr (T : zT) (q : Nat) : zT := (T.1, T.2.1, T.2.2.1, (T.2.2.2.1.1 + 1, fun j => if j = T.2.2.2.1.1 then q else T.2.2.2.1.2 j), T.2.2.2.2)
def tUn (T : zT) : zT := (T.1, T.2.1, T.2.2.1, (T.2.2.2.1.1 - 1, T.2.2.2.1.2), T.2.2.2.2)
def oB (x : Int32) : Nat := if x = 0 then 0 else 1
abbrev vCr (n : Nat) (T : zT) (x : Int32) : Prop := T.2.2.2.1.1 < 40 ∧ 0 ≤ x.toInt ∧ x.toInt ≤ (n : Int) - 2
theorem vCr.get {x : Int32} (h : vCr n T x) (n6 : n ≤ 6) : ∃ p, p + 2 ≤ n ∧ x = nI p := by
  unfold vCr at h
  refine ⟨x.toInt.toNat, by omega, ?_⟩
  rw [i_eq, n_i (by omega)]; omega
theorem nI_m2 (hn : n ≤ 6) : (nI n - 2).toInt = (n : Int) - 2 := by
  rw [i_sub (by rw [n_i (by omega), show (2 : Int32).toInt = 2 from by decide]; omega) (by rw [n_i (by omega), show (2 : Int32).toInt = 2 from by decide]; omega), n_i (by omega), show (2 : Int32).toInt = 2 from by decide]
theorem C_cross {x1 x2 : Int32} (hW : QW n S D tn T K M) (hC : QC μ n S D tn tb F T K M) (h0 : ¬ vCr n T x1 → ∀ m, Fr zCls μ m → QC m n S D tn tb F (tRef T 2) K M → KI (-1) m)
    (h1 : ∀ p, p + 2 ≤ n → x1 = nI p → vCr n T x1 → ∀ m, Fr zCls μ m → QC m n S D tn tb F (tCr T (2 * p + oB x2)) K M → KI (nI (T.2.2.2.1.1 + 1)) m) : zcI (d + 1) mX8_cross [.ref 0, .int x1, .int x2] μ KI X := by
  have n6 := hW.1
  have t40 := hW.tw.2.1
  obtain ⟨t1, t2, ⟨t3, t4⟩, ⟨t5, t6⟩, t7, t8⟩ := hC.2.2.2.1
  have no : ¬ vCr n T x1 → pX8_cross_32 d μ KI X := fun q m e => h0 q m (by rw [e]; exact ref_c) (by rw [e]; exact hC.ref)
  refine cX8_cross_ ?_
  unfold pX8_cross
  rw [t5, t1.1, show (40 : Int32) = nI 40 from rfl, n_le (by omega) (by omega), i_lt, i_0, i_le, nI_m2 n6]
  refine ⟨fun q => no (by unfold vCr; omega), fun q => ⟨fun q2 => no (by unfold vCr; omega), fun q2 => ⟨fun q3 => ?_, fun q3 => no (by unfold vCr; omega)⟩⟩⟩
  have hv : vCr n T x1 := by unfold vCr; omega
  obtain ⟨p, hp, e⟩ := hv.get n6
  have hh := h1 p hp e hv
  subst e
  rw [tN_nI (by omega)]
  refine ⟨vin (by omega), fun m1 e1 m2 e2 => ?_⟩
  have c2 : m2 46 4 = nI (T.2.2.2.1.1 + 1) := by rw [e2, zw_s, e1, zw_c (by omega), t5, nI_1]
  rw [c2]
  have g : ∀ c j, c ≠ 60 → ¬ (c = 46 ∧ j = 4) → m2 c j = μ c j := fun c j a b => by rw [e2, zw_n b, e1, zw_c a]
  refine hh m2 (fun c j z => g c j (fun y => z (by unfold zCls; omega)) (fun y => z (by unfold zCls; omega))) (hC.t (fun c j _ a _ => g c j (by omega) (by omega)) ⟨t1.go fun c j a b => g c j (by omega) (by omega), fun k hk => ?_, ⟨?_, fun j hj => (t4 j hj).xt fun k _ => g _ _ (by omega) (by omega)⟩, ⟨c2, fun k hk => ?_⟩, ?_, fun k hk => ?_⟩)
  · rw [g _ _ (by omega) (by omega)]; exact t2 k hk
  · rw [g _ _ (by omega) (by omega)]; exact t3
  · have hk' : k < T.2.2.2.1.1 + 1 := hk
    show _ = nI ((if k = T.2.2.2.1.1 then 2 * p + oB x2 else T.2.2.2.1.2 k) / 2 + 10 * ((if k = T.2.2.2.1.1 then 2 * p + oB x2 else T.2.2.2.1.2 k) % 2))
    by_cases z : k = T.2.2.2.1.1
    · rw [if_pos z, e2, zw_c (by omega), e1, z, zw_s]
      unfold oB
      by_cases y : x2 = 0
      · rw [if_pos y, if_pos y]; congr 1; omega
      · rw [if_neg y, if_neg y, show (10 : Int32) = nI 10 from rfl, nI_add]; congr 1; omega
    · rw [if_neg z, e2, zw_c (by omega), e1, zw_j z]; exact t6 k (by omega)
  · rw [g _ _ (by omega) (by omega)]; exact t7
  · rw [g _ _ (by omega) (by omega), g _ _ (by omega) (by omega), g _ _ (by omega) (by omega)]; exact t8 k hk
theorem R_cross {x1 x2 : Int32} (hW : QW n S D tn T K M) (hR : QR μ n S D tn tb F T K M) (h0 : ¬ vCr n T x1 → ∀ m, Fr zRef μ m → m 106 3 = 0 → QR m n S D tn tb F (tRef T 2) K M → KI (-1) m)
    (h1 : ∀ p, p + 2 ≤ n → x1 = nI p → vCr n T x1 → ∀ m, Fr zRef μ m → m 106 3 = 0 → QR m n S D tn tb F (tCr T (2 * p + oB x2)) K M → KI (nI (T.2.2.2.1.1 + 1)) m) : zcI (d + 2) mX9_cross [.ref 106, .int x1, .int x2] μ KI X := by
  have n6 := hW.1
  have t40 := hW.tw.2.1
  refine cX9_cross_ (fun m1 e1 => ?_)
  have f1 : Fr zScR μ m1 := by rw [e1]; exact code_q
  have k1 : m1 106 3 = 0 := by rw [e1, zw_s]
  have hR1 := hR.q f1
  obtain ⟨t1, t2, ⟨t3, t4⟩, ⟨t5, t6⟩, t7, t8⟩ := hR1.2.2.2.1
  have no : ¬ vCr n T x1 → pX9_cross_32 (d + 1) m1 KI X := fun q => R_refuse (j := 2) rfl (by omega) (fun m e2 => h0 q m ((zScR_r f1).tr (by rw [e2]; exact ref_r)) (by rw [e2, zw_c (by omega), k1]) (by rw [e2]; exact hR1.ref))
  rw [t5, hR1.cn, show (40 : Int32) = nI 40 from rfl, n_eq (by omega) (by omega)]
  refine ⟨fun q => no (by unfold vCr; omega), fun q => R_isIn (A := 0) (B := n - 2) (by decide) (by rw [Int32.toInt_toInt64]; exact nI_m2 n6) (b2i_go (fun q2 => no (by unfold vCr; omega)) (fun q2 => ?_))⟩
  have hv : vCr n T x1 := by unfold vCr; omega
  obtain ⟨p, hp, e⟩ := hv.get n6
  have hh := h1 p hp e hv
  subst e
  rw [t5, tN_nI (by omega)]
  refine ⟨vin (by omega), fun m4 e4 m5 e5 => ?_⟩
  have c5 : m5 106 28 = nI (T.2.2.2.1.1 + 1) := by rw [e5, zw_s, e4, zw_c (by omega), t5, nI_1]
  rw [c5]
  have g : ∀ c j, c ≠ 129 → ¬ (c = 106 ∧ j = 28) → m5 c j = m1 c j := fun c j a b => by rw [e5, zw_n b, e4, zw_c a]
  refine hh m5 (fun c j z => by unfold zRef at z; rw [g _ _ (by omega) (by omega)]; exact f1 _ _ (by unfold zScR; omega)) (by rw [g _ _ (by omega) (by omega), k1]) (hR1.t (fun c j _ _ z _ => g c j (fun y => z (by unfold zLiv; omega)) (fun y => z (by unfold zLiv; omega))) ⟨fun i hi k hk => ?_, fun k hk => ?_, ⟨?_, fun j hj i hi k hk => ?_⟩, ⟨c5, fun k hk => ?_⟩, ?_, fun k hk => ?_⟩)
  · rw [g _ _ (by omega) (by omega)]; exact t1 i hi k hk
  · rw [g _ _ (by omega) (by omega)]; exact t2 k hk
  · rw [g _ _ (by omega) (by omega)]; exact t3
  · rw [g _ _ (by omega) (by omega)]; exact t4 j hj i hi k hk
  · have hk' : k < T.2.2.2.1.1 + 1 := hk
    show _ = nI (if k = T.2.2.2.1.1 then 2 * p + oB x2 else T.2.2.2.1.2 k)
    by_cases z : k = T.2.2.2.1.1
    · rw [if_pos z, e5, zw_c (by omega), e4, z, zw_s, show (2 : Int32) = nI 2 from rfl, pk_mul]
      unfold oB
      by_cases y : x2 = 0
      · rw [if_pos y, if_pos y, Int32.add_zero]; rfl
      · rw [if_neg y, if_neg y, nI_1]
    · rw [if_neg z, e5, zw_c (by omega), e4, zw_j z]; exact t6 k (by omega)
  · rw [g _ _ (by omega) (by omega)]; exact t7
  · rw [g _ _ (by omega) (by omega), g _ _ (by omega) (by omega), g _ _ (by omega) (by omega)]; exact t8 k hk
theorem TW.cr {p : Nat} {x : Int32} (h : TW n T) (hp : p + 2 ≤ n) (n6 : n ≤ 6) (h40 : T.2.2.2.1.1 < 40) : TW n (tCr T (2 * p + oB x)) := by
  obtain ⟨h1, h2, h3, h4, h5, h6, h7⟩ := h
  refine ⟨h1, by show T.2.2.2.1.1 + 1 ≤ 40; omega, h3, h4, h5, fun j hj => ?_, h7⟩
  have hj' : j < T.2.2.2.1.1 + 1 := hj
  show (if j = T.2.2.2.1.1 then 2 * p + oB x else T.2.2.2.1.2 j) < 10 ∧ (if j = T.2.2.2.1.1 then 2 * p + oB x else T.2.2.2.1.2 j) / 2 + 1 < n
  have ob : oB x ≤ 1 := by unfold oB; split <;> omega
  split
  · omega
  · exact h6 j (by omega)
theorem TW.un (h : TW n T) : TW n (tUn T) := by
  obtain ⟨h1, h2, h3, h4, h5, h6, h7⟩ := h
  exact ⟨h1, by show T.2.2.2.1.1 - 1 ≤ 40; omega, h3, h4, h5, fun j hj => h6 j (by have : j < T.2.2.2.1.1 - 1 := hj; omega), h7⟩
theorem P_cross {x1 x2 : Int32} (h : QS μ n S D tn tb F T K M) : PI (d + 2) mX8_cross mX9_cross [.ref 0, .int x1, .int x2] [.ref 106, .int x1, .int x2] c00 μ := by
  intro KI X hK hX
  have n6 := h.1.1
  refine C_cross h.1 h.2.1 (fun a m1 f1 c1 => hK _ _ f1 (fun m2 g => R_cross h.1 (h.2.2.r f1 g) (fun _ m f e r => ⟨e, rfl, QS.t (h.1.t h.1.tw.ref) c1 g f r⟩) (fun _ _ _ b => absurd b a)))
    (fun p hp e a m1 f1 c1 => hK _ _ f1 (fun m2 g => R_cross h.1 (h.2.2.r f1 g) (fun b => absurd a b) (fun p' hp' e' _ m f e3 r => ?_)))
  cases nj' (by omega) (by omega) (e.symm.trans e')
  exact ⟨e3, rfl, QS.t (h.1.t (h.1.tw.cr hp n6 a.1)) c1 g f r⟩
theorem nI_sub1 {m : Nat} (h : 1 ≤ m) (h2 : m < 2 ^ 31) : nI m - 1 = nI (m - 1) := by
  rw [i_eq, i_sub (by rw [n_i (by omega), i_1]; omega) (by rw [n_i (by omega), i_1]; omega), n_i (by omega), n_i (by omega), i_1]; omega
theorem C_uncross (hW : QW n S D tn T K M) (hC : QC μ n S D tn tb F T K M) (h0 : T.2.2.2.1.1 = 0 → KI (-1) μ) (h1 : 1 ≤ T.2.2.2.1.1 → ∀ m, Fr zCls μ m → QC m n S D tn tb F (tUn T) K M → KI (nI (T.2.2.2.1.1 - 1)) m) : zcI (d + 1) mX8_uncross [.ref 0] μ KI X := by
  have t40 := hW.tw.2.1
  obtain ⟨t1, t2, ⟨t3, t4⟩, ⟨t5, t6⟩, t7, t8⟩ := hC.2.2.2.1
  refine cX8_uncross_ ?_
  unfold pX8_uncross
  rw [t5, show (0 : Int32) = nI 0 from rfl, n_eq (by omega) (by omega)]
  refine ⟨h0, fun q m1 e1 => ?_⟩
  rw [nI_sub1 (by omega) (by omega)] at e1
  have c1 : m1 46 4 = nI (T.2.2.2.1.1 - 1) := by rw [e1, zw_s]
  rw [c1]
  have g : ∀ c j, ¬ (c = 46 ∧ j = 4) → m1 c j = μ c j := fun c j b => by rw [e1, zw_n b]
  refine h1 (by omega) m1 (fun c j z => g c j (fun y => z (by unfold zCls; omega))) (hC.t (fun c j _ a _ => g c j (by omega)) ⟨t1.go fun c j a b => g c j (by omega), fun k hk => ?_, ⟨?_, fun j hj => (t4 j hj).xt fun k _ => g _ _ (by omega)⟩, ⟨c1, fun k hk => ?_⟩, ?_, fun k hk => ?_⟩)
  · rw [g _ _ (by omega)]; exact t2 k hk
  · rw [g _ _ (by omega)]; exact t3
  · have hk' : k < T.2.2.2.1.1 - 1 := hk
    rw [g _ _ (by omega)]; exact t6 k (by omega)
  · rw [g _ _ (by omega)]; exact t7
  · rw [g _ _ (by omega), g _ _ (by omega), g _ _ (by omega)]; exact t8 k hk
theorem R_uncross (hW : QW n S D tn T K M) (hR : QR μ n S D tn tb F T K M) (h0 : T.2.2.2.1.1 = 0 → ∀ m, Fr zScR μ m → m 106 3 = 0 → KI (-1) m) (h1 : 1 ≤ T.2.2.2.1.1 → ∀ m, Fr zRef μ m → m 106 3 = 0 → QR m n S D tn tb F (tUn T) K M → KI (nI (T.2.2.2.1.1 - 1)) m) : zcI (d + 1) mX9_uncross [.ref 106] μ KI X := by
  have t40 := hW.tw.2.1
  refine cX9_uncross_ (fun m1 e1 => ?_)
  have f1 : Fr zScR μ m1 := by rw [e1]; exact code_q
  have k1 : m1 106 3 = 0 := by rw [e1, zw_s]
  have hR1 := hR.q f1
  obtain ⟨t1, t2, ⟨t3, t4⟩, ⟨t5, t6⟩, t7, t8⟩ := hR1.2.2.2.1
  rw [t5, show (0 : Int32) = nI 0 from rfl, n_eq (by omega) (by omega)]
  refine ⟨fun q => h0 q m1 f1 k1, fun q m2 e2 => ?_⟩
  rw [nI_sub1 (by omega) (by omega)] at e2
  have c2 : m2 106 28 = nI (T.2.2.2.1.1 - 1) := by rw [e2, zw_s]
  rw [c2]
  have g : ∀ c j, ¬ (c = 106 ∧ j = 28) → m2 c j = m1 c j := fun c j b => by rw [e2, zw_n b]
  refine h1 (by omega) m2 (fun c j z => by unfold zRef at z; rw [g _ _ (by omega)]; exact f1 _ _ (by unfold zScR; omega)) (by rw [g _ _ (by omega), k1]) (hR1.t (fun c j _ _ z _ => g c j (fun y => z (by unfold zLiv; omega))) ⟨fun i hi k hk => ?_, fun k hk => ?_, ⟨?_, fun j hj i hi k hk => ?_⟩, ⟨c2, fun k hk => ?_⟩, ?_, fun k hk => ?_⟩)
  · rw [g _ _ (by omega)]; exact t1 i hi k hk
  · rw [g _ _ (by omega)]; exact t2 k hk
  · rw [g _ _ (by omega)]; exact t3
  · rw [g _ _ (by omega)]; exact t4 j hj i hi k hk
  · have hk' : k < T.2.2.2.1.1 - 1 := hk
    rw [g _ _ (by omega)]; exact t6 k (by omega)
  · rw [g _ _ (by omega)]; exact t7
  · rw [g _ _ (by omega), g _ _ (by omega), g _ _ (by omega)]; exact t8 k hk
theorem P_uncross (h : QS μ n S D tn tb F T K M) : PI (d + 2) mX8_uncross mX9_uncross [.ref 0] [.ref 106] c00 μ := by
  intro KI X hK hX
  refine C_uncross h.1 h.2.1 (fun a => hK _ _ Fr.rf (fun m2 g => R_uncross h.1 (h.2.2.r (Fr.rf (P := zCls)) g) (fun _ m f e => ⟨e, rfl, h.q Fr.rf g f⟩) (fun b => by omega)))
    (fun a m1 f1 c1 => hK _ _ f1 (fun m2 g => R_uncross h.1 (h.2.2.r f1 g) (fun b => by omega) (fun _ m f e r => ⟨e, rfl, QS.t (h.1.t h.1.tw.un) c1 g f r⟩)))
end Undo
