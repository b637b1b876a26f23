def gtI (I : zI) (a b : Nat) : zI := zset (zset I a 8 (I a 8 - 1)) b 8 (zset I a 8 (I a 8 - 1) b 8 + 1)
abbrev vGt (S : zSky) (D : Nat → Int32) (I : zI) (a b : Nat) (hour : Int32) : Prop := ¬ a = b ∧ ¬ I a 8 = 0 ∧ ¬ I b 8 = 9 ∧ bri (sG S I hour 0) a b (D 3)
theorem gtI_a {I : zI} {a b : Nat} (h : ¬ a = b) : gtI I a b a 8 = I a 8 - 1 := by
  unfold gtI; rw [zset_n (by omega), zset_s]
theorem gtI_b {I : zI} {a b : Nat} (h : ¬ a = b) : gtI I a b b 8 = I b 8 + 1 := by
  unfold gtI; rw [zset_s, zset_n (by omega)]
theorem gtI_o {I : zI} {a b x c : Nat} (h1 : ¬ (x = a ∧ c = 8)) (h2 : ¬ (x = b ∧ c = 8)) : gtI I a b x c = I x c := by
  unfold gtI; rw [zset_n h2, zset_n h1]
theorem gtI_undo {I : zI} {a b : Nat} (h : ¬ a = b) : zset (zset (gtI I a b) a 8 (gtI I a b a 8 + 1)) b 8 (zset (gtI I a b) a 8 (gtI I a b a 8 + 1) b 8 - 1) = I := by
  funext x c
  by_cases q : x = b ∧ c = 8
  · rw [q.1, q.2, zset_s, zset_n (by omega), gtI_b h, Int32.add_sub_cancel]
  · rw [zset_n q]
    by_cases q2 : x = a ∧ c = 8
    · rw [q2.1, q2.2, zset_s, gtI_a h, Int32.sub_add_cancel]
    · rw [zset_n q2, gtI_o q2 q]
def wkI (I : zI) (i f t : Nat) (p : Int32) : zI := zset (zset I i (10 + f) (I i (10 + f) - p)) i (10 + t) (zset I i (10 + f) (I i (10 + f) - p) i (10 + t) + p)
theorem wkI_undo {I : zI} {i f t : Nat} {p : Int32} (h : ¬ f = t) : zset (zset (wkI I i f t p) i (10 + f) (wkI I i f t p i (10 + f) + p)) i (10 + t) (zset (wkI I i f t p) i (10 + f) (wkI I i f t p i (10 + f) + p) i (10 + t) - p) = I := by
  have wf : wkI I i f t p i (10 + f) = I i (10 + f) - p := by unfold wkI; rw [zset_n (by omega), zset_s]
  have wt : wkI I i f t p i (10 + t) = I i (10 + t) + p := by unfold wkI; rw [zset_s, zset_n (by omega)]
  funext x c
  by_cases q : x = i ∧ c = 10 + t
  · rw [q.1, q.2, zset_s, zset_n (by omega), wt, Int32.add_sub_cancel]
  · rw [zset_n q]
    by_cases q2 : x = i ∧ c = 10 + f
    · rw [q2.1, q2.2, zset_s, wf, Int32.sub_add_cancel]
    · rw [zset_n q2]
      unfold wkI
      rw [zset_n q, zset_n q2]
abbrev vWk (I : zI) (i : Nat) (x2 x3 x4 : Int32) : Prop := (0 ≤ x2.toInt ∧ x2.toInt ≤ 3) ∧ (0 ≤ x3.toInt ∧ x3.toInt ≤ 3) ∧ ¬ x2 = x3 ∧ 1 ≤ x4.toInt ∧ x4.toInt ≤ (I i (10 + x2.toInt.toNat)).toInt
section Goat
variable {d : Nat} {μ : zMem} {KI : Int32 → zMem → Prop} {KV : zMem → Prop} {X : Nat → zMem → Prop} {n : Nat} {S : zSky} {D : Nat → Int32} {tn : Nat} {tb : Nat → Int32} {F : Int32} {T T' : zT} {K : Option (Nat → Int32)} {M : Option zT}
theorem C_canThrow {i j : Nat} {x3 : Int32} (hW : QW n S D tn T K M) (hC : QC μ n S D tn tb F T K M) (hi : i < n) (hj : j < n) (h : ∀ m, Fr zScC μ m → KI (b2i (vGt S D T.1 i j x3)) m) : zcI (d + 6) mX8_canThrowGoat [.ref 0, .int (nI i), .int (nI j), .int x3] μ KI X := by
  have n6 := hW.1
  refine cX8_canThrowGoat_ ?_
  unfold pX8_canThrowGoat
  rw [tN_nI (by omega), tN_nI (by omega)]
  have gi : μ 56 i = T.1 i 8 := hC.I.lo (k := 8) hi (by omega)
  have gj : μ 56 j = T.1 j 8 := hC.I.lo (k := 8) hj (by omega)
  have ri := hW.rK hi
  have rj := hW.rK hj
  unfold rowK at ri rj
  have c1 : T.1 i 8 < 1 ↔ T.1 i 8 = 0 := by rw [i_lt, i_eq, i_0, i_1]; omega
  have c9 : T.1 j 8 < 9 ↔ ¬ T.1 j 8 = 9 := by rw [i_lt, i_eq, show (9 : Int32).toInt = 9 from by decide]; omega
  rw [gi, gj, c1, c9, n_eq (by omega) (by omega)]
  refine ⟨fun q => ?_, fun q => ⟨vin (by omega), fun q2 => ?_, fun q2 => ⟨vin (by omega), fun q3 => ?_, fun q3 => ?_⟩⟩⟩
  · have := h μ Fr.rf; rw [b2i_f (fun z => z.1 q)] at this; exact this
  · have := h μ Fr.rf; rw [b2i_f (fun z => z.2.1 q2)] at this; exact this
  · refine C_putNow hW hC hi (fun m f _ a => C_putNow hW (hC.q f) hj (fun m' f' fp a' => ?_))
    have ga : gAt m' (sG S T.1 x3 0) i := (gAt_now a).fr fp (sky_rng (zsk_sh m 0 4)) q
    rw [((hC.q f).q f').1.2.2.2.1]
    have hh := h m' (f.tr f')
    refine C_hasBridge rfl rfl (by omega) (by omega) ga (gAt_now a') (b2i_go' ?_)
    rw [b2i_congr (q := vGt S D T.1 i j x3) ⟨fun z => ⟨q, q2, q3, z⟩, fun z => z.2.2.2⟩]; exact hh
  · have := h μ Fr.rf; rw [b2i_f (fun z => q3 z.2.2.1)] at this; exact this
theorem C_goat {x1 x2 x3 : Int32} (hW : QW n S D tn T K M) (hC : QC μ n S D tn tb F T K M) (h0 : ¬ (vIs n x1 ∧ vIs n x2 ∧ vHr x3) → X 0 μ)
    (h2 : ∀ i j, i < n → j < n → x1 = nI i → x2 = nI j → vHr x3 → ¬ vGt S D T.1 i j x3 → ∀ m, Fr zCls μ m → QC m n S D tn tb F (tRef T 1) K M → KI 0 m)
    (h1 : ∀ i j, i < n → j < n → x1 = nI i → x2 = nI j → vHr x3 → vGt S D T.1 i j x3 → ∀ m, Fr zCls μ m → QC m n S D tn tb F (tPush T (gtI T.1 i j)) K M → KI 1 m) : zcI (d + 7) mX8_goat [.ref 0, .int x1, .int x2, .int x3] μ KI X := by
  have n6 := hW.1
  refine cX8_goat_ (C_needIsle hC.cn n6 (fun q => h0 fun z => q z.1) (fun i hi e => C_needIsle hC.cn n6 (fun q => h0 fun z => q z.2.1) (fun j hj e' => C_needHour (fun q => h0 fun z => q z.2.2) (fun q3 => ?_))))
  subst e e'
  refine C_canThrow hW hC hi hj (fun m f => b2i_go (fun q m9 e9 => h2 i j hi hj rfl rfl q3 q m9 ((zScC_c f).tr (by rw [e9]; exact ref_c)) (by rw [e9]; exact (hC.q f).ref)) (fun q => ?_))
  have hCm := hC.q f
  rw [tN_nI (by omega), tN_nI (by omega)]
  refine ⟨vin (by omega), vin (by omega), fun m6 e6 => ⟨vin (by omega), vin (by omega), fun m7 e7 => ?_⟩⟩
  have I6 : IsC m6 47 n (zset T.1 i 8 (T.1 i 8 - 1)) := by
    have e : m 56 i = T.1 i 8 := hCm.I.lo (k := 8) hi (by omega)
    rw [e6, e]
    exact IsC_w (o := 47) (k := 8) hCm.I (by omega) fun a ha b hb => rfl
  have I7 : IsC m7 47 n (gtI T.1 i j) := by
    have e : m6 56 j = zset T.1 i 8 (T.1 i 8 - 1) j 8 := I6.lo (k := 8) hj (by omega)
    rw [e7, e]
    exact IsC_w (o := 47) (k := 8) I6 (by omega) fun a ha b hb => rfl
  refine C_act hW hCm (fun c k z => by rw [e7, zw_c (by omega), e6, zw_c (by omega)]) I7 ?_ (fun μ' f' c _ => h1 i j hi hj rfl rfl q3 q μ' ((zScC_c f).tr f') c)
  refine ⟨i, hi, rfl, Or.inr (Or.inr (Or.inr (Or.inl ⟨rfl, j, hj, rfl, ?_⟩)))⟩
  rw [gtI_undo q.1]; exact eqI.rf
theorem R_goat {x1 x2 x3 : Int32} (hW : QW n S D tn T K M) (hR : QR μ n S D tn tb F T K M) (h0 : ¬ (vIs n x1 ∧ vIs n x2 ∧ vHr x3) → ∀ m, Fr zScR μ m → m 106 3 = 1 → KI 0 m)
    (h2 : ∀ i j, i < n → j < n → x1 = nI i → x2 = nI j → vHr x3 → ¬ vGt S D T.1 i j x3 → ∀ m, Fr zRef μ m → m 106 3 = 0 → QR m n S D tn tb F (tRef T 1) K M → KI 0 m)
    (h1 : ∀ i j, i < n → j < n → x1 = nI i → x2 = nI j → vHr x3 → vGt S D T.1 i j x3 → ∀ m, Fr zRef μ m → m 106 3 = 0 → QR m n S D tn tb F (tPush T (gtI T.1 i j)) K M → KI 1 m) : zcI (d + 7) mX9_goat [.ref 106, .int x1, .int x2, .int x3] μ KI X := by
  have n6 := hW.1
  refine cX9_goat_ (fun m1 e1 => ?_)
  have f1 : Fr zScR μ m1 := by rw [e1]; exact code_q
  have k1 : m1 106 3 = 0 := by rw [e1, zw_s]
  have hR1 := hR.q f1
  have bad : ¬ (vIs n x1 ∧ vIs n x2 ∧ vHr x3) → pX9_goat_28 (d + 6) m1 KI X := fun q m e => h0 q m (f1.tr (by rw [e]; exact code_q)) (by rw [e, zw_s])
  refine R_isIsle hR1.cn n6 (b2i_go (fun q => bad fun z => q z.1) (fun q1 => R_isIsle hR1.cn n6 (b2i_go (fun q => bad fun z => q z.2.1) (fun q2 => R_isHour (b2i_go (fun q => bad fun z => q z.2.2) (fun q3 => R_hourNow hW hR1 (fun m f g => ?_)))))))
  obtain ⟨i, hi, e⟩ := q1.get
  obtain ⟨j, hj, e'⟩ := q2.get
  have fm : Fr zScR μ m := f1.tr (zTell_q f)
  have km : m 106 3 = 0 := by rw [zTell_c f, k1]
  have hR2 := hR.q fm
  have no : ¬ vGt S D T.1 i j x3 → pX9_goat_77 (d + 6) m KI X := fun q m' em => h2 i j hi hj e e' q3 q m' ((zScR_r fm).tr (by rw [em]; exact ref_r)) (by rw [em, zw_c (by omega), km]) (by rw [em]; exact hR2.ref)
  have gi : rI m i 8 = T.1 i 8 := hR2.I.2 i hi 8 (by omega)
  have gj : rI m j 8 = T.1 j 8 := hR2.I.2 j hj 8 (by omega)
  subst e e'
  rw [n_eq (by omega) (by omega)]
  refine ⟨fun q => no fun z => z.1 q, fun q4 => R_of rfl rfl (by omega) (k := 8) (by omega) ?_⟩
  rw [gi]
  refine ⟨fun q => no fun z => z.2.1 q, fun q5 => R_of rfl rfl (by omega) (k := 8) (by omega) ?_⟩
  rw [gj]
  refine ⟨fun q => no fun z => z.2.2.1 q, fun q6 => R_isBridge rfl rfl (by omega) (by omega) (hR2.1.2.2 3 (by omega) (by omega)) (g i hi) (g j hj) (b2i_go (fun q => no fun z => q z.2.2.2) (fun q7 => ?_))⟩
  refine R_keepNow (I' := gtI T.1 i j) hW hR2 (fun m2 f2 l2 => R_of rfl rfl (by omega) (k := 8) (by omega) (R_set rfl rfl (by omega) (k := 8) (by omega) (fun m3 e3 => R_of rfl rfl (by omega) (k := 8) (by omega) (R_set rfl rfl (by omega) (k := 8) (by omega) (fun m4 e4 => ?_)))))
  have g2 : ∀ a, a < n → ∀ b, b < 14 → m2 111 (14 * a + b) = T.1 a b := fun a ha b hb => by rw [f2 _ _ (by unfold zKeep; omega)]; exact hR2.2.2.2.1.1 a ha b hb
  have e8 : rI m2 i 8 = T.1 i 8 := g2 i hi 8 (by omega)
  rw [e8] at e3
  have g3 : ∀ a, a < n → ∀ b, b < 14 → m3 111 (14 * a + b) = zset T.1 i 8 (T.1 i 8 - 1) a b := by rw [e3]; exact isl_set (by omega) g2
  have e9 : rI m3 j 8 = zset T.1 i 8 (T.1 i 8 - 1) j 8 := g3 j hj 8 (by omega)
  rw [e9] at e4
  refine h1 i j hi hj rfl rfl q3 ⟨q4, q5, q6, q7⟩ m4 (((zScR_r fm).tr (zKeep_r f2)).tr ?_) (by rw [e4, zw_c (by omega), e3, zw_c (by omega), f2 _ _ (by unfold zKeep; omega), km]) (hR2.act f2 l2 (fun c k z => by rw [e4, zw_c z, e3, zw_c z]) ?_)
  · rw [e4, e3]; exact (Fr.w (by unfold zRef; omega)).tr (Fr.w (by unfold zRef; omega))
  · rw [e4]; exact isl_set (by omega) g3
theorem rowK_gt {I : zI} {i j : Nat} (h : ∀ a, a < n → rowK I a) (hi : i < n) (hj : j < n) (h1 : ¬ i = j) (h2 : ¬ I i 8 = 0) (h3 : ¬ I j 8 = 9) : ∀ a, a < n → rowK (gtI I i j) a := by
  have ri := h i hi
  have rj := h j hj
  unfold rowK at ri rj
  rw [i_eq, i_0] at h2
  rw [i_eq, show (9 : Int32).toInt = 9 from by decide] at h3
  have s1 : (I i 8 - 1).toInt = (I i 8).toInt - 1 := by rw [i_sub (by rw [i_1]; omega) (by rw [i_1]; omega), i_1]
  have s2 : (I j 8 + 1).toInt = (I j 8).toInt + 1 := by rw [i_add (by rw [i_1]; omega) (by rw [i_1]; omega), i_1]
  unfold gtI
  refine rowK_set (rowK_set h ⟨fun z => by omega, fun z => by omega, fun _ => by omega⟩) ⟨fun z => by omega, fun z => by omega, fun _ => ?_⟩
  rw [zset_n (by omega)]; omega
theorem P_goat {x1 x2 x3 : Int32} (h : QS μ n S D tn tb F T K M) : PI (d + 7) mX8_goat mX9_goat [.ref 0, .int x1, .int x2, .int x3] [.ref 106, .int x1, .int x2, .int x3] c10 μ := by
  intro KI X hK hX
  have n6 := h.1.1
  refine C_goat h.1 h.2.1 (fun a => hX _ _ Fr.rf (fun m2 g => R_goat h.1 (h.2.2.r (Fr.rf (P := zCls)) g) (fun _ m f e => ⟨e, h.q Fr.rf g f⟩) (fun i j hi hj e e' b => absurd ⟨by rw [e]; exact vIs_n hi n6, by rw [e']; exact vIs_n hj n6, b⟩ a) (fun i j hi hj e e' b => absurd ⟨by rw [e]; exact vIs_n hi n6, by rw [e']; exact vIs_n hj n6, b⟩ a)) (by decide))
    (fun i j hi hj e e' a q m1 f1 c1 => hK _ _ f1 (fun m2 g => R_goat h.1 (h.2.2.r f1 g) (fun b => absurd ⟨by rw [e]; exact vIs_n hi n6, by rw [e']; exact vIs_n hj n6, a⟩ b) (fun _ _ _ _ _ _ _ _ m f e3 r => ⟨e3, rfl, QS.t (h.1.t h.1.tw.ref) c1 g f r⟩) (fun i' j' hi' hj' ee ee' _ b => by cases nj hi hi' n6 (e.symm.trans ee); cases nj hj hj' n6 (e'.symm.trans ee'); exact absurd b q)))
    (fun i j hi hj e e' a q m1 f1 c1 => hK _ _ f1 (fun m2 g => R_goat h.1 (h.2.2.r f1 g) (fun b => absurd ⟨by rw [e]; exact vIs_n hi n6, by rw [e']; exact vIs_n hj n6, a⟩ b) (fun i' j' hi' hj' ee ee' _ b => by cases nj hi hi' n6 (e.symm.trans ee); cases nj hj hj' n6 (e'.symm.trans ee'); exact absurd q b) (fun i' j' hi' hj' ee ee' _ _ m f e3 r => ?_)))
  cases nj hi hi' n6 (e.symm.trans ee)
  cases nj hj hj' n6 (e'.symm.trans ee')
  exact ⟨e3, rfl, QS.t (h.1.t (h.1.tw.push (rowK_gt h.1.tw.2.2.2.1 hi hj q.1 q.2.1 q.2.2.1))) c1 g f r⟩
/-! walk -/
theorem C_canWalk {i : Nat} {x2 x3 x4 : Int32} (hW : QW n S D tn T K M) (hC : QC μ n S D tn tb F T K M) (hi : i < n) (h : KI (b2i (vWk T.1 i x2 x3 x4)) μ) : zcI (d + 1) mX8_canWalk [.ref 0, .int (nI i), .int x2, .int x3, .int x4] μ KI X := by
  have n6 := hW.1
  refine cX8_canWalk_ ?_
  unfold pX8_canWalk
  rw [i_lt x2, i_le 4 x2, i_lt x3, i_le 4 x3, i_lt x4, i_0, i_1, show (4 : Int32).toInt = 4 from by decide]
  have no : ¬ vWk T.1 i x2 x3 x4 → KI 0 μ := fun q => by rw [b2i_f q] at h; exact h
  refine ⟨fun q => no (by unfold vWk; omega), fun q => ⟨fun q2 => no (by unfold vWk; omega), fun q2 => ⟨fun q3 => no (by unfold vWk; omega), fun q3 => ⟨fun q4 => no (by unfold vWk; omega), fun q4 => ⟨fun q5 => no (fun z => z.2.2.1 q5), fun q5 => ⟨fun q6 => no (by unfold vWk; omega), fun q6 => ?_⟩⟩⟩⟩⟩⟩
  obtain ⟨k, hk, e⟩ := vWh.get (m := 4) (w := x2) (by unfold vWh; omega)
  subst e
  rw [n4, tN_nI (by omega)]
  refine ⟨vin (by omega), ?_⟩
  have gk : μ 58 (4 * i + k) = T.1 i (10 + k) := hC.I.hi hi (by omega)
  rw [gk]
  have e : (if T.1 i (10 + k) < x4 then (0 : Int32) else 1) = b2i (vWk T.1 i (nI k) x3 x4) := by
    have e2 : (nI k).toInt.toNat = k := by rw [n_i (by omega)]; rfl
    by_cases z : T.1 i (10 + k) < x4
    · rw [if_pos z, b2i_f]
      intro y
      have := y.2.2.2.2
      rw [e2] at this
      rw [i_lt] at z; omega
    · rw [if_neg z, b2i_t]
      rw [i_lt] at z
      refine ⟨by omega, by omega, q5, by omega, ?_⟩
      rw [e2]; omega
  rw [e]; exact h
theorem C_walk {x1 x2 x3 x4 : Int32} (hW : QW n S D tn T K M) (hC : QC μ n S D tn tb F T K M) (h0 : ¬ vIs n x1 → X 0 μ)
    (h2 : ∀ i, i < n → x1 = nI i → ¬ vWk T.1 i x2 x3 x4 → ∀ m, Fr zCls μ m → QC m n S D tn tb F (tRef T 1) K M → KI (-1) m)
    (h1 : ∀ i f t, i < n → x1 = nI i → f < 4 → t < 4 → x2 = nI f → x3 = nI t → vWk T.1 i x2 x3 x4 → ∀ m, Fr zCls μ m → QC m n S D tn tb F (tPush T (wkI T.1 i f t x4)) K M → KI (wkI T.1 i f t x4 i (10 + t)) m) : zcI (d + 3) mX8_walk [.ref 0, .int x1, .int x2, .int x3, .int x4] μ KI X := by
  have n6 := hW.1
  refine cX8_walk_ (C_needIsle hC.cn n6 h0 (fun i hi e => ?_))
  subst e
  refine C_canWalk hW hC hi (b2i_go (fun q m9 e9 => h2 i hi rfl q m9 (by rw [e9]; exact ref_c) (by rw [e9]; exact hC.ref)) (fun q => ?_))
  obtain ⟨f, hf, e⟩ := vWh.get (m := 4) (w := x2) (by unfold vWh; omega)
  obtain ⟨t, ht, e'⟩ := vWh.get (m := 4) (w := x3) (by unfold vWh; omega)
  have hft : ¬ f = t := fun z => q.2.2.1 (by rw [e, e', z])
  have hh := h1 i f t hi rfl (by omega) (by omega) e e' q
  subst e e'
  rw [n4, n4, tN_nI (by omega), tN_nI (by omega)]
  refine ⟨vin (by omega), vin (by omega), fun m6 e6 => ⟨vin (by omega), vin (by omega), fun m7 e7 => ?_⟩⟩
  have I6 : IsC m6 47 n (zset T.1 i (10 + f) (T.1 i (10 + f) - x4)) := by
    have e : μ 58 (4 * i + f) = T.1 i (10 + f) := hC.I.hi hi (by omega)
    rw [e6, e]
    exact IsC_s (o := 47) hC.I (by omega) fun a ha b hb => rfl
  have I7 : IsC m7 47 n (wkI T.1 i f t x4) := by
    have e : m6 58 (4 * i + t) = zset T.1 i (10 + f) (T.1 i (10 + f) - x4) i (10 + t) := I6.hi hi (by omega)
    rw [e7, e]
    exact IsC_s (o := 47) I6 (by omega) fun a ha b hb => rfl
  refine C_act hW hC (fun c k z => by rw [e7, zw_c (by omega), e6, zw_c (by omega)]) I7 ?_ (fun μ' f' c g => ⟨vin (by omega), ?_⟩)
  · refine ⟨i, hi, rfl, Or.inr (Or.inr (Or.inr (Or.inr ⟨rfl, f, t, by omega, by omega, rfl, rfl, ?_⟩)))⟩
    show eqI n T.1 (zset (zset (wkI T.1 i f t x4) i (10 + f) (wkI T.1 i f t x4 i (10 + f) + x4)) i (10 + t) (zset (wkI T.1 i f t x4) i (10 + f) (wkI T.1 i f t x4 i (10 + f) + x4) i (10 + t) - x4))
    rw [wkI_undo hft]; exact eqI.rf
  · have e : μ' 58 (4 * i + t) = wkI T.1 i f t x4 i (10 + t) := by rw [g 58 _ (by omega) (by omega)]; exact I7.hi hi (by omega)
    rw [e]
    exact hh μ' f' c
theorem n10 (k : Nat) : (10 : Int32) + nI k = nI (10 + k) := nI_add 10 k
theorem R_walk {x1 x2 x3 x4 : Int32} (hW : QW n S D tn T K M) (hR : QR μ n S D tn tb F T K M) (h0 : ¬ vIs n x1 → ∀ m, Fr zScR μ m → m 106 3 = 1 → KI 0 m)
    (h2 : ∀ i, i < n → x1 = nI i → ¬ vWk T.1 i x2 x3 x4 → ∀ m, Fr zRef μ m → m 106 3 = 0 → QR m n S D tn tb F (tRef T 1) K M → KI (-1) m)
    (h1 : ∀ i f t, i < n → x1 = nI i → f < 4 → t < 4 → x2 = nI f → x3 = nI t → vWk T.1 i x2 x3 x4 → ∀ m, Fr zRef μ m → m 106 3 = 0 → QR m n S D tn tb F (tPush T (wkI T.1 i f t x4)) K M → KI (wkI T.1 i f t x4 i (10 + t)) m) : zcI (d + 3) mX9_walk [.ref 106, .int x1, .int x2, .int x3, .int x4] μ KI X := by
  have n6 := hW.1
  refine cX9_walk_ (fun m1 e1 => ?_)
  have f1 : Fr zScR μ m1 := by rw [e1]; exact code_q
  have k1 : m1 106 3 = 0 := by rw [e1, zw_s]
  have hR1 := hR.q f1
  refine R_isIsle hR1.cn n6 (b2i_go (fun q => R_fail (fun m e => h0 q m (f1.tr (by rw [e]; exact code_q)) (by rw [e, zw_s]))) (fun q1 => ?_))
  obtain ⟨i, hi, e⟩ := q1.get
  have no : ¬ vWk T.1 i x2 x3 x4 → pX9_walk_68 (d + 2) m1 KI X := fun q => R_refuse (j := 1) rfl (by omega) (fun m e2 => h2 i hi e q m ((zScR_r f1).tr (by rw [e2]; exact ref_r)) (by rw [e2, zw_c (by omega), k1]) (by rw [e2]; exact hR1.ref))
  refine R_isIn (A := 0) (B := 3) (by decide) (by decide) (b2i_go (fun q => no fun z => q z.1) (fun q2 => R_isIn (A := 0) (B := 3) (by decide) (by decide) (b2i_go (fun q => no fun z => q z.2.1) (fun q3 => ⟨fun q => no fun z => z.2.2.1 q, fun q4 => ?_⟩))))
  rw [i_lt, i_1]
  refine ⟨fun q => no (by unfold vWk; omega), fun q5 => ?_⟩
  obtain ⟨f, hf, e2⟩ := vWh.get (m := 4) (w := x2) (by unfold vWh; omega)
  obtain ⟨t, ht, e3⟩ := vWh.get (m := 4) (w := x3) (by unfold vWh; omega)
  have hft : ¬ f = t := fun z => q4 (by rw [e2, e3, z])
  subst e e2 e3
  have ef : (nI f).toInt.toNat = f := by rw [n_i (by omega)]; rfl
  have gi : rI m1 i (10 + f) = T.1 i (10 + f) := hR1.I.2 i hi (10 + f) (by omega)
  rw [n10, n10]
  refine R_of rfl rfl (by omega) (k := 10 + f) (by omega) ?_
  rw [gi, i_le]
  refine ⟨fun q6 => ?_, fun q6 => no fun z => q6 (by have := z.2.2.2.2; rw [ef] at this; exact this)⟩
  have hv : vWk T.1 i (nI f) (nI t) x4 := ⟨q2, q3, q4, by omega, by rw [ef]; exact q6⟩
  refine R_keepNow (I' := wkI T.1 i f t x4) hW hR1 (fun m2 f2 l2 => R_of rfl rfl (by omega) (k := 10 + f) (by omega) (R_set rfl rfl (by omega) (k := 10 + f) (by omega) (fun m3 e3 => R_of rfl rfl (by omega) (k := 10 + t) (by omega) (R_set rfl rfl (by omega) (k := 10 + t) (by omega) (fun m4 e4 => R_of rfl rfl (by omega) (k := 10 + t) (by omega) ?_)))))
  have g2 : ∀ a, a < n → ∀ b, b < 14 → m2 111 (14 * a + b) = T.1 a b := fun a ha b hb => by rw [f2 _ _ (by unfold zKeep; omega)]; exact hR1.2.2.2.1.1 a ha b hb
  have e8 : rI m2 i (10 + f) = T.1 i (10 + f) := g2 i hi (10 + f) (by omega)
  rw [e8] at e3
  have g3 : ∀ a, a < n → ∀ b, b < 14 → m3 111 (14 * a + b) = zset T.1 i (10 + f) (T.1 i (10 + f) - x4) a b := by rw [e3]; exact isl_set (by omega) g2
  have e9 : rI m3 i (10 + t) = zset T.1 i (10 + f) (T.1 i (10 + f) - x4) i (10 + t) := g3 i hi (10 + t) (by omega)
  rw [e9] at e4
  have g4 : ∀ a, a < n → ∀ b, b < 14 → m4 111 (14 * a + b) = wkI T.1 i f t x4 a b := by rw [e4]; exact isl_set (by omega) g3
  have e10 : rI m4 i (10 + t) = wkI T.1 i f t x4 i (10 + t) := g4 i hi (10 + t) (by omega)
  rw [e10]
  refine h1 i f t hi rfl (by omega) (by omega) rfl rfl hv m4 (((zScR_r f1).tr (zKeep_r f2)).tr ?_) (by rw [e4, zw_c (by omega), e3, zw_c (by omega), f2 _ _ (by unfold zKeep; omega), k1]) (hR1.act f2 l2 (fun c k z => by rw [e4, zw_c z, e3, zw_c z]) g4)
  rw [e4, e3]; exact (Fr.w (by unfold zRef; omega)).tr (Fr.w (by unfold zRef; omega))
theorem P_walk {x1 x2 x3 x4 : Int32} (h : QS μ n S D tn tb F T K M) : PI (d + 3) mX8_walk mX9_walk [.ref 0, .int x1, .int x2, .int x3, .int x4] [.ref 106, .int x1, .int x2, .int x3, .int x4] c10 μ := by
  intro KI X hK hX
  have n6 := h.1.1
  refine C_walk h.1 h.2.1 (fun a => hX _ _ Fr.rf (fun m2 g => R_walk h.1 (h.2.2.r (Fr.rf (P := zCls)) g) (fun _ m f e => ⟨e, h.q Fr.rf g f⟩) (fun i hi e => absurd (by rw [e]; exact vIs_n hi n6) a) (fun i _ _ hi e => absurd (by rw [e]; exact vIs_n hi n6) a)) (by decide))
    (fun i hi e a m1 f1 c1 => hK _ _ f1 (fun m2 g => R_walk h.1 (h.2.2.r f1 g) (fun b => absurd (by rw [e]; exact vIs_n hi n6) b) (fun _ _ _ _ m f e r => ⟨e, rfl, QS.t (h.1.t h.1.tw.ref) c1 g f r⟩) (fun j f t hj e' _ _ _ _ b => by cases nj hi hj n6 (e.symm.trans e'); exact absurd b a)))
    (fun i fr to hi e hf4 ht4 ef et a m1 f1 c1 => hK _ _ f1 (fun m2 g => R_walk h.1 (h.2.2.r f1 g) (fun b => absurd (by rw [e]; exact vIs_n hi n6) b) (fun j hj e' b => by cases nj hi hj n6 (e.symm.trans e'); exact absurd a b) (fun j fr' to' hj e' hf4' ht4' ef' et' _ m f e3 r => ?_)))
  cases nj hi hj n6 (e.symm.trans e')
  cases nj' (by omega) (by omega) (ef.symm.trans ef')
  cases nj' (by omega) (by omega) (et.symm.trans et')
  refine ⟨e3, rfl, QS.t (h.1.t (h.1.tw.push ?_)) c1 g f r⟩
  unfold wkI
  exact rowK_set (rowK_set h.1.tw.2.2.2.1 ⟨fun z => by omega, fun z => by omega, fun z => by omega⟩) ⟨fun z => by omega, fun z => by omega, fun z => by omega⟩
end Goat
