/-! the week by a seed -/
theorem i_bv (x : Int32) : x.toBitVec.toNat < 4294967296 ∧ (x.toInt = (x.toBitVec.toNat : Int) ∨ x.toInt = (x.toBitVec.toNat : Int) - 4294967296) := by
  have h := BitVec.toInt_eq_toNat_cond x.toBitVec
  have e : x.toInt = x.toBitVec.toInt := rfl
  have l := x.toBitVec.isLt
  rw [e]
  refine ⟨l, ?_⟩
  split at h
  · exact Or.inl h
  · exact Or.inr h
def drB (s : Int32) : Nat := s.toBitVec.toNat / 65536 % 32768
def drN (s : Int32) (n : Nat) : Nat := drB s % n
theorem drB_lt (s : Int32) : drB s < 32768 := Nat.mod_lt _ (by omega)
theorem drB_C (x : Int32) : (x.toUInt32 >>> ((Int32.toUInt32 16) &&& Int32.toUInt32 31)).toInt32 &&& 32767 = nI (drB x) := by
  rw [pk_and _ (m := 32767) 15 (by decide), pk_ushr x 16 16 (by decide)]
  rfl
theorem drB_R (x : Int32) : (x >>> ((16 : Int32) &&& 31)) &&& 32767 = nI (drB x) := by
  rw [pk_and _ (m := 32767) 15 (by decide)]
  have h1 := pk_shr x ((16 : Int32) &&& 31) 16 (by decide)
  have h2 := i_bv x
  have h3 := i_bv (x >>> ((16 : Int32) &&& 31))
  rw [Int.shiftRight_eq_div_pow] at h1
  have h4 : (x >>> ((16 : Int32) &&& 31)).toInt = x.toInt / 65536 := h1
  unfold drB
  congr 1
  show (x >>> ((16 : Int32) &&& 31)).toBitVec.toNat % 32768 = x.toBitVec.toNat / 65536 % 32768
  generalize (x >>> ((16 : Int32) &&& 31)).toBitVec.toNat = u at *
  generalize (x >>> ((16 : Int32) &&& 31)).toInt = j at *
  generalize x.toBitVec.toNat = t at *
  generalize x.toInt = i at *
  omega
def nx (s : Int32) : Int32 := (s * 1103515245) + 12345
def wkA (n : Nat) (s : Int32) (I : zI) : zI := zset I (drN (nx s) n) 3 (zmin 60 ((I (drN (nx s) n) 3 + 1) + nI (drN (nx (nx s)) 9)))
def knH (S : zSky) (I : zI) (n : Nat) : Nat → Nat → Int32 → Int32
  | 0, _, a => a
  | m + 1, h, a => knH S I n m (h + 1) (a + (if fk (sG S I (nI h) 0) n = -1 then 0 else 1))
theorem knH_add {S : zSky} {I : zI} {n : Nat} : ∀ (m h : Nat) (a b : Int32), knH S I n m h (a + b) = a + knH S I n m h b
  | 0, _, _, _ => rfl
  | m + 1, h, a, b => by
    show knH S I n m (h + 1) ((a + b) + _) = a + knH S I n m (h + 1) (b + _)
    rw [Int32.add_assoc, knH_add m]
/-- hour by hour: behind m hours more, hours with a knock and the isles -/
def wkR (S : zSky) (n : Nat) : Nat → Nat → Int32 → zI → Int32 → Int32 × zI
  | 0, _, _, I, a => (a, I)
  | m + 1, h, s, I, a => wkR S n m (h + 1) (if h % 24 = 0 then nx (nx s) else s) (if h % 24 = 0 then wkA n s I else I) (a + (if fk (sG S (if h % 24 = 0 then wkA n s I else I) (nI h) 0) n = -1 then 0 else 1))
theorem wkR_in {S : zSky} {n : Nat} {s : Int32} {I : zI} : ∀ (j M h : Nat) (a : Int32), (∀ i, i < j → (h + i) % 24 ≠ 0) → wkR S n (j + M) h s I a = wkR S n M (h + j) s I (knH S I n j h a) := by
  intro j
  induction j with
  | zero => intro M h a _; rw [Nat.zero_add]; rfl
  | succ j ih =>
    intro M h a hz
    have h0 : ¬ h % 24 = 0 := hz 0 (by omega)
    rw [show j + 1 + M = (j + M) + 1 by omega]
    show wkR S n (j + M) (h + 1) (if h % 24 = 0 then nx (nx s) else s) (if h % 24 = 0 then wkA n s I else I) (a + (if fk (sG S (if h % 24 = 0 then wkA n s I else I) (nI h) 0) n = -1 then 0 else 1)) = _
    rw [if_neg h0, if_neg h0, ih M (h + 1) _ (fun i hi => by have := hz (i + 1) (by omega); rw [show h + 1 + i = h + (i + 1) by omega]; exact this), show h + 1 + j = h + (j + 1) by omega]
    rfl
theorem wkR_day {S : zSky} {n : Nat} {s : Int32} {I : zI} {M k : Nat} {a : Int32} : wkR S n (24 + M) (24 * k) s I a = wkR S n M (24 * (k + 1)) (nx (nx s)) (wkA n s I) (knH S (wkA n s I) n 24 (24 * k) a) := by
  have h0 : 24 * k % 24 = 0 := by omega
  rw [show 24 + M = (23 + M) + 1 by omega]
  show wkR S n (23 + M) (24 * k + 1) (if 24 * k % 24 = 0 then nx (nx s) else s) (if 24 * k % 24 = 0 then wkA n s I else I) (a + (if fk (sG S (if 24 * k % 24 = 0 then wkA n s I else I) (nI (24 * k)) 0) n = -1 then 0 else 1)) = _
  rw [if_pos h0, if_pos h0, wkR_in 23 M (24 * k + 1) _ (fun i hi => by omega), show 24 * k + 1 + 23 = 24 * (k + 1) by omega]
  rfl
theorem wkR_2 {S : zSky} {n : Nat} : ∀ (m h : Nat) (s : Int32) (I : zI) (a b : Int32), (wkR S n m h s I a).2 = (wkR S n m h s I b).2
  | 0, _, _, _, _, _ => rfl
  | m + 1, h, s, I, a, b => wkR_2 m (h + 1) _ _ _ _
def wkO (x : Int32) (k : Nat) (p : Int32 × zI) : Int32 := if x = -1 then p.1 else p.2 k 3
def sWk (S : zSky) (I : zI) (n : Nat) (s x : Int32) (k : Nat) : Int32 := wkO x k (wkR S n (if n = 0 then 0 else 168) 0 s I 0)
section Week
variable {d : Nat} {μ : zMem} {KI : Int32 → zMem → Prop} {KV : zMem → Prop} {X : Nat → zMem → Prop} {n : Nat} {S : zSky} {D : Nat → Int32} {tn : Nat} {tb : Nat → Int32} {F : Int32} {T T' : zT} {K : Option (Nat → Int32)} {M : Option zT}
theorem C_nextSeed {s : Int32} (h : KI (nx s) μ) : zcI (d + 1) mX8_nextSeed [.int s] μ KI X := cX8_nextSeed_ h
theorem C_drawOf {s : Int32} {N : Nat} (h0 : 0 < N) (hN : N < 1000) (h : KI (nI (drN s N)) μ) : zcI (d + 1) mX8_drawOf [.int s, .int (nI N)] μ KI X := by
  refine cX8_drawOf_ ⟨fun q => absurd q ?_, fun _ => ⟨fun q => ?_, ?_⟩⟩
  · rw [show (0 : Int32) = nI 0 from rfl, n_le (by omega) (by omega)]; omega
  · have := (n_eq (b := 0) (by omega) (by omega)).mp q; omega
  · have l := drB_lt s
    rw [drB_C, pk_rem (by omega) h0 (by omega)]; exact h
theorem L_knH {I : zI} {h0 : Nat} {μ0 : zMem} (hW : QW n S D tn T K M) (hC : QC μ0 n S D tn tb F T K M) (hh : h0 ≤ 1000) : ∀ (m h : Nat) (a : Int32) (μ : zMem), h + m = h0 + 24 → Fr zScC μ0 μ → IsC μ 80 n I → (∀ μ', Fr zScC μ0 μ' → IsC μ' 80 n I → KI (knH S I n m h a) μ') → pX8_knockingHours_4 (m + 1) (d + 6) (nI h0) a (nI h) μ KI X := by
  have n6 := hW.1
  have e24 : nI h0 + 24 = nI (h0 + 24) := nI_add _ 24
  intro m
  induction m with
  | zero =>
    intro h a μ hm hf hI hK
    refine ⟨fun _ => hK μ hf hI, fun z => absurd ?_ z⟩
    rw [e24]; exact (n_le (by omega) (by omega)).mpr (by omega)
  | succ m ih =>
    intro h a μ hm hf hI hK
    refine ⟨fun z => absurd z (by rw [e24, n_le (by omega) (by omega)]; omega), fun _ => C_blowTry hW hC hf hI (fun m1 f1 g1 => ?_)⟩
    have hf1 := hf.tr (zAir_q f1)
    have I1 : IsC m1 80 n I := hI.go fun c j q1 q2 => f1 _ _ (by unfold zAir; omega)
    refine C_firstKnock I1.1 n6 g1 ⟨fun z v4 e4 => ?_, fun z v5 e5 v6 e6 => ?_⟩
    · rw [nI_1] at e4
      subst e4
      refine ih (h + 1) a m1 (by omega) hf1 I1 (fun μ' f' i' => ?_)
      have := hK μ' f' i'
      rw [show knH S I n (m + 1) h a = knH S I n m (h + 1) (a + (if fk (sG S I (nI h) 0) n = -1 then 0 else 1)) from rfl, if_pos z, Int32.add_zero] at this
      exact this
    · rw [nI_1] at e6
      subst e5 e6
      refine ih (h + 1) _ m1 (by omega) hf1 I1 (fun μ' f' i' => ?_)
      have := hK μ' f' i'
      rw [show knH S I n (m + 1) h a = knH S I n m (h + 1) (a + (if fk (sG S I (nI h) 0) n = -1 then 0 else 1)) from rfl, if_neg z] at this
      exact this
theorem C_knH {I : zI} {h0 : Nat} {μ0 : zMem} (hW : QW n S D tn T K M) (hC : QC μ0 n S D tn tb F T K M) (hh : h0 ≤ 1000) (f : Fr zScC μ0 μ) (hI : IsC μ 80 n I) (h : ∀ μ', Fr zScC μ0 μ' → IsC μ' 80 n I → KI (knH S I n 24 h0 0) μ') : zcI (d + 7) mX8_knockingHours [.ref 0, .int (nI h0)] μ KI X :=
  cX8_knockingHours_ ⟨24 + 1, L_knH hW hC hh 24 h0 0 μ (by omega) f hI h⟩
theorem L_weekC {x2 : Int32} {k : Nat} {μ0 : zMem} (hx : ¬ x2 = -1 → k < n ∧ x2 = nI k) (h0 : 0 < n) (hW : QW n S D tn T K M) (hC : QC μ0 n S D tn tb F T K M) : ∀ (m j : Nat) (s a b : Int32) (I : zI) (μ : zMem), j + m = 7 → (x2 = -1 → a = b) → Fr zScC μ0 μ → IsC μ 80 n I →
    (∀ μ', Fr zScC μ0 μ' → KI (wkO x2 k (wkR S n (24 * m) (24 * j) s I b)) μ') → pX8_week_32 (m + 1) (d + 7) x2 s a (nI j) μ KI X := by
  have n6 := hW.1
  intro m
  induction m with
  | zero =>
    intro j s a b I μ hj hab hf hI hK
    refine ⟨fun _ => ⟨fun z => ?_, fun z => ?_⟩, fun z => absurd ?_ z⟩
    · have := hK μ hf
      unfold wkO at this
      rw [if_pos z] at this
      rw [hab z]; exact this
    · obtain ⟨hk, e⟩ := hx z
      have := hK μ hf
      unfold wkO at this
      rw [if_neg z] at this
      rw [e, tN_nI (by omega)]
      refine ⟨vin (by omega), ?_⟩
      have e2 : μ 84 k = I k 3 := hI.lo (k := 3) hk (by omega)
      rw [e2]; exact this
    · rw [show (7 : Int32) = nI 7 from rfl]; exact (n_le (by omega) (by omega)).mpr (by omega)
  | succ m ih =>
    intro j s a b I μ hj hab hf hI hK
    refine ⟨fun z => absurd z (by rw [show (7 : Int32) = nI 7 from rfl, n_le (by omega) (by omega)]; omega), fun _ => ⟨fun z => absurd z (by rw [hI.1, show (0 : Int32) = nI 0 from rfl, n_le (by omega) (by omega)]; omega), fun _ => C_nextSeed ?_⟩⟩
    rw [hI.1]
    have l1 : drN (nx s) n < n := Nat.mod_lt _ h0
    refine C_drawOf h0 (by omega) (C_nextSeed ⟨vin (by omega), C_drawOf (N := 9) (by omega) (by omega) (fun v9 e9 => ⟨vin (by omega), fun m10 e10 => ?_⟩)⟩)
    rw [tN_nI (by omega)] at e9 e10
    have e84 : μ 84 (drN (nx s) n) = I (drN (nx s) n) 3 := hI.lo (k := 3) l1 (by omega)
    rw [e84] at e9
    have f1 : Fr zScC μ0 m10 := hf.tr (by rw [e10]; exact Fr.w (by unfold zScC; omega))
    have I1 : IsC m10 80 n (wkA n s I) := by
      rw [e10]
      refine IsC_w (o := 80) (k := 3) hI (by omega) fun a ha b hb => ?_
      rw [e9, zmin_c]; rfl
    have e24 : nI j * 24 = nI (24 * j) := by rw [show (24 : Int32) = nI 24 from rfl, pk_mul, Nat.mul_comm]
    rw [e24]
    have wd : wkR S n (24 * (m + 1)) (24 * j) s I b = wkR S n (24 * m) (24 * (j + 1)) (nx (nx s)) (wkA n s I) (knH S (wkA n s I) n 24 (24 * j) b) := by
      rw [show 24 * (m + 1) = 24 + 24 * m by omega]; exact wkR_day
    refine ⟨fun z => C_knH hW hC (by omega) f1 I1 (fun m12 f12 I12 v14 e14 => ?_), fun z v11 e11 => ?_⟩
    · rw [nI_1] at e14
      subst e14
      refine ih (j + 1) _ _ (knH S (wkA n s I) n 24 (24 * j) b) _ m12 (by omega) (fun _ => ?_) f12 I12 (fun μ' f' => ?_)
      · rw [← knH_add, Int32.add_zero, hab z]
      · have := hK μ' f'
        rw [wd] at this; exact this
    · rw [nI_1] at e11
      subst e11
      refine ih (j + 1) _ _ (knH S (wkA n s I) n 24 (24 * j) b) _ m10 (by omega) (fun q => absurd q z) f1 I1 (fun μ' f' => ?_)
      have := hK μ' f'
      rw [wd] at this; exact this
abbrev vWe (n : Nat) (x : Int32) : Prop := x = -1 ∨ vIs n x
theorem C_week {x1 x2 : Int32} (hW : QW n S D tn T K M) (hC : QC μ n S D tn tb F T K M) (h0 : ¬ vWe n x2 → X 0 μ) (h1 : ∀ k, (¬ x2 = -1 → k < n ∧ x2 = nI k) → ∀ m, Fr zScC μ m → KI (sWk S T.1 n x1 x2 k) m) : zcI (d + 8) mX8_week [.ref 0, .int x1, .int x2] μ KI X := by
  have n6 := hW.1
  have go : ∀ k, (¬ x2 = -1 → k < n ∧ x2 = nI k) → pX8_week_10 (d + 7) x1 x2 μ KI X := by
    intro k hk
    refine C_copyNow hW hC (fun m2 f2 g2 I2 => ?_)
    have hh := h1 k hk
    by_cases z : n = 0
    · refine ⟨1, fun q => absurd q (by decide), fun _ => ⟨fun _ => ?_, fun q => absurd (by rw [I2.1, z]; decide) q⟩⟩
      have e : x2 = -1 := by
        by_cases q : x2 = -1
        · exact q
        · have := (hk q).1; omega
      refine ⟨fun _ => ?_, fun q => absurd e q⟩
      have := hh m2 f2
      unfold sWk wkO at this
      rw [if_pos e, if_pos z] at this; exact this
    · refine ⟨7 + 1, L_weekC hk (by omega) hW hC 7 0 x1 0 0 T.1 m2 (by omega) (fun _ => rfl) f2 I2 (fun μ' f' => ?_)⟩
      have := hh μ' f'
      unfold sWk at this
      rw [if_neg z] at this; exact this
  refine cX8_week_ ⟨fun z => go 0 (fun q => absurd z q), fun z => C_needIsle hC.cn n6 (fun q => h0 fun y => y.elim z q) (fun i hi e => ?_)⟩
  exact go i (fun _ => ⟨hi, e⟩)
/-! the reference's -/
theorem R_drawOf {N : Nat} (h0 : 0 < N) (hN : N < 1000) (h : ∀ m, m = zw μ 106 52 (nx (μ 106 52)) → KI (nI (drN (nx (μ 106 52)) N)) m) : zcI (d + 1) mX9_drawOf [.ref 106, .int (nI N)] μ KI X := by
  refine cX9_drawOf_ (fun m1 e1 => ⟨fun q => ?_, ?_⟩)
  · have := (n_eq (b := 0) (by omega) (by omega)).mp q; omega
  · have e : m1 106 52 = nx (μ 106 52) := by rw [e1, zw_s]; rfl
    have l := drB_lt (nx (μ 106 52))
    rw [e, drB_R, pk_rem (by omega) h0 (by omega)]
    exact h m1 e1
theorem L_wk185 {v : Int32} {I : zI} {μ0 : zMem} (hW : QW n S D tn T K M) (hR : QR μ0 n S D tn tb F T K M) (hI3 : ∀ a, a < n → ∀ b, b < 14 → b ≠ 3 → I a b = T.1 a b) : ∀ (m j : Nat) (μ : zMem), j + m = n → Fr zTry μ0 μ → isl μ n (fun a b => if a < j then T.1 a b else I a b) → μ 106 3 = 0 → (∀ i, i < n → μ 124 i = T.1 i 3) →
    (∀ μ', Fr zTry μ0 μ' → isl μ' n T.1 → μ' 106 3 = 0 → KI v μ') → pX9_week_185 (m + 1) (d + 7) v (nI j) μ KI X := by
  have n6 := hW.1
  intro m
  induction m with
  | zero =>
    intro j μ hj hf hI hk hr hK
    refine ⟨fun _ => hK μ hf (fun i hi b hb => ?_) hk, fun z => absurd (by rw [(hR.sky hf).2.1]; exact (n_le (by omega) (by omega)).mpr (by omega)) z⟩
    rw [hI i hi b hb]; exact if_pos (by omega)
  | succ m ih =>
    intro j μ hj hf hI hk hr hK
    refine ⟨fun z => absurd z (by rw [(hR.sky hf).2.1, n_le (by omega) (by omega)]; omega), fun _ => ⟨vin (by omega), R_set rfl rfl (by omega) (k := 3) (by omega) (fun m1 e1 v2 e2 => ?_)⟩⟩
    rw [nI_1] at e2
    subst e2
    rw [tN_nI (by omega), hr j (by omega)] at e1
    refine ih (j + 1) m1 (by omega) (hf.tr (by rw [e1]; exact Fr.w (Or.inr rfl))) ?_ (by rw [e1, zw_c (by omega)]; exact hk) (fun i hi => by rw [e1, zw_c (by omega)]; exact hr i hi) hK
    intro a ha b hb
    have := hI.set (i := j) (v := T.1 j 3) (k := 3) (by omega) a ha b hb
    rw [e1, this]
    show zset (fun a b => if a < j then T.1 a b else I a b) j 3 (T.1 j 3) a b = if a < j + 1 then T.1 a b else I a b
    unfold zset
    by_cases q : a = j ∧ b = 3
    · rw [if_pos q, if_pos (by omega), q.1, q.2]
    · rw [if_neg q]
      show (if a < j then T.1 a b else I a b) = _
      by_cases q2 : a < j
      · rw [if_pos q2, if_pos (by omega)]
      · rw [if_neg q2]
        by_cases q3 : a = j
        · subst q3
          rw [if_pos (by omega)]
          exact hI3 a ha b hb (fun z => q ⟨rfl, z⟩)
        · rw [if_neg (by omega)]
theorem L_weekR {x2 : Int32} {k : Nat} {μ0 : zMem} (hx : ¬ x2 = -1 → k < n ∧ x2 = nI k) (h0 : 0 < n) (hW : QW n S D tn T K M) (hR : QR μ0 n S D tn tb F T K M) : ∀ (m h : Nat) (s a : Int32) (I : zI) (μ : zMem), h + m = 168 → Fr zTry μ0 μ → isl μ n I → μ 106 3 = 0 → μ 106 52 = s → (∀ i, i < n → μ 124 i = T.1 i 3) → (∀ a, a < n → ∀ b, b < 14 → b ≠ 3 → I a b = T.1 a b) →
    (∀ μ', Fr zTry μ0 μ' → isl μ' n T.1 → μ' 106 3 = 0 → KI (wkO x2 k (wkR S n m h s I a)) μ') → pX9_week_71 (m + 1) (d + 7) x2 a (nI h) μ KI X := by
  have n6 := hW.1
  intro m
  induction m with
  | zero =>
    intro h s a I μ hh hf hI hk hs hr hI3 hK
    refine ⟨fun _ => ⟨fun z => ?_, fun z => ?_⟩, fun z => absurd ?_ z⟩
    · refine ⟨n + 1, L_wk185 hW hR hI3 n 0 μ (by omega) hf (fun i hi b hb => (hI i hi b hb).trans (if_neg (Nat.not_lt_zero i)).symm) hk hr (fun μ' f' i' k' => ?_)⟩
      have := hK μ' f' i' k'
      unfold wkO at this
      rw [if_pos z] at this; exact this
    · obtain ⟨hkn, e⟩ := hx z
      refine R_of e rfl (by omega) (k := 3) (by omega) ⟨n + 1, ?_⟩
      have e3 : rI μ k 3 = I k 3 := hI k hkn 3 (by omega)
      rw [e3]
      refine L_wk185 hW hR hI3 n 0 μ (by omega) hf (fun i hi b hb => (hI i hi b hb).trans (if_neg (Nat.not_lt_zero i)).symm) hk hr (fun μ' f' i' k' => ?_)
      have := hK μ' f' i' k'
      unfold wkO at this
      rw [if_neg z] at this; exact this
    · rw [show (168 : Int32) = nI 168 from rfl]; exact (n_le (by omega) (by omega)).mpr (by omega)
  | succ m ih =>
    intro h s a I μ hh hf hI hk hs hr hI3 hK
    have hc := (hR.sky hf).2.1
    have e24 : nI h - nI h / 24 * 24 = nI (h % 24) := pk_rem (d := 24) (by omega) (by omega) (by omega)
    have rest : ∀ (s' : Int32) (I' : zI) (m7 : zMem), Fr zTry μ0 m7 → isl m7 n I' → m7 106 3 = 0 → m7 106 52 = s' → (∀ i, i < n → m7 124 i = T.1 i 3) → (∀ a, a < n → ∀ b, b < 14 → b ≠ 3 → I' a b = T.1 a b) → wkR S n (m + 1) h s I a = wkR S n m (h + 1) s' I' (a + (if fk (sG S I' (nI h) 0) n = -1 then 0 else 1)) → pX9_week_136 (d + 7) x2 a (nI h) m7 KI X (fun z0 z1 z2 m9 => pX9_week_71 (m + 1) (d + 7) z0 z1 z2 m9 KI X) := by
      intro s' I' m7 f7 i7 k7 s7 r7 b7 w7
      refine R_hourTry hW hR f7 i7 (fun m1 f1 g1 => ?_)
      have hf1 := f7.tr (zTry_c f1)
      refine R_knocked n6 (hR.sky hf1).2.1 g1 (fun v4 e4 v5 e5 => ?_)
      rw [nI_1] at e5
      subst e4 e5
      refine ih (h + 1) s' _ I' m1 (by omega) hf1 (i7.go fun j => f1 _ _ (by unfold zTell; omega)) (by rw [zTell_c f1]; exact k7) (by rw [f1 _ _ (by unfold zTell; omega)]; exact s7) (fun i hi => by rw [f1 _ _ (by unfold zTell; omega)]; exact r7 i hi) b7 (fun μ' f' i' k' => ?_)
      have := hK μ' f' i' k'
      rw [w7] at this; exact this
    refine ⟨fun z => absurd z (by rw [show (168 : Int32) = nI 168 from rfl, n_le (by omega) (by omega)]; omega), fun _ => ⟨fun z => absurd z (by rw [hc, show (0 : Int32) = nI 0 from rfl, n_le (by omega) (by omega)]; omega), fun _ => ⟨fun z => ?_, fun z => ?_⟩⟩⟩
    · have z' : h % 24 = 0 := by rw [e24] at z; exact (nI0 (by omega)).mp z
      rw [hc]
      refine R_drawOf h0 (by omega) (fun m1 e1 => ?_)
      rw [hs] at e1 ⊢
      have l1 : drN (nx s) n < n := Nat.mod_lt _ h0
      refine R_of rfl rfl (by omega) (k := 3) (by omega) ?_
      have e3 : rI m1 (drN (nx s) n) 3 = I (drN (nx s) n) 3 := by
        have := hI _ l1 3 (by omega)
        show m1 111 _ = _
        rw [e1, zw_c (by omega)]; exact this
      rw [e3]
      refine R_drawOf (N := 9) (by omega) (by omega) (fun m5 e5 => ?_)
      have e52 : m1 106 52 = nx s := by rw [e1, zw_s]
      rw [e52] at e5 ⊢
      refine R_set rfl rfl (by omega) (k := 3) (by omega) (fun m7 e7 => ?_)
      have i5 : isl m5 n I := hI.go fun j => by rw [e5, zw_c (by omega), e1, zw_c (by omega)]
      refine rest (nx (nx s)) (wkA n s I) m7 ?_ ?_ ?_ ?_ ?_ ?_ ?_
      · have g1 : Fr zTry μ m1 := by rw [e1]; exact Fr.w (Or.inl (by unfold zScR; omega))
        have g5 : Fr zTry m1 m5 := by rw [e5]; exact Fr.w (Or.inl (by unfold zScR; omega))
        have g7 : Fr zTry m5 m7 := by rw [e7]; exact Fr.w (Or.inr rfl)
        exact hf.tr (g1.tr (g5.tr g7))
      · rw [e7]; exact i5.set (by omega)
      · rw [e7, zw_c (by omega), e5, zw_j (by omega), e1, zw_j (by omega)]; exact hk
      · rw [e7, zw_c (by omega), e5, zw_s]
      · intro i hi
        rw [e7, zw_c (by omega), e5, zw_c (by omega), e1, zw_c (by omega)]; exact hr i hi
      · intro a ha b hb hb3
        unfold wkA
        rw [zset_n (fun q => hb3 q.2)]; exact hI3 a ha b hb hb3
      · show wkR S n m (h + 1) (if h % 24 = 0 then nx (nx s) else s) (if h % 24 = 0 then wkA n s I else I) (a + (if fk (sG S (if h % 24 = 0 then wkA n s I else I) (nI h) 0) n = -1 then 0 else 1)) = _
        rw [if_pos z', if_pos z']
    · have z' : ¬ h % 24 = 0 := by rw [e24] at z; exact fun q => z (by rw [q]; rfl)
      refine rest s I μ hf hI hk hs hr hI3 ?_
      show wkR S n m (h + 1) (if h % 24 = 0 then nx (nx s) else s) (if h % 24 = 0 then wkA n s I else I) (a + (if fk (sG S (if h % 24 = 0 then wkA n s I else I) (nI h) 0) n = -1 then 0 else 1)) = _
      rw [if_neg z', if_neg z']
theorem L_wk33 {x1 x2 : Int32} {k : Nat} {μ0 : zMem} (hx : ¬ x2 = -1 → k < n ∧ x2 = nI k) (hW : QW n S D tn T K M) (hR : QR μ0 n S D tn tb F T K M) : ∀ (m j : Nat) (μ : zMem), j + m = n → Fr zTry μ0 μ → isl μ n T.1 → μ 106 3 = 0 → (∀ i, i < j → μ 124 i = T.1 i 3) →
    (∀ μ', Fr zTry μ0 μ' → isl μ' n T.1 → μ' 106 3 = 0 → KI (sWk S T.1 n x1 x2 k) μ') → pX9_week_33 (m + 1) (d + 7) x1 x2 (nI j) μ KI X := by
  have n6 := hW.1
  intro m
  induction m with
  | zero =>
    intro j μ hj hf hI hk hr hK
    refine ⟨fun _ m1 e1 => ?_, fun z => absurd (by rw [(hR.sky hf).2.1]; exact (n_le (by omega) (by omega)).mpr (by omega)) z⟩
    have f1 : Fr zTry μ0 m1 := hf.tr (by rw [e1]; exact Fr.w (Or.inl (by unfold zScR; omega)))
    have i1 : isl m1 n T.1 := hI.go fun j => by rw [e1, zw_c (by omega)]
    have k1 : m1 106 3 = 0 := by rw [e1, zw_j (by omega)]; exact hk
    have r1 : ∀ i, i < n → m1 124 i = T.1 i 3 := fun i hi => by rw [e1, zw_c (by omega)]; exact hr i (by omega)
    have s1 : m1 106 52 = x1 := by rw [e1, zw_s]
    by_cases z : n = 0
    · have e : x2 = -1 := by
        by_cases q : x2 = -1
        · exact q
        · have := (hx q).1; omega
      refine ⟨1, fun q => absurd q (by decide), fun _ => ⟨fun _ => ⟨fun _ => ⟨n + 1, ?_⟩, fun q => absurd e q⟩, fun q => absurd (by rw [(hR.sky f1).2.1, z]; decide) q⟩⟩
      refine L_wk185 hW hR (I := T.1) (fun _ _ _ _ _ => rfl) n 0 m1 (by omega) f1 (fun i hi b hb => (i1 i hi b hb).trans (if_neg (Nat.not_lt_zero i)).symm) k1 r1 (fun μ' f' i' k' => ?_)
      have := hK μ' f' i' k'
      unfold sWk wkO at this
      rw [if_pos e, if_pos z] at this; exact this
    · refine ⟨168 + 1, L_weekR hx (by omega) hW hR 168 0 x1 0 T.1 m1 (by omega) f1 i1 k1 s1 r1 (fun _ _ _ _ _ => rfl) (fun μ' f' i' k' => ?_)⟩
      have := hK μ' f' i' k'
      unfold sWk at this
      rw [if_neg z] at this; exact this
  | succ m ih =>
    intro j μ hj hf hI hk hr hK
    refine ⟨fun z => absurd z (by rw [(hR.sky hf).2.1, n_le (by omega) (by omega)]; omega), fun _ => R_of rfl rfl (by omega) (k := 3) (by omega) ⟨vin (by omega), fun m4 e4 v5 e5 => ?_⟩⟩
    rw [nI_1] at e5
    subst e5
    have e3 : rI μ j 3 = T.1 j 3 := hI j (by omega) 3 (by omega)
    rw [tN_nI (by omega), e3] at e4
    refine ih (j + 1) m4 (by omega) (hf.tr (by rw [e4]; exact Fr.w (Or.inl (by unfold zScR; omega)))) (hI.go fun j => by rw [e4, zw_c (by omega)]) (by rw [e4, zw_c (by omega)]; exact hk) (fun i hi => ?_) hK
    by_cases z : i = j
    · subst z; rw [e4, zw_s]
    · rw [e4, zw_j z]; exact hr i (by omega)
theorem R_week {x1 x2 : Int32} (hW : QW n S D tn T K M) (hR : QR μ n S D tn tb F T K M) (h0 : ¬ vWe n x2 → ∀ m, Fr zScR μ m → m 106 3 = 1 → KI 0 m) (h1 : vWe n x2 → ∀ k, (¬ x2 = -1 → k < n ∧ x2 = nI k) → ∀ m, Fr zRef μ m → QR m n S D tn tb F T K M → m 106 3 = 0 → KI (sWk S T.1 n x1 x2 k) m) : zcI (d + 8) mX9_week [.ref 106, .int x1, .int x2] μ KI X := by
  have n6 := hW.1
  refine cX9_week_ (fun m1 e1 => ?_)
  have f1 : Fr zScR μ m1 := by rw [e1]; exact code_q
  have k1 : m1 106 3 = 0 := by rw [e1, zw_s]
  have hR1 := hR.q f1
  have em : (-1 : Int32).toInt = -1 := by decide
  rw [hR1.cn]
  refine R_isIn (A := -1) (B := n - 1) (by decide) (nI_m1 n6) (b2i_go (fun q => R_fail (fun m e => h0 (fun z => q ?_) m (f1.tr (by rw [e]; exact code_q)) (by rw [e, zw_s]))) (fun q => ?_))
  · rcases z with z | z
    · rw [z, em]; omega
    · unfold vIs at z; omega
  · have v : vWe n x2 := by
      by_cases z : x2 = -1
      · exact Or.inl z
      · refine Or.inr ?_
        rw [i_eq, em] at z
        unfold vIs; omega
    have : ∃ k, (¬ x2 = -1 → k < n ∧ x2 = nI k) := by
      rcases v with z | z
      · exact ⟨0, fun q => absurd z q⟩
      · obtain ⟨k, hk, e⟩ := z.get
        exact ⟨k, fun _ => ⟨hk, e⟩⟩
    obtain ⟨k, hk⟩ := this
    exact ⟨n + 1, L_wk33 hk hW hR1 n 0 m1 (by omega) Fr.rf hR1.il k1 (fun i hi => absurd hi (by omega)) (fun μ' f' i' k' => h1 v k hk μ' ((zScR_r f1).tr (zTry_r f')) (hR1.back f' i') k')⟩
theorem P_week {x1 x2 : Int32} (h : QS μ n S D tn tb F T K M) : PI (d + 8) mX8_week mX9_week [.ref 0, .int x1, .int x2] [.ref 106, .int x1, .int x2] c10 μ := by
  intro KI X hK hX
  have n6 := h.1.1
  refine C_week h.1 h.2.1 (fun q => hX _ _ Fr.rf (fun m2 g => R_week h.1 (h.2.2.r (Fr.rf (P := zCls)) g) (fun _ m f e => ⟨e, h.q Fr.rf g f⟩) (fun v => absurd v q)) (by decide))
    (fun k hk m1 f1 => hK _ _ (zScC_c f1) (fun m2 g => R_week h.1 (h.2.2.r (zScC_c f1) g) (fun q => absurd ?_ q) (fun _ j hj m f q e3 => ⟨e3, ?_, QS.t h.1 (h.2.1.q f1) g f q⟩)))
  · by_cases z : x2 = -1
    · exact Or.inl z
    · exact Or.inr (by rw [(hk z).2]; exact vIs_n (hk z).1 n6)
  · by_cases z : x2 = -1
    · unfold sWk wkO; rw [if_pos z, if_pos z]
    · have a := hk z
      have b := hj z
      cases nj a.1 b.1 n6 (a.2.symm.trans b.2); rfl
end Week
