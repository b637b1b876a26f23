/-! what the calls need, and the small changes of the state -/
abbrev vIs (n : Nat) (i : Int32) : Prop := 0 ≤ i.toInt ∧ i.toInt < n
abbrev vHr (h : Int32) : Prop := 0 ≤ h.toInt ∧ h.toInt ≤ 167
abbrev vWh (m : Int) (w : Int32) : Prop := 0 ≤ w.toInt ∧ w.toInt < m
abbrev vSp (a b : Int32) : Prop := 0 ≤ a.toInt ∧ a.toInt ≤ b.toInt ∧ b.toInt ≤ 167
theorem vIs.get {n : Nat} {i : Int32} (h : vIs n i) : ∃ k, k < n ∧ i = nI k := by
  refine ⟨i.toInt.toNat, by omega, ?_⟩
  have := i_rng i
  rw [i_eq, n_i (by omega)]; omega
theorem vIs_n {n k : Nat} (hk : k < n) (hn : n ≤ 6) : vIs n (nI k) := by
  unfold vIs
  rw [n_i (by omega)]; omega
theorem b2i_go {p A B : Prop} [Decidable p] (h0 : ¬ p → A) (h1 : p → B) : (b2i p = 0 → A) ∧ (¬ b2i p = 0 → B) := by
  refine ⟨fun q => h0 (b2i_0.mp q), fun q => h1 ?_⟩
  by_cases z : p
  · exact z
  · exact absurd (b2i_0.mpr z) q
theorem b2i_go' {p : Prop} [Decidable p] {C : Prop} (h : C) : (b2i p = 0 ∨ b2i p = 1) ∧ C := ⟨b2i_01 p, h⟩
section Ops
variable {d n : Nat} {μ : zMem} {KI : Int32 → zMem → Prop} {KV : zMem → Prop} {X : Nat → zMem → Prop}
theorem has_is {o : Nat} {i : Int32} (hc : μ o 0 = nI n) (hn : n ≤ 6) : (¬ i < 0 ∧ ¬ μ o 0 ≤ i ∧ ¬ (6 : Int32) ≤ i) ↔ vIs n i := by
  rw [hc, i_lt, i_le, i_le, n_i (by omega), i_0, show (6 : Int32).toInt = 6 from by decide]
  unfold vIs; omega
theorem C_has' {o : Nat} {i : Int32} (ho : zsh o = .inr 1) (hc : μ o 0 = nI n) (hn : n ≤ 6) (h : KI (b2i (vIs n i)) μ) : zcI (d + 1) mX1_has [.ref o, .int i] μ KI X := by
  refine C_has ho ?_
  rw [b2i_congr (has_is hc hn)]; exact h
theorem C_needIsle {i : Int32} (hc : μ 47 0 = nI n) (hn : n ≤ 6) (h0 : ¬ vIs n i → X 0 μ) (h1 : ∀ k, k < n → i = nI k → KV μ) : zcV (d + 2) mX8_needIsle [.ref 0, .int i] μ KV X := by
  refine cX8_needIsle_ (C_has' (by decide +kernel) hc hn (b2i_go h0 (fun q => ?_)))
  obtain ⟨k, hk, e⟩ := q.get
  exact h1 k hk e
theorem C_needHour {i : Int32} (h0 : ¬ vHr i → X 0 μ) (h1 : vHr i → KV μ) : zcV (d + 1) mX8_needHour [.int i] μ KV X := by
  refine cX8_needHour_ ?_
  unfold pX8_needHour
  rw [i_lt, i_lt, i_0, show (168 : Int32).toInt = 168 from by decide]
  exact ⟨fun q => h0 (by unfold vHr; omega), fun q => ⟨fun q2 => h1 (by unfold vHr; omega), fun q2 => h0 (by unfold vHr; omega)⟩⟩
theorem C_needWhat {i x : Int32} {m : Int} (hx : x.toInt = m) (h0 : ¬ vWh m i → X 0 μ) (h1 : vWh m i → KV μ) : zcV (d + 1) mX8_needWhat [.int i, .int x] μ KV X := by
  refine cX8_needWhat_ ?_
  unfold pX8_needWhat
  rw [i_lt, i_lt, i_0, hx]
  exact ⟨fun q => h0 (by unfold vWh; omega), fun q => ⟨fun q2 => h1 (by unfold vWh; omega), fun q2 => h0 (by unfold vWh; omega)⟩⟩
theorem C_needSpan {a b x : Int32} {m : Int} (hx : x.toInt = m) (h0 : ¬ (vSp a b ∧ b.toInt - a.toInt < m) → X 1 μ) (h1 : vSp a b → b.toInt - a.toInt < m → KV μ) : zcV (d + 1) mX8_needSpan [.int a, .int b, .int x] μ KV X := by
  refine cX8_needSpan_ ?_
  unfold pX8_needSpan
  have ra := i_rng a
  have rb := i_rng b
  rw [i_lt, i_le, i_lt, i_0, show (168 : Int32).toInt = 168 from by decide]
  refine ⟨fun q => h0 (by unfold vSp; omega), fun q => ⟨fun q2 => h0 (by unfold vSp; omega), fun q2 => ⟨fun q3 => h0 (by unfold vSp; omega), fun q3 => ?_⟩⟩⟩
  rw [i_lt, i_sub (by omega) (by omega), hx]
  exact ⟨fun q4 => h1 (by unfold vSp; omega) q4, fun q4 => h0 (by omega)⟩
theorem C_needTwo {a b : Int32} (h0 : a = b → X 1 μ) (h1 : ¬ a = b → KV μ) : zcV (d + 1) mX8_needTwo [.int a, .int b] μ KV X := cX8_needTwo_ ⟨h0, h1⟩
/-! the reference's -/
theorem R_isIn {x : Int32} {a b : Int64} {A B : Int} (ea : a.toInt = A) (eb : b.toInt = B) (h : KI (b2i (A ≤ x.toInt ∧ x.toInt ≤ B)) μ) : zcI (d + 1) mX9_isIn [.long x.toInt64, .long a, .long b] μ KI X := by
  refine cX9_isIn_ ?_
  unfold pX9_isIn
  rw [Int64.lt_iff_toInt_lt, Int64.lt_iff_toInt_lt, Int32.toInt_toInt64, ea, eb]
  refine ⟨fun q => ?_, fun q => ⟨fun q2 => ?_, fun q2 => ?_⟩⟩
  · rw [b2i_f (by omega)] at h; exact h
  · rw [b2i_f (by omega)] at h; exact h
  · rw [b2i_t (by omega)] at h; exact h
theorem nI_m1 (hn : n ≤ 6) : (nI n - 1).toInt64.toInt = (n : Int) - 1 := by
  rw [Int32.toInt_toInt64, i_sub (by rw [n_i (by omega), i_1]; omega) (by rw [n_i (by omega), i_1]; omega), n_i (by omega), i_1]
theorem R_isIsle {i : Int32} (hc : μ 110 0 = nI n) (hn : n ≤ 6) (h : KI (b2i (vIs n i)) μ) : zcI (d + 2) mX9_isIsle [.ref 106, .int i] μ KI X := by
  refine cX9_isIsle_ ?_
  unfold pX9_isIsle
  rw [hc]
  refine R_isIn (A := 0) (B := n - 1) (by decide) (nI_m1 hn) (b2i_go' ?_)
  rw [b2i_congr (q := vIs n i) (by unfold vIs; omega)]; exact h
theorem R_isHour {i : Int32} (h : KI (b2i (vHr i)) μ) : zcI (d + 2) mX9_isHour [.int i] μ KI X := by
  refine cX9_isHour_ ?_
  unfold pX9_isHour
  exact R_isIn (A := 0) (B := 167) (by decide) (by decide) (b2i_go' h)
theorem R_isSpan {a b : Int32} (h : KI (b2i (vSp a b)) μ) : zcI (d + 1) mX9_isSpan [.int a, .int b] μ KI X := by
  refine cX9_isSpan_ ?_
  unfold pX9_isSpan
  have e : (if a < 0 then (0 : Int32) else (if b < a then 0 else (if 168 ≤ b then 0 else 1))) = b2i (vSp a b) := by
    have e1 := i_lt a 0
    have e2 := i_lt b a
    have e3 := i_le 168 b
    rw [i_0] at e1
    rw [show (168 : Int32).toInt = 168 from by decide] at e3
    unfold b2i
    by_cases q1 : a < 0
    · rw [if_pos q1, if_neg (by rw [e1] at q1; unfold vSp; omega)]
    · by_cases q2 : b < a
      · rw [if_neg q1, if_pos q2, if_neg (by rw [e2] at q2; unfold vSp; omega)]
      · by_cases q3 : 168 ≤ b
        · rw [if_neg q1, if_neg q2, if_pos q3, if_neg (by rw [e3] at q3; unfold vSp; omega)]
        · rw [if_neg q1, if_neg q2, if_neg q3, if_pos (by rw [e1] at q1; rw [e2] at q2; rw [e3] at q3; unfold vSp; omega)]
  rw [e]; exact h
theorem R_fail {x : Int32} (h : ∀ m, m = zw μ 106 3 x → KI 0 m) : zcI (d + 1) mX9_fail [.ref 106, .int x] μ KI X := cX9_fail_ h
theorem R_refuse {j : Nat} {x : Int32} (hx : x = nI j) (hj : j < 3) (h : ∀ m, m = zw μ 116 j (μ 116 j + 1) → KI (-1) m) : zcI (d + 1) mX9_refuse [.ref 106, .int x] μ KI X := by
  subst hx
  refine cX9_refuse_ ?_
  unfold pX9_refuse
  rw [tN_nI (by omega)]
  exact ⟨vin hj, vin hj, h⟩
theorem R_set {i k : Nat} {x y v : Int32} (hx : x = nI i) (hy : y = nI k) (hi : i < 6) (hk : k < 14) (h : ∀ m, m = zw μ 111 (14 * i + k) v → KV m) : zcV (d + 1) mX9_set [.ref 106, .int x, .int y, .int v] μ KV X := by
  subst hx hy
  refine cX9_set_ ?_
  unfold pX9_set
  rw [n14, tN_nI (by omega)]
  exact ⟨vin (by omega), h⟩
theorem rI_set {i k : Nat} {v : Int32} {a b : Nat} (hb : b < 14) (hk : k < 14) : rI (zw μ 111 (14 * i + k) v) a b = zset (rI μ) i k v a b := by
  unfold rI zset
  by_cases q : a = i ∧ b = k
  · rw [if_pos q, q.1, q.2, zw_s]
  · rw [if_neg q, zw_j (by omega)]
theorem cI_lo {o a b : Nat} (hb : b < 10) : cI μ o a b = μ (o + 1 + b) a := if_pos hb
theorem cI_hi {o a b : Nat} (hb : ¬ b < 10) : cI μ o a b = μ (o + 11) (4 * a + (b - 10)) := if_neg hb
theorem cI_set {o i k : Nat} {v : Int32} {a b : Nat} (_hb : b < 14) (hk : k < 10) : cI (zw μ (o + 1 + k) i v) o a b = zset (cI μ o) i k v a b := by
  by_cases q : a = i ∧ b = k
  · rw [cI_lo (by omega), q.1, q.2, zw_s, zset_s]
  · rw [zset_n q]
    by_cases q2 : b < 10
    · rw [cI_lo q2, cI_lo q2, zw_n (by omega)]
    · rw [cI_hi q2, cI_hi q2, zw_c (by omega)]
theorem cI_side {o i s : Nat} {v : Int32} {a b : Nat} (hb : b < 14) (hs : s < 4) : cI (zw μ (o + 11) (4 * i + s) v) o a b = zset (cI μ o) i (10 + s) v a b := by
  by_cases q : a = i ∧ b = 10 + s
  · rw [cI_hi (by omega), q.1, q.2, show 10 + s - 10 = s by omega, zw_s, zset_s]
  · rw [zset_n q]
    by_cases q2 : b < 10
    · rw [cI_lo q2, cI_lo q2, zw_c (by omega)]
    · rw [cI_hi q2, cI_hi q2, zw_n (by omega)]
end Ops
/-! the log -/
def zrec (k x a b c : Int32) : Nat → Int32
  | 0 => k
  | 1 => x
  | 2 => a
  | 3 => b
  | _ => c
def tPush (T : zT) (I' : zI) : zT := (I', T.2.1, (if T.2.2.1.1 < 40 then T.2.2.1.1 + 1 else 40, fun j => if T.2.2.1.1 < 40 then tV T j else tV T (j + 1)), T.2.2.2)
def tPop (T : zT) : zT := (T.2.2.1.2 (T.2.2.1.1 - 1), T.2.1, (T.2.2.1.1 - 1, T.2.2.1.2), T.2.2.2)
theorem tV_push {T : zT} {I' : zI} (h : T.2.2.1.1 < 40) {j : Nat} : tV (tPush T I') j = if j < T.2.2.1.1 + 1 then tV T j else I' := by
  show (if j < (if T.2.2.1.1 < 40 then T.2.2.1.1 + 1 else 40) then (if T.2.2.1.1 < 40 then tV T j else tV T (j + 1)) else I') = _
  rw [if_pos h, if_pos h]
theorem tV_push' {T : zT} {I' : zI} (h : T.2.2.1.1 = 40) {j : Nat} : tV (tPush T I') j = if j < 40 then tV T (j + 1) else I' := by
  show (if j < (if T.2.2.1.1 < 40 then T.2.2.1.1 + 1 else 40) then (if T.2.2.1.1 < 40 then tV T j else tV T (j + 1)) else I') = _
  have e : ¬ T.2.2.1.1 < 40 := by omega
  rw [if_neg e, if_neg e]
theorem tPush_n {T : zT} {I' : zI} : (tPush T I').2.2.1.1 = if T.2.2.1.1 < 40 then T.2.2.1.1 + 1 else 40 := rfl
theorem tV_pop {T : zT} (h : 1 ≤ T.2.2.1.1) {j : Nat} (hj : j ≤ T.2.2.1.1 - 1) : tV (tPop T) j = tV T j := by
  unfold tV
  rw [if_pos (by omega : j < T.2.2.1.1)]
  show (if j < T.2.2.1.1 - 1 then T.2.2.1.2 j else T.2.2.1.2 (T.2.2.1.1 - 1)) = _
  split
  · rfl
  · rw [show j = T.2.2.1.1 - 1 by omega]
theorem TW.push {n : Nat} {T : zT} {I' : zI} (h : TW n T) (hI : ∀ i, i < n → rowK I' i) : TW n (tPush T I') := by
  obtain ⟨h1, h2, h3, h4, h5, h6, h7⟩ := h
  refine ⟨by rw [tPush_n]; split <;> omega, h2, h3, hI, fun j hj i hi => ?_, h6, h7⟩
  show rowK (if T.2.2.1.1 < 40 then tV T j else tV T (j + 1)) i
  split
  · exact TW.v ⟨h1, h2, h3, h4, h5, h6, h7⟩ j i hi
  · exact TW.v ⟨h1, h2, h3, h4, h5, h6, h7⟩ (j + 1) i hi
theorem TW.pop {n : Nat} {T : zT} (h : TW n T) (h0 : 1 ≤ T.2.2.1.1) : TW n (tPop T) := by
  obtain ⟨h1, h2, h3, h4, h5, h6, h7⟩ := h
  refine ⟨by show T.2.2.1.1 - 1 ≤ 40; omega, h2, h3, h5 _ (by omega), fun j hj i hi => h5 j (by have : j < T.2.2.1.1 - 1 := hj; omega) i hi, h6, h7⟩
