section Log
variable {d n o : Nat} {μ : zMem} {KI : Int32 → zMem → Prop} {KV : zMem → Prop} {X : Nat → zMem → Prop}
theorem n5 (m : Nat) : nI m * 5 = nI (5 * m) := by
  rw [show (5 : Int32) = nI 5 from rfl, pk_mul, Nat.mul_comm]
theorem nI_2 (m : Nat) : nI m + 2 = nI (m + 2) := nI_add m 2
theorem nI_3 (m : Nat) : nI m + 3 = nI (m + 3) := nI_add m 3
theorem nI_4 (m : Nat) : nI m + 4 = nI (m + 4) := nI_add m 4
def zDrop (o c j : Nat) : Prop := c = o + 13 ∨ (c = o ∧ j = 2)
theorem L_drop {μ0 : zMem} : ∀ (m i : Nat) (μ : zMem), i + m = 200 → 5 ≤ i → Fr (zDrop o) μ0 μ → (∀ j, j < i - 5 → μ (o + 13) j = μ0 (o + 13) (j + 5)) → (∀ j, i - 5 ≤ j → μ (o + 13) j = μ0 (o + 13) j) →
    (∀ μ', Fr (zDrop o) μ0 μ' → μ' o 2 = nI 39 → (∀ j, j < 195 → μ' (o + 13) j = μ0 (o + 13) (j + 5)) → KV μ') → pX5_dropOldestAct_2 (m + 1) d o (nI i) μ KV X := by
  intro m
  induction m with
  | zero =>
    intro i μ hi h5 hf h1 h2 hK
    refine ⟨fun _ m1 e1 => hK m1 ?_ ?_ ?_, fun q => absurd ?_ q⟩
    · rw [e1]; exact hf.tr (Fr.w (Or.inr ⟨rfl, rfl⟩))
    · rw [e1, zw_s]; rfl
    · intro j hj
      rw [e1, zw_c (by omega)]; exact h1 j (by omega)
    · exact (n_le (a := 200) (by omega) (by omega)).mpr (by omega)
  | succ m ih =>
    intro i μ hi h5 hf h1 h2 hK
    refine ⟨fun q => absurd ((n_le (a := 200) (by omega) (by omega)).mp q) (by omega), fun _ => ?_⟩
    have e5 : nI i - 5 = nI (i - 5) := by
      rw [show (5 : Int32) = nI 5 from rfl, i_eq, i_sub (by rw [n_i (by omega), n_i (by omega)]; omega) (by rw [n_i (by omega), n_i (by omega)]; omega), n_i (by omega), n_i (by omega), n_i (by omega)]
      omega
    rw [e5, tN_nI (by omega), tN_nI (by omega)]
    refine ⟨vin (by omega), vin (by omega), fun m2 e2 v3 e3 => ?_⟩
    rw [e3, nI_1]
    refine ih (i + 1) m2 (by omega) (by omega) ?_ ?_ ?_ hK
    · rw [e2]; exact hf.tr (Fr.w (Or.inl rfl))
    · intro j hj
      by_cases q : j = i - 5
      · subst q; rw [e2, zw_s, h2 i (by omega), show i - 5 + 5 = i by omega]
      · rw [e2, zw_j q]; exact h1 j (by omega)
    · intro j hj
      rw [e2, zw_j (by omega)]; exact h2 j (by omega)
theorem C_drop (ho : zsh o = .inr 5) (h : ∀ μ', Fr (zDrop o) μ μ' → μ' o 2 = nI 39 → (∀ j, j < 195 → μ' (o + 13) j = μ (o + 13) (j + 5)) → KV μ') : zcV (d + 1) mX5_dropOldestAct [.ref o] μ KV X := by
  refine cX5_dropOldestAct_ ho ⟨196, ?_⟩
  exact L_drop 195 5 μ (by omega) (by omega) Fr.rf (fun j hj => absurd hj (by omega)) (fun j _ => rfl) h
/-- the log of an object of the class -/
def LgC (o : Nat) (μ : zMem) (n : Nat) (T : zT) : Prop := μ o 2 = nI T.2.2.1.1 ∧ ∀ j, j < T.2.2.1.1 → ActR n (fun k => μ (o + 13) (5 * j + k)) (tV T j) (tV T (j + 1))
theorem ka_tail (ho : zsh o = .inr 5) {m : Nat} {x1 x2 x3 x4 x5 : Int32} (hm : μ o 2 = nI m) (hm2 : m < 40) (h : ∀ μ', Fr (zDrop o) μ μ' → μ' o 2 = nI (m + 1) → (∀ j, j < 5 * m → μ' (o + 13) j = μ (o + 13) j) → (∀ k, k < 5 → μ' (o + 13) (5 * m + k) = zrec x1 x2 x3 x4 x5 k) → KV μ') :
    pX5_keepAct_13 d o x1 x2 x3 x4 x5 μ KV X := by
  unfold pX5_keepAct_13
  rw [hm, n5, nI_1, nI_2, nI_3, nI_4, tN_nI (by omega), tN_nI (by omega), tN_nI (by omega), tN_nI (by omega), tN_nI (by omega)]
  refine ⟨vin (by omega), fun m1 e1 => ⟨vin (by omega), fun m2 e2 => ⟨vin (by omega), fun m3 e3 => ⟨vin (by omega), fun m4 e4 => ⟨vin (by omega), fun m5 e5 m6 e6 => ?_⟩⟩⟩⟩⟩
  refine h m6 ?_ ?_ ?_ ?_
  · rw [e6, e5, e4, e3, e2, e1]
    exact (((((Fr.w (Or.inl rfl)).tr (Fr.w (Or.inl rfl))).tr (Fr.w (Or.inl rfl))).tr (Fr.w (Or.inl rfl))).tr (Fr.w (Or.inl rfl))).tr (Fr.w (Or.inr ⟨rfl, rfl⟩))
  · rw [e6, zw_s, e5, zw_c (by omega), e4, zw_c (by omega), e3, zw_c (by omega), e2, zw_c (by omega), e1, zw_c (by omega), hm]
    exact nI_add _ _
  · intro j hj
    rw [e6, zw_c (by omega), e5, zw_j (by omega), e4, zw_j (by omega), e3, zw_j (by omega), e2, zw_j (by omega), e1, zw_j (by omega)]
  · intro k hk
    have a6 : m6 (o + 13) (5 * m + k) = m5 (o + 13) (5 * m + k) := by rw [e6, zw_c (by omega)]
    rw [a6]
    match k, hk with
    | 4, _ => rw [e5, zw_s]; rfl
    | 3, _ => rw [e5, zw_j (by omega), e4, zw_s]; rfl
    | 2, _ => rw [e5, zw_j (by omega), e4, zw_j (by omega), e3, zw_s]; rfl
    | 1, _ => rw [e5, zw_j (by omega), e4, zw_j (by omega), e3, zw_j (by omega), e2, zw_s]; rfl
    | 0, _ => rw [e5, zw_j (by omega), e4, zw_j (by omega), e3, zw_j (by omega), e2, zw_j (by omega), e1]; exact zw_s
theorem ActR.xt {n : Nat} {A B : Nat → Int32} {V W : zI} (h : ActR n A V W) (e : ∀ k, k < 5 → B k = A k) : ActR n B V W := by
  obtain ⟨i, hi, h1, h⟩ := h
  refine ⟨i, hi, by rw [e 1 (by omega)]; exact h1, ?_⟩
  rw [e 0 (by omega), e 2 (by omega), e 3 (by omega), e 4 (by omega)]
  exact h
theorem C_keepAct (ho : zsh o = .inr 5) {T : zT} {I' : zI} {x1 x2 x3 x4 x5 : Int32} (hT : T.2.2.1.1 ≤ 40) (hL : LgC o μ n T) (hA : ActR n (zrec x1 x2 x3 x4 x5) T.1 I')
    (h : ∀ μ', Fr (zDrop o) μ μ' → LgC o μ' n (tPush T I') → KV μ') : zcV (d + 2) mX5_keepAct [.ref o, .int x1, .int x2, .int x3, .int x4, .int x5] μ KV X := by
  refine cX5_keepAct_ ho ?_
  unfold pX5_keepAct
  obtain ⟨l1, l2⟩ := hL
  have last : tV T T.2.2.1.1 = T.1 := if_neg (by omega)
  refine ⟨fun q => ?_, fun q => ?_⟩
  · rw [l1, show (40 : Int32) = nI 40 from rfl, n_lt (by omega) (by omega)] at q
    refine ka_tail ho l1 q (fun μ' f e1 e2 e3 => h μ' f ⟨?_, fun j hj => ?_⟩)
    · rw [tPush_n, if_pos q]; exact e1
    · rw [tPush_n, if_pos q] at hj
      rw [tV_push q, tV_push q, if_pos hj]
      by_cases z : j = T.2.2.1.1
      · subst z
        rw [if_neg (by omega), last]
        exact hA.xt e3
      · rw [if_pos (by omega)]
        exact (l2 j (by omega)).xt fun k hk => e2 _ (by omega)
  · rw [l1, show (40 : Int32) = nI 40 from rfl, n_lt (by omega) (by omega)] at q
    have q' : T.2.2.1.1 = 40 := by omega
    refine C_drop ho (fun m1 f1 g1 g2 => ka_tail ho g1 (by omega) (fun μ' f e1 e2 e3 => h μ' (f1.tr f) ⟨?_, fun j hj => ?_⟩))
    · rw [tPush_n, if_neg q]; exact e1
    · rw [tPush_n, if_neg q] at hj
      rw [tV_push' q', tV_push' q', if_pos hj]
      by_cases z : j = 39
      · subst z
        rw [if_neg (by omega), show 39 + 1 = T.2.2.1.1 by omega, last]
        exact hA.xt e3
      · rw [if_pos (by omega)]
        refine (l2 (j + 1) (by omega)).xt fun k hk => ?_
        rw [e2 _ (by omega), g2 _ (by omega), show 5 * j + k + 5 = 5 * (j + 1) + k by omega]
/-! taking an act back -/
theorem IsC_w {μ : zMem} {o n i k : Nat} {I J : zI} {v : Int32} (h : IsC μ o n I) (hk : k < 10) (hJ : ∀ a, a < n → ∀ b, b < 14 → zset I i k v a b = J a b) : IsC (zw μ (o + 1 + k) i v) o n J := by
  refine ⟨by rw [zw_c (by omega)]; exact h.1, fun a ha b hb => ?_⟩
  rw [cI_set hb hk, ← hJ a ha b hb]
  unfold zset
  split
  · rfl
  · exact h.2 a ha b hb
theorem IsC_s {μ : zMem} {o n i s : Nat} {I J : zI} {v : Int32} (h : IsC μ o n I) (hs : s < 4) (hJ : ∀ a, a < n → ∀ b, b < 14 → zset I i (10 + s) v a b = J a b) : IsC (zw μ (o + 11) (4 * i + s) v) o n J := by
  refine ⟨by rw [zw_c (by omega)]; exact h.1, fun a ha b hb => ?_⟩
  rw [cI_side hb hs, ← hJ a ha b hb]
  unfold zset
  split
  · rfl
  · exact h.2 a ha b hb
theorem eqI.c {μ : zMem} {o n : Nat} {I J : zI} (h : IsC μ o n I) (e : eqI n I J) : IsC μ o n J := ⟨h.1, fun i hi k hk => (h.2 i hi k hk).trans (e i hi k hk)⟩
def zBack (o c j : Nat) : Prop := (o + 2 ≤ c ∧ c ≤ o + 12) ∨ (c = o ∧ j = 2)
theorem IsC.lo {μ : zMem} {o n : Nat} {I : zI} (h : IsC μ o n I) {i k : Nat} (hi : i < n) (hk : k < 10) : μ (o + 1 + k) i = I i k := by
  rw [← h.2 i hi k (by omega), cI_lo hk]
theorem IsC.hi {μ : zMem} {o n : Nat} {I : zI} (h : IsC μ o n I) {i k : Nat} (hi : i < n) (hk : k < 4) : μ (o + 11) (4 * i + k) = I i (10 + k) := by
  rw [← h.2 i hi (10 + k) (by omega), cI_hi (by omega), show 10 + k - 10 = k by omega]
theorem C_takeBack (ho : zsh o = .inr 5) {T : zT} (hn : n ≤ 6) (hT : T.2.2.1.1 ≤ 40) (h0 : 1 ≤ T.2.2.1.1) (hI : IsC μ (o + 1) n T.1) (hL : LgC o μ n T)
    (h : ∀ μ', Fr (zBack o) μ μ' → IsC μ' (o + 1) n (tPop T).1 → LgC o μ' n (tPop T) → KV μ') : zcV (d + 1) mX5_takeBackAct [.ref o] μ KV X := by
  refine cX5_takeBackAct_ ho ?_
  unfold pX5_takeBackAct
  obtain ⟨l1, l2⟩ := hL
  obtain ⟨m, hm⟩ : ∃ m, T.2.2.1.1 = m + 1 := ⟨T.2.2.1.1 - 1, by omega⟩
  have hA := l2 m (by omega)
  rw [show tV T (m + 1) = T.1 from if_neg (by omega), show tV T m = T.2.2.1.2 m from if_pos (by omega)] at hA
  obtain ⟨i, hi, a1, hA⟩ := hA
  refine ⟨fun _ m1 e1 => ?_, fun q => absurd ?_ q⟩
  rotate_left
  · rw [l1]; exact (n_le (a := 1) (by omega) (by omega)).mpr h0
  have c1 : m1 o 2 = nI m := by
    rw [e1, zw_s, l1, hm, i_eq, i_sub (by rw [n_i (by omega), i_1]; omega) (by rw [n_i (by omega), i_1]; omega), n_i (by omega), n_i (by omega), i_1]; omega
  have f1 : Fr (zBack o) μ m1 := by rw [e1]; exact Fr.w (Or.inr ⟨rfl, rfl⟩)
  have g1 : ∀ j, m1 (o + 13) j = μ (o + 13) j := fun j => by rw [e1, zw_c (by omega)]
  have I1 : IsC m1 (o + 1) n T.1 := hI.go fun c j h1 h2 => by rw [e1, zw_c (by omega)]
  have done : ∀ μ', Fr (fun c _ => o + 2 ≤ c ∧ c ≤ o + 12) m1 μ' → IsC μ' (o + 1) n (T.2.2.1.2 m) → KV μ' := by
    intro μ' f hI'
    refine h μ' (f1.tr (f.mono fun c j q => Or.inl q)) ?_ ⟨?_, fun j hj => ?_⟩
    · show IsC μ' (o + 1) n (T.2.2.1.2 (T.2.2.1.1 - 1))
      rw [hm]; exact hI'
    · show _ = nI (T.2.2.1.1 - 1)
      rw [f _ _ (by omega), c1, hm]; rfl
    · have hj' : j < T.2.2.1.1 - 1 := hj
      rw [tV_pop h0 (by omega), tV_pop h0 (by omega)]
      exact (l2 j (by omega)).xt fun k hk => by rw [f _ _ (by omega), g1]
  rw [c1, n5, nI_1, nI_2, nI_3, nI_4, tN_nI (n := 5 * m + 1) (by omega), tN_nI (n := 5 * m + 2) (by omega), tN_nI (n := 5 * m + 3) (by omega), tN_nI (n := 5 * m + 4) (by omega), tN_nI (n := 5 * m) (by omega)]
  refine ⟨vin (by omega), fun v2 e2 => ⟨vin (by omega), fun v3 e3 => ⟨vin (by omega), ?_⟩⟩⟩
  rw [g1] at e2 e3
  have a1' : μ (o + 13) (5 * m + 1) = nI i := a1
  rw [a1'] at e2
  rw [g1, e2, tN_nI (by omega)]
  rcases hA with ⟨k0, hx⟩ | ⟨k0, hx⟩ | ⟨k0, hx⟩ | ⟨k0, a, ha, k2, hx⟩ | ⟨k0, f, t, hf, ht, k2, k3, hx⟩
  · have k0' : μ (o + 13) (5 * m) = 0 := k0
    rw [k0']
    refine ⟨fun _ => ⟨vin (by omega), fun m4 e4 => done m4 ?_ ?_⟩, fun q => absurd q (by decide), fun q => absurd q (by decide), fun q => absurd q (by decide), fun q => absurd rfl q⟩
    · rw [e4]; exact Fr.w (by omega)
    · rw [e4, e3]
      exact IsC_w (o := o + 1) (k := 3) I1 (by omega) fun a ha b hb => (hx a ha b hb).symm
  · have k0' : μ (o + 13) (5 * m) = nI 1 := k0
    rw [k0']
    refine ⟨fun q => absurd q (by decide), fun _ => ⟨vin (by omega), fun m4 e4 => done m4 ?_ ?_⟩, fun q => absurd q (by decide), fun q => absurd q (by decide), fun _ q => absurd rfl q⟩
    · rw [e4]; exact Fr.w (by omega)
    · rw [e4, e3]
      exact IsC_w (o := o + 1) (k := 9) I1 (by omega) fun a ha b hb => (hx a ha b hb).symm
  · have k0' : μ (o + 13) (5 * m) = nI 2 := k0
    rw [k0']
    refine ⟨fun q => absurd q (by decide), fun q => absurd q (by decide), fun _ => ⟨vin (by omega), fun m4 e4 => done m4 ?_ ?_⟩, fun q => absurd q (by decide), fun _ _ q => absurd rfl q⟩
    · rw [e4]; exact Fr.w (by omega)
    · rw [e4, e3]
      exact IsC_w (o := o + 1) (k := 7) I1 (by omega) fun a ha b hb => (hx a ha b hb).symm
  · have k0' : μ (o + 13) (5 * m) = nI 3 := k0
    have k2' : μ (o + 13) (5 * m + 2) = nI a := k2
    rw [k0', e3, k2', tN_nI (by omega)]
    refine ⟨fun q => absurd q (by decide), fun q => absurd q (by decide), fun q => absurd q (by decide), fun _ => ⟨vin (by omega), vin (by omega), fun m7 e7 => ⟨vin (by omega), vin (by omega), fun m8 e8 => done m8 ?_ ?_⟩⟩, fun _ _ _ q => absurd rfl q⟩
    · rw [e8, e7]; exact (Fr.w (by omega)).tr (Fr.w (by omega))
    · have I7 : IsC m7 (o + 1) n (zset T.1 i 8 (T.1 i 8 + 1)) := by
        have e : m1 (o + 1 + 9) i = T.1 i 8 := I1.lo (k := 8) hi (by omega)
        rw [e7, e]
        exact IsC_w (o := o + 1) (k := 8) I1 (by omega) fun a ha b hb => rfl
      have e : m7 (o + 1 + 9) a = zset T.1 i 8 (T.1 i 8 + 1) a 8 := I7.lo (k := 8) ha (by omega)
      rw [e8, e]
      exact IsC_w (o := o + 1) (k := 8) I7 (by omega) fun a ha b hb => (hx a ha b hb).symm
  · have k0' : μ (o + 13) (5 * m) = nI 4 := k0
    have k2' : μ (o + 13) (5 * m + 2) = nI f := k2
    have k3' : μ (o + 13) (5 * m + 3) = nI t := k3
    rw [k0', e3, k2', n4, tN_nI (by omega)]
    refine ⟨fun q => absurd q (by decide), fun q => absurd q (by decide), fun q => absurd q (by decide), fun q => absurd q (by decide), fun _ _ _ _ => ⟨vin (by omega), vin (by omega), vin (by omega), fun m9 e9 => ?_⟩⟩
    have g9 : ∀ j, m9 (o + 13) j = μ (o + 13) j := fun j => by rw [e9, zw_c (by omega), g1]
    have I9 : IsC m9 (o + 1) n (zset T.1 i (10 + f) (T.1 i (10 + f) + μ (o + 13) (5 * m + 4))) := by
      have e : m1 (o + 1 + 11) (4 * i + f) = T.1 i (10 + f) := I1.hi hi hf
      rw [e9, tN_nI (by omega), e, g1]
      exact IsC_s (o := o + 1) I1 hf fun a ha b hb => rfl
    rw [g9, g9, k3', n4, tN_nI (by omega)]
    refine ⟨vin (by omega), vin (by omega), vin (by omega), vin (by omega), fun m10 e10 => done m10 ?_ ?_⟩
    · rw [e10, e9]; exact (Fr.w (by omega)).tr (Fr.w (by omega))
    · have e : m9 (o + 1 + 11) (4 * i + t) = _ := I9.hi hi ht
      rw [e10, e]
      exact IsC_s (o := o + 1) I9 ht fun a ha b hb => (hx a ha b hb).symm
end Log
