section Copy
variable {d n o r : Nat} {μ : zMem} {KI : Int32 → zMem → Prop} {KV : zMem → Prop} {X : Nat → zMem → Prop}
theorem zcp_s {a b m j : Nat} (h : j < m) : zcp μ a 0 b 0 m b j = μ a j := by
  unfold zcp va_cpy
  rw [if_pos rfl, if_pos (by omega), Nat.sub_zero, Nat.zero_add]
theorem zcp_c {a b m i j : Nat} (h : i ≠ b) : zcp μ a 0 b 0 m i j = μ i j := if_neg h
theorem Fr.cp {P : Nat → Nat → Prop} {a b m : Nat} (h : ∀ j, P b j) : Fr P μ (zcp μ a 0 b 0 m) := fun c j q => zcp_c fun z => q (by rw [z]; exact h j)
def zIsl (o c _j : Nat) : Prop := o ≤ c ∧ c ≤ o + 11
theorem L_copyI {μ0 : zMem} (hx : o + 11 < r ∨ r + 11 < o) : ∀ (m i : Nat) (μ : zMem), i + m = 6 → Fr (zIsl o) μ0 μ → (∀ a, a < i → ∀ k, k < 10 → μ (o + 1 + k) a = μ0 (r + 1 + k) a) → μ o 0 = μ0 r 0 →
    (∀ μ', Fr (zIsl o) μ0 μ' → μ' o 0 = μ0 r 0 → (∀ a, a < 6 → ∀ k, k < 10 → μ' (o + 1 + k) a = μ0 (r + 1 + k) a) → (∀ j, j < 24 → μ' (o + 11) j = μ0 (r + 11) j) → KV μ') → pX1_copyFrom_10 (m + 1) d o r (nI i) μ KV X := by
  intro m
  induction m with
  | zero =>
    intro i μ hi hf h1 h0 hK
    refine ⟨fun _ m1 e1 => hK m1 ?_ ?_ ?_ ?_, fun q => absurd ?_ q⟩
    · rw [e1]; exact hf.tr (Fr.cp fun j => by unfold zIsl; omega)
    · rw [e1, zcp_c (by omega)]; exact h0
    · intro a ha k hk
      rw [e1, zcp_c (by omega)]; exact h1 a (by omega) k hk
    · intro j hj
      rw [e1, zcp_s hj]; exact hf _ _ (by unfold zIsl; omega)
    · exact (n_le (a := 6) (by omega) (by omega)).mpr (by omega)
  | succ m ih =>
    intro i μ hi hf h1 h0 hK
    refine ⟨fun q => absurd ((n_le (a := 6) (by omega) (by omega)).mp q) (by omega), fun _ => ?_⟩
    rw [tN_nI (by omega)]
    have v := vin (n := i) (N := 6) (by omega)
    refine ⟨v, v, fun m2 e2 => ⟨v, v, fun m3 e3 => ⟨v, v, fun m4 e4 => ⟨v, v, fun m5 e5 => ⟨v, v, fun m6 e6 => ⟨v, v, fun m7 e7 => ⟨v, v, fun m8 e8 => ⟨v, v, fun m9 e9 => ⟨v, v, fun m10 e10 => ⟨v, v, fun m11 e11 v12 e12 => ?_⟩⟩⟩⟩⟩⟩⟩⟩⟩⟩
    have step : ∀ {ν ν' : zMem} {k : Nat}, k < 10 → Fr (zIsl o) μ0 ν → ν' = zw ν (o + 1 + k) i (ν (r + 1 + k) i) → Fr (zIsl o) μ0 ν' ∧ (∀ c j, c ≠ o + 1 + k → ν' c j = ν c j) ∧ (∀ j, j ≠ i → ν' (o + 1 + k) j = ν (o + 1 + k) j) ∧ ν' (o + 1 + k) i = μ0 (r + 1 + k) i := by
      intro ν ν' k hk hfν e
      refine ⟨by rw [e]; exact hfν.tr (Fr.w (by unfold zIsl; omega)), fun c j hc => by rw [e, zw_c hc], fun j hj => by rw [e, zw_j hj], ?_⟩
      rw [e, zw_s]; exact hfν _ _ (by unfold zIsl; omega)
    obtain ⟨f2, c2, j2, s2⟩ := step (k := 0) (by omega) hf e2
    obtain ⟨f3, c3, j3, s3⟩ := step (k := 1) (by omega) f2 e3
    obtain ⟨f4, c4, j4, s4⟩ := step (k := 2) (by omega) f3 e4
    obtain ⟨f5, c5, j5, s5⟩ := step (k := 3) (by omega) f4 e5
    obtain ⟨f6, c6, j6, s6⟩ := step (k := 4) (by omega) f5 e6
    obtain ⟨f7, c7, j7, s7⟩ := step (k := 5) (by omega) f6 e7
    obtain ⟨f8, c8, j8, s8⟩ := step (k := 6) (by omega) f7 e8
    obtain ⟨f9, c9, j9, s9⟩ := step (k := 7) (by omega) f8 e9
    obtain ⟨f10, c10, j10, s10⟩ := step (k := 8) (by omega) f9 e10
    obtain ⟨f11, c11, j11, s11⟩ := step (k := 9) (by omega) f10 e11
    rw [e12, nI_1]
    refine ih (i + 1) m11 (by omega) f11 ?_ ?_ hK
    · intro a ha k hk
      by_cases q : a = i
      · subst q
        match k, hk with
        | 0, _ => rw [c11 _ _ (by omega), c10 _ _ (by omega), c9 _ _ (by omega), c8 _ _ (by omega), c7 _ _ (by omega), c6 _ _ (by omega), c5 _ _ (by omega), c4 _ _ (by omega), c3 _ _ (by omega)]; exact s2
        | 1, _ => rw [c11 _ _ (by omega), c10 _ _ (by omega), c9 _ _ (by omega), c8 _ _ (by omega), c7 _ _ (by omega), c6 _ _ (by omega), c5 _ _ (by omega), c4 _ _ (by omega)]; exact s3
        | 2, _ => rw [c11 _ _ (by omega), c10 _ _ (by omega), c9 _ _ (by omega), c8 _ _ (by omega), c7 _ _ (by omega), c6 _ _ (by omega), c5 _ _ (by omega)]; exact s4
        | 3, _ => rw [c11 _ _ (by omega), c10 _ _ (by omega), c9 _ _ (by omega), c8 _ _ (by omega), c7 _ _ (by omega), c6 _ _ (by omega)]; exact s5
        | 4, _ => rw [c11 _ _ (by omega), c10 _ _ (by omega), c9 _ _ (by omega), c8 _ _ (by omega), c7 _ _ (by omega)]; exact s6
        | 5, _ => rw [c11 _ _ (by omega), c10 _ _ (by omega), c9 _ _ (by omega), c8 _ _ (by omega)]; exact s7
        | 6, _ => rw [c11 _ _ (by omega), c10 _ _ (by omega), c9 _ _ (by omega)]; exact s8
        | 7, _ => rw [c11 _ _ (by omega), c10 _ _ (by omega)]; exact s9
        | 8, _ => rw [c11 _ _ (by omega)]; exact s10
        | 9, _ => exact s11
      · rw [← h1 a (by omega) k hk]
        match k, hk with
        | 0, _ => rw [c11 _ _ (by omega), c10 _ _ (by omega), c9 _ _ (by omega), c8 _ _ (by omega), c7 _ _ (by omega), c6 _ _ (by omega), c5 _ _ (by omega), c4 _ _ (by omega), c3 _ _ (by omega)]; exact j2 _ q
        | 1, _ => rw [c11 _ _ (by omega), c10 _ _ (by omega), c9 _ _ (by omega), c8 _ _ (by omega), c7 _ _ (by omega), c6 _ _ (by omega), c5 _ _ (by omega), c4 _ _ (by omega), j3 _ q, c2 _ _ (by omega)]
        | 2, _ => rw [c11 _ _ (by omega), c10 _ _ (by omega), c9 _ _ (by omega), c8 _ _ (by omega), c7 _ _ (by omega), c6 _ _ (by omega), c5 _ _ (by omega), j4 _ q, c3 _ _ (by omega), c2 _ _ (by omega)]
        | 3, _ => rw [c11 _ _ (by omega), c10 _ _ (by omega), c9 _ _ (by omega), c8 _ _ (by omega), c7 _ _ (by omega), c6 _ _ (by omega), j5 _ q, c4 _ _ (by omega), c3 _ _ (by omega), c2 _ _ (by omega)]
        | 4, _ => rw [c11 _ _ (by omega), c10 _ _ (by omega), c9 _ _ (by omega), c8 _ _ (by omega), c7 _ _ (by omega), j6 _ q, c5 _ _ (by omega), c4 _ _ (by omega), c3 _ _ (by omega), c2 _ _ (by omega)]
        | 5, _ => rw [c11 _ _ (by omega), c10 _ _ (by omega), c9 _ _ (by omega), c8 _ _ (by omega), j7 _ q, c6 _ _ (by omega), c5 _ _ (by omega), c4 _ _ (by omega), c3 _ _ (by omega), c2 _ _ (by omega)]
        | 6, _ => rw [c11 _ _ (by omega), c10 _ _ (by omega), c9 _ _ (by omega), j8 _ q, c7 _ _ (by omega), c6 _ _ (by omega), c5 _ _ (by omega), c4 _ _ (by omega), c3 _ _ (by omega), c2 _ _ (by omega)]
        | 7, _ => rw [c11 _ _ (by omega), c10 _ _ (by omega), j9 _ q, c8 _ _ (by omega), c7 _ _ (by omega), c6 _ _ (by omega), c5 _ _ (by omega), c4 _ _ (by omega), c3 _ _ (by omega), c2 _ _ (by omega)]
        | 8, _ => rw [c11 _ _ (by omega), j10 _ q, c9 _ _ (by omega), c8 _ _ (by omega), c7 _ _ (by omega), c6 _ _ (by omega), c5 _ _ (by omega), c4 _ _ (by omega), c3 _ _ (by omega), c2 _ _ (by omega)]
        | 9, _ => rw [j11 _ q, c10 _ _ (by omega), c9 _ _ (by omega), c8 _ _ (by omega), c7 _ _ (by omega), c6 _ _ (by omega), c5 _ _ (by omega), c4 _ _ (by omega), c3 _ _ (by omega), c2 _ _ (by omega)]
    · rw [c11 _ _ (by omega), c10 _ _ (by omega), c9 _ _ (by omega), c8 _ _ (by omega), c7 _ _ (by omega), c6 _ _ (by omega), c5 _ _ (by omega), c4 _ _ (by omega), c3 _ _ (by omega), c2 _ _ (by omega)]; exact h0
theorem C_copyI (ho : zsh o = .inr 1) (hr : zsh r = .inr 1) (hor : o ≠ r) {I : zI} (hn : n ≤ 6) (hI : IsC μ r n I) (h : ∀ μ', Fr (zIsl o) μ μ' → IsC μ' o n I → KV μ') : zcV (d + 1) mX1_copyFrom [.ref o, .ref r] μ KV X := by
  have q1 := isl_rng ho
  have q2 := isl_rng hr
  refine cX1_copyFrom_ ho hr (fun m1 e1 => ⟨7, ?_⟩)
  have hx : o + 11 < r ∨ r + 11 < o := by omega
  have f1 : Fr (zIsl o) μ m1 := by rw [e1]; exact Fr.w (by unfold zIsl; omega)
  have g1 : ∀ c j, r ≤ c → c ≤ r + 11 → m1 c j = μ c j := fun c j z1 z2 => f1 _ _ (by unfold zIsl; omega)
  refine L_copyI hx 6 0 m1 (by omega) Fr.rf (fun a ha => absurd ha (by omega)) (by rw [g1 r 0 (by omega) (by omega), e1, zw_s]) (fun μ' f2 h0 h1 h2 => h μ' (f1.tr f2) ⟨?_, fun i hi k hk => ?_⟩)
  · rw [h0, g1 _ _ (by omega) (by omega)]; exact hI.1
  · rw [← hI.2 i hi k hk]
    by_cases q : k < 10
    · rw [cI_lo q, cI_lo q, h1 i (by omega) k q, g1 _ _ (by omega) (by omega)]
    · rw [cI_hi q, cI_hi q, h2 _ (by omega), g1 _ _ (by omega) (by omega)]
theorem st_isl {o : Nat} (ho : zsh o = .inr 5) : o = 46 ∨ o = 63 := zis5 o ho
def zSt (o c j : Nat) : Prop := (o + 1 ≤ c ∧ c ≤ o + 16) ∨ (c = o ∧ (j = 2 ∨ j = 4 ∨ j = 6))
theorem C_copyS (ho : zsh o = .inr 5) (hr : zsh r = .inr 5) (hor : o ≠ r) {T : zT} (hn : n ≤ 6) (hW : TW n T) (hT : TC r μ n T) (h : ∀ μ', Fr (zSt o) μ μ' → TC o μ' n T → KV μ') : zcV (d + 2) mX5_copyFrom [.ref o, .ref r] μ KV X := by
  have q1 := st_isl ho
  have q2 := st_isl hr
  have p1 : zsh (o + 1) = .inr 1 := by rcases q1 with q | q <;> subst q <;> decide +kernel
  have p2 : zsh (r + 1) = .inr 1 := by rcases q2 with q | q <;> subst q <;> decide +kernel
  obtain ⟨t1, t2, ⟨t3, t4⟩, ⟨t5, t6⟩, t7, t8⟩ := hT
  obtain ⟨w1, w2, w3, -⟩ := hW
  refine cX5_copyFrom_ ho hr (C_copyI p1 p2 (by omega) hn t1 (fun m1 f1 I1 m2 e2 m3 e3 m4 e4 m5 e5 m6 e6 m7 e7 m8 e8 => ?_))
  have g1 : ∀ c j, r ≤ c → c ≤ r + 16 → m1 c j = μ c j := fun c j z1 z2 => f1 _ _ (by unfold zIsl; omega)
  have g2 : ∀ c j, c ≠ o + 13 → m2 c j = m1 c j := fun c j z => by rw [e2, zcp_c z]
  have g3 : ∀ c j, ¬ (c = o ∧ j = 2) → m3 c j = m2 c j := fun c j z => by rw [e3, zw_n z]
  have g4 : ∀ c j, c ≠ o + 14 → m4 c j = m3 c j := fun c j z => by rw [e4, zcp_c z]
  have g5 : ∀ c j, ¬ (c = o ∧ j = 4) → m5 c j = m4 c j := fun c j z => by rw [e5, zw_n z]
  have g6 : ∀ c j, c ≠ o + 15 → m6 c j = m5 c j := fun c j z => by rw [e6, zcp_c z]
  have g7 : ∀ c j, ¬ (c = o ∧ j = 6) → m7 c j = m6 c j := fun c j z => by rw [e7, zw_n z]
  have g8 : ∀ c j, c ≠ o + 16 → m8 c j = m7 c j := fun c j z => by rw [e8, zcp_c z]
  have src7 : ∀ c j, r ≤ c → c ≤ r + 16 → m7 c j = μ c j := fun c j z1 z2 => by
    rw [g7 _ _ (by omega), g6 _ _ (by omega), g5 _ _ (by omega), g4 _ _ (by omega), g3 _ _ (by omega), g2 _ _ (by omega), g1 _ _ z1 z2]
  have src5 : ∀ c j, r ≤ c → c ≤ r + 16 → m5 c j = μ c j := fun c j z1 z2 => by
    rw [g5 _ _ (by omega), g4 _ _ (by omega), g3 _ _ (by omega), g2 _ _ (by omega), g1 _ _ z1 z2]
  have src3 : ∀ c j, r ≤ c → c ≤ r + 16 → m3 c j = μ c j := fun c j z1 z2 => by
    rw [g3 _ _ (by omega), g2 _ _ (by omega), g1 _ _ z1 z2]
  refine h m8 ?_ ⟨?_, ?_, ⟨?_, ?_⟩, ⟨?_, ?_⟩, ?_, ?_⟩
  · intro c j z
    unfold zSt at z
    rw [g8 _ _ (by omega), g7 _ _ (by omega), g6 _ _ (by omega), g5 _ _ (by omega), g4 _ _ (by omega), g3 _ _ (by omega), g2 _ _ (by omega)]
    exact f1 _ _ (by unfold zIsl; omega)
  · exact I1.go fun c j z1 z2 => by rw [g8 _ _ (by omega), g7 _ _ (by omega), g6 _ _ (by omega), g5 _ _ (by omega), g4 _ _ (by omega), g3 _ _ (by omega), g2 _ _ (by omega)]
  · intro j hj
    rw [e8, zcp_s hj, src7 _ _ (by omega) (by omega)]; exact t2 j hj
  · rw [g8 _ _ (by omega), g7 _ _ (by omega), g6 _ _ (by omega), g5 _ _ (by omega), g4 _ _ (by omega), e3, zw_s, g2 _ _ (by omega), g1 _ _ (by omega) (by omega)]; exact t3
  · intro j hj
    refine (t4 j hj).xt fun k hk => ?_
    rw [g8 _ _ (by omega), g7 _ _ (by omega), g6 _ _ (by omega), g5 _ _ (by omega), g4 _ _ (by omega), g3 _ _ (by omega), e2, zcp_s (by omega), g1 _ _ (by omega) (by omega)]
  · rw [g8 _ _ (by omega), g7 _ _ (by omega), g6 _ _ (by omega), e5, zw_s, g4 _ _ (by omega), src3 _ _ (by omega) (by omega)]; exact t5
  · intro j hj
    rw [g8 _ _ (by omega), g7 _ _ (by omega), g6 _ _ (by omega), g5 _ _ (by omega), e4, zcp_s (by omega), src3 _ _ (by omega) (by omega)]; exact t6 j hj
  · rw [g8 _ _ (by omega), e7, zw_s, g6 _ _ (by omega), src5 _ _ (by omega) (by omega)]; exact t7
  · intro j hj
    have e : ∀ k, k < 36 → m8 (o + 15) k = μ (r + 15) k := fun k hk => by
      rw [g8 _ _ (by omega), g7 _ _ (by omega), e6, zcp_s (by omega), src5 _ _ (by omega) (by omega)]
    rw [e _ (by omega), e _ (by omega), e _ (by omega)]; exact t8 j hj
/-! the reference's rows -/
theorem ofN (n : Nat) : Int32.ofNat n = nI n := rfl
theorem L_be {a0 n0 a1 n1 : Nat} {μ0 : zMem} (hx : a0 ≠ a1) (h01 : n0 ≤ n1) (h0 : n1 < 10000) : ∀ (m i : Nat) (μ : zMem), i + m = n0 → Fr (fun c _ => c = a0) μ0 μ → (∀ j, j < i → μ a0 j = μ0 a1 j) → (∀ μ', Fr (fun c _ => c = a0) μ0 μ' → (∀ j, j < n0 → μ' a0 j = μ0 a1 j) → KV μ') → pX9_be_2 (m + 1) d a0 n0 a1 n1 (nI i) μ KV X := by
  intro m
  induction m with
  | zero =>
    intro i μ hi hf h1 hK
    refine ⟨fun _ => hK μ hf (fun j hj => h1 j (by omega)), fun q => absurd ?_ q⟩
    rw [ofN]; exact (n_le (by omega) (by omega)).mpr (by omega)
  | succ m ih =>
    intro i μ hi hf h1 hK
    refine ⟨fun q => absurd (by rw [ofN] at q; exact (n_le (by omega) (by omega)).mp q) (by omega), fun _ => ⟨vin (by omega) (by omega), vin (by omega) (by omega), fun m2 e2 v3 e3 => ?_⟩⟩
    rw [e3, nI_1]
    rw [tN_nI (by omega)] at e2
    refine ih (i + 1) m2 (by omega) (hf.tr (by rw [e2]; exact Fr.w rfl)) (fun j hj => ?_) hK
    by_cases q : j = i
    · subst q; rw [e2, zw_s]; exact hf _ _ (fun z => hx z.symm)
    · rw [e2, zw_j q]; exact h1 j (by omega)
theorem R_be {a0 n0 a1 n1 : Nat} (ha0 : zsh a0 = .inl (0, n0)) (ha1 : zsh a1 = .inl (0, n1)) (hx : a0 ≠ a1) (h01 : n0 ≤ n1) (h0 : n1 < 10000) (h : ∀ μ', Fr (fun c _ => c = a0) μ μ' → (∀ j, j < n0 → μ' a0 j = μ a1 j) → KV μ') : zcV (d + 1) mX9_be [.ref a0, .ref a1] μ KV X := by
  refine cX9_be_ ha0 ha1 ⟨n0 + 1, ?_⟩
  exact L_be hx h01 h0 n0 0 μ (by omega) Fr.rf (fun j hj => absurd hj (by omega)) h
def zKeep (c j : Nat) : Prop := c = 123 ∨ (c = 106 ∧ j = 27)
theorem n84 (m k : Nat) : nI 84 * nI m + nI k = nI (84 * m + k) := by rw [pk_mul, nI_add]
theorem L_keep55 {μ0 : zMem} {p : Nat} (hp : p < 40) : ∀ (m i : Nat) (μ : zMem), i + m = 84 → Fr (fun c _ => c = 123) μ0 μ → μ0 106 27 = nI p → (∀ j, j < 84 * p → μ 123 j = μ0 123 j) → (∀ j, j < i → μ 123 (84 * p + j) = μ0 111 j) →
    (∀ μ', Fr zKeep μ0 μ' → μ' 106 27 = nI (p + 1) → (∀ j, j < 84 * p → μ' 123 j = μ0 123 j) → (∀ j, j < 84 → μ' 123 (84 * p + j) = μ0 111 j) → KV μ') → pX9_keep_55 (m + 1) d 84 (nI i) μ KV X := by
  intro m
  induction m with
  | zero =>
    intro i μ hi hf hp0 h1 h2 hK
    have c : μ 106 27 = nI p := by rw [hf _ _ (by omega)]; exact hp0
    refine ⟨fun _ m1 e1 => hK m1 ?_ ?_ ?_ ?_, fun q => absurd ?_ q⟩
    · rw [e1]; exact (hf.mono fun c j q => Or.inl q).tr (Fr.w (Or.inr ⟨rfl, rfl⟩))
    · rw [e1, zw_s, c, nI_1]
    · intro j hj; rw [e1, zw_c (by omega)]; exact h1 j hj
    · intro j hj; rw [e1, zw_c (by omega)]; exact h2 j (by omega)
    · exact (n_le (a := 84) (by omega) (by omega)).mpr (by omega)
  | succ m ih =>
    intro i μ hi hf hp0 h1 h2 hK
    have c : μ 106 27 = nI p := by rw [hf _ _ (by omega)]; exact hp0
    refine ⟨fun q => absurd ((n_le (a := 84) (by omega) (by omega)).mp q) (by omega), fun _ => ?_⟩
    have e84 : (84 : Int32) * (μ 106 27) + nI i = nI (84 * p + i) := by rw [c]; exact n84 p i
    rw [e84, tN_nI (by omega), tN_nI (by omega)]
    refine ⟨vin (by omega), vin (by omega), fun m2 e2 v3 e3 => ?_⟩
    rw [e3, nI_1]
    refine ih (i + 1) m2 (by omega) (hf.tr (by rw [e2]; exact Fr.w rfl)) hp0 (fun j hj => ?_) (fun j hj => ?_) hK
    · rw [e2, zw_j (by omega)]; exact h1 j hj
    · by_cases q : j = i
      · subst q; rw [e2, zw_s]; exact hf _ _ (by omega)
      · rw [e2, zw_j (by omega)]; exact h2 j (by omega)
theorem L_keep14 {μ0 : zMem} : ∀ (m i : Nat) (μ : zMem), i + m = 3360 → 84 ≤ i → Fr (fun c _ => c = 123) μ0 μ → (∀ j, j < i - 84 → μ 123 j = μ0 123 (j + 84)) → (∀ j, i - 84 ≤ j → μ 123 j = μ0 123 j) →
    (∀ μ', Fr (fun c _ => c = 123) μ0 μ' → (∀ j, j < 3276 → μ' 123 j = μ0 123 (j + 84)) → ∀ m1 : zMem, m1 = zw μ' 106 27 ((μ' 106 27) - 1) → ∃ n2 : Nat, pX9_keep_55 n2 d 84 0 m1 KV X) → pX9_keep_14 (m + 1) d 84 (nI i) μ KV X := by
  intro m
  induction m with
  | zero =>
    intro i μ hi h5 hf h1 h2 hK
    refine ⟨fun _ => hK μ hf (fun j hj => h1 j (by omega)), fun q => absurd ?_ q⟩
    exact (n_le (a := 3360) (by omega) (by omega)).mpr (by omega)
  | succ m ih =>
    intro i μ hi h5 hf h1 h2 hK
    refine ⟨fun q => absurd ((n_le (a := 3360) (by omega) (by omega)).mp q) (by omega), fun _ => ?_⟩
    have e5 : nI i - 84 = nI (i - 84) := by
      rw [show (84 : Int32) = nI 84 from rfl, i_eq, i_sub (by rw [n_i (by omega), n_i (by omega)]; omega) (by rw [n_i (by omega), n_i (by omega)]; omega), n_i (by omega), n_i (by omega), n_i (by omega)]
      omega
    rw [e5, tN_nI (by omega), tN_nI (by omega)]
    refine ⟨vin (by omega), vin (by omega), fun m2 e2 v3 e3 => ?_⟩
    rw [e3, nI_1]
    refine ih (i + 1) m2 (by omega) (by omega) (hf.tr (by rw [e2]; exact Fr.w rfl)) ?_ ?_ hK
    · intro j hj
      by_cases q : j = i - 84
      · subst q; rw [e2, zw_s, h2 i (by omega), show i - 84 + 84 = i by omega]
      · rw [e2, zw_j q]; exact h1 j (by omega)
    · intro j hj
      rw [e2, zw_j (by omega)]; exact h2 j (by omega)
/-- the reference's log -/
def LgR (μ : zMem) (n : Nat) (T : zT) : Prop := μ 106 27 = nI T.2.2.1.1 ∧ ∀ j, j < T.2.2.1.1 → ∀ i, i < n → ∀ k, k < 14 → μ 123 (84 * j + (14 * i + k)) = T.2.2.1.2 j i k
theorem R_keep {T : zT} {I' : zI} (hn : n ≤ 6) (hT : T.2.2.1.1 ≤ 40) (hI : ∀ i, i < n → ∀ k, k < 14 → μ 111 (14 * i + k) = T.1 i k) (hL : LgR μ n T) (h : ∀ μ', Fr zKeep μ μ' → LgR μ' n (tPush T I') → KV μ') : zcV (d + 1) mX9_keep [.ref 106] μ KV X := by
  refine cX9_keep_ ?_
  unfold pX9_keep
  obtain ⟨l1, l2⟩ := hL
  have ev : ∀ j, (tPush T I').2.2.1.2 j = if T.2.2.1.1 < 40 then tV T j else tV T (j + 1) := fun _ => rfl
  refine ⟨fun q => ⟨3277, ?_⟩, fun q => ⟨85, ?_⟩⟩
  · rw [l1, show (40 : Int32) = nI 40 from rfl, n_eq (by omega) (by omega)] at q
    have qn : ¬ T.2.2.1.1 < 40 := by omega
    refine L_keep14 3276 84 μ (by omega) (by omega) Fr.rf (fun j hj => absurd hj (by omega)) (fun j _ => rfl) (fun m1 f1 g1 m2 e2 => ⟨85, ?_⟩)
    have c2 : m2 106 27 = nI 39 := by
      rw [e2, zw_s, f1 _ _ (by omega), l1, q]; rfl
    have g2 : ∀ j, m2 111 j = μ 111 j := fun j => by rw [e2, zw_c (by omega), f1 _ _ (by omega)]
    refine L_keep55 (p := 39) (by omega) 84 0 m2 (by omega) Fr.rf c2 (fun j _ => rfl) (fun j hj => absurd hj (by omega)) (fun μ' f3 g3 g4 g5 => h μ' ?_ ⟨?_, fun j hj i hi k hk => ?_⟩)
    · refine ((f1.mono fun c j z => Or.inl z).tr ?_).tr f3
      rw [e2]; exact Fr.w (Or.inr ⟨rfl, rfl⟩)
    · rw [tPush_n, if_neg qn]; exact g3
    · rw [tPush_n, if_neg qn] at hj
      rw [ev, if_neg qn]
      by_cases z : j = 39
      · subst z
        rw [g5 _ (by omega), g2, hI i hi k hk, show tV T (39 + 1) = T.1 from if_neg (by omega)]
      · rw [g4 _ (by omega), e2, zw_c (by omega), g1 _ (by omega), show 84 * j + (14 * i + k) + 84 = 84 * (j + 1) + (14 * i + k) by omega, l2 (j + 1) (by omega) i hi k hk, show tV T (j + 1) = T.2.2.1.2 (j + 1) from if_pos (by omega)]
  · rw [l1, show (40 : Int32) = nI 40 from rfl, n_eq (by omega) (by omega)] at q
    have qn : T.2.2.1.1 < 40 := by omega
    refine L_keep55 (p := T.2.2.1.1) qn 84 0 μ (by omega) Fr.rf l1 (fun j _ => rfl) (fun j hj => absurd hj (by omega)) (fun μ' f3 g3 g4 g5 => h μ' f3 ⟨?_, fun j hj i hi k hk => ?_⟩)
    · rw [tPush_n, if_pos qn]; exact g3
    · rw [tPush_n, if_pos qn] at hj
      rw [ev, if_pos qn]
      by_cases z : j = T.2.2.1.1
      · subst z
        rw [g5 _ (by omega), hI i hi k hk, show tV T T.2.2.1.1 = T.1 from if_neg (by omega)]
      · rw [g4 _ (by omega), l2 j (by omega) i hi k hk, show tV T j = T.2.2.1.2 j from if_pos (by omega)]
end Copy
