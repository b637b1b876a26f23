def oI : Option Nat → Int32
  | none => -1
  | some k => nI k
theorem oI_n {k : Nat} (h : k < 2 ^ 31) : ¬ nI k = -1 := by
  intro q
  have := n_i h
  rw [q] at this
  have e : (-1 : Int32).toInt = -1 := by decide
  rw [e] at this
  omega
section ClsCore
variable {d o : Nat} {μ : zMem} {KI : Int32 → zMem → Prop} {X : Nat → zMem → Prop}
theorem C_has {i : Int32} (ho : zsh o = .inr 1) (h : KI (b2i (¬ i < 0 ∧ ¬ μ o 0 ≤ i ∧ ¬ 6 ≤ i)) μ) : zcI (d + 1) mX1_has [.ref o, .int i] μ KI X := by
  refine cX1_has_ ho ?_
  unfold pX1_has
  have e : (if i < 0 then (0 : Int32) else (if μ o 0 ≤ i then 0 else (if 6 ≤ i then 0 else 1))) = b2i (¬ i < 0 ∧ ¬ μ o 0 ≤ i ∧ ¬ 6 ≤ i) := by
    unfold b2i
    by_cases h1 : i < 0 <;> by_cases h2 : μ o 0 ≤ i <;> by_cases h3 : (6 : Int32) ≤ i <;> simp [h1, h2, h3]
  rw [e]; exact h
theorem C_weight {i : Nat} {x : Int32} (ho : zsh o = .inr 1) (hx : x = nI i) (hi : i < 6) (h : KI (sWgt (cI μ o) i) μ) : zcI (d + 1) mX1_weight [.ref o, .int x] μ KI X := by
  subst hx
  refine cX1_weight_ ho ?_
  unfold pX1_weight
  rw [tN_nI (by omega)]
  refine ⟨vin hi, fun v hv => ⟨vin hi, vin hi, vin hi, ?_⟩⟩
  subst hv
  exact h
theorem sLin_eq (I : zI) (i : Nat) : zmax (I i 3 - I i 9) 0 = sLin I i := zmax_c _ _
theorem C_line {i : Nat} {x : Int32} (ho : zsh o = .inr 1) (hx : x = nI i) (hi : i < 6) (h : KI (sLin (cI μ o) i) μ) : zcI (d + 1) mX1_line [.ref o, .int x] μ KI X := by
  subst hx
  refine cX1_line_ ho ?_
  unfold pX1_line
  rw [tN_nI (by omega)]
  refine ⟨vin hi, vin hi, ?_⟩
  rw [← sLin_eq] at h
  exact h
theorem sLin_0 (I : zI) (i : Nat) : ¬ sLin I i = 0 ↔ 0 < sLin I i := by
  rw [i_eq, i_lt]
  unfold sLin
  rw [zmax_i, i_0]; omega
theorem C_floats {i : Nat} {x : Int32} (ho : zsh o = .inr 1) (hx : x = nI i) (hi : i < 6) (h : KI (b2i (sFlo (cI μ o) i)) μ) : zcI (d + 2) mX1_floats [.ref o, .int x] μ KI X := by
  subst hx
  refine cX1_floats_ ho ?_
  unfold pX1_floats
  rw [tN_nI (by omega)]
  refine ⟨vin hi, C_weight ho rfl hi ⟨fun h1 => ?_, fun h1 => C_line ho rfl hi ?_⟩⟩
  · rw [b2i_f (fun q => absurd h1 ((i_nle _ _).mpr q.1))] at h
    exact h
  · have h1 : sWgt (cI μ o) i < cI μ o i 4 := (i_nle _ _).mp h1
    by_cases h2 : sLin (cI μ o) i = 0
    · rw [b2i_f (fun q => (sLin_0 _ _).mpr q.2 h2)] at h
      rw [if_pos h2]; exact h
    · rw [b2i_t ⟨h1, (sLin_0 _ _).mp h2⟩] at h
      rw [if_neg h2]; exact h
theorem n4 (i k : Nat) : (nI i * 4) + nI k = nI (4 * i + k) := by
  rw [show (4 : Int32) = nI 4 from rfl, pk_mul, nI_add, Nat.mul_comm]
theorem n4' (i : Nat) : (nI i * 4) = nI (4 * i) := by
  rw [show (4 : Int32) = nI 4 from rfl, pk_mul, Nat.mul_comm]
def sLea (I : zI) (i : Nat) : Int32 := zmax (zabs (I i 11 - I i 13)) (zabs (I i 10 - I i 12))
theorem C_leaning {i : Nat} {x : Int32} (ho : zsh o = .inr 1) (hx : x = nI i) (hi : i < 6) (h : KI (sLea (cI μ o) i) μ) : zcI (d + 1) mX1_leaning [.ref o, .int x] μ KI X := by
  subst hx
  refine cX1_leaning_ ho ?_
  unfold pX1_leaning
  rw [show (2 : Int32) = nI 2 from rfl, show (1 : Int32) = nI 1 from rfl, show (3 : Int32) = nI 3 from rfl, n4, n4, n4, n4', tN_nI (by omega), tN_nI (by omega), tN_nI (by omega), tN_nI (by omega)]
  refine ⟨vin (by omega), vin (by omega), fun v1 e1 => ⟨vin (by omega), vin (by omega), fun v2 e2 => ?_⟩⟩
  subst e1 e2
  unfold sLea at h
  rw [zmax_c] at h
  exact h
/-! the wind -/
def latC (F : Nat → Int32) (h : Int32) (i : Nat) (a : Option Nat) : Option Nat := if h < F i then a else match a with
  | none => some i
  | some k => if F i ≤ F k then a else some i
def latS (F : Nat → Int32) (h : Int32) : Nat → Nat → Option Nat → Option Nat
  | 0, _, a => a
  | m + 1, i, a => latS F h m (i + 1) (latC F h i a)
def oV (W : Nat → Int32) : Option Nat → Int32
  | none => 0
  | some k => W k
theorem latC_lt {F : Nat → Int32} {h : Int32} {i N : Nat} {a : Option Nat} (hi : i < N) (ha : ∀ k, a = some k → k < N) : ∀ k, latC F h i a = some k → k < N := by
  intro k hk
  unfold latC at hk
  split at hk
  · exact ha k hk
  · split at hk
    · cases hk; exact hi
    · split at hk
      · exact ha k hk
      · cases hk; exact hi
theorem latS_lt {F : Nat → Int32} {h : Int32} {N : Nat} : ∀ (m i : Nat) (a : Option Nat), i + m ≤ N → (∀ k, a = some k → k < N) → ∀ k, latS F h m i a = some k → k < N
  | 0, _, _, _, ha, k, hk => ha k hk
  | m + 1, i, a, hm, ha, k, hk => latS_lt m (i + 1) _ (by omega) (latC_lt (by omega) ha) k hk
theorem L_latest {hour : Int32} {N : Nat} (hN : N ≤ 12) (hc : μ o 1 = nI N) : ∀ (m i : Nat) (a : Option Nat), i + m = N → (∀ k, a = some k → k < N) → KI (oI (latS (μ (o + 13)) hour m i a)) μ → pX4_latestWind_4 (m + 1) d o hour (oI a) (nI i) μ KI X := by
  intro m
  induction m with
  | zero =>
    intro i a hi ha h
    refine ⟨fun _ => h, fun h1 => absurd ?_ h1⟩
    rw [hc]; exact (n_le (by omega) (by omega)).mpr (by omega)
  | succ m ih =>
    intro i a hi ha h
    have hlt : ¬ μ o 1 ≤ nI i := by rw [hc, n_le (by omega) (by omega)]; omega
    refine ⟨fun h1 => absurd h1 hlt, fun _ => ⟨vin (by omega), ?_⟩⟩
    rw [tN_nI (by omega)]
    have step : ∀ a', latC (μ (o + 13)) hour i a = a' → ∀ v, v = nI i + 1 → pX4_latestWind_4 (m + 1) d o hour (oI a') v μ KI X := by
      intro a' e v hv
      rw [hv, nI_1]
      refine ih (i + 1) a' (by omega) (by rw [← e]; exact latC_lt (by omega) ha) ?_
      rw [← e]; exact h
    refine ⟨fun h1 v hv => step a (by unfold latC; rw [if_pos h1]) v hv, fun h1 => ?_⟩
    cases a with
    | none => exact ⟨fun _ v hv => step (some i) (by unfold latC; rw [if_neg h1]) v hv, fun q => absurd rfl q⟩
    | some k =>
      have hk := ha k rfl
      refine ⟨fun q => absurd q (oI_n (by omega)), fun _ => ⟨vin (by omega), vin (by omega), ?_⟩⟩
      show (μ (o + 13) i ≤ μ (o + 13) (nI k).toNatClampNeg → _) ∧ (¬ μ (o + 13) i ≤ μ (o + 13) (nI k).toNatClampNeg → _)
      rw [tN_nI (by omega)]
      refine ⟨fun h2 v hv => step (some k) (by unfold latC; rw [if_neg h1]; exact if_pos h2) v hv, fun h2 v hv => step (some i) (by unfold latC; rw [if_neg h1]; exact if_neg h2) v hv⟩
theorem C_latest {hour : Int32} {N : Nat} (ho : zsh o = .inr 4) (hN : N ≤ 12) (hc : μ o 1 = nI N) (h : KI (oI (latS (μ (o + 13)) hour N 0 none)) μ) : zcI (d + 1) mX4_latestWind [.ref o, .int hour] μ KI X := by
  refine cX4_latestWind_ ho ⟨N + 1, ?_⟩
  exact L_latest hN hc N 0 none (by omega) (fun k hk => by cases hk) h
def sWx (W : Nat → Int32) (F : Nat → Int32) (N : Nat) (h : Int32) : Int32 := oV W (latS F h N 0 none)
theorem C_windX {hour : Int32} {N : Nat} (ho : zsh o = .inr 4) (hN : N ≤ 12) (hc : μ o 1 = nI N) (h : KI (sWx (μ (o + 14)) (μ (o + 13)) N hour) μ) : zcI (d + 2) mX4_windAlongX [.ref o, .int hour] μ KI X := by
  refine cX4_windAlongX_ ho ?_
  unfold pX4_windAlongX
  refine C_latest ho hN hc ?_
  unfold sWx at h
  cases e : latS (μ (o + 13)) hour N 0 none with
  | none => rw [e] at h; exact ⟨fun _ => h, fun q => absurd rfl q⟩
  | some k =>
    have hk := latS_lt (N := N) N 0 none (by omega) (fun k hk => by cases hk) k e
    rw [e] at h
    refine ⟨fun q => absurd q (oI_n (by omega)), fun _ => ⟨vin (by omega), ?_⟩⟩
    show KI (μ (o + 14) (nI k).toNatClampNeg) μ
    rw [tN_nI (by omega)]; exact h
theorem C_windY {hour : Int32} {N : Nat} (ho : zsh o = .inr 4) (hN : N ≤ 12) (hc : μ o 1 = nI N) (h : KI (sWx (μ (o + 15)) (μ (o + 13)) N hour) μ) : zcI (d + 2) mX4_windAlongY [.ref o, .int hour] μ KI X := by
  refine cX4_windAlongY_ ho ?_
  unfold pX4_windAlongY
  refine C_latest ho hN hc ?_
  unfold sWx at h
  cases e : latS (μ (o + 13)) hour N 0 none with
  | none => rw [e] at h; exact ⟨fun _ => h, fun q => absurd rfl q⟩
  | some k =>
    have hk := latS_lt (N := N) N 0 none (by omega) (fun k hk => by cases hk) k e
    rw [e] at h
    refine ⟨fun q => absurd q (oI_n (by omega)), fun _ => ⟨vin (by omega), ?_⟩⟩
    show KI (μ (o + 15) (nI k).toNatClampNeg) μ
    rw [tN_nI (by omega)]; exact h
end ClsCore
