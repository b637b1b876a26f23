/-! long numbers that are counts -/
def nL (k : Nat) : Int64 := Int64.ofNat k
theorem l_eq {a b : Int64} : a = b ↔ a.toInt = b.toInt := Int64.toInt_inj.symm
theorem nL_i {k : Nat} (h : k < 2 ^ 62) : (nL k).toInt = k := Int64.toInt_ofNat_of_lt (by omega)
theorem l_sub {a b : Int64} (h1 : -4611686018427387904 ≤ a.toInt - b.toInt) (h2 : a.toInt - b.toInt ≤ 4611686018427387904) : (a - b).toInt = a.toInt - b.toInt := by
  rw [Int64.toInt_sub, Int.bmod_eq_of_le (by omega) (by omega)]
theorem l_mul {a b : Int64} (h1 : -4611686018427387904 ≤ a.toInt * b.toInt) (h2 : a.toInt * b.toInt ≤ 4611686018427387904) : (a * b).toInt = a.toInt * b.toInt := by
  rw [Int64.toInt_mul, Int.bmod_eq_of_le (by omega) (by omega)]
theorem l_div {a b : Int64} (h1 : -4611686018427387904 ≤ a.toInt.tdiv b.toInt) (h2 : a.toInt.tdiv b.toInt ≤ 4611686018427387904) : (a / b).toInt = a.toInt.tdiv b.toInt := by
  rw [Int64.toInt_div, Int.bmod_eq_of_le (by omega) (by omega)]
theorem nL_div {a b : Nat} (ha : a < 2 ^ 61) (hb : b < 2 ^ 61) : nL a / nL b = nL (a / b) := by
  have h0 : ((a : Int).tdiv (b : Int)) = ((a / b : Nat) : Int) := by rw [Int.tdiv_eq_ediv_of_nonneg (by omega)]; rfl
  have h1 : a / b ≤ a := Nat.div_le_self _ _
  generalize a / b = q at h0 h1 ⊢
  have hd : (nL a / nL b).toInt = (a : Int).tdiv (b : Int) := by
    rw [l_div (by rw [nL_i (by omega), nL_i (by omega), h0]; omega) (by rw [nL_i (by omega), nL_i (by omega), h0]; omega), nL_i (by omega), nL_i (by omega)]
  rw [l_eq, hd, h0, nL_i (by omega)]
theorem nL_mul {a b : Nat} (h : a * b < 2 ^ 61) (ha : a < 2 ^ 61) (hb : b < 2 ^ 61) : nL a * nL b = nL (a * b) := by
  have h0 : (a : Int) * (b : Int) = ((a * b : Nat) : Int) := rfl
  rw [l_eq, l_mul (by rw [nL_i (by omega), nL_i (by omega), h0]; omega) (by rw [nL_i (by omega), nL_i (by omega), h0]; omega), nL_i (by omega), nL_i (by omega), nL_i (by omega)]
  exact h0
theorem nL_sub {a b : Nat} (h : b ≤ a) (ha : a < 2 ^ 61) : nL a - nL b = nL (a - b) := by
  rw [l_eq, l_sub (by rw [nL_i (by omega), nL_i (by omega)]; omega) (by rw [nL_i (by omega), nL_i (by omega)]; omega), nL_i (by omega), nL_i (by omega), nL_i (by omega)]; omega
theorem nL_mod {a b : Nat} (ha : a < 2 ^ 61) (hb : b < 2 ^ 61) : nL a - nL a / nL b * nL b = nL (a % b) := by
  have h1 : a / b * b ≤ a := Nat.div_mul_le_self a b
  have h2 : a / b ≤ a := Nat.div_le_self _ _
  rw [nL_div ha hb, nL_mul (by omega) (by omega) hb, nL_sub h1 ha]
  congr 1
  have := Nat.div_add_mod a b
  rw [Nat.mul_comm] at this; omega
theorem nL_0 {a : Nat} (h : a < 2 ^ 61) : nL a = 0 ↔ a = 0 := by
  rw [l_eq, nL_i (by omega), show (0 : Int64).toInt = 0 from by decide]; omega
theorem nI_L {a : Nat} (h : a < 2 ^ 30) : (nI a).toInt64 = nL a := by
  rw [l_eq, Int32.toInt_toInt64, n_i (by omega), nL_i (by omega)]
theorem nL_I {a : Nat} (h : a < 2 ^ 30) : (nL a).toInt32 = nI a := by
  rw [i_eq, Int64.toInt_toInt32, nL_i (by omega), n_i (by omega), Int.bmod_eq_of_le (by omega) (by omega)]
theorem nI_div {a b : Nat} (ha : a < 2 ^ 30) (hb : b < 2 ^ 30) : nI a / nI b = nI (a / b) := by
  have h0 : ((a : Int).tdiv (b : Int)) = ((a / b : Nat) : Int) := by rw [Int.tdiv_eq_ediv_of_nonneg (by omega)]; rfl
  have h1 : a / b ≤ a := Nat.div_le_self _ _
  generalize a / b = q at h0 h1 ⊢
  rw [i_eq, i_div (by rw [n_i (by omega), n_i (by omega), h0]; omega) (by rw [n_i (by omega), n_i (by omega), h0]; omega), n_i (by omega), n_i (by omega), n_i (by omega)]
  exact h0
theorem half_mod {b r : Nat} (h0 : 0 < r) (h : r < b) : 2 * (b % r) < b := by
  have h1 := Nat.mod_lt b h0
  by_cases q : 2 * r ≤ b
  · omega
  · have e : b % r = b - r := by
      rw [Nat.mod_eq_sub_mod (by omega), Nat.mod_eq_of_lt (by omega)]
    omega
section Gcd
variable {d : Nat} {μ : zMem} {KL : Int64 → zMem → Prop} {X : Nat → zMem → Prop}
theorem E_low {x0 x2 : Int64} {x4 : Int32} : ∀ (k a b i : Nat), b < 2 ^ k → a < 2 ^ 61 → b < 2 ^ 61 → i + 2 * k < 1000 → pX8_inLowestTerms_45 d x0 x2 x4 (nL (Nat.gcd a b)) μ KL X → ∃ m, pX8_inLowestTerms_9 m d x0 x2 x4 (nL a) (nL b) (nI i) μ KL X := by
  intro k
  induction k with
  | zero =>
    intro a b i hb ha hb2 hi h
    have hb0 : b = 0 := by omega
    subst hb0
    rw [Nat.gcd_zero_right] at h
    exact ⟨1, fun _ => h, fun _ => ⟨fun _ => h, fun q => absurd rfl q⟩⟩
  | succ k ih =>
    intro a b i hb ha hb2 hi h
    have lim : ∀ j, j < 1000 → ¬ (1000 : Int32) ≤ nI j := fun j hj q => by
      have := (n_le (a := 1000) (by omega) (by omega)).mp q; omega
    by_cases b0 : b = 0
    · subst b0
      rw [Nat.gcd_zero_right] at h
      exact ⟨1, fun _ => h, fun _ => ⟨fun _ => h, fun q => absurd rfl q⟩⟩
    · have nb : ¬ nL b = 0 := fun q => b0 ((nL_0 hb2).mp q)
      have hr : a % b < b := Nat.mod_lt _ (by omega)
      have e1 : Nat.gcd a b = Nat.gcd b (a % b) := by rw [Nat.gcd_comm a b, Nat.gcd_rec, Nat.gcd_comm]
      by_cases r0 : a % b = 0
      · rw [e1, r0, Nat.gcd_zero_right] at h
        refine ⟨2, fun q => absurd q (lim i (by omega)), fun _ => ⟨fun q => absurd q nb, fun _ => ⟨nb, fun v1 e v2 e' => ?_⟩⟩⟩
        rw [nL_mod ha hb2, r0] at e
        subst e
        exact ⟨fun _ => h, fun _ => ⟨fun _ => h, fun q => absurd rfl q⟩⟩
      · have e2 : Nat.gcd b (a % b) = Nat.gcd (a % b) (b % (a % b)) := by rw [Nat.gcd_comm b, Nat.gcd_rec, Nat.gcd_comm]
        have hh := half_mod (b := b) (r := a % b) (by omega) hr
        rw [e1, e2] at h
        obtain ⟨m, hm⟩ := ih (a % b) (b % (a % b)) (i + 2) (by rw [Nat.pow_succ] at hb; omega) (by omega) (by omega) (by omega) h
        have nr : ¬ nL (a % b) = 0 := fun q => r0 ((nL_0 (by omega)).mp q)
        refine ⟨m + 2, fun q => absurd q (lim i (by omega)), fun _ => ⟨fun q => absurd q nb, fun _ => ⟨nb, fun v1 e v2 e' => ?_⟩⟩⟩
        rw [nL_mod ha hb2] at e
        subst e
        rw [nI_1] at e'
        subst e'
        refine ⟨fun q => absurd q (lim (i + 1) (by omega)), fun _ => ⟨fun q => absurd q nr, fun _ => ⟨nr, fun v3 e3 v4 e4 => ?_⟩⟩⟩
        rw [nL_mod hb2 (by omega)] at e3
        rw [nI_1] at e4
        subst e3 e4
        exact hm
theorem C_lowest {u l : Nat} {x4 : Int32} (hl : 1 ≤ l) (hl2 : l < 2 ^ 60) (hu : u < 2 ^ 60) (h : KL (if x4 = 0 then nL (u / Nat.gcd u l) else nL (l / Nat.gcd u l)) μ) : zcL (d + 1) mX8_inLowestTerms [.long (nL u), .long (nL l), .int x4] μ KL X := by
  refine cX8_inLowestTerms_ (E_low 60 u l 0 hl2 (by omega) (by omega) (by omega) ?_)
  have g0 : 0 < Nat.gcd u l := Nat.gcd_pos_of_pos_right u (by omega)
  have g1 : Nat.gcd u l ≤ l := Nat.gcd_le_right u (by omega)
  have ng : ¬ nL (Nat.gcd u l) = 0 := fun q => by have := (nL_0 (by omega)).mp q; omega
  refine ⟨fun q => absurd q ng, fun _ => ⟨fun q => ⟨ng, ?_⟩, fun q => ⟨ng, ?_⟩⟩⟩
  · rw [if_pos q] at h; rw [nL_div (by omega) (by omega)]; exact h
  · rw [if_neg q] at h; rw [nL_div (by omega) (by omega)]; exact h
theorem E_common : ∀ (k a b : Nat), b < 2 ^ k → a < 2 ^ 61 → b < 2 ^ 61 → KL (nL (Nat.gcd a b)) μ → ∃ m, pX9_common_6 m d (nL a) (nL b) μ KL X := by
  intro k
  induction k with
  | zero =>
    intro a b hb ha hb2 h
    have hb0 : b = 0 := by omega
    subst hb0
    rw [Nat.gcd_zero_right] at h
    exact ⟨1, fun _ => h, fun q => absurd rfl q⟩
  | succ k ih =>
    intro a b hb ha hb2 h
    by_cases b0 : b = 0
    · subst b0
      rw [Nat.gcd_zero_right] at h
      exact ⟨1, fun _ => h, fun q => absurd rfl q⟩
    · have nb : ¬ nL b = 0 := fun q => b0 ((nL_0 hb2).mp q)
      have hr : a % b < b := Nat.mod_lt _ (by omega)
      have e1 : Nat.gcd a b = Nat.gcd b (a % b) := by rw [Nat.gcd_comm a b, Nat.gcd_rec, Nat.gcd_comm]
      by_cases r0 : a % b = 0
      · rw [e1, r0, Nat.gcd_zero_right] at h
        refine ⟨2, fun q => absurd q nb, fun _ => ⟨nb, fun v1 e => ?_⟩⟩
        rw [nL_mod ha hb2, r0] at e
        subst e
        exact ⟨fun _ => h, fun q => absurd rfl q⟩
      · have e2 : Nat.gcd b (a % b) = Nat.gcd (a % b) (b % (a % b)) := by rw [Nat.gcd_comm b, Nat.gcd_rec, Nat.gcd_comm]
        have hh := half_mod (b := b) (r := a % b) (by omega) hr
        rw [e1, e2] at h
        obtain ⟨m, hm⟩ := ih (a % b) (b % (a % b)) (by rw [Nat.pow_succ] at hb; omega) (by omega) (by omega) h
        have nr : ¬ nL (a % b) = 0 := fun q => r0 ((nL_0 (by omega)).mp q)
        refine ⟨m + 2, fun q => absurd q nb, fun _ => ⟨nb, fun v1 e => ?_⟩⟩
        rw [nL_mod ha hb2] at e
        subst e
        refine ⟨fun q => absurd q nr, fun _ => ⟨nr, fun v3 e3 => ?_⟩⟩
        rw [nL_mod hb2 (by omega)] at e3
        subst e3
        exact hm
theorem R_common {u l : Nat} (hl2 : l < 2 ^ 60) (hu : u < 2 ^ 60) (h : KL (nL (Nat.gcd u l)) μ) : zcL (d + 1) mX9_common [.long (nL l), .long (nL u)] μ KL X := by
  refine cX9_common_ (E_common 60 l u hu (by omega) (by omega) ?_)
  rw [Nat.gcd_comm]; exact h
end Gcd
