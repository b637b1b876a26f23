/-! THE PURE PART: what the methods answer, in words of a view of the isles: I i k, the k-th number of isle i in the reference's order -/
abbrev zI : Type := Nat → Nat → Int32
theorem vin {n N : Nat} (h : n < N) (hN : N < 2 ^ 31 := by decide) : vp_in (nI n) N := vp_in_nI h hN
theorem vlit {x : Int32} {n N : Nat} (e : x = nI n) (h : n < N) (hN : N < 2 ^ 31 := by decide) : vp_in x N := by rw [e]; exact vp_in_nI h hN
theorem tN_nI {n : Nat} (h : n < 2 ^ 31) : (nI n).toNatClampNeg = n := nI_clamp h
theorem nI_lit (n : Nat) : (OfNat.ofNat n : Int32) = nI n := rfl
def b2i (p : Prop) [Decidable p] : Int32 := if p then 1 else 0
theorem b2i_0 {p : Prop} [Decidable p] : b2i p = 0 ↔ ¬ p := by unfold b2i; split <;> simp [*]
theorem b2i_t {p : Prop} [Decidable p] (h : p) : b2i p = 1 := if_pos h
theorem b2i_f {p : Prop} [Decidable p] (h : ¬ p) : b2i p = 0 := if_neg h
theorem b2i_01 (p : Prop) [Decidable p] : b2i p = 0 ∨ b2i p = 1 := by unfold b2i; split <;> simp
theorem b2i_congr {p q : Prop} [Decidable p] [Decidable q] (h : p ↔ q) : b2i p = b2i q := by unfold b2i; simp [h]
def sWgt (I : zI) (i : Nat) : Int32 := ((I i 6 + I i 7) + (2 * I i 8)) + (if I i 0 = 1 then 5 else 0)
def sLin (I : zI) (i : Nat) : Int32 := zmax 0 (I i 3 - I i 9)
abbrev sFlo (I : zI) (i : Nat) : Prop := sWgt I i < I i 4 ∧ 0 < sLin I i
theorem i_lt (a b : Int32) : a < b ↔ a.toInt < b.toInt := Int32.lt_iff_toInt_lt
theorem i_le (a b : Int32) : a ≤ b ↔ a.toInt ≤ b.toInt := Int32.le_iff_toInt_le
theorem i_nlt (a b : Int32) : ¬ a < b ↔ b ≤ a := by rw [i_lt, i_le]; omega
theorem i_nle (a b : Int32) : ¬ a ≤ b ↔ b < a := by rw [i_lt, i_le]; omega
theorem i_ne {a b : Int32} : a ≠ b ↔ a.toInt ≠ b.toInt := not_congr Int32.toInt_inj.symm
theorem i_eq {a b : Int32} : a = b ↔ a.toInt = b.toInt := Int32.toInt_inj.symm
theorem i_0 : (0 : Int32).toInt = 0 := by decide
theorem i_1 : (1 : Int32).toInt = 1 := by decide
theorem i_rng (a : Int32) : -2147483648 ≤ a.toInt ∧ a.toInt ≤ 2147483647 := by
  have h1 := Int32.le_toInt a
  have h2 := Int32.toInt_lt a
  omega
theorem i_add {a b : Int32} (h1 : -2147483648 ≤ a.toInt + b.toInt) (h2 : a.toInt + b.toInt ≤ 2147483647) : (a + b).toInt = a.toInt + b.toInt := by
  rw [Int32.toInt_add, Int.bmod_eq_of_le (by omega) (by omega)]
theorem i_sub {a b : Int32} (h1 : -2147483648 ≤ a.toInt - b.toInt) (h2 : a.toInt - b.toInt ≤ 2147483647) : (a - b).toInt = a.toInt - b.toInt := by
  rw [Int32.toInt_sub, Int.bmod_eq_of_le (by omega) (by omega)]
theorem i_mul {a b : Int32} (h1 : -2147483648 ≤ a.toInt * b.toInt) (h2 : a.toInt * b.toInt ≤ 2147483647) : (a * b).toInt = a.toInt * b.toInt := by
  rw [Int32.toInt_mul, Int.bmod_eq_of_le (by omega) (by omega)]
theorem zmax_i (x y : Int32) : (zmax x y).toInt = max x.toInt y.toInt := by
  unfold zmax; split <;> rename_i h <;> rw [i_lt] at h <;> omega
theorem zmin_i (x y : Int32) : (zmin x y).toInt = min x.toInt y.toInt := by
  unfold zmin; split <;> rename_i h <;> rw [i_lt] at h <;> omega
theorem zmax_c (x y : Int32) : zmax x y = zmax y x := by rw [i_eq, zmax_i, zmax_i]; omega
theorem zmin_c (x y : Int32) : zmin x y = zmin y x := by rw [i_eq, zmin_i, zmin_i]; omega
theorem zabs_i {x : Int32} (h : -2147483647 ≤ x.toInt) : (zabs x).toInt = x.toInt.natAbs := by
  unfold zabs
  split
  · rename_i h1; rw [i_le, i_0] at h1; omega
  · rename_i h1
    rw [i_le, i_0] at h1
    have := i_rng x
    rw [i_sub (by rw [i_0]; omega) (by rw [i_0]; omega), i_0]; omega
theorem n_i {n : Nat} (h : n < 2 ^ 31) : (nI n).toInt = n := nI_toInt h
theorem n_lt {a b : Nat} (ha : a < 2 ^ 31) (hb : b < 2 ^ 31) : nI a < nI b ↔ a < b := nI_ltI ha hb
theorem n_le {a b : Nat} (ha : a < 2 ^ 31) (hb : b < 2 ^ 31) : nI a ≤ nI b ↔ a ≤ b := nI_leI ha hb
theorem n_eq {a b : Nat} (ha : a < 2 ^ 31) (hb : b < 2 ^ 31) : nI a = nI b ↔ a = b := nI_eq ha hb
theorem zw_s {μ : zMem} {a i : Nat} {x : Int32} : zw μ a i x a i = x := by simp [zw]
theorem zw_c {μ : zMem} {a i c j : Nat} {x : Int32} (h : c ≠ a) : zw μ a i x c j = μ c j := by simp [zw, h]
theorem zw_j {μ : zMem} {a i c j : Nat} {x : Int32} (h : j ≠ i) : zw μ a i x c j = μ c j := by simp [zw, h]
theorem zw_n {μ : zMem} {a i c j : Nat} {x : Int32} (h : ¬ (c = a ∧ j = i)) : zw μ a i x c j = μ c j := by simp [zw, h]
/-- everything else stays -/
def Fr (P : Nat → Nat → Prop) (μ μ' : zMem) : Prop := ∀ c j, ¬ P c j → μ' c j = μ c j
theorem Fr.rf {P : Nat → Nat → Prop} {μ : zMem} : Fr P μ μ := fun _ _ _ => rfl
theorem Fr.tr {P : Nat → Nat → Prop} {μ μ1 μ2 : zMem} (h : Fr P μ μ1) (h2 : Fr P μ1 μ2) : Fr P μ μ2 := fun c j hp => (h2 c j hp).trans (h c j hp)
theorem Fr.mono {P P' : Nat → Nat → Prop} {μ μ1 : zMem} (h : Fr P μ μ1) (hp : ∀ c j, P c j → P' c j) : Fr P' μ μ1 := fun c j q => h c j (fun z => q (hp c j z))
theorem Fr.w {P : Nat → Nat → Prop} {μ : zMem} {a i : Nat} {x : Int32} (h : P a i) : Fr P μ (zw μ a i x) := fun c j q => zw_n (fun z => q (by rw [z.1, z.2]; exact h))
/-- the isles as the reference has them, and as an object of the class has them -/
def rI (μ : zMem) : zI := fun i k => μ 111 (14 * i + k)
def cI (μ : zMem) (o : Nat) : zI := fun i k => if k < 10 then μ (o + 1 + k) i else μ (o + 11) (4 * i + (k - 10))
