/-! bits: rows of hours in an int -/
theorem zo_and (a b : Nat) : nI a &&& nI b = nI (a &&& b) := by
  apply Int32.toBitVec_inj.1
  show BitVec.ofNat 32 a &&& BitVec.ofNat 32 b = BitVec.ofNat 32 (a &&& b)
  apply BitVec.eq_of_getLsbD_eq
  intro i hi
  simp [hi]
theorem zo_or (a b : Nat) : nI a ||| nI b = nI (a ||| b) := by
  apply Int32.toBitVec_inj.1
  show BitVec.ofNat 32 a ||| BitVec.ofNat 32 b = BitVec.ofNat 32 (a ||| b)
  apply BitVec.eq_of_getLsbD_eq
  intro i hi
  simp [hi]
theorem zo_sl : ∀ n, n < 32 → ((nI n &&& 31).toBitVec.smod 32).toNat = n := by decide +kernel
theorem zo_shl {j : Nat} (hj : j < 24) : (1 : Int32) <<< (nI j &&& 31) = nI (2 ^ j) := by
  have h : 2 ^ j ≤ 2 ^ 24 := Nat.pow_le_pow_right (by omega) (by omega)
  have := pk_shlN (n := 1) (nI j &&& 31) j (zo_sl j (by omega)) (by omega)
  rw [Nat.one_mul] at this
  exact this
def zpl : Nat → Nat → Nat
  | 0, _ => 0
  | k + 1, x => x % 2 + zpl k (x / 2)
theorem cntB_low {f : Nat → Bool} : ∀ k, cntB f (k + 1) = (if f 0 = true then 1 else 0) + cntB (fun j => f (j + 1)) k
  | 0 => by show 0 + (if f 0 = true then 1 else 0) = (if f 0 = true then 1 else 0) + 0; omega
  | k + 1 => by
    show cntB f (k + 1) + (if f (k + 1) = true then 1 else 0) = (if f 0 = true then 1 else 0) + (cntB (fun j => f (j + 1)) k + (if f (k + 1) = true then 1 else 0))
    rw [cntB_low k]; omega
theorem cntB_c {f g : Nat → Bool} : ∀ k, (∀ j, j < k → f j = g j) → cntB f k = cntB g k
  | 0, _ => rfl
  | k + 1, h => by
    show cntB f k + (if f k = true then 1 else 0) = cntB g k + (if g k = true then 1 else 0)
    rw [cntB_c k (fun j hj => h j (by omega)), h k (by omega)]
theorem zpl_cnt : ∀ (k x : Nat), zpl k x = cntB (fun j => x.testBit j) k
  | 0, _ => rfl
  | k + 1, x => by
    rw [cntB_low k]
    show x % 2 + zpl k (x / 2) = _
    rw [zpl_cnt k (x / 2)]
    have e : cntB (fun j => (x / 2).testBit j) k = cntB (fun j => x.testBit (j + 1)) k := cntB_c k (fun j _ => (Nat.testBit_add_one x j).symm)
    rw [e, Nat.testBit_zero]
    by_cases q : x % 2 = 1
    · rw [if_pos (decide_eq_true q), q]
    · rw [if_neg (fun z => q (of_decide_eq_true z))]; omega
theorem zpl4 (b x : Nat) : zpl (b + 4) x = zpl 4 x + zpl b (x / 16) := by
  show x % 2 + (x / 2 % 2 + (x / 2 / 2 % 2 + (x / 2 / 2 / 2 % 2 + zpl b (x / 2 / 2 / 2 / 2)))) = (x % 2 + (x / 2 % 2 + (x / 2 / 2 % 2 + (x / 2 / 2 / 2 % 2 + 0)))) + zpl b (x / 16)
  rw [show x / 2 / 2 / 2 / 2 = x / 16 by omega]; omega
theorem and_dm (a m c k : Nat) (hc : c < 2 ^ k) : a &&& (2 ^ k * m + c) = 2 ^ k * (a / 2 ^ k &&& m) + (a % 2 ^ k &&& c) := by
  have h := Nat.div_add_mod (a &&& (2 ^ k * m + c)) (2 ^ k)
  rw [Nat.and_div_two_pow, Nat.and_mod_two_pow, Nat.mul_add_div (by omega), Nat.div_eq_of_lt hc, Nat.add_zero, Nat.mul_add_mod, Nat.mod_eq_of_lt hc] at h
  exact h.symm
def m5 : Nat → Nat
  | 0 => 0
  | k + 1 => 4 * m5 k + 1
def m3 : Nat → Nat
  | 0 => 0
  | k + 1 => 16 * m3 k + 3
def zf1 : Nat → Nat → Nat
  | 0, _ => 0
  | k + 1, x => 4 * zf1 k (x / 4) + (x % 2 + x / 2 % 2)
def zg2 : Nat → Nat → Nat
  | 0, _ => 0
  | k + 1, x => 16 * zg2 k (x / 16) + zpl 4 x
theorem st1 : ∀ (k x : Nat), x < 4 ^ k → (x / 2 &&& m5 k) ≤ x ∧ x - (x / 2 &&& m5 k) = zf1 k x
  | 0, x, h => by
    have : x = 0 := by omega
    subst this; exact ⟨by decide, by decide⟩
  | k + 1, x, h => by
    have hx : x / 4 < 4 ^ k := by rw [Nat.pow_succ] at h; omega
    obtain ⟨i1, i2⟩ := st1 k (x / 4) hx
    have e := and_dm (x / 2) (m5 k) 1 2 (by decide)
    have e' : x / 2 &&& m5 (k + 1) = 4 * (x / 4 / 2 &&& m5 k) + x / 2 % 2 := by
      show x / 2 &&& (2 ^ 2 * m5 k + 1) = _
      rw [e, Nat.and_one_is_mod, show x / 2 / 2 ^ 2 = x / 4 / 2 by omega, show x / 2 % 2 ^ 2 % 2 = x / 2 % 2 by omega]
    rw [e']
    show _ ∧ _ = 4 * zf1 k (x / 4) + (x % 2 + x / 2 % 2)
    omega
theorem st2 : ∀ (k x : Nat), (zf1 (2 * k) x &&& m3 k) + (zf1 (2 * k) x / 4 &&& m3 k) = zg2 k x
  | 0, x => by show (0 &&& 0) + (0 / 4 &&& 0) = 0; rfl
  | k + 1, x => by
    have ih := st2 k (x / 16)
    have ef : zf1 (2 * (k + 1)) x = 4 * (4 * zf1 (2 * k) (x / 4 / 4) + (x / 4 % 2 + x / 4 / 2 % 2)) + (x % 2 + x / 2 % 2) := rfl
    rw [show x / 4 / 4 = x / 16 by omega] at ef
    have e1 := and_dm (zf1 (2 * (k + 1)) x) (m3 k) 3 4 (by decide)
    have e2 := and_dm (zf1 (2 * (k + 1)) x / 4) (m3 k) 3 4 (by decide)
    have w3 : ∀ a, a &&& 3 = a % 4 := fun a => Nat.and_two_pow_sub_one_eq_mod a 2
    rw [w3] at e1 e2
    show (zf1 (2 * (k + 1)) x &&& (2 ^ 4 * m3 k + 3)) + (zf1 (2 * (k + 1)) x / 4 &&& (2 ^ 4 * m3 k + 3)) = 16 * zg2 k (x / 16) + (x % 2 + (x / 2 % 2 + (x / 2 / 2 % 2 + (x / 2 / 2 / 2 % 2 + 0))))
    rw [e1, e2, ← ih]
    generalize zf1 (2 * k) (x / 16) = Y at *
    rw [ef]
    rw [show (4 * (4 * Y + (x / 4 % 2 + x / 4 / 2 % 2)) + (x % 2 + x / 2 % 2)) / 2 ^ 4 = Y by omega, show (4 * (4 * Y + (x / 4 % 2 + x / 4 / 2 % 2)) + (x % 2 + x / 2 % 2)) / 4 / 2 ^ 4 = Y / 4 by omega]
    generalize (Y &&& m3 k) = A
    generalize (Y / 4 &&& m3 k) = B
    omega
theorem st3 (a : Nat) : a &&& 252645135 = a % 16 + 256 * (a / 256 % 16) + 65536 * (a / 65536 % 16) + 16777216 * (a / 16777216 % 16) := by
  have w : ∀ a, a &&& 15 = a % 16 := fun a => Nat.and_two_pow_sub_one_eq_mod a 4
  have e1 := and_dm a 986895 15 8 (by decide)
  have e2 := and_dm (a / 2 ^ 8) 3855 15 8 (by decide)
  have e3 := and_dm (a / 2 ^ 8 / 2 ^ 8) 15 15 8 (by decide)
  rw [show 2 ^ 8 * 15 + 15 = 3855 from rfl] at e3
  rw [show 2 ^ 8 * 3855 + 15 = 986895 from rfl, e3] at e2
  rw [show 2 ^ 8 * 986895 + 15 = 252645135 from rfl, e2] at e1
  rw [w, w, w, w] at e1
  omega
theorem zpl4_le (x : Nat) : zpl 4 x ≤ 4 := by
  show (x % 2 + (x / 2 % 2 + (x / 2 / 2 % 2 + (x / 2 / 2 / 2 % 2 + 0)))) ≤ 4
  omega
theorem bc_2 (a b Y : Nat) (h0 : a < 16) (h1 : b < 16) : (a + 16 * (b + 16 * Y)) % 16 = a ∧ (a + 16 * (b + 16 * Y)) / 256 = Y := by omega
theorem bc_d (a Y : Nat) (h0 : a < 256) : (a + 256 * Y) / 256 = Y := by omega
theorem bc_16 (a Y : Nat) (h0 : a < 16) : (a + 16 * Y) / 16 = Y := by omega
theorem bc_3 (s0 s1 s2 s3 s4 s5 s6 s7 : Nat) (h0 : s0 < 16) (h1 : s1 < 16) (h2 : s2 < 16) (h3 : s3 < 16) (h4 : s4 < 16) (h5 : s5 < 16) (h6 : s6 < 16) (h7 : s7 < 16) :
    (s0 + 16 * (s1 + 16 * (s2 + 16 * (s3 + 16 * (s4 + 16 * (s5 + 16 * (s6 + 16 * s7))))))) &&& 252645135 = s0 + 256 * (s2 + 256 * (s4 + 256 * s6)) := by
  rw [st3]
  obtain ⟨a1, a2⟩ := bc_2 s0 s1 (s2 + 16 * (s3 + 16 * (s4 + 16 * (s5 + 16 * (s6 + 16 * s7))))) h0 h1
  obtain ⟨b1, b2⟩ := bc_2 s2 s3 (s4 + 16 * (s5 + 16 * (s6 + 16 * s7))) h2 h3
  obtain ⟨c1, c2⟩ := bc_2 s4 s5 (s6 + 16 * s7) h4 h5
  have e2 : ∀ a : Nat, a / 65536 = a / 256 / 256 := fun a => (Nat.div_div_eq_div_mul a 256 256).symm
  have e3 : ∀ a : Nat, a / 16777216 = a / 256 / 256 / 256 := fun a => by rw [Nat.div_div_eq_div_mul, Nat.div_div_eq_div_mul]
  have d1 : (s6 + 16 * s7) % 16 = s6 := by omega
  rw [e2, e3, a1, a2, b1, b2, c1, c2, d1]
  omega
theorem bc_4 (a b c e : Nat) (h0 : a < 20) (h1 : b < 20) (h2 : c < 20) (h3 : e < 20) : (a + 256 * (b + 256 * (c + 256 * e))) + (a + 256 * (b + 256 * (c + 256 * e))) / 256 = (a + b) + 256 * ((b + c) + 256 * ((c + e) + 256 * e)) := by
  rw [bc_d a _ (by omega)]; omega
theorem bc_5 (a b c e : Nat) (h0 : a < 40) (h1 : b < 40) : (a + 256 * (b + 256 * (c + 256 * e))) + (a + 256 * (b + 256 * (c + 256 * e))) / 65536 = (a + c) + 256 * ((b + e) + 256 * (c + 256 * e)) := by
  have e2 : ∀ a : Nat, a / 65536 = a / 256 / 256 := fun a => (Nat.div_div_eq_div_mul a 256 256).symm
  rw [e2, bc_d a _ (by omega), bc_d b _ (by omega)]; omega
theorem bc_6 (a Y : Nat) (h : a < 64) : (a + 256 * Y) % 64 = a := by omega
section BitC
variable {d : Nat} {μ : zMem} {KI : Int32 → zMem → Prop} {X : Nat → zMem → Prop}
theorem C_bitG {g q0 q1 q2 q3 q4 q5 q6 q7 : Nat} {v2 : Int32} (h2 : v2 = nI g) (hg : g = q0 + 16 * (q1 + 16 * (q2 + 16 * (q3 + 16 * (q4 + 16 * (q5 + 16 * (q6 + 16 * q7))))))) (p0 : q0 ≤ 4) (p1 : q1 ≤ 4) (p2 : q2 ≤ 4) (p3 : q3 ≤ 4) (p4 : q4 ≤ 4) (p5 : q5 ≤ 4) (p6 : q6 ≤ 4) (p7 : q7 ≤ 4) {v3 v4 v5 : Int32}
    (e3 : v3 = (v2 + ((v2.toUInt32 >>> ((Int32.toUInt32 4) &&& Int32.toUInt32 31)).toInt32)) &&& 252645135) (e4 : v4 = v3 + ((v3.toUInt32 >>> ((Int32.toUInt32 8) &&& Int32.toUInt32 31)).toInt32)) (e5 : v5 = v4 + ((v4.toUInt32 >>> ((Int32.toUInt32 16) &&& Int32.toUInt32 31)).toInt32)) : v5 &&& 63 = nI (q0 + q1 + (q2 + q3) + ((q4 + q5) + (q6 + q7))) := by
  have l2 : g < 2 ^ 32 := by omega
  have r1 : g / 2 ^ 4 = q1 + 16 * (q2 + 16 * (q3 + 16 * (q4 + 16 * (q5 + 16 * (q6 + 16 * q7))))) := by rw [hg]; exact bc_16 q0 _ (by omega)
  have r2 : g + g / 2 ^ 4 = (q0 + q1) + 16 * ((q1 + q2) + 16 * ((q2 + q3) + 16 * ((q3 + q4) + 16 * ((q4 + q5) + 16 * ((q5 + q6) + 16 * ((q6 + q7) + 16 * q7)))))) := by rw [r1, hg]; omega
  rw [h2, pk_ushrN l2 4 4 (by decide), nI_add, show (252645135 : Int32) = nI 252645135 from rfl, zo_and, r2, bc_3 _ _ _ _ _ _ _ _ (by omega) (by omega) (by omega) (by omega) (by omega) (by omega) (by omega) (by omega)] at e3
  rw [e3, pk_ushrN (by omega) 8 8 (by decide), nI_add, show (2 : Nat) ^ 8 = 256 from rfl, bc_4 _ _ _ _ (by omega) (by omega) (by omega) (by omega)] at e4
  rw [e4, pk_ushrN (by omega) 16 16 (by decide), nI_add, show (2 : Nat) ^ 16 = 65536 from rfl, bc_5 _ _ _ _ (by omega) (by omega)] at e5
  rw [e5, pk_andN (by omega) (m := 63) 6 (by decide), show (2 : Nat) ^ 6 = 64 from rfl, bc_6 _ _ (by omega)]
theorem C_bitCount {x : Nat} (hx : x < 2 ^ 32) (h : KI (nI (cntB (fun j => x.testBit j) 32)) μ) : zcI (d + 1) mJ6_bitCount_0f7a4 [.int (nI x)] μ KI X := by
  rw [← zpl_cnt] at h
  refine cJ6_bitCount_0f7a4_ (fun v1 e1 v2 e2 v3 e3 v4 e4 v5 e5 => ?_)
  obtain ⟨a1, a2⟩ := st1 16 x (by exact hx)
  have m16 : m5 16 = 1431655765 := by decide +kernel
  have m8 : m3 8 = 858993459 := by decide +kernel
  rw [m16] at a1 a2
  rw [pk_ushrN hx 1 1 (by decide), show (1431655765 : Int32) = nI 1431655765 from rfl, zo_and, Nat.pow_one, pk_sub a1, a2] at e1
  have l1 : zf1 16 x < 2 ^ 32 := by rw [← a2]; exact Nat.lt_of_le_of_lt (Nat.sub_le _ _) hx
  have c2 := st2 8 x
  rw [m8, show 2 * 8 = 16 from rfl] at c2
  rw [e1, pk_ushrN l1 2 2 (by decide), show (858993459 : Int32) = nI 858993459 from rfl, zo_and, zo_and, nI_add, show (2 : Nat) ^ 2 = 4 from rfl, c2] at e2
  have eg : zg2 8 x = zpl 4 x + 16 * (zpl 4 (x / 16) + 16 * (zpl 4 (x / 16 / 16) + 16 * (zpl 4 (x / 16 / 16 / 16) + 16 * (zpl 4 (x / 16 / 16 / 16 / 16) + 16 * (zpl 4 (x / 16 / 16 / 16 / 16 / 16) + 16 * (zpl 4 (x / 16 / 16 / 16 / 16 / 16 / 16) + 16 * (zpl 4 (x / 16 / 16 / 16 / 16 / 16 / 16 / 16)))))))) := by
    have s : ∀ k y, zg2 (k + 1) y = zpl 4 y + 16 * zg2 k (y / 16) := fun k y => by show 16 * zg2 k (y / 16) + zpl 4 y = _; rw [Nat.add_comm]
    have z : ∀ y, zg2 0 y = 0 := fun _ => rfl
    rw [show 8 = 0 + 1 + 1 + 1 + 1 + 1 + 1 + 1 + 1 from rfl, s, s, s, s, s, s, s, s, z, Nat.mul_zero, Nat.add_zero]
  have ep : zpl 32 x = zpl 4 x + (zpl 4 (x / 16) + (zpl 4 (x / 16 / 16) + (zpl 4 (x / 16 / 16 / 16) + (zpl 4 (x / 16 / 16 / 16 / 16) + (zpl 4 (x / 16 / 16 / 16 / 16 / 16) + (zpl 4 (x / 16 / 16 / 16 / 16 / 16 / 16) + zpl 4 (x / 16 / 16 / 16 / 16 / 16 / 16 / 16))))))) := by
    rw [show 32 = 28 + 4 from rfl, zpl4 28, show 28 = 24 + 4 from rfl, zpl4 24, show 24 = 20 + 4 from rfl, zpl4 20, show 20 = 16 + 4 from rfl, zpl4 16, show 16 = 12 + 4 from rfl, zpl4 12, show 12 = 8 + 4 from rfl, zpl4 8, show 8 = 4 + 4 from rfl, zpl4 4]
  rw [C_bitG e2 eg (zpl4_le _) (zpl4_le _) (zpl4_le _) (zpl4_le _) (zpl4_le _) (zpl4_le _) (zpl4_le _) (zpl4_le _) e3 e4 e5]
  rw [ep] at h
  refine cast (congrArg (fun z => KI (nI z) μ) ?_) h
  omega
end BitC
