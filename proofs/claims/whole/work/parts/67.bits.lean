/-! bits: rows of hours in an int -/
theorem zo_and (a b : Nat) : nI a &&& nI b = nI (a &&& b) := by
  apply Int32.toBitVec_inj.1
  show BitVec.ofNat 32 a &&& BitVec.ofNat 32 b = BitVec.ofNat 32 (a &&& b)
  apply BitVec.eq_of_getLsbD_eq
  intro i hi
  simp [hi]
theorem zo_or (a b : Nat) : nI a ||| nI b = nI (a ||| b) := by
  apply Int32.toBitVec_inj.1
  show BitVec.ofNat 32 a ||| BitVec.ofNat 32 b = BitVec.ofNat 32 (a ||| b)
  apply BitVec.eq_of_getLsbD_eq
  intro i hi
  simp [hi]
theorem zo_sl : ∀ n, n < 32 → ((nI n &&& 31).toBitVec.smod 32).toNat = n := by decide +kernel
theorem zo_shl {j : Nat} (hj : j < 24) : (1 : Int32) <<< (nI j &&& 31) = nI (2 ^ j) := by
  have h : 2 ^ j ≤ 2 ^ 24 := Nat.pow_le_pow_right (by omega) (by omega)
  have := pk_shlN (n := 1) (nI j &&& 31) j (zo_sl j (by omega)) (by omega)
  rw [Nat.one_mul] at this
  exact this
def zpl : Nat → Nat → Nat
  | 0, _ => 0
  | k + 1, x => x % 2 + zpl k (x / 2)
theorem cntB_low {f : Nat → Bool} : ∀ k, cntB f (k + 1) = (if f 0 = true then 1 else 0) + cntB (fun j => f (j + 1)) k
  | 0 => by show 0 + (if f 0 = true then 1 else 0) = (if f 0 = true then 1 else 0) + 0; omega
  | k + 1 => by
    show cntB f (k + 1) + (if f (k + 1) = true then 1 else 0) = (if f 0 = true then 1 else 0) + (cntB (fun j => f (j + 1)) k + (if f (k + 1) = true then 1 else 0))
    rw [cntB_low k]; omega
theorem cntB_c {f g : Nat → Bool} : ∀ k, (∀ j, j < k → f j = g j) → cntB f k = cntB g k
  | 0, _ => rfl
  | k + 1, h => by
    show cntB f k + (if f k = true then 1 else 0) = cntB g k + (if g k = true then 1 else 0)
    rw [cntB_c k (fun j hj => h j (by omega)), h k (by omega)]
theorem zpl_cnt : ∀ (k x : Nat), zpl k x = cntB (fun j => x.testBit j) k
  | 0, _ => rfl
  | k + 1, x => by
    rw [cntB_low k]
    show x % 2 + zpl k (x / 2) = _
    rw [zpl_cnt k (x / 2)]
    have e : cntB (fun j => (x / 2).testBit j) k = cntB (fun j => x.testBit (j + 1)) k := cntB_c k (fun j _ => (Nat.testBit_add_one x j).symm)
    rw [e, Nat.testBit_zero]
    by_cases q : x % 2 = 1
    · rw [if_pos (decide_eq_true q), q]
    · rw [if_neg (fun z => q (of_decide_eq_true z))]; omega
theorem zpl4 (b x : Nat) : zpl (b + 4) x = zpl 4 x + zpl b (x / 16) := by
  show x % 2 + (x / 2 % 2 + (x / 2 / 2 % 2 + (x / 2 / 2 / 2 % 2 + zpl b (x / 2 / 2 / 2 / 2)))) = (x % 2 + (x / 2 % 2 + (x / 2 / 2 % 2 + (x / 2 / 2 / 2 % 2 + 0)))) + zpl b (x / 16)
  rw [show x / 2 / 2 / 2 / 2 = x / 16 by omega]; omega
theorem and_dm (a m c k : Nat) (hc : c < 2 ^ k) : a &&& (2 ^ k * m + c) = 2 ^ k * (a / 2 ^ k &&& m) + (a % 2 ^ k &&& c) := by
  have h := Nat.div_add_mod (a &&& (2 ^ k * m + c)) (2 ^ k)
  rw [Nat.and_div_two_pow, Nat.and_mod_two_pow, Nat.mul_add_div (by omega), Nat.div_eq_of_lt hc, Nat.add_zero, Nat.mul_add_mod, Nat.mod_eq_of_lt hc] at h
  exact h.symm
def m5 : Nat → Nat
  | 0 => 0
  | k + 1 => 4 * m5 k + 1
def m3 : Nat → Nat
  | 0 => 0
  | k + 1 => 16 * m3 k + 3
def zf1 : Nat → Nat → Nat
  | 0, _ => 0
  | k + 1, x => 4 * zf1 k (x / 4) + (x % 2 + x / 2 % 2)
def zg2 : Nat → Nat → Nat
  | 0, _ => 0
  | k + 1, x => 16 * zg2 k (x / 16) + zpl 4 x
theorem st1 : ∀ (k x : Nat), x < 4 ^ k → (x / 2 &&& m5 k) ≤ x ∧ x - (x / 2 &&& m5 k) = zf1 k x
  | 0, x, h => by
    have : x = 0 := by omega
    subst this; exact ⟨by decide, by decide⟩
  | k + 1, x, h => by
    have hx : x / 4 < 4 ^ k := by rw [Nat.pow_succ] at h; omega
    obtain ⟨i1, i2⟩ := st1 k (x / 4) hx
    have e := and_dm (x / 2) (m5 k) 1 2 (by decide)
    have e' : x / 2 &&& m5 (k + 1) = 4 * (x / 4 / 2 &&& m5 k) + x / 2 % 2 := by
      show x / 2 &&& (2 ^ 2 * m5 k + 1) = _
      rw [e, Nat.and_one_is_mod, show x / 2 / 2 ^ 2 = x / 4 / 2 by omega, show x / 2 % 2 ^ 2 % 2 = x / 2 % 2 by omega]
    rw [e']
    show _ ∧ _ = 4 * zf1 k (x / 4) + (x % 2 + x / 2 % 2)
    omega
theorem st2 : ∀ (k x : Nat), (zf1 (2 * k) x &&& m3 k) + (zf1 (2 * k) x / 4 &&& m3 k) = zg2 k x
  | 0, x => rfl
  | k + 1, x => by
    have ih := st2 k (x / 16)
    have ef : zf1 (2 * (k + 1)) x = 4 * (4 * zf1 (2 * k) (x / 4 / 4) + (x / 4 % 2 + x / 4 / 2 % 2)) + (x % 2 + x / 2 % 2) := rfl
    rw [show x / 4 / 4 = x / 16 by omega] at ef
    have e1 := and_dm (zf1 (2 * (k + 1)) x) (m3 k) 3 4 (by decide)
    have e2 := and_dm (zf1 (2 * (k + 1)) x / 4) (m3 k) 3 4 (by decide)
    have w3 : ∀ a, a &&& 3 = a % 4 := fun a => Nat.and_two_pow_sub_one_eq_mod a 2
    rw [w3] at e1 e2
    show (zf1 (2 * (k + 1)) x &&& (2 ^ 4 * m3 k + 3)) + (zf1 (2 * (k + 1)) x / 4 &&& (2 ^ 4 * m3 k + 3)) = 16 * zg2 k (x / 16) + (x % 2 + (x / 2 % 2 + (x / 2 / 2 % 2 + (x / 2 / 2 / 2 % 2 + 0))))
    rw [e1, e2, ← ih]
    generalize zf1 (2 * k) (x / 16) = Y at *
    rw [ef]
    rw [show (4 * (4 * Y + (x / 4 % 2 + x / 4 / 2 % 2)) + (x % 2 + x / 2 % 2)) / 2 ^ 4 = Y by omega, show (4 * (4 * Y + (x / 4 % 2 + x / 4 / 2 % 2)) + (x % 2 + x / 2 % 2)) / 4 / 2 ^ 4 = Y / 4 by omega]
    generalize (Y &&& m3 k) = A
    generalize (Y / 4 &&& m3 k) = B
    omega
theorem st3 (a : Nat) : a &&& 252645135 = a % 16 + 256 * (a / 256 % 16) + 65536 * (a / 65536 % 16) + 16777216 * (a / 16777216 % 16) := by
  have w : ∀ a, a &&& 15 = a % 16 := fun a => Nat.and_two_pow_sub_one_eq_mod a 4
  have e1 := and_dm a 986895 15 8 (by decide)
  have e2 := and_dm (a / 2 ^ 8) 3855 15 8 (by decide)
  have e3 := and_dm (a / 2 ^ 8 / 2 ^ 8) 15 15 8 (by decide)
  rw [show 2 ^ 8 * 15 + 15 = 3855 from rfl] at e3
  rw [show 2 ^ 8 * 3855 + 15 = 986895 from rfl, e3] at e2
  rw [show 2 ^ 8 * 986895 + 15 = 252645135 from rfl, e2] at e1
  rw [w, w, w, w] at e1
  omega
theorem zpl4_le (x : Nat) : zpl 4 x ≤ 4 := by
  show (x % 2 + (x / 2 % 2 + (x / 2 / 2 % 2 + (x / 2 / 2 / 2 % 2 + 0)))) ≤ 4
  omega
section BitC
variable {d : Nat} {μ : zMem} {KI : Int32 → zMem → Prop} {X : Nat → zMem → Prop}
theorem C_bitCount {x : Nat} (hx : x < 2 ^ 32) (h : KI (nI (cntB (fun j => x.testBit j) 32)) μ) : zcI (d + 1) mJ6_bitCount_0f7a4 [.int (nI x)] μ KI X := by
  rw [← zpl_cnt] at h
  refine cJ6_bitCount_0f7a4_ (fun v1 e1 v2 e2 v3 e3 v4 e4 v5 e5 => ?_)
  obtain ⟨a1, a2⟩ := st1 16 x (by exact hx)
  have b1 : x / 2 &&& 1431655765 = x / 2 &&& m5 16 := by rw [show m5 16 = 1431655765 from rfl]
  rw [← b1] at a1 a2
  rw [pk_ushrN hx 1 1 (by decide), show (1431655765 : Int32) = nI 1431655765 from rfl, zo_and, Nat.pow_one, pk_sub a1, a2] at e1
  have l1 : zf1 16 x < 2 ^ 32 := by omega
  have c2 := st2 8 x
  rw [show m3 8 = 858993459 from rfl, show 2 * 8 = 16 from rfl] at c2
  rw [e1, pk_ushrN l1 2 2 (by decide), show (858993459 : Int32) = nI 858993459 from rfl, zo_and, zo_and, nI_add, show (2 : Nat) ^ 2 = 4 from rfl, c2] at e2
  have eg : zg2 8 x = 16 * (16 * (16 * (16 * (16 * (16 * (16 * (16 * 0 + zpl 4 (x / 16 / 16 / 16 / 16 / 16 / 16 / 16)) + zpl 4 (x / 16 / 16 / 16 / 16 / 16 / 16)) + zpl 4 (x / 16 / 16 / 16 / 16 / 16)) + zpl 4 (x / 16 / 16 / 16 / 16)) + zpl 4 (x / 16 / 16 / 16)) + zpl 4 (x / 16 / 16)) + zpl 4 (x / 16)) + zpl 4 x := rfl
  have ep : zpl 32 x = zpl 4 x + (zpl 4 (x / 16) + (zpl 4 (x / 16 / 16) + (zpl 4 (x / 16 / 16 / 16) + (zpl 4 (x / 16 / 16 / 16 / 16) + (zpl 4 (x / 16 / 16 / 16 / 16 / 16) + (zpl 4 (x / 16 / 16 / 16 / 16 / 16 / 16) + (zpl 4 (x / 16 / 16 / 16 / 16 / 16 / 16 / 16) + 0))))))) := by
    rw [show 32 = 28 + 4 from rfl, zpl4 28, show 28 = 24 + 4 from rfl, zpl4 24, show 24 = 20 + 4 from rfl, zpl4 20, show 20 = 16 + 4 from rfl, zpl4 16, show 16 = 12 + 4 from rfl, zpl4 12, show 12 = 8 + 4 from rfl, zpl4 8, show 8 = 4 + 4 from rfl, zpl4 4]
    rfl
  have p0 := zpl4_le x
  have p1 := zpl4_le (x / 16)
  have p2 := zpl4_le (x / 16 / 16)
  have p3 := zpl4_le (x / 16 / 16 / 16)
  have p4 := zpl4_le (x / 16 / 16 / 16 / 16)
  have p5 := zpl4_le (x / 16 / 16 / 16 / 16 / 16)
  have p6 := zpl4_le (x / 16 / 16 / 16 / 16 / 16 / 16)
  have p7 := zpl4_le (x / 16 / 16 / 16 / 16 / 16 / 16 / 16)
  rw [ep] at h
  generalize zpl 4 x = q0 at *
  generalize zpl 4 (x / 16) = q1 at *
  generalize zpl 4 (x / 16 / 16) = q2 at *
  generalize zpl 4 (x / 16 / 16 / 16) = q3 at *
  generalize zpl 4 (x / 16 / 16 / 16 / 16) = q4 at *
  generalize zpl 4 (x / 16 / 16 / 16 / 16 / 16) = q5 at *
  generalize zpl 4 (x / 16 / 16 / 16 / 16 / 16 / 16) = q6 at *
  generalize zpl 4 (x / 16 / 16 / 16 / 16 / 16 / 16 / 16) = q7 at *
  have l2 : zg2 8 x < 2 ^ 32 := by rw [eg]; omega
  rw [e2, pk_ushrN l2 4 4 (by decide), nI_add, show (252645135 : Int32) = nI 252645135 from rfl, zo_and, st3] at e3
  have c3 : (zg2 8 x + zg2 8 x / 2 ^ 4) % 16 + 256 * ((zg2 8 x + zg2 8 x / 2 ^ 4) / 256 % 16) + 65536 * ((zg2 8 x + zg2 8 x / 2 ^ 4) / 65536 % 16) + 16777216 * ((zg2 8 x + zg2 8 x / 2 ^ 4) / 16777216 % 16) = (q0 + q1) + 256 * (q2 + q3) + 65536 * (q4 + q5) + 16777216 * (q6 + q7) := by
    have r1 : zg2 8 x / 2 ^ 4 = 16 * (16 * (16 * (16 * (16 * (16 * q7 + q6) + q5) + q4) + q3) + q2) + q1 := by rw [eg]; omega
    have r2 : zg2 8 x + zg2 8 x / 2 ^ 4 = (q0 + q1) + 16 * (q1 + q2) + 256 * ((q2 + q3) + 16 * (q3 + q4)) + 65536 * ((q4 + q5) + 16 * (q5 + q6)) + 16777216 * ((q6 + q7) + 16 * q7) := by rw [r1, eg]; omega
    rw [r2]
    have s0 : ((q0 + q1) + 16 * (q1 + q2) + 256 * ((q2 + q3) + 16 * (q3 + q4)) + 65536 * ((q4 + q5) + 16 * (q5 + q6)) + 16777216 * ((q6 + q7) + 16 * q7)) % 16 = q0 + q1 := by omega
    have s1 : ((q0 + q1) + 16 * (q1 + q2) + 256 * ((q2 + q3) + 16 * (q3 + q4)) + 65536 * ((q4 + q5) + 16 * (q5 + q6)) + 16777216 * ((q6 + q7) + 16 * q7)) / 256 = ((q2 + q3) + 16 * (q3 + q4)) + 256 * ((q4 + q5) + 16 * (q5 + q6)) + 65536 * ((q6 + q7) + 16 * q7) := by omega
    have s2 : ((q0 + q1) + 16 * (q1 + q2) + 256 * ((q2 + q3) + 16 * (q3 + q4)) + 65536 * ((q4 + q5) + 16 * (q5 + q6)) + 16777216 * ((q6 + q7) + 16 * q7)) / 65536 = ((q4 + q5) + 16 * (q5 + q6)) + 256 * ((q6 + q7) + 16 * q7) := by omega
    have s3 : ((q0 + q1) + 16 * (q1 + q2) + 256 * ((q2 + q3) + 16 * (q3 + q4)) + 65536 * ((q4 + q5) + 16 * (q5 + q6)) + 16777216 * ((q6 + q7) + 16 * q7)) / 16777216 = (q6 + q7) + 16 * q7 := by omega
    rw [s0, s1, s2, s3]
    omega
  rw [c3] at e3
  rw [e3, pk_ushrN (by omega) 8 8 (by decide), nI_add] at e4
  have c4 : (q0 + q1) + 256 * (q2 + q3) + 65536 * (q4 + q5) + 16777216 * (q6 + q7) + ((q0 + q1) + 256 * (q2 + q3) + 65536 * (q4 + q5) + 16777216 * (q6 + q7)) / 2 ^ 8 = (q0 + q1 + q2 + q3) + 256 * (q2 + q3 + q4 + q5) + 65536 * ((q4 + q5 + q6 + q7) + 256 * (q6 + q7)) := by omega
  rw [c4] at e4
  rw [e4, pk_ushrN (by omega) 16 16 (by decide), nI_add] at e5
  rw [e5, pk_andN (by omega) (m := 63) 6 (by decide)]
  have c5 : ((q0 + q1 + q2 + q3) + 256 * (q2 + q3 + q4 + q5) + 65536 * ((q4 + q5 + q6 + q7) + 256 * (q6 + q7)) + ((q0 + q1 + q2 + q3) + 256 * (q2 + q3 + q4 + q5) + 65536 * ((q4 + q5 + q6 + q7) + 256 * (q6 + q7))) / 2 ^ 16) % 2 ^ 6 = q0 + (q1 + (q2 + (q3 + (q4 + (q5 + (q6 + (q7 + 0))))))) := by omega
  rw [c5]; exact h
end BitC
