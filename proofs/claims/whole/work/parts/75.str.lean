/-! Strings: the JDK's own members that are called -/
theorem zlen_b : ∀ i, i < 31 → zlen i < 100 := by decide +kernel
theorem zbyt_b : ∀ i, i < 31 → ∀ j, j < zlen i → ∃ c, c < 128 ∧ zbyt i j = nI c := by
  have h : ∀ i, i < 31 → ∀ j, j < zlen i → 0 ≤ (zbyt i j).toInt ∧ (zbyt i j).toInt < 128 := by decide +kernel
  intro i hi j hj
  obtain ⟨h1, h2⟩ := h i hi j hj
  exact ⟨(zbyt i j).toInt.toNat, by omega, by rw [i_eq, n_i (by omega)]; omega⟩
section Str
variable {d i : Nat} {μ : zMem} {KI : Int32 → zMem → Prop} {KV : zMem → Prop} {X : Nat → zMem → Prop}
theorem C_coder (hi : i < zNS) (h : KI 0 μ) : zcI (d + 1) mJ0_coder_7d493 [.ref (1000 + i)] μ KI X := by
  refine Ex_of (w := 1) mgJ0_coder_7d493.2.2.2.2.2 rfl rfl rfl (by decide) ?_
  refine Wr_gsC dJ0_coder_7d493_0 msK ?_
  refine Wr_if_eq 13 dJ0_coder_7d493_3 (by decide) (fun z => absurd z (by decide)) (fun _ => ?_)
  refine Wr_aload_n dJ0_coder_7d493_6 rfl 0 rfl ?_
  refine Wr_strC dJ0_coder_7d493_7 msC hi ?_
  refine Wr_goto 14 dJ0_coder_7d493_10 (by decide) ?_
  exact Wr_iret .byte dJ0_coder_7d493_14 rfl rfl ⟨rfl, h⟩
theorem C_isLatin1 (hi : i < zNS) (h : KI 1 μ) : zcI (d + 1) mJ0_isLatin1_aae02 [.ref (1000 + i)] μ KI X := by
  refine Ex_of (w := 1) mgJ0_isLatin1_aae02.2.2.2.2.2 rfl rfl rfl (by decide) ?_
  refine Wr_gsC dJ0_isLatin1_aae02_0 msK ?_
  refine Wr_if_eq 17 dJ0_isLatin1_aae02_3 (by decide) (fun z => absurd z (by decide)) (fun _ => ?_)
  refine Wr_aload_n dJ0_isLatin1_aae02_6 rfl 0 rfl ?_
  refine Wr_strC dJ0_isLatin1_aae02_7 msC hi ?_
  refine Wr_if_ne 17 dJ0_isLatin1_aae02_10 (by decide) (fun z => absurd rfl z) (fun _ => ?_)
  refine Wr_iconstv (v := 1) dJ0_isLatin1_aae02_13 (by decide) ?_
  refine Wr_goto 18 dJ0_isLatin1_aae02_14 (by decide) ?_
  exact Wr_iret .boolean dJ0_isLatin1_aae02_18 rfl rfl ⟨rfl, h⟩
theorem C_length (hi : i < zNS) (h : KI (nI (zlen i)) μ) : zcI (d + 2) mJ0_length_8abf5 [.ref (1000 + i)] μ KI X := by
  have hl := zlen_b i hi
  have e : nI (zlen i) = nI (zlen i) >>> ((0 : Int32) &&& 31) := by
    rw [pk_shrN (by omega) _ 0 (by decide), Nat.pow_zero, Nat.div_one]
  refine Ex_of (w := 1) mgJ0_length_8abf5.2.2.2.2.2 rfl rfl rfl (by decide) ?_
  refine Wr_aload_n dJ0_length_8abf5_0 rfl 0 rfl ?_
  refine Wr_strV dJ0_length_8abf5_1 msV hi ?_
  refine Wr_strL dJ0_length_8abf5_4 hi ?_
  refine Wr_aload_n dJ0_length_8abf5_5 rfl 0 rfl ?_
  refine Wr_cVi [] dJ0_length_8abf5_6 mlJ0_335 mgJ0_coder_7d493 rfl mvJ0_coder_7d493 (zrs hi rfl) rfl rfl (Nat.le_of_ble_eq_true rfl) rfl (C_coder hi ?_)
  refine Wr_ishr dJ0_length_8abf5_9 ?_
  refine Wr_top e ?_
  exact Wr_iret .int dJ0_length_8abf5_10 rfl rfl ⟨rfl, h⟩
theorem C_preCk {v : Value} {j n : Nat} (hv : v.category = 1) (hj : j < n) (hn : n < 2 ^ 31) (h : KI (nI j) μ) : zcI (d + 1) mJ3_checkIndex_8e157 [.int (nI j), .int (nI n), v] μ KI X := by
  refine Ex_of (w := 3) mgJ3_checkIndex_8e157.2.2.2.2.2 rfl rfl (by have e : ([Value.int (nI j), .int (nI n), v].map fun v => v.category).sum = 1 + (1 + (v.category + 0)) := rfl; rw [e, hv]) (by decide) ?_
  refine Wr_iload_n dJ3_checkIndex_8e157_0 rfl 0 rfl ?_
  refine Wr_if_lt 9 dJ3_checkIndex_8e157_1 (by decide) (fun z => absurd z (nI_pos (by omega))) (fun _ => ?_)
  refine Wr_iload_n dJ3_checkIndex_8e157_4 rfl 0 rfl ?_
  refine Wr_iload_n dJ3_checkIndex_8e157_5 rfl 1 rfl ?_
  refine Wr_icmp_lt 16 dJ3_checkIndex_8e157_6 (by decide) (fun _ => ?_) (fun z => absurd ((n_lt (by omega) (by omega)).mpr hj) z)
  refine Wr_iload_n dJ3_checkIndex_8e157_16 rfl 0 rfl ?_
  exact Wr_iret .int dJ3_checkIndex_8e157_17 rfl rfl ⟨rfl, h⟩
theorem C_strCk {j n : Nat} (hj : j < n) (hn : n < 2 ^ 31) (h : KV μ) : zcV (d + 2) mJ0_checkIndex_df160 [.int (nI j), .int (nI n)] μ KV X := by
  refine Ex_of (w := 2) mgJ0_checkIndex_df160.2.2.2.2.2 rfl rfl rfl (by decide) ?_
  refine Wr_iload_n dJ0_checkIndex_df160_0 rfl 0 rfl ?_
  refine Wr_iload_n dJ0_checkIndex_df160_1 rfl 1 rfl ?_
  refine Wr_gsQ (r := .inl none) (μ' := μ) (kf := 0) dJ0_checkIndex_df160_2 msF ⟨rfl, h⟩ ?_ ?_
  · refine Wr_cSi [.int (nI j), .int (nI n), .null] dJ0_checkIndex_df160_5 mlJ0_1059 mgJ3_checkIndex_8e157 rfl msJ3_checkIndex_8e157 rfl rfl (Nat.le_of_ble_eq_true rfl) rfl (C_preCk rfl hj hn ?_)
    refine Wr_pop dJ0_checkIndex_df160_8 rfl ?_
    exact Wr_vret dJ0_checkIndex_df160_9 rfl ⟨rfl, rfl, rfl⟩
  · refine Wr_cSi [.int (nI j), .int (nI n), .ref 3000] dJ0_checkIndex_df160_5 mlJ0_1059 mgJ3_checkIndex_8e157 rfl msJ3_checkIndex_8e157 rfl rfl (Nat.le_of_ble_eq_true rfl) rfl (C_preCk rfl hj hn ?_)
    refine Wr_pop dJ0_checkIndex_df160_8 rfl ?_
    exact Wr_vret dJ0_checkIndex_df160_9 rfl ⟨rfl, rfl, rfl⟩
theorem C_charL {j : Nat} (hi : i < zNS) (hj : j < zlen i) (h : KI (zbyt i j) μ) : zcI (d + 3) mJ1_charAt_3b067 [.ref (2000 + i), .int (nI j)] μ KI X := by
  have hl := zlen_b i hi
  obtain ⟨c, hc, ec⟩ := zbyt_b i hi j hj
  have e : zbyt i j = ((zbyt i j &&& 255).toUInt32 % 65536).toInt32 := by
    rw [ec, pk_andN (by omega) (m := 255) 8 (by decide), pk_char, pk_tn (by omega)]
    congr 1; omega
  refine Ex_of (w := 2) mgJ1_charAt_3b067.2.2.2.2.2 rfl rfl rfl (by decide) ?_
  refine Wr_iload_n dJ1_charAt_3b067_0 rfl 1 rfl ?_
  refine Wr_aload_n dJ1_charAt_3b067_1 rfl 0 rfl ?_
  refine Wr_strL dJ1_charAt_3b067_2 hi ?_
  refine Wr_cSv [.int (nI j), .int (nI (zlen i))] dJ1_charAt_3b067_3 mlJ1_9 mgJ0_checkIndex_df160 rfl msJ0_checkIndex_df160 rfl rfl (Nat.le_of_ble_eq_true rfl) rfl (C_strCk hj (by omega) ?_)
  refine Wr_aload_n dJ1_charAt_3b067_6 rfl 0 rfl ?_
  refine Wr_iload_n dJ1_charAt_3b067_7 rfl 1 rfl ?_
  refine Wr_strB dJ1_charAt_3b067_8 hi (vin hj (by omega)) ?_
  rw [tN_nI (by omega)]
  refine Wr_sipush (v := 255) dJ1_charAt_3b067_9 (by decide) ?_
  refine Wr_iand dJ1_charAt_3b067_12 ?_
  refine Wr_i2c dJ1_charAt_3b067_13 ?_
  refine Wr_top e ?_
  exact Wr_iret .char dJ1_charAt_3b067_14 rfl (by rw [ec]; exact (pk_charN (by omega)).1) ⟨rfl, h⟩
theorem C_charAt {j : Nat} (hi : i < zNS) (hj : j < zlen i) (h : KI (zbyt i j) μ) : zcI (d + 4) mJ0_charAt_5068e [.ref (1000 + i), .int (nI j)] μ KI X := by
  obtain ⟨c, hc, ec⟩ := zbyt_b i hi j hj
  refine Ex_of (w := 2) mgJ0_charAt_5068e.2.2.2.2.2 rfl rfl rfl (by decide) ?_
  refine Wr_aload_n dJ0_charAt_5068e_0 rfl 0 rfl ?_
  refine Wr_cVi [] dJ0_charAt_5068e_1 mlJ0_492 mgJ0_isLatin1_aae02 rfl mvJ0_isLatin1_aae02 (zrs hi rfl) rfl rfl (Nat.le_of_ble_eq_true rfl) rfl (C_isLatin1 hi ?_)
  refine Wr_if_eq 16 dJ0_charAt_5068e_4 (by decide) (fun z => absurd z (by decide)) (fun _ => ?_)
  refine Wr_aload_n dJ0_charAt_5068e_7 rfl 0 rfl ?_
  refine Wr_strV dJ0_charAt_5068e_8 msV hi ?_
  refine Wr_iload_n dJ0_charAt_5068e_11 rfl 1 rfl ?_
  refine Wr_cSi [.ref (2000 + i), .int (nI j)] dJ0_charAt_5068e_12 mlJ0_495 mgJ1_charAt_3b067 rfl msJ1_charAt_3b067 rfl rfl (Nat.le_of_ble_eq_true rfl) rfl (C_charL hi hj ?_)
  exact Wr_iret .char dJ0_charAt_5068e_15 rfl (by rw [ec]; exact (pk_charN (by omega)).1) ⟨rfl, h⟩
/-! which signs there are -/
def zmkB (b : Nat) : Prop := b = 59 ∨ b = 40 ∨ b = 41 ∨ b = 43 ∨ b = 45 ∨ b = 42 ∨ b = 47 ∨ b = 60 ∨ b = 61
theorem zsg_b : ∀ b, b < 256 → ∀ j, j < 9 → ((nI b).toInt8.toInt32 = zbyt 6 j → b = [59, 40, 41, 43, 45, 42, 47, 60, 61].getD j 0) ∧ (b = [59, 40, 41, 43, 45, 42, 47, 60, 61].getD j 0 → (nI b).toInt8.toInt32 = zbyt 6 j) := by decide +kernel
theorem L_ioc {b : Nat} (hb : b < 256) (h0 : ¬ zmkB b → KI (-1) μ) (h1 : zmkB b → ∀ j, j < 9 → KI (nI j) μ) : ∀ (m j : Nat), j + m = 9 → (∀ k, k < j → ¬ (nI b).toInt8.toInt32 = zbyt 6 k) →
    Wr mJ1_indexOfChar_4cfef (d + 1) 0 7 [(0, .ref (2000 + 6)), (1, .int (nI b)), (2, .int 0), (3, .int (nI 9)), (4, .int ((nI b).toInt8.toInt32)), (5, .int (nI j))] [] μ (kI KI X) := by
  intro m
  induction m with
  | zero =>
    intro j hj hk
    refine Wr_iload dJ1_indexOfChar_4cfef_7 5 rfl ?_
    refine Wr_iload_n dJ1_indexOfChar_4cfef_9 rfl 3 rfl ?_
    refine Wr_icmp_ge 31 dJ1_indexOfChar_4cfef_10 (by decide) (fun _ => ?_) (fun z => absurd ((n_le (by omega) (by omega)).mpr (by omega)) z)
    refine Wr_iconstv (v := -1) dJ1_indexOfChar_4cfef_31 (by decide) ?_
    refine Wr_iret .int dJ1_indexOfChar_4cfef_32 rfl rfl ⟨rfl, h0 fun z => ?_⟩
    have hz : ∃ k, k < 9 ∧ b = [59, 40, 41, 43, 45, 42, 47, 60, 61].getD k 0 := by
      rcases z with z | z | z | z | z | z | z | z | z
      · exact ⟨0, by omega, z⟩
      · exact ⟨1, by omega, z⟩
      · exact ⟨2, by omega, z⟩
      · exact ⟨3, by omega, z⟩
      · exact ⟨4, by omega, z⟩
      · exact ⟨5, by omega, z⟩
      · exact ⟨6, by omega, z⟩
      · exact ⟨7, by omega, z⟩
      · exact ⟨8, by omega, z⟩
    obtain ⟨k, k9, e⟩ := hz
    exact hk k (by omega) ((zsg_b b hb k k9).2 e)
  | succ m ih =>
    intro j hj hk
    refine Wr_iload dJ1_indexOfChar_4cfef_7 5 rfl ?_
    refine Wr_iload_n dJ1_indexOfChar_4cfef_9 rfl 3 rfl ?_
    refine Wr_icmp_ge 31 dJ1_indexOfChar_4cfef_10 (by decide) (fun z => absurd ((n_le (by omega) (by omega)).mp z) (by omega)) (fun _ => ?_)
    refine Wr_aload_n dJ1_indexOfChar_4cfef_13 rfl 0 rfl ?_
    refine Wr_iload dJ1_indexOfChar_4cfef_14 5 rfl ?_
    refine Wr_strB (i := 6) dJ1_indexOfChar_4cfef_16 (by decide) (vin (n := j) (N := zlen 6) (by rw [show zlen 6 = 9 from rfl]; omega)) ?_
    rw [tN_nI (by omega)]
    refine Wr_iload dJ1_indexOfChar_4cfef_17 4 rfl ?_
    refine Wr_icmp_ne 25 dJ1_indexOfChar_4cfef_19 (by decide) (fun z => ?_) (fun z => ?_)
    rotate_left
    · refine Wr_iload dJ1_indexOfChar_4cfef_22 5 rfl ?_
      refine Wr_iret .int dJ1_indexOfChar_4cfef_24 rfl rfl ⟨rfl, h1 ?_ j (by omega)⟩
      have e := (zsg_b b hb j (by omega)).1 z.symm
      unfold zmkB
      match j, e with
      | 0, e => exact Or.inl e
      | 1, e => exact Or.inr (Or.inl e)
      | 2, e => exact Or.inr (Or.inr (Or.inl e))
      | 3, e => exact Or.inr (Or.inr (Or.inr (Or.inl e)))
      | 4, e => exact Or.inr (Or.inr (Or.inr (Or.inr (Or.inl e))))
      | 5, e => exact Or.inr (Or.inr (Or.inr (Or.inr (Or.inr (Or.inl e)))))
      | 6, e => exact Or.inr (Or.inr (Or.inr (Or.inr (Or.inr (Or.inr (Or.inl e))))))
      | 7, e => exact Or.inr (Or.inr (Or.inr (Or.inr (Or.inr (Or.inr (Or.inr (Or.inl e)))))))
      | 8, e => exact Or.inr (Or.inr (Or.inr (Or.inr (Or.inr (Or.inr (Or.inr (Or.inr e)))))))
      | j + 9, _ => omega
    · refine Wr_iinc (v := nI (j + 1)) dJ1_indexOfChar_4cfef_25 (q := 5) rfl (nI_1 j) (by decide) rfl ?_
      refine Wr_goto 7 dJ1_indexOfChar_4cfef_28 (by decide) ?_
      refine zsub [0, 1, 2, 3, 4, 5] rfl ?_
      refine ih (j + 1) (by omega) (fun k hk2 => ?_)
      by_cases y : k = j
      · subst y; exact fun q => z q.symm
      · exact hk k (by omega)
theorem C_iocX {b : Nat} (hb : b < 256) (h0 : ¬ zmkB b → KI (-1) μ) (h1 : zmkB b → ∀ j, j < 9 → KI (nI j) μ) : zcI (d + 1) mJ1_indexOfChar_4cfef [.ref (2000 + 6), .int (nI b), .int 0, .int (nI 9)] μ KI X := by
  refine Ex_of (w := 4) mgJ1_indexOfChar_4cfef.2.2.2.2.2 rfl rfl rfl (by decide) ?_
  refine Wr_iload_n dJ1_indexOfChar_4cfef_0 rfl 1 rfl ?_
  refine Wr_i2b dJ1_indexOfChar_4cfef_1 ?_
  refine Wr_istore dJ1_indexOfChar_4cfef_2 (by decide) rfl ?_
  refine Wr_iload_n dJ1_indexOfChar_4cfef_4 rfl 3 rfl ?_
  refine Wr_istore dJ1_indexOfChar_4cfef_5 (by decide) rfl ?_
  refine zsub [0, 1, 2, 3, 4, 5] rfl ?_
  exact L_ioc hb h0 h1 9 0 (by omega) (fun k hk => by omega)
end Str
section Str2
variable {d i : Nat} {μ : zMem} {KI : Int32 → zMem → Prop} {KV : zMem → Prop} {X : Nat → zMem → Prop}
theorem C_canEnc {b : Nat} (hb : b < 256) (h : KI 1 μ) : zcI (d + 1) mJ1_canEncode_9a6ad [.int (nI b)] μ KI X := by
  refine Ex_of (w := 1) mgJ1_canEncode_9a6ad.2.2.2.2.2 rfl rfl rfl (by decide) ?_
  refine Wr_iload_n dJ1_canEncode_9a6ad_0 rfl 0 rfl ?_
  refine Wr_if_lt 15 dJ1_canEncode_9a6ad_1 (by decide) (fun z => absurd z (nI_pos (by omega))) (fun _ => ?_)
  refine Wr_iload_n dJ1_canEncode_9a6ad_4 rfl 0 rfl ?_
  refine Wr_sipush (v := 255) dJ1_canEncode_9a6ad_5 (by decide) ?_
  refine Wr_icmp_gt 15 dJ1_canEncode_9a6ad_8 (by decide) (fun z => absurd ((n_lt (a := 255) (by omega) (by omega)).mp z) (by omega)) (fun _ => ?_)
  refine Wr_iconstv (v := 1) dJ1_canEncode_9a6ad_11 (by decide) ?_
  refine Wr_goto 16 dJ1_canEncode_9a6ad_12 (by decide) ?_
  exact Wr_iret .boolean dJ1_canEncode_9a6ad_16 rfl rfl ⟨rfl, h⟩
theorem C_ioL {b : Nat} (hb : b < 256) (h0 : ¬ zmkB b → KI (-1) μ) (h1 : zmkB b → ∀ j, j < 9 → KI (nI j) μ) : zcI (d + 2) mJ1_indexOf_4cfef [.ref (2000 + 6), .int (nI b), .int 0, .int (nI 9)] μ KI X := by
  refine Ex_of (w := 4) mgJ1_indexOf_4cfef.2.2.2.2.2 rfl rfl rfl (by decide) ?_
  refine Wr_iload_n dJ1_indexOf_4cfef_0 rfl 1 rfl ?_
  refine Wr_cSi [.int (nI b)] dJ1_indexOf_4cfef_1 mlJ1_88 mgJ1_canEncode_9a6ad rfl msJ1_canEncode_9a6ad rfl rfl (Nat.le_of_ble_eq_true rfl) rfl (C_canEnc hb ?_)
  refine Wr_if_ne 9 dJ1_indexOf_4cfef_4 (by decide) (fun _ => ?_) (fun z => absurd z (by decide))
  refine Wr_iload_n dJ1_indexOf_4cfef_9 rfl 2 rfl ?_
  refine Wr_iconstv (v := 0) dJ1_indexOf_4cfef_10 (by decide) ?_
  refine Wr_mmax dJ1_indexOf_4cfef_11 mlJ1_92 (Nat.le_of_ble_eq_true rfl) ?_
  refine Wr_top (x := 0) (by decide) ?_
  refine Wr_istore_n dJ1_indexOf_4cfef_14 rfl (by decide) rfl ?_
  refine Wr_iload_n dJ1_indexOf_4cfef_15 rfl 3 rfl ?_
  refine Wr_aload_n dJ1_indexOf_4cfef_16 rfl 1 rfl ?_
  refine Wr_strL (i := 6) dJ1_indexOf_4cfef_17 (by decide) ?_
  refine Wr_mmin dJ1_indexOf_4cfef_18 mlJ1_38 (Nat.le_of_ble_eq_true rfl) ?_
  refine Wr_top (x := nI 9) (by decide) ?_
  refine Wr_istore_n dJ1_indexOf_4cfef_21 rfl (by decide) rfl ?_
  refine zsub [0, 1, 2, 3] rfl ?_
  refine Wr_iload_n dJ1_indexOf_4cfef_22 rfl 2 rfl ?_
  refine Wr_iload_n dJ1_indexOf_4cfef_23 rfl 3 rfl ?_
  refine Wr_icmp_lt 29 dJ1_indexOf_4cfef_24 (by decide) (fun _ => ?_) (fun z => absurd (by decide) z)
  refine Wr_aload_n dJ1_indexOf_4cfef_29 rfl 0 rfl ?_
  refine Wr_iload_n dJ1_indexOf_4cfef_30 rfl 1 rfl ?_
  refine Wr_iload_n dJ1_indexOf_4cfef_31 rfl 2 rfl ?_
  refine Wr_iload_n dJ1_indexOf_4cfef_32 rfl 3 rfl ?_
  refine Wr_cSi [.ref (2000 + 6), .int (nI b), .int 0, .int (nI 9)] dJ1_indexOf_4cfef_33 mlJ1_95 mgJ1_indexOfChar_4cfef rfl msJ1_indexOfChar_4cfef rfl rfl (Nat.le_of_ble_eq_true rfl) rfl (C_iocX hb (fun z => ?_) (fun z j hj => ?_))
  · exact Wr_iret .int dJ1_indexOf_4cfef_36 rfl rfl ⟨rfl, h0 z⟩
  · exact Wr_iret .int dJ1_indexOf_4cfef_36 rfl rfl ⟨rfl, h1 z j hj⟩
theorem C_io2 {b : Nat} (hb : b < 256) (h0 : ¬ zmkB b → KI (-1) μ) (h1 : zmkB b → ∀ j, j < 9 → KI (nI j) μ) : zcI (d + 3) mJ0_indexOf_7cf53 [.ref (1000 + 6), .int (nI b), .int 0] μ KI X := by
  refine Ex_of (w := 3) mgJ0_indexOf_7cf53.2.2.2.2.2 rfl rfl rfl (by decide) ?_
  refine Wr_aload_n dJ0_indexOf_7cf53_0 rfl 0 rfl ?_
  refine Wr_cVi (b := 1000 + 6) [] dJ0_indexOf_7cf53_1 mlJ0_492 mgJ0_isLatin1_aae02 rfl mvJ0_isLatin1_aae02 (zrs (i := 6) (by decide) rfl) rfl rfl (Nat.le_of_ble_eq_true rfl) rfl (C_isLatin1 (i := 6) (by decide) ?_)
  refine Wr_if_eq 23 dJ0_indexOf_7cf53_4 (by decide) (fun z => absurd z (by decide)) (fun _ => ?_)
  refine Wr_aload_n dJ0_indexOf_7cf53_7 rfl 0 rfl ?_
  refine Wr_strV (i := 6) dJ0_indexOf_7cf53_8 msV (by decide) ?_
  refine Wr_iload_n dJ0_indexOf_7cf53_11 rfl 1 rfl ?_
  refine Wr_iload_n dJ0_indexOf_7cf53_12 rfl 2 rfl ?_
  refine Wr_aload_n dJ0_indexOf_7cf53_13 rfl 0 rfl ?_
  refine Wr_cVi (b := 1000 + 6) [] dJ0_indexOf_7cf53_14 mlJ0_505 mgJ0_length_8abf5 rfl mvJ0_length_8abf5 (zrs (i := 6) (by decide) rfl) rfl rfl (Nat.le_of_ble_eq_true rfl) rfl (C_length (i := 6) (by decide) ?_)
  refine Wr_cSi [.ref (2000 + 6), .int (nI b), .int 0, .int (nI 9)] dJ0_indexOf_7cf53_17 mlJ0_637 mgJ1_indexOf_4cfef rfl msJ1_indexOf_4cfef rfl rfl (Nat.le_of_ble_eq_true rfl) rfl (C_ioL hb (fun z => ?_) (fun z j hj => ?_))
  · refine Wr_goto 36 dJ0_indexOf_7cf53_20 (by decide) ?_
    exact Wr_iret .int dJ0_indexOf_7cf53_36 rfl rfl ⟨rfl, h0 z⟩
  · refine Wr_goto 36 dJ0_indexOf_7cf53_20 (by decide) ?_
    exact Wr_iret .int dJ0_indexOf_7cf53_36 rfl rfl ⟨rfl, h1 z j hj⟩
theorem C_indexOf {b : Nat} (hb : b < 256) (h0 : ¬ zmkB b → KI (-1) μ) (h1 : zmkB b → ∀ j, j < 9 → KI (nI j) μ) : zcI (d + 4) mJ0_indexOf_0f7a4 [.ref (1000 + 6), .int (nI b)] μ KI X := by
  refine Ex_of (w := 2) mgJ0_indexOf_0f7a4.2.2.2.2.2 rfl rfl rfl (by decide) ?_
  refine Wr_aload_n dJ0_indexOf_0f7a4_0 rfl 0 rfl ?_
  refine Wr_iload_n dJ0_indexOf_0f7a4_1 rfl 1 rfl ?_
  refine Wr_iconstv (v := 0) dJ0_indexOf_0f7a4_2 (by decide) ?_
  refine Wr_cVi (b := 1000 + 6) [.int (nI b), .int 0] dJ0_indexOf_0f7a4_3 mlJ0_633 mgJ0_indexOf_7cf53 rfl mvJ0_indexOf_7cf53 (zrs (i := 6) (by decide) rfl) rfl rfl (Nat.le_of_ble_eq_true rfl) rfl (C_io2 hb (fun z => ?_) (fun z j hj => ?_))
  · exact Wr_iret .int dJ0_indexOf_0f7a4_6 rfl rfl ⟨rfl, h0 z⟩
  · exact Wr_iret .int dJ0_indexOf_0f7a4_6 rfl rfl ⟨rfl, h1 z j hj⟩
end Str2
