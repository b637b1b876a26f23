def pX0_put_63 (d : Nat) (o : Nat) (r1 : Nat) (r2 : Nat) (x3 : Int32) (x4 : Int32) (x5 : Int32) (x8 : Int32) (y0 : Int32) (μ : zMem) (KV : zMem → Prop) (X : Nat → zMem → Prop) : Prop :=
  zcI d mX4_windAlongX [.ref r1, .int x5] μ (fun u2 m1 => ∀ v3 : Int32, v3 = ((y0 * u2) * x8) / 900 → zcI d mX4_windAlongY [.ref r1, .int x5] m1 (fun u5 m4 => ∀ v6 : Int32, v6 = ((y0 * u5) * x8) / 900 → (vp_in x3 6) ∧ (vp_in x4 36) ∧ ∀ m7 : zMem, m7 = zw m4 (o + 1) x4.toNatClampNeg ((m4 (r2 + 2) x3.toNatClampNeg) + v3) → (vp_in x3 6) ∧ (vp_in x4 36) ∧ ∀ m8 : zMem, m8 = zw m7 (o + 2) x4.toNatClampNeg ((m7 (r2 + 3) x3.toNatClampNeg) + v6) → (vp_in x4 36) ∧ ∀ m9 : zMem, m9 = zw m8 (o + 3) x4.toNatClampNeg (y0 - (zmax (zabs v3) (zabs v6))) → (vp_in x4 36) ∧ ∀ m10 : zMem, m10 = zw m9 (o + 4) x4.toNatClampNeg x8 → (vp_in x3 6) ∧ (vp_in x4 36) ∧ ∀ m11 : zMem, m11 = zw m10 (o + 5) x4.toNatClampNeg (m10 (r2 + 6) x3.toNatClampNeg) → KV m11) X) X
set_option maxRecDepth 20000 in
theorem wX0_put_63 {d : Nat} {o : Nat} {r1 : Nat} {r2 : Nat} {KV : zMem → Prop} {X : Nat → zMem → Prop} {x3 : Int32} {x4 : Int32} {x5 : Int32} {x8 : Int32} {y0 : Int32} {μ : zMem} (ho : zsh o = .inr 0) (hr1 : zsh r1 = .inr 4) (hr2 : zsh r2 = .inr 1) (h : pX0_put_63 d o r1 r2 x3 x4 x5 x8 y0 μ KV X) : Wr mX0_put (d + 1) 0 63 [(0, .ref o), (1, .ref r1), (2, .ref r2), (3, .int x3), (4, .int x4), (5, .int x5), (8, .int x8)] [.int y0] μ (kV KV X) := by
  unfold pX0_put_63 at h
  refine Wr_istore dX0_put_63 (by decide) rfl ?_
  refine Wr_iload dX0_put_65 0 rfl ?_
  refine Wr_aload_n dX0_put_67 rfl 2 rfl ?_
  refine Wr_iload dX0_put_68 6 rfl ?_
  refine Wr_cVi [.int x5] dX0_put_70 mlX0_46 mgX4_windAlongX rfl mvX4_windAlongX (zrv hr1 _ rfl rfl) rfl rfl (Nat.le_of_ble_eq_true rfl) rfl (zcI.imp h (fun u2 m1 h => ?_) (fun _ _ h => ⟨rfl, h⟩))
  refine Wr_imul dX0_put_73 ?_
  refine Wr_iload dX0_put_74 7 rfl ?_
  refine Wr_imul dX0_put_76 ?_
  refine Wr_sipush (v := 900) dX0_put_77 (by decide) ?_
  refine Wr_idiv dX0_put_80 (by decide) ?_
  obtain ⟨v3, ev3⟩ : ∃ z : Int32, z = ((y0 * u2) * x8) / 900 := ⟨_, rfl⟩
  have h := h v3 ev3
  refine Wr_top ev3 ?_
  refine Wr_istore dX0_put_81 (by decide) rfl ?_
  refine Wr_iload dX0_put_83 1 rfl ?_
  refine Wr_aload_n dX0_put_85 rfl 3 rfl ?_
  refine Wr_iload dX0_put_86 7 rfl ?_
  refine Wr_cVi [.int x5] dX0_put_88 mlX0_49 mgX4_windAlongY rfl mvX4_windAlongY (zrv hr1 _ rfl rfl) rfl rfl (Nat.le_of_ble_eq_true rfl) rfl (zcI.imp h (fun u5 m4 h => ?_) (fun _ _ h => ⟨rfl, h⟩))
  refine Wr_imul dX0_put_91 ?_
  refine Wr_iload dX0_put_92 8 rfl ?_
  refine Wr_imul dX0_put_94 ?_
  refine Wr_sipush (v := 900) dX0_put_95 (by decide) ?_
  refine Wr_idiv dX0_put_98 (by decide) ?_
  obtain ⟨v6, ev6⟩ : ∃ z : Int32, z = ((y0 * u5) * x8) / 900 := ⟨_, rfl⟩
  have h := h v6 ev6
  refine Wr_top ev6 ?_
  refine Wr_istore dX0_put_99 (by decide) rfl ?_
  refine Wr_aload_n dX0_put_101 rfl 3 rfl ?_
  refine Wr_getR 1 dX0_put_102 flX0_9 ho rfl (by decide) ?_
  refine Wr_iload dX0_put_105 7 rfl ?_
  refine Wr_aload_n dX0_put_107 rfl 5 rfl ?_
  refine Wr_getR 2 dX0_put_108 flX0_52 hr2 rfl (by decide) ?_
  refine Wr_iload_n dX0_put_111 rfl 6 rfl ?_
  obtain ⟨hi, h⟩ := h
  refine Wr_iald dX0_put_112 (zo1_2 hr2) hi ?_
  refine Wr_iload dX0_put_113 1 rfl ?_
  refine Wr_iadd dX0_put_115 ?_
  obtain ⟨him7, h⟩ := h
  obtain ⟨m7, em7⟩ : ∃ z : zMem, z = zw m4 (o + 1) x4.toNatClampNeg ((m4 (r2 + 2) x3.toNatClampNeg) + v3) := ⟨_, rfl⟩
  have h := h m7 em7
  refine Wr_iast dX0_put_116 (zo0_0 ho) him7 ?_
  refine Wr_mu em7 ?_
  refine Wr_aload_n dX0_put_117 rfl 3 rfl ?_
  refine Wr_getR 2 dX0_put_118 flX0_15 ho rfl (by decide) ?_
  refine Wr_iload dX0_put_121 7 rfl ?_
  refine Wr_aload_n dX0_put_123 rfl 5 rfl ?_
  refine Wr_getR 3 dX0_put_124 flX0_55 hr2 rfl (by decide) ?_
  refine Wr_iload_n dX0_put_127 rfl 6 rfl ?_
  obtain ⟨hi, h⟩ := h
  refine Wr_iald dX0_put_128 (zo1_3 hr2) hi ?_
  refine Wr_iload dX0_put_129 0 rfl ?_
  refine Wr_iadd dX0_put_131 ?_
  obtain ⟨him8, h⟩ := h
  obtain ⟨m8, em8⟩ : ∃ z : zMem, z = zw m7 (o + 2) x4.toNatClampNeg ((m7 (r2 + 3) x3.toNatClampNeg) + v6) := ⟨_, rfl⟩
  have h := h m8 em8
  refine Wr_iast dX0_put_132 (zo0_1 ho) him8 ?_
  refine Wr_mu em8 ?_
  refine Wr_aload_n dX0_put_133 rfl 3 rfl ?_
  refine Wr_getR 3 dX0_put_134 flX0_18 ho rfl (by decide) ?_
  refine Wr_iload dX0_put_137 7 rfl ?_
  refine Wr_iload dX0_put_139 2 rfl ?_
  refine Wr_iload dX0_put_141 1 rfl ?_
  refine Wr_mabs dX0_put_143 mlX0_58 (Nat.le_of_ble_eq_true rfl) ?_
  refine Wr_iload dX0_put_146 0 rfl ?_
  refine Wr_mabs dX0_put_148 mlX0_58 (Nat.le_of_ble_eq_true rfl) ?_
  refine Wr_mmax dX0_put_151 mlX0_63 (Nat.le_of_ble_eq_true rfl) ?_
  refine Wr_isub dX0_put_154 ?_
  obtain ⟨him9, h⟩ := h
  obtain ⟨m9, em9⟩ : ∃ z : zMem, z = zw m8 (o + 3) x4.toNatClampNeg (y0 - (zmax (zabs v3) (zabs v6))) := ⟨_, rfl⟩
  have h := h m9 em9
  refine Wr_iast dX0_put_155 (zo0_2 ho) him9 ?_
  refine Wr_mu em9 ?_
  refine Wr_aload_n dX0_put_156 rfl 3 rfl ?_
  refine Wr_getR 4 dX0_put_157 flX0_21 ho rfl (by decide) ?_
  refine Wr_iload dX0_put_160 7 rfl ?_
  refine Wr_iload dX0_put_162 9 rfl ?_
  obtain ⟨him10, h⟩ := h
  obtain ⟨m10, em10⟩ : ∃ z : zMem, z = zw m9 (o + 4) x4.toNatClampNeg x8 := ⟨_, rfl⟩
  have h := h m10 em10
  refine Wr_iast dX0_put_164 (zo0_3 ho) him10 ?_
  refine Wr_mu em10 ?_
  refine Wr_aload_n dX0_put_165 rfl 3 rfl ?_
  refine Wr_getR 5 dX0_put_166 flX0_24 ho rfl (by decide) ?_
  refine Wr_iload dX0_put_169 7 rfl ?_
  refine Wr_aload_n dX0_put_171 rfl 5 rfl ?_
  refine Wr_getR 6 dX0_put_172 flX0_67 hr2 rfl (by decide) ?_
  refine Wr_iload_n dX0_put_175 rfl 6 rfl ?_
  obtain ⟨hi, h⟩ := h
  refine Wr_iald dX0_put_176 (zo1_6 hr2) hi ?_
  obtain ⟨him11, h⟩ := h
  obtain ⟨m11, em11⟩ : ∃ z : zMem, z = zw m10 (o + 5) x4.toNatClampNeg (m10 (r2 + 6) x3.toNatClampNeg) := ⟨_, rfl⟩
  have h := h m11 em11
  refine Wr_iast dX0_put_177 (zo0_4 ho) him11 ?_
  refine Wr_mu em11 ?_
  exact Wr_vret dX0_put_178 rfl ⟨rfl, h⟩
def pX0_put_47 (d : Nat) (o : Nat) (r1 : Nat) (r2 : Nat) (x3 : Int32) (x4 : Int32) (x5 : Int32) (x7 : Int32) (y0 : Int32) (μ : zMem) (KV : zMem → Prop) (X : Nat → zMem → Prop) : Prop :=
  ((x7 = 0 → pX0_put_63 d o r1 r2 x3 x4 x5 y0 0 μ KV X) ∧
  (¬ (x7 = 0) → zcI d mX1_line [.ref r2, .int x3] μ (fun u2 m1 => pX0_put_63 d o r1 r2 x3 x4 x5 y0 u2 m1 KV X) X))
set_option maxRecDepth 20000 in
theorem wX0_put_47 {d : Nat} {o : Nat} {r1 : Nat} {r2 : Nat} {KV : zMem → Prop} {X : Nat → zMem → Prop} {x3 : Int32} {x4 : Int32} {x5 : Int32} {x7 : Int32} {y0 : Int32} {μ : zMem} (ho : zsh o = .inr 0) (hr1 : zsh r1 = .inr 4) (hr2 : zsh r2 = .inr 1) (h : pX0_put_47 d o r1 r2 x3 x4 x5 x7 y0 μ KV X) : Wr mX0_put (d + 1) 0 47 [(0, .ref o), (1, .ref r1), (2, .ref r2), (3, .int x3), (4, .int x4), (5, .int x5), (7, .int x7)] [.int y0] μ (kV KV X) := by
  unfold pX0_put_47 at h
  refine Wr_istore dX0_put_47 (by decide) rfl ?_
  refine Wr_iload dX0_put_49 7 rfl ?_
  refine Wr_if_eq 62 dX0_put_51 (by decide) (fun hc => ?_) (fun hc => ?_)
  · have h := h.1 hc
    refine Wr_iconstv (v := 0) dX0_put_62 (by decide) ?_
    refine zsub [0, 1, 2, 3, 4, 5, 8] rfl ?_
    exact wX0_put_63 ho hr1 hr2 h
  · have h := h.2 hc
    refine Wr_aload_n dX0_put_54 rfl 3 rfl ?_
    refine Wr_iload_n dX0_put_55 rfl 4 rfl ?_
    refine Wr_cVi [.int x3] dX0_put_56 mlX0_42 mgX1_line rfl mvX1_line (zrv hr2 _ rfl rfl) rfl rfl (Nat.le_of_ble_eq_true rfl) rfl (zcI.imp h (fun u2 m1 h => ?_) (fun _ _ h => ⟨rfl, h⟩))
    refine Wr_goto 63 dX0_put_59 (by decide) ?_
    refine zsub [0, 1, 2, 3, 4, 5, 8] rfl ?_
    exact wX0_put_63 ho hr1 hr2 h
def pX0_put (d : Nat) (o : Nat) (r1 : Nat) (r2 : Nat) (x3 : Int32) (x4 : Int32) (x5 : Int32) (x6 : Int32) (μ : zMem) (KV : zMem → Prop) (X : Nat → zMem → Prop) : Prop :=
  zcI d mX1_has [.ref r2, .int x3] μ (fun u2 m1 => ((u2 = 0 → KV m1) ∧
  (¬ (u2 = 0) → ((x4 < 0 → KV m1) ∧
    (¬ (x4 < 0) → ((x4 < 36 → zcI d mX1_floats [.ref r2, .int x3] m1 (fun u4 m3 => ((u4 = 0 → pX0_put_47 d o r1 r2 x3 x4 x5 u4 0 m3 KV X) ∧
        (¬ (u4 = 0) → zcI d mX4_pushOf [.ref r1, .ref r2, .int x3, .int x5, .int x6] m3 (fun u6 m5 => pX0_put_47 d o r1 r2 x3 x4 x5 u4 u6 m5 KV X) X))) X) ∧
      (¬ (x4 < 36) → KV m1))))))) X
set_option maxRecDepth 20000 in
theorem wX0_put_0 {d : Nat} {o : Nat} {r1 : Nat} {r2 : Nat} {KV : zMem → Prop} {X : Nat → zMem → Prop} {x3 : Int32} {x4 : Int32} {x5 : Int32} {x6 : Int32} {μ : zMem} (ho : zsh o = .inr 0) (hr1 : zsh r1 = .inr 4) (hr2 : zsh r2 = .inr 1) (h : pX0_put d o r1 r2 x3 x4 x5 x6 μ KV X) : Wr mX0_put (d + 1) 0 0 [(0, .ref o), (1, .ref r1), (2, .ref r2), (3, .int x3), (4, .int x4), (5, .int x5), (6, .int x6)] [] μ (kV KV X) := by
  unfold pX0_put at h
  refine Wr_aload_n dX0_put_0 rfl 2 rfl ?_
  refine Wr_iload_n dX0_put_1 rfl 3 rfl ?_
  refine Wr_cVi [.int x3] dX0_put_2 mlX0_27 mgX1_has rfl mvX1_has (zrv hr2 _ rfl rfl) rfl rfl (Nat.le_of_ble_eq_true rfl) rfl (zcI.imp h (fun u2 m1 h => ?_) (fun _ _ h => ⟨rfl, h⟩))
  refine Wr_if_eq 20 dX0_put_5 (by decide) (fun hc => ?_) (fun hc => ?_)
  · have h := h.1 hc
    exact Wr_vret dX0_put_20 rfl ⟨rfl, h⟩
  · have h := h.2 hc
    refine Wr_iload dX0_put_8 4 rfl ?_
    refine Wr_if_lt 20 dX0_put_10 (by decide) (fun hc => ?_) (fun hc => ?_)
    · have h := h.1 hc
      exact Wr_vret dX0_put_20 rfl ⟨rfl, h⟩
    · have h := h.2 hc
      refine Wr_iload dX0_put_13 4 rfl ?_
      refine Wr_bipush (v := 36) dX0_put_15 (by decide) ?_
      refine Wr_icmp_lt 21 dX0_put_17 (by decide) (fun hc => ?_) (fun hc => ?_)
      · have h := h.1 hc
        refine Wr_aload_n dX0_put_21 rfl 2 rfl ?_
        refine Wr_iload_n dX0_put_22 rfl 3 rfl ?_
        refine Wr_cVi [.int x3] dX0_put_23 mlX0_33 mgX1_floats rfl mvX1_floats (zrv hr2 _ rfl rfl) rfl rfl (Nat.le_of_ble_eq_true rfl) rfl (zcI.imp h (fun u4 m3 h => ?_) (fun _ _ h => ⟨rfl, h⟩))
        refine Wr_istore dX0_put_26 (by decide) rfl ?_
        refine Wr_iload dX0_put_28 0 rfl ?_
        refine Wr_if_eq 46 dX0_put_30 (by decide) (fun hc => ?_) (fun hc => ?_)
        · have h := h.1 hc
          refine Wr_iconstv (v := 0) dX0_put_46 (by decide) ?_
          refine zsub [0, 1, 2, 3, 4, 5, 7] rfl ?_
          exact wX0_put_47 ho hr1 hr2 h
        · have h := h.2 hc
          refine Wr_aload_n dX0_put_33 rfl 2 rfl ?_
          refine Wr_aload_n dX0_put_34 rfl 3 rfl ?_
          refine Wr_iload_n dX0_put_35 rfl 4 rfl ?_
          refine Wr_iload dX0_put_36 6 rfl ?_
          refine Wr_iload dX0_put_38 7 rfl ?_
          refine Wr_cVi [.ref r2, .int x3, .int x5, .int x6] dX0_put_40 mlX0_36 mgX4_pushOf rfl mvX4_pushOf (zrv hr1 _ rfl rfl) rfl rfl (Nat.le_of_ble_eq_true rfl) rfl (zcI.imp h (fun u6 m5 h => ?_) (fun _ _ h => ⟨rfl, h⟩))
          refine Wr_goto 47 dX0_put_43 (by decide) ?_
          refine zsub [0, 1, 2, 3, 4, 5, 7] rfl ?_
          exact wX0_put_47 ho hr1 hr2 h
      · have h := h.2 hc
        exact Wr_vret dX0_put_20 rfl ⟨rfl, h⟩
theorem cX0_put_ {d : Nat} {o : Nat} {r1 : Nat} {r2 : Nat} {x3 : Int32} {x4 : Int32} {x5 : Int32} {x6 : Int32} {μ : zMem} {KV : zMem → Prop} {X : Nat → zMem → Prop} (ho : zsh o = .inr 0) (hr1 : zsh r1 = .inr 4) (hr2 : zsh r2 = .inr 1) (h : pX0_put d o r1 r2 x3 x4 x5 x6 μ KV X) : zcV (d + 1) mX0_put [.ref o, .ref r1, .ref r2, .int x3, .int x4, .int x5, .int x6] μ KV X :=
  Ex_of (w := 7) mgX0_put.2.2.2.2.2 rfl rfl rfl (by decide) (wX0_put_0 ho hr1 hr2 h)

def pX0_areOver (d : Nat) (o : Nat) (x1 : Int32) (x2 : Int32) (x3 : Int32) (μ : zMem) (KI : Int32 → zMem → Prop) (X : Nat → zMem → Prop) : Prop :=
  (vp_in x1 36) ∧ (vp_in x2 36) ∧ ∀ v1 : Int32, v1 = ((μ (o + 5) x1.toNatClampNeg) + (μ (o + 5) x2.toNatClampNeg)) + x3 → (vp_in x1 36) ∧ (vp_in x2 36) ∧ ((v1 < zabs ((μ (o + 1) x1.toNatClampNeg) - (μ (o + 1) x2.toNatClampNeg)) → KI 0 μ) ∧
  (¬ (v1 < zabs ((μ (o + 1) x1.toNatClampNeg) - (μ (o + 1) x2.toNatClampNeg))) → (vp_in x1 36) ∧ (vp_in x2 36) ∧ KI (if v1 < zabs ((μ (o + 2) x1.toNatClampNeg) - (μ (o + 2) x2.toNatClampNeg)) then 0 else 1) μ))
set_option maxRecDepth 20000 in
theorem wX0_areOver_0 {d : Nat} {o : Nat} {KI : Int32 → zMem → Prop} {X : Nat → zMem → Prop} {x1 : Int32} {x2 : Int32} {x3 : Int32} {μ : zMem} (ho : zsh o = .inr 0) (h : pX0_areOver d o x1 x2 x3 μ KI X) : Wr mX0_areOver (d + 1) 0 0 [(0, .ref o), (1, .int x1), (2, .int x2), (3, .int x3)] [] μ (kI KI X) := by
  unfold pX0_areOver at h
  refine Wr_aload_n dX0_areOver_0 rfl 0 rfl ?_
  refine Wr_getR 5 dX0_areOver_1 flX0_24 ho rfl (by decide) ?_
  refine Wr_iload_n dX0_areOver_4 rfl 1 rfl ?_
  obtain ⟨hi, h⟩ := h
  refine Wr_iald dX0_areOver_5 (zo0_4 ho) hi ?_
  refine Wr_aload_n dX0_areOver_6 rfl 0 rfl ?_
  refine Wr_getR 5 dX0_areOver_7 flX0_24 ho rfl (by decide) ?_
  refine Wr_iload_n dX0_areOver_10 rfl 2 rfl ?_
  obtain ⟨hi, h⟩ := h
  refine Wr_iald dX0_areOver_11 (zo0_4 ho) hi ?_
  refine Wr_iadd dX0_areOver_12 ?_
  refine Wr_iload_n dX0_areOver_13 rfl 3 rfl ?_
  refine Wr_iadd dX0_areOver_14 ?_
  obtain ⟨v1, ev1⟩ : ∃ z : Int32, z = ((μ (o + 5) x1.toNatClampNeg) + (μ (o + 5) x2.toNatClampNeg)) + x3 := ⟨_, rfl⟩
  have h := h v1 ev1
  refine Wr_top ev1 ?_
  refine Wr_istore dX0_areOver_15 (by decide) rfl ?_
  refine Wr_aload_n dX0_areOver_17 rfl 1 rfl ?_
  refine Wr_getR 1 dX0_areOver_18 flX0_9 ho rfl (by decide) ?_
  refine Wr_iload_n dX0_areOver_21 rfl 2 rfl ?_
  obtain ⟨hi, h⟩ := h
  refine Wr_iald dX0_areOver_22 (zo0_0 ho) hi ?_
  refine Wr_aload_n dX0_areOver_23 rfl 1 rfl ?_
  refine Wr_getR 1 dX0_areOver_24 flX0_9 ho rfl (by decide) ?_
  refine Wr_iload_n dX0_areOver_27 rfl 3 rfl ?_
  obtain ⟨hi, h⟩ := h
  refine Wr_iald dX0_areOver_28 (zo0_0 ho) hi ?_
  refine Wr_isub dX0_areOver_29 ?_
  refine Wr_mabs dX0_areOver_30 mlX0_58 (Nat.le_of_ble_eq_true rfl) ?_
  refine Wr_iload dX0_areOver_33 0 rfl ?_
  refine Wr_icmp_gt 63 dX0_areOver_35 (by decide) (fun hc => ?_) (fun hc => ?_)
  · have h := h.1 hc
    refine Wr_iconstv (v := 0) dX0_areOver_63 (by decide) ?_
    exact Wr_iret .boolean dX0_areOver_64 rfl rfl ⟨rfl, h⟩
  · have h := h.2 hc
    refine Wr_aload_n dX0_areOver_38 rfl 1 rfl ?_
    refine Wr_getR 2 dX0_areOver_39 flX0_15 ho rfl (by decide) ?_
    refine Wr_iload_n dX0_areOver_42 rfl 2 rfl ?_
    obtain ⟨hi, h⟩ := h
    refine Wr_iald dX0_areOver_43 (zo0_1 ho) hi ?_
    refine Wr_aload_n dX0_areOver_44 rfl 1 rfl ?_
    refine Wr_getR 2 dX0_areOver_45 flX0_15 ho rfl (by decide) ?_
    refine Wr_iload_n dX0_areOver_48 rfl 3 rfl ?_
    obtain ⟨hi, h⟩ := h
    refine Wr_iald dX0_areOver_49 (zo0_1 ho) hi ?_
    refine Wr_isub dX0_areOver_50 ?_
    refine Wr_mabs dX0_areOver_51 mlX0_58 (Nat.le_of_ble_eq_true rfl) ?_
    refine Wr_iload dX0_areOver_54 0 rfl ?_
    have hj1 : Wr mX0_areOver (d + 1) 0 64 [(4, .int v1), (0, .ref o), (1, .int x1), (2, .int x2), (3, .int x3)] [.int (if v1 < zabs ((μ (o + 2) x1.toNatClampNeg) - (μ (o + 2) x2.toNatClampNeg)) then 0 else 1)] μ (kI KI X) := by
      exact Wr_iret .boolean dX0_areOver_64 rfl (znar (by (repeat' split) <;> simp)) ⟨rfl, h⟩
    refine Wr_icmp_gt 63 dX0_areOver_56 (by decide) (fun hc0 => ?_) (fun hc0 => ?_)
    · skip
      refine Wr_iconstv (v := 0) dX0_areOver_63 (by decide) ?_
      exact Wr_top (if_pos hc0) hj1
    · skip
      refine Wr_iconstv (v := 1) dX0_areOver_59 (by decide) ?_
      refine Wr_goto 64 dX0_areOver_60 (by decide) ?_
      exact Wr_top (if_neg hc0) hj1
theorem cX0_areOver_ {d : Nat} {o : Nat} {x1 : Int32} {x2 : Int32} {x3 : Int32} {μ : zMem} {KI : Int32 → zMem → Prop} {X : Nat → zMem → Prop} (ho : zsh o = .inr 0) (h : pX0_areOver d o x1 x2 x3 μ KI X) : zcI (d + 1) mX0_areOver [.ref o, .int x1, .int x2, .int x3] μ KI X :=
  Ex_of (w := 4) mgX0_areOver.2.2.2.2.2 rfl rfl rfl (by decide) (wX0_areOver_0 ho h)

def pX0_knocks (d : Nat) (o : Nat) (x1 : Int32) (x2 : Int32) (μ : zMem) (KI : Int32 → zMem → Prop) (X : Nat → zMem → Prop) : Prop :=
  (vp_in x1 36) ∧ (vp_in x2 36) ∧ ((1 < zabs ((μ (o + 3) x1.toNatClampNeg) - (μ (o + 3) x2.toNatClampNeg)) → KI 0 μ) ∧
  (¬ (1 < zabs ((μ (o + 3) x1.toNatClampNeg) - (μ (o + 3) x2.toNatClampNeg))) → zcI d mX0_areOver [.ref o, .int x1, .int x2, .int 0] μ (fun u2 m1 => KI (if u2 = 0 then 0 else 1) m1) X))
set_option maxRecDepth 20000 in
theorem wX0_knocks_0 {d : Nat} {o : Nat} {KI : Int32 → zMem → Prop} {X : Nat → zMem → Prop} {x1 : Int32} {x2 : Int32} {μ : zMem} (ho : zsh o = .inr 0) (h : pX0_knocks d o x1 x2 μ KI X) : Wr mX0_knocks (d + 1) 0 0 [(0, .ref o), (1, .int x1), (2, .int x2)] [] μ (kI KI X) := by
  unfold pX0_knocks at h
  refine Wr_aload_n dX0_knocks_0 rfl 0 rfl ?_
  refine Wr_getR 3 dX0_knocks_1 flX0_18 ho rfl (by decide) ?_
  refine Wr_iload_n dX0_knocks_4 rfl 1 rfl ?_
  obtain ⟨hi, h⟩ := h
  refine Wr_iald dX0_knocks_5 (zo0_2 ho) hi ?_
  refine Wr_aload_n dX0_knocks_6 rfl 0 rfl ?_
  refine Wr_getR 3 dX0_knocks_7 flX0_18 ho rfl (by decide) ?_
  refine Wr_iload_n dX0_knocks_10 rfl 2 rfl ?_
  obtain ⟨hi, h⟩ := h
  refine Wr_iald dX0_knocks_11 (zo0_2 ho) hi ?_
  refine Wr_isub dX0_knocks_12 ?_
  refine Wr_mabs dX0_knocks_13 mlX0_58 (Nat.le_of_ble_eq_true rfl) ?_
  refine Wr_iconstv (v := 1) dX0_knocks_16 (by decide) ?_
  refine Wr_icmp_gt 34 dX0_knocks_17 (by decide) (fun hc => ?_) (fun hc => ?_)
  · have h := h.1 hc
    refine Wr_iconstv (v := 0) dX0_knocks_34 (by decide) ?_
    exact Wr_iret .boolean dX0_knocks_35 rfl rfl ⟨rfl, h⟩
  · have h := h.2 hc
    refine Wr_aload_n dX0_knocks_20 rfl 0 rfl ?_
    refine Wr_iload_n dX0_knocks_21 rfl 1 rfl ?_
    refine Wr_iload_n dX0_knocks_22 rfl 2 rfl ?_
    refine Wr_iconstv (v := 0) dX0_knocks_23 (by decide) ?_
    refine Wr_cVi [.int x1, .int x2, .int 0] dX0_knocks_24 mlX0_68 mgX0_areOver rfl mvX0_areOver (zrv ho _ rfl rfl) rfl rfl (Nat.le_of_ble_eq_true rfl) rfl (zcI.imp h (fun u2 m1 h => ?_) (fun _ _ h => ⟨rfl, h⟩))
    have hj1 : Wr mX0_knocks (d + 1) 0 35 [(0, .ref o), (1, .int x1), (2, .int x2)] [.int (if u2 = 0 then 0 else 1)] m1 (kI KI X) := by
      exact Wr_iret .boolean dX0_knocks_35 rfl (znar (by (repeat' split) <;> simp)) ⟨rfl, h⟩
    refine Wr_if_eq 34 dX0_knocks_27 (by decide) (fun hc0 => ?_) (fun hc0 => ?_)
    · skip
      refine Wr_iconstv (v := 0) dX0_knocks_34 (by decide) ?_
      exact Wr_top (if_pos hc0) hj1
    · skip
      refine Wr_iconstv (v := 1) dX0_knocks_30 (by decide) ?_
      refine Wr_goto 35 dX0_knocks_31 (by decide) ?_
      exact Wr_top (if_neg hc0) hj1
theorem cX0_knocks_ {d : Nat} {o : Nat} {x1 : Int32} {x2 : Int32} {μ : zMem} {KI : Int32 → zMem → Prop} {X : Nat → zMem → Prop} (ho : zsh o = .inr 0) (h : pX0_knocks d o x1 x2 μ KI X) : zcI (d + 1) mX0_knocks [.ref o, .int x1, .int x2] μ KI X :=
  Ex_of (w := 3) mgX0_knocks.2.2.2.2.2 rfl rfl rfl (by decide) (wX0_knocks_0 ho h)

def pX0_isShaded (d : Nat) (o : Nat) (x1 : Int32) (x2 : Int32) (μ : zMem) (KI : Int32 → zMem → Prop) (X : Nat → zMem → Prop) : Prop :=
  (vp_in x2 36) ∧ (vp_in x1 36) ∧ (((μ (o + 3) x2.toNatClampNeg) - (μ (o + 3) x1.toNatClampNeg) < 2 → KI 0 μ) ∧
  (¬ ((μ (o + 3) x2.toNatClampNeg) - (μ (o + 3) x1.toNatClampNeg) < 2) → zcI d mX0_areOver [.ref o, .int x1, .int x2, .int 0] μ (fun u2 m1 => KI (if u2 = 0 then 0 else 1) m1) X))
set_option maxRecDepth 20000 in
theorem wX0_isShaded_0 {d : Nat} {o : Nat} {KI : Int32 → zMem → Prop} {X : Nat → zMem → Prop} {x1 : Int32} {x2 : Int32} {μ : zMem} (ho : zsh o = .inr 0) (h : pX0_isShaded d o x1 x2 μ KI X) : Wr mX0_isShaded (d + 1) 0 0 [(0, .ref o), (1, .int x1), (2, .int x2)] [] μ (kI KI X) := by
  unfold pX0_isShaded at h
  refine Wr_aload_n dX0_isShaded_0 rfl 0 rfl ?_
  refine Wr_getR 3 dX0_isShaded_1 flX0_18 ho rfl (by decide) ?_
  refine Wr_iload_n dX0_isShaded_4 rfl 2 rfl ?_
  obtain ⟨hi, h⟩ := h
  refine Wr_iald dX0_isShaded_5 (zo0_2 ho) hi ?_
  refine Wr_aload_n dX0_isShaded_6 rfl 0 rfl ?_
  refine Wr_getR 3 dX0_isShaded_7 flX0_18 ho rfl (by decide) ?_
  refine Wr_iload_n dX0_isShaded_10 rfl 1 rfl ?_
  obtain ⟨hi, h⟩ := h
  refine Wr_iald dX0_isShaded_11 (zo0_2 ho) hi ?_
  refine Wr_isub dX0_isShaded_12 ?_
  refine Wr_iconstv (v := 2) dX0_isShaded_13 (by decide) ?_
  refine Wr_icmp_lt 31 dX0_isShaded_14 (by decide) (fun hc => ?_) (fun hc => ?_)
  · have h := h.1 hc
    refine Wr_iconstv (v := 0) dX0_isShaded_31 (by decide) ?_
    exact Wr_iret .boolean dX0_isShaded_32 rfl rfl ⟨rfl, h⟩
  · have h := h.2 hc
    refine Wr_aload_n dX0_isShaded_17 rfl 0 rfl ?_
    refine Wr_iload_n dX0_isShaded_18 rfl 1 rfl ?_
    refine Wr_iload_n dX0_isShaded_19 rfl 2 rfl ?_
    refine Wr_iconstv (v := 0) dX0_isShaded_20 (by decide) ?_
    refine Wr_cVi [.int x1, .int x2, .int 0] dX0_isShaded_21 mlX0_68 mgX0_areOver rfl mvX0_areOver (zrv ho _ rfl rfl) rfl rfl (Nat.le_of_ble_eq_true rfl) rfl (zcI.imp h (fun u2 m1 h => ?_) (fun _ _ h => ⟨rfl, h⟩))
    have hj1 : Wr mX0_isShaded (d + 1) 0 32 [(0, .ref o), (1, .int x1), (2, .int x2)] [.int (if u2 = 0 then 0 else 1)] m1 (kI KI X) := by
      exact Wr_iret .boolean dX0_isShaded_32 rfl (znar (by (repeat' split) <;> simp)) ⟨rfl, h⟩
    refine Wr_if_eq 31 dX0_isShaded_24 (by decide) (fun hc0 => ?_) (fun hc0 => ?_)
    · skip
      refine Wr_iconstv (v := 0) dX0_isShaded_31 (by decide) ?_
      exact Wr_top (if_pos hc0) hj1
    · skip
      refine Wr_iconstv (v := 1) dX0_isShaded_27 (by decide) ?_
      refine Wr_goto 32 dX0_isShaded_28 (by decide) ?_
      exact Wr_top (if_neg hc0) hj1
theorem cX0_isShaded_ {d : Nat} {o : Nat} {x1 : Int32} {x2 : Int32} {μ : zMem} {KI : Int32 → zMem → Prop} {X : Nat → zMem → Prop} (ho : zsh o = .inr 0) (h : pX0_isShaded d o x1 x2 μ KI X) : zcI (d + 1) mX0_isShaded [.ref o, .int x1, .int x2] μ KI X :=
  Ex_of (w := 3) mgX0_isShaded.2.2.2.2.2 rfl rfl rfl (by decide) (wX0_isShaded_0 ho h)

def pX0_hasBridge (d : Nat) (o : Nat) (x1 : Int32) (x2 : Int32) (x3 : Int32) (μ : zMem) (KI : Int32 → zMem → Prop) (X : Nat → zMem → Prop) : Prop :=
  (vp_in x1 36) ∧ (vp_in x2 36) ∧ ((x3 < zabs ((μ (o + 3) x1.toNatClampNeg) - (μ (o + 3) x2.toNatClampNeg)) → KI 0 μ) ∧
  (¬ (x3 < zabs ((μ (o + 3) x1.toNatClampNeg) - (μ (o + 3) x2.toNatClampNeg))) → zcI d mX0_areOver [.ref o, .int x1, .int x2, .int x3] μ (fun u2 m1 => KI (if u2 = 0 then 0 else 1) m1) X))
set_option maxRecDepth 20000 in
theorem wX0_hasBridge_0 {d : Nat} {o : Nat} {KI : Int32 → zMem → Prop} {X : Nat → zMem → Prop} {x1 : Int32} {x2 : Int32} {x3 : Int32} {μ : zMem} (ho : zsh o = .inr 0) (h : pX0_hasBridge d o x1 x2 x3 μ KI X) : Wr mX0_hasBridge (d + 1) 0 0 [(0, .ref o), (1, .int x1), (2, .int x2), (3, .int x3)] [] μ (kI KI X) := by
  unfold pX0_hasBridge at h
  refine Wr_aload_n dX0_hasBridge_0 rfl 0 rfl ?_
  refine Wr_getR 3 dX0_hasBridge_1 flX0_18 ho rfl (by decide) ?_
  refine Wr_iload_n dX0_hasBridge_4 rfl 1 rfl ?_
  obtain ⟨hi, h⟩ := h
  refine Wr_iald dX0_hasBridge_5 (zo0_2 ho) hi ?_
  refine Wr_aload_n dX0_hasBridge_6 rfl 0 rfl ?_
  refine Wr_getR 3 dX0_hasBridge_7 flX0_18 ho rfl (by decide) ?_
  refine Wr_iload_n dX0_hasBridge_10 rfl 2 rfl ?_
  obtain ⟨hi, h⟩ := h
  refine Wr_iald dX0_hasBridge_11 (zo0_2 ho) hi ?_
  refine Wr_isub dX0_hasBridge_12 ?_
  refine Wr_mabs dX0_hasBridge_13 mlX0_58 (Nat.le_of_ble_eq_true rfl) ?_
  refine Wr_iload_n dX0_hasBridge_16 rfl 3 rfl ?_
  refine Wr_icmp_gt 34 dX0_hasBridge_17 (by decide) (fun hc => ?_) (fun hc => ?_)
  · have h := h.1 hc
    refine Wr_iconstv (v := 0) dX0_hasBridge_34 (by decide) ?_
    exact Wr_iret .boolean dX0_hasBridge_35 rfl rfl ⟨rfl, h⟩
  · have h := h.2 hc
    refine Wr_aload_n dX0_hasBridge_20 rfl 0 rfl ?_
    refine Wr_iload_n dX0_hasBridge_21 rfl 1 rfl ?_
    refine Wr_iload_n dX0_hasBridge_22 rfl 2 rfl ?_
    refine Wr_iload_n dX0_hasBridge_23 rfl 3 rfl ?_
    refine Wr_cVi [.int x1, .int x2, .int x3] dX0_hasBridge_24 mlX0_68 mgX0_areOver rfl mvX0_areOver (zrv ho _ rfl rfl) rfl rfl (Nat.le_of_ble_eq_true rfl) rfl (zcI.imp h (fun u2 m1 h => ?_) (fun _ _ h => ⟨rfl, h⟩))
    have hj1 : Wr mX0_hasBridge (d + 1) 0 35 [(0, .ref o), (1, .int x1), (2, .int x2), (3, .int x3)] [.int (if u2 = 0 then 0 else 1)] m1 (kI KI X) := by
      exact Wr_iret .boolean dX0_hasBridge_35 rfl (znar (by (repeat' split) <;> simp)) ⟨rfl, h⟩
    refine Wr_if_eq 34 dX0_hasBridge_27 (by decide) (fun hc0 => ?_) (fun hc0 => ?_)
    · skip
      refine Wr_iconstv (v := 0) dX0_hasBridge_34 (by decide) ?_
      exact Wr_top (if_pos hc0) hj1
    · skip
      refine Wr_iconstv (v := 1) dX0_hasBridge_30 (by decide) ?_
      refine Wr_goto 35 dX0_hasBridge_31 (by decide) ?_
      exact Wr_top (if_neg hc0) hj1
theorem cX0_hasBridge_ {d : Nat} {o : Nat} {x1 : Int32} {x2 : Int32} {x3 : Int32} {μ : zMem} {KI : Int32 → zMem → Prop} {X : Nat → zMem → Prop} (ho : zsh o = .inr 0) (h : pX0_hasBridge d o x1 x2 x3 μ KI X) : zcI (d + 1) mX0_hasBridge [.ref o, .int x1, .int x2, .int x3] μ KI X :=
  Ex_of (w := 4) mgX0_hasBridge.2.2.2.2.2 rfl rfl rfl (by decide) (wX0_hasBridge_0 ho h)

def pX0_firstKnock_11 : Nat → Nat → Nat → Int32 → Int32 → Int32 → zMem → (Int32 → zMem → Prop) → (Nat → zMem → Prop) → (Int32 → Int32 → zMem → Prop) → Prop
  | 0, _, _, _, _, _, _, _, _, _ => False
  | n + 1, d, o, x1, x2, x3, μ, KI, X, C2 =>
  ((x1 ≤ x3 → ∀ v1 : Int32, v1 = x2 + 1 → C2 x1 v1 μ) ∧
  (¬ (x1 ≤ x3) → zcI d mX0_knocks [.ref o, .int x2, .int x3] μ (fun u3 m2 => ((u3 = 0 → ∀ v4 : Int32, v4 = x3 + 1 → pX0_firstKnock_11 n d o x1 x2 v4 m2 KI X C2) ∧
    (¬ (u3 = 0) → KI ((10 * x2) + x3) m2))) X))
set_option maxRecDepth 20000 in
theorem wX0_firstKnock_11 {d : Nat} {o : Nat} {KI : Int32 → zMem → Prop} {X : Nat → zMem → Prop} {C2 : Int32 → Int32 → zMem → Prop} (ho : zsh o = .inr 0) (hC2 : ∀ (x1 : Int32) (x2 : Int32) (μ : zMem), C2 x1 x2 μ → Wr mX0_firstKnock (d + 1) 0 2 [(0, .ref o), (1, .int x1), (2, .int x2)] [] μ (kI KI X)) : ∀ (n : Nat) (x1 : Int32) (x2 : Int32) (x3 : Int32) (μ : zMem), pX0_firstKnock_11 n d o x1 x2 x3 μ KI X C2 → Wr mX0_firstKnock (d + 1) 0 11 [(0, .ref o), (1, .int x1), (2, .int x2), (3, .int x3)] [] μ (kI KI X) := by
  intro n
  induction n with
  | zero =>
    intro x1 x2 x3 μ h
    exact absurd h id
  | succ n ih =>
    intro x1 x2 x3 μ h
    unfold pX0_firstKnock_11 at h
    refine Wr_iload_n dX0_firstKnock_11 rfl 3 rfl ?_
    refine Wr_iload_n dX0_firstKnock_12 rfl 1 rfl ?_
    refine Wr_icmp_ge 38 dX0_firstKnock_13 (by decide) (fun hc => ?_) (fun hc => ?_)
    · have h := h.1 hc
      obtain ⟨v1, ev1⟩ : ∃ z : Int32, z = x2 + 1 := ⟨_, rfl⟩
      have h := h v1 ev1
      refine Wr_iinc (v := v1) dX0_firstKnock_38 (q := 2) rfl (by rw [ev1]; rfl) (by decide) rfl ?_
      refine Wr_goto 2 dX0_firstKnock_41 (by decide) ?_
      refine zsub [0, 1, 2] rfl ?_
      exact hC2 _ _ _ h
    · have h := h.2 hc
      refine Wr_aload_n dX0_firstKnock_16 rfl 0 rfl ?_
      refine Wr_iload_n dX0_firstKnock_17 rfl 2 rfl ?_
      refine Wr_iload_n dX0_firstKnock_18 rfl 3 rfl ?_
      refine Wr_cVi [.int x2, .int x3] dX0_firstKnock_19 mlX0_72 mgX0_knocks rfl mvX0_knocks (zrv ho _ rfl rfl) rfl rfl (Nat.le_of_ble_eq_true rfl) rfl (zcI.imp h (fun u3 m2 h => ?_) (fun _ _ h => ⟨rfl, h⟩))
      refine Wr_if_eq 32 dX0_firstKnock_22 (by decide) (fun hc => ?_) (fun hc => ?_)
      · have h := h.1 hc
        obtain ⟨v4, ev4⟩ : ∃ z : Int32, z = x3 + 1 := ⟨_, rfl⟩
        have h := h v4 ev4
        refine Wr_iinc (v := v4) dX0_firstKnock_32 (q := 3) rfl (by rw [ev4]; rfl) (by decide) rfl ?_
        refine Wr_goto 11 dX0_firstKnock_35 (by decide) ?_
        refine zsub [0, 1, 2, 3] rfl ?_
        exact ih _ _ _ _ h
      · have h := h.2 hc
        refine Wr_bipush (v := 10) dX0_firstKnock_25 (by decide) ?_
        refine Wr_iload_n dX0_firstKnock_27 rfl 2 rfl ?_
        refine Wr_imul dX0_firstKnock_28 ?_
        refine Wr_iload_n dX0_firstKnock_29 rfl 3 rfl ?_
        refine Wr_iadd dX0_firstKnock_30 ?_
        exact Wr_iret .int dX0_firstKnock_31 rfl rfl ⟨rfl, h⟩
def pX0_firstKnock_2 : Nat → Nat → Nat → Int32 → Int32 → zMem → (Int32 → zMem → Prop) → (Nat → zMem → Prop) → Prop
  | 0, _, _, _, _, _, _, _ => False
  | n + 1, d, o, x1, x2, μ, KI, X =>
  ((x1 ≤ x2 → KI (-1) μ) ∧
  (¬ (x1 ≤ x2) → ∃ n2 : Nat, pX0_firstKnock_11 n2 d o x1 x2 (x2 + 1) μ KI X (fun z0 z1 m => pX0_firstKnock_2 n d o z0 z1 m KI X)))
set_option maxRecDepth 20000 in
theorem wX0_firstKnock_2 {d : Nat} {o : Nat} {KI : Int32 → zMem → Prop} {X : Nat → zMem → Prop} (ho : zsh o = .inr 0) : ∀ (n : Nat) (x1 : Int32) (x2 : Int32) (μ : zMem), pX0_firstKnock_2 n d o x1 x2 μ KI X → Wr mX0_firstKnock (d + 1) 0 2 [(0, .ref o), (1, .int x1), (2, .int x2)] [] μ (kI KI X) := by
  intro n
  induction n with
  | zero =>
    intro x1 x2 μ h
    exact absurd h id
  | succ n ih =>
    intro x1 x2 μ h
    unfold pX0_firstKnock_2 at h
    refine Wr_iload_n dX0_firstKnock_2 rfl 2 rfl ?_
    refine Wr_iload_n dX0_firstKnock_3 rfl 1 rfl ?_
    refine Wr_icmp_ge 44 dX0_firstKnock_4 (by decide) (fun hc => ?_) (fun hc => ?_)
    · have h := h.1 hc
      refine Wr_iconstv (v := (-1)) dX0_firstKnock_44 (by decide) ?_
      exact Wr_iret .int dX0_firstKnock_45 rfl rfl ⟨rfl, h⟩
    · have h := h.2 hc
      refine Wr_iload_n dX0_firstKnock_7 rfl 2 rfl ?_
      refine Wr_iconstv (v := 1) dX0_firstKnock_8 (by decide) ?_
      refine Wr_iadd dX0_firstKnock_9 ?_
      refine Wr_istore_n dX0_firstKnock_10 rfl (by decide) rfl ?_
      refine zsub [0, 1, 2, 3] rfl ?_
      obtain ⟨n9, h⟩ := h
      exact wX0_firstKnock_11 ho (fun z0 z1 m h => ih z0 z1 m h) n9 _ _ _ _ h
def pX0_firstKnock (d : Nat) (o : Nat) (x1 : Int32) (μ : zMem) (KI : Int32 → zMem → Prop) (X : Nat → zMem → Prop) : Prop :=
  ∃ n2 : Nat, pX0_firstKnock_2 n2 d o x1 0 μ KI X
set_option maxRecDepth 20000 in
theorem wX0_firstKnock_0 {d : Nat} {o : Nat} {KI : Int32 → zMem → Prop} {X : Nat → zMem → Prop} {x1 : Int32} {μ : zMem} (ho : zsh o = .inr 0) (h : pX0_firstKnock d o x1 μ KI X) : Wr mX0_firstKnock (d + 1) 0 0 [(0, .ref o), (1, .int x1)] [] μ (kI KI X) := by
  unfold pX0_firstKnock at h
  refine Wr_iconstv (v := 0) dX0_firstKnock_0 (by decide) ?_
  refine Wr_istore_n dX0_firstKnock_1 rfl (by decide) rfl ?_
  refine zsub [0, 1, 2] rfl ?_
  obtain ⟨n9, h⟩ := h
  exact wX0_firstKnock_2 ho n9 _ _ _ h
theorem cX0_firstKnock_ {d : Nat} {o : Nat} {x1 : Int32} {μ : zMem} {KI : Int32 → zMem → Prop} {X : Nat → zMem → Prop} (ho : zsh o = .inr 0) (h : pX0_firstKnock d o x1 μ KI X) : zcI (d + 1) mX0_firstKnock [.ref o, .int x1] μ KI X :=
  Ex_of (w := 2) mgX0_firstKnock.2.2.2.2.2 rfl rfl rfl (by decide) (wX0_firstKnock_0 ho h)

def pX0_rainFrom_37 (d : Nat) (o : Nat) (x1 : Int32) (x2 : Int32) (x3 : Int32) (x4 : Int32) (y0 : Int32) (μ : zMem) (KI : Int32 → zMem → Prop) (X : Nat → zMem → Prop) (C5 : Int32 → Int32 → Int32 → Int32 → zMem → Prop) : Prop :=
  ((y0 = 0 → ∀ v1 : Int32, v1 = x4 + 1 → C5 x1 x2 x3 v1 μ) ∧
  (¬ (y0 = 0) → ((x4 = x1 → ∀ v2 : Int32, v2 = x4 + 1 → C5 x1 x2 x3 v2 μ) ∧
    (¬ (x4 = x1) → zcI d mX0_isShaded [.ref o, .int x1, .int x4] μ (fun u4 m3 => ((u4 = 0 → ∀ v5 : Int32, v5 = x4 + 1 → C5 x1 x2 x3 v5 m3) ∧
      (¬ (u4 = 0) → ∀ v6 : Int32, v6 = x4 + 1 → C5 x1 x2 x4 v6 m3))) X))))
set_option maxRecDepth 20000 in
theorem wX0_rainFrom_37 {d : Nat} {o : Nat} {KI : Int32 → zMem → Prop} {X : Nat → zMem → Prop} {C5 : Int32 → Int32 → Int32 → Int32 → zMem → Prop} {x1 : Int32} {x2 : Int32} {x3 : Int32} {x4 : Int32} {y0 : Int32} {μ : zMem} (ho : zsh o = .inr 0) (hC5 : ∀ (x1 : Int32) (x2 : Int32) (x3 : Int32) (x4 : Int32) (μ : zMem), C5 x1 x2 x3 x4 μ → Wr mX0_rainFrom (d + 1) 0 5 [(0, .ref o), (1, .int x1), (2, .int x2), (3, .int x3), (4, .int x4)] [] μ (kI KI X)) (h : pX0_rainFrom_37 d o x1 x2 x3 x4 y0 μ KI X C5) : Wr mX0_rainFrom (d + 1) 0 37 [(0, .ref o), (1, .int x1), (2, .int x2), (3, .int x3), (4, .int x4)] [.int y0] μ (kI KI X) := by
  unfold pX0_rainFrom_37 at h
  refine Wr_istore dX0_rainFrom_37 (by decide) rfl ?_
  refine Wr_iload dX0_rainFrom_39 0 rfl ?_
  refine Wr_if_eq 63 dX0_rainFrom_41 (by decide) (fun hc => ?_) (fun hc => ?_)
  · have h := h.1 hc
    obtain ⟨v1, ev1⟩ : ∃ z : Int32, z = x4 + 1 := ⟨_, rfl⟩
    have h := h v1 ev1
    refine Wr_iinc (v := v1) dX0_rainFrom_63 (q := 5) rfl (by rw [ev1]; rfl) (by decide) rfl ?_
    refine Wr_goto 5 dX0_rainFrom_66 (by decide) ?_
    refine zsub [0, 1, 2, 3, 4] rfl ?_
    exact hC5 _ _ _ _ _ h
  · have h := h.2 hc
    refine Wr_iload dX0_rainFrom_44 5 rfl ?_
    refine Wr_iload_n dX0_rainFrom_46 rfl 2 rfl ?_
    refine Wr_icmp_eq 63 dX0_rainFrom_47 (by decide) (fun hc => ?_) (fun hc => ?_)
    · have h := h.1 hc
      obtain ⟨v2, ev2⟩ : ∃ z : Int32, z = x4 + 1 := ⟨_, rfl⟩
      have h := h v2 ev2
      refine Wr_iinc (v := v2) dX0_rainFrom_63 (q := 5) rfl (by rw [ev2]; rfl) (by decide) rfl ?_
      refine Wr_goto 5 dX0_rainFrom_66 (by decide) ?_
      refine zsub [0, 1, 2, 3, 4] rfl ?_
      exact hC5 _ _ _ _ _ h
    · have h := h.2 hc
      refine Wr_aload_n dX0_rainFrom_50 rfl 1 rfl ?_
      refine Wr_iload_n dX0_rainFrom_51 rfl 2 rfl ?_
      refine Wr_iload dX0_rainFrom_52 5 rfl ?_
      refine Wr_cVi [.int x1, .int x4] dX0_rainFrom_54 mlX0_76 mgX0_isShaded rfl mvX0_isShaded (zrv ho _ rfl rfl) rfl rfl (Nat.le_of_ble_eq_true rfl) rfl (zcI.imp h (fun u4 m3 h => ?_) (fun _ _ h => ⟨rfl, h⟩))
      refine Wr_if_eq 63 dX0_rainFrom_57 (by decide) (fun hc => ?_) (fun hc => ?_)
      · have h := h.1 hc
        obtain ⟨v5, ev5⟩ : ∃ z : Int32, z = x4 + 1 := ⟨_, rfl⟩
        have h := h v5 ev5
        refine Wr_iinc (v := v5) dX0_rainFrom_63 (q := 5) rfl (by rw [ev5]; rfl) (by decide) rfl ?_
        refine Wr_goto 5 dX0_rainFrom_66 (by decide) ?_
        refine zsub [0, 1, 2, 3, 4] rfl ?_
        exact hC5 _ _ _ _ _ h
      · have h := h.2 hc
        refine Wr_iload dX0_rainFrom_60 5 rfl ?_
        refine Wr_istore_n dX0_rainFrom_62 rfl (by decide) rfl ?_
        obtain ⟨v6, ev6⟩ : ∃ z : Int32, z = x4 + 1 := ⟨_, rfl⟩
        have h := h v6 ev6
        refine Wr_iinc (v := v6) dX0_rainFrom_63 (q := 5) rfl (by rw [ev6]; rfl) (by decide) rfl ?_
        refine Wr_goto 5 dX0_rainFrom_66 (by decide) ?_
        refine zsub [0, 1, 2, 3, 4] rfl ?_
        exact hC5 _ _ _ _ _ h
def pX0_rainFrom_5 : Nat → Nat → Nat → Int32 → Int32 → Int32 → Int32 → zMem → (Int32 → zMem → Prop) → (Nat → zMem → Prop) → Prop
  | 0, _, _, _, _, _, _, _, _, _ => False
  | n + 1, d, o, x1, x2, x3, x4, μ, KI, X =>
  ((x2 ≤ x4 → KI x3 μ) ∧
  (¬ (x2 ≤ x4) → ((x3 = (-1) → pX0_rainFrom_37 d o x1 x2 x3 x4 1 μ KI X (fun z0 z1 z2 z3 m => pX0_rainFrom_5 n d o z0 z1 z2 z3 m KI X)) ∧
    (¬ (x3 = (-1)) → (vp_in x4 36) ∧ (vp_in x3 36) ∧ ∀ v1 : Int32, v1 = (if μ (o + 3) x3.toNatClampNeg ≤ μ (o + 3) x4.toNatClampNeg then 0 else 1) → ((v1 = 0 → ∀ v2 : Int32, v2 = x4 + 1 → pX0_rainFrom_5 n d o x1 x2 x3 v2 μ KI X) ∧
      (¬ (v1 = 0) → ((x4 = x1 → ∀ v3 : Int32, v3 = x4 + 1 → pX0_rainFrom_5 n d o x1 x2 x3 v3 μ KI X) ∧
        (¬ (x4 = x1) → zcI d mX0_isShaded [.ref o, .int x1, .int x4] μ (fun u5 m4 => ((u5 = 0 → ∀ v6 : Int32, v6 = x4 + 1 → pX0_rainFrom_5 n d o x1 x2 x3 v6 m4 KI X) ∧
          (¬ (u5 = 0) → ∀ v7 : Int32, v7 = x4 + 1 → pX0_rainFrom_5 n d o x1 x2 x4 v7 m4 KI X))) X))))))))
set_option maxRecDepth 20000 in
theorem wX0_rainFrom_5 {d : Nat} {o : Nat} {KI : Int32 → zMem → Prop} {X : Nat → zMem → Prop} (ho : zsh o = .inr 0) : ∀ (n : Nat) (x1 : Int32) (x2 : Int32) (x3 : Int32) (x4 : Int32) (μ : zMem), pX0_rainFrom_5 n d o x1 x2 x3 x4 μ KI X → Wr mX0_rainFrom (d + 1) 0 5 [(0, .ref o), (1, .int x1), (2, .int x2), (3, .int x3), (4, .int x4)] [] μ (kI KI X) := by
  intro n
  induction n with
  | zero =>
    intro x1 x2 x3 x4 μ h
    exact absurd h id
  | succ n ih =>
    intro x1 x2 x3 x4 μ h
    unfold pX0_rainFrom_5 at h
    refine Wr_iload dX0_rainFrom_5 4 rfl ?_
    refine Wr_iload_n dX0_rainFrom_7 rfl 2 rfl ?_
    refine Wr_icmp_ge 69 dX0_rainFrom_8 (by decide) (fun hc => ?_) (fun hc => ?_)
    · have h := h.1 hc
      refine Wr_iload_n dX0_rainFrom_69 rfl 3 rfl ?_
      exact Wr_iret .int dX0_rainFrom_70 rfl rfl ⟨rfl, h⟩
    · have h := h.2 hc
      refine Wr_iload_n dX0_rainFrom_11 rfl 3 rfl ?_
      refine Wr_iconstv (v := (-1)) dX0_rainFrom_12 (by decide) ?_
      refine Wr_icmp_eq 32 dX0_rainFrom_13 (by decide) (fun hc => ?_) (fun hc => ?_)
      · have h := h.1 hc
        refine Wr_iconstv (v := 1) dX0_rainFrom_32 (by decide) ?_
        refine Wr_goto 37 dX0_rainFrom_33 (by decide) ?_
        refine zsub [0, 1, 2, 3, 4] rfl ?_
        exact wX0_rainFrom_37 ho (fun z0 z1 z2 z3 m h => ih z0 z1 z2 z3 m h) h
      · have h := h.2 hc
        refine Wr_aload_n dX0_rainFrom_16 rfl 0 rfl ?_
        refine Wr_getR 3 dX0_rainFrom_17 flX0_18 ho rfl (by decide) ?_
        refine Wr_iload dX0_rainFrom_20 4 rfl ?_
        obtain ⟨hi, h⟩ := h
        refine Wr_iald dX0_rainFrom_22 (zo0_2 ho) hi ?_
        refine Wr_aload_n dX0_rainFrom_23 rfl 0 rfl ?_
        refine Wr_getR 3 dX0_rainFrom_24 flX0_18 ho rfl (by decide) ?_
        refine Wr_iload_n dX0_rainFrom_27 rfl 3 rfl ?_
        obtain ⟨hi, h⟩ := h
        refine Wr_iald dX0_rainFrom_28 (zo0_2 ho) hi ?_
        have hj1 : Wr mX0_rainFrom (d + 1) 0 37 [(0, .ref o), (1, .int x1), (2, .int x2), (3, .int x3), (4, .int x4)] [.int (if μ (o + 3) x3.toNatClampNeg ≤ μ (o + 3) x4.toNatClampNeg then 0 else 1)] μ (kI KI X) := by
          obtain ⟨v1, ev1⟩ : ∃ z : Int32, z = (if μ (o + 3) x3.toNatClampNeg ≤ μ (o + 3) x4.toNatClampNeg then 0 else 1) := ⟨_, rfl⟩
          have h := h v1 ev1
          refine Wr_top ev1 ?_
          refine Wr_istore dX0_rainFrom_37 (by decide) rfl ?_
          refine Wr_iload dX0_rainFrom_39 0 rfl ?_
          refine Wr_if_eq 63 dX0_rainFrom_41 (by decide) (fun hc => ?_) (fun hc => ?_)
          · have h := h.1 hc
            obtain ⟨v2, ev2⟩ : ∃ z : Int32, z = x4 + 1 := ⟨_, rfl⟩
            have h := h v2 ev2
            refine Wr_iinc (v := v2) dX0_rainFrom_63 (q := 5) rfl (by rw [ev2]; rfl) (by decide) rfl ?_
            refine Wr_goto 5 dX0_rainFrom_66 (by decide) ?_
            refine zsub [0, 1, 2, 3, 4] rfl ?_
            exact ih _ _ _ _ _ h
          · have h := h.2 hc
            refine Wr_iload dX0_rainFrom_44 5 rfl ?_
            refine Wr_iload_n dX0_rainFrom_46 rfl 2 rfl ?_
            refine Wr_icmp_eq 63 dX0_rainFrom_47 (by decide) (fun hc => ?_) (fun hc => ?_)
            · have h := h.1 hc
              obtain ⟨v3, ev3⟩ : ∃ z : Int32, z = x4 + 1 := ⟨_, rfl⟩
              have h := h v3 ev3
              refine Wr_iinc (v := v3) dX0_rainFrom_63 (q := 5) rfl (by rw [ev3]; rfl) (by decide) rfl ?_
              refine Wr_goto 5 dX0_rainFrom_66 (by decide) ?_
              refine zsub [0, 1, 2, 3, 4] rfl ?_
              exact ih _ _ _ _ _ h
            · have h := h.2 hc
              refine Wr_aload_n dX0_rainFrom_50 rfl 1 rfl ?_
              refine Wr_iload_n dX0_rainFrom_51 rfl 2 rfl ?_
              refine Wr_iload dX0_rainFrom_52 5 rfl ?_
              refine Wr_cVi [.int x1, .int x4] dX0_rainFrom_54 mlX0_76 mgX0_isShaded rfl mvX0_isShaded (zrv ho _ rfl rfl) rfl rfl (Nat.le_of_ble_eq_true rfl) rfl (zcI.imp h (fun u5 m4 h => ?_) (fun _ _ h => ⟨rfl, h⟩))
              refine Wr_if_eq 63 dX0_rainFrom_57 (by decide) (fun hc => ?_) (fun hc => ?_)
              · have h := h.1 hc
                obtain ⟨v6, ev6⟩ : ∃ z : Int32, z = x4 + 1 := ⟨_, rfl⟩
                have h := h v6 ev6
                refine Wr_iinc (v := v6) dX0_rainFrom_63 (q := 5) rfl (by rw [ev6]; rfl) (by decide) rfl ?_
                refine Wr_goto 5 dX0_rainFrom_66 (by decide) ?_
                refine zsub [0, 1, 2, 3, 4] rfl ?_
                exact ih _ _ _ _ _ h
              · have h := h.2 hc
                refine Wr_iload dX0_rainFrom_60 5 rfl ?_
                refine Wr_istore_n dX0_rainFrom_62 rfl (by decide) rfl ?_
                obtain ⟨v7, ev7⟩ : ∃ z : Int32, z = x4 + 1 := ⟨_, rfl⟩
                have h := h v7 ev7
                refine Wr_iinc (v := v7) dX0_rainFrom_63 (q := 5) rfl (by rw [ev7]; rfl) (by decide) rfl ?_
                refine Wr_goto 5 dX0_rainFrom_66 (by decide) ?_
                refine zsub [0, 1, 2, 3, 4] rfl ?_
                exact ih _ _ _ _ _ h
        refine Wr_icmp_ge 36 dX0_rainFrom_29 (by decide) (fun hc0 => ?_) (fun hc0 => ?_)
        · skip
          refine Wr_iconstv (v := 0) dX0_rainFrom_36 (by decide) ?_
          exact Wr_top (if_pos hc0) hj1
        · skip
          refine Wr_iconstv (v := 1) dX0_rainFrom_32 (by decide) ?_
          refine Wr_goto 37 dX0_rainFrom_33 (by decide) ?_
          exact Wr_top (if_neg hc0) hj1
def pX0_rainFrom (d : Nat) (o : Nat) (x1 : Int32) (x2 : Int32) (μ : zMem) (KI : Int32 → zMem → Prop) (X : Nat → zMem → Prop) : Prop :=
  ∃ n2 : Nat, pX0_rainFrom_5 n2 d o x1 x2 (-1) 0 μ KI X
set_option maxRecDepth 20000 in
theorem wX0_rainFrom_0 {d : Nat} {o : Nat} {KI : Int32 → zMem → Prop} {X : Nat → zMem → Prop} {x1 : Int32} {x2 : Int32} {μ : zMem} (ho : zsh o = .inr 0) (h : pX0_rainFrom d o x1 x2 μ KI X) : Wr mX0_rainFrom (d + 1) 0 0 [(0, .ref o), (1, .int x1), (2, .int x2)] [] μ (kI KI X) := by
  unfold pX0_rainFrom at h
  refine Wr_iconstv (v := (-1)) dX0_rainFrom_0 (by decide) ?_
  refine Wr_istore_n dX0_rainFrom_1 rfl (by decide) rfl ?_
  refine Wr_iconstv (v := 0) dX0_rainFrom_2 (by decide) ?_
  refine Wr_istore dX0_rainFrom_3 (by decide) rfl ?_
  refine zsub [0, 1, 2, 3, 4] rfl ?_
  obtain ⟨n9, h⟩ := h
  exact wX0_rainFrom_5 ho n9 _ _ _ _ _ h
theorem cX0_rainFrom_ {d : Nat} {o : Nat} {x1 : Int32} {x2 : Int32} {μ : zMem} {KI : Int32 → zMem → Prop} {X : Nat → zMem → Prop} (ho : zsh o = .inr 0) (h : pX0_rainFrom d o x1 x2 μ KI X) : zcI (d + 1) mX0_rainFrom [.ref o, .int x1, .int x2] μ KI X :=
  Ex_of (w := 3) mgX0_rainFrom.2.2.2.2.2 rfl rfl rfl (by decide) (wX0_rainFrom_0 ho h)

def pX0_lower_5 : Nat → Nat → Nat → Int32 → Int32 → Int32 → Int32 → zMem → (Int32 → zMem → Prop) → (Nat → zMem → Prop) → Prop
  | 0, _, _, _, _, _, _, _, _, _ => False
  | n + 1, d, o, x1, x2, x3, x4, μ, KI, X =>
  ((x2 ≤ x4 → KI x3 μ) ∧
  (¬ (x2 ≤ x4) → (vp_in x4 36) ∧ (vp_in x1 36) ∧ ((μ (o + 3) x1.toNatClampNeg ≤ μ (o + 3) x4.toNatClampNeg → ∀ v1 : Int32, v1 = x4 + 1 → pX0_lower_5 n d o x1 x2 x3 v1 μ KI X) ∧
    (¬ (μ (o + 3) x1.toNatClampNeg ≤ μ (o + 3) x4.toNatClampNeg) → ∀ v2 : Int32, v2 = x3 + 1 → ∀ v3 : Int32, v3 = x4 + 1 → pX0_lower_5 n d o x1 x2 v2 v3 μ KI X))))
set_option maxRecDepth 20000 in
theorem wX0_lower_5 {d : Nat} {o : Nat} {KI : Int32 → zMem → Prop} {X : Nat → zMem → Prop} (ho : zsh o = .inr 0) : ∀ (n : Nat) (x1 : Int32) (x2 : Int32) (x3 : Int32) (x4 : Int32) (μ : zMem), pX0_lower_5 n d o x1 x2 x3 x4 μ KI X → Wr mX0_lower (d + 1) 0 5 [(0, .ref o), (1, .int x1), (2, .int x2), (3, .int x3), (4, .int x4)] [] μ (kI KI X) := by
  intro n
  induction n with
  | zero =>
    intro x1 x2 x3 x4 μ h
    exact absurd h id
  | succ n ih =>
    intro x1 x2 x3 x4 μ h
    unfold pX0_lower_5 at h
    refine Wr_iload dX0_lower_5 4 rfl ?_
    refine Wr_iload_n dX0_lower_7 rfl 2 rfl ?_
    refine Wr_icmp_ge 36 dX0_lower_8 (by decide) (fun hc => ?_) (fun hc => ?_)
    · have h := h.1 hc
      refine Wr_iload_n dX0_lower_36 rfl 3 rfl ?_
      exact Wr_iret .int dX0_lower_37 rfl rfl ⟨rfl, h⟩
    · have h := h.2 hc
      refine Wr_aload_n dX0_lower_11 rfl 0 rfl ?_
      refine Wr_getR 3 dX0_lower_12 flX0_18 ho rfl (by decide) ?_
      refine Wr_iload dX0_lower_15 4 rfl ?_
      obtain ⟨hi, h⟩ := h
      refine Wr_iald dX0_lower_17 (zo0_2 ho) hi ?_
      refine Wr_aload_n dX0_lower_18 rfl 0 rfl ?_
      refine Wr_getR 3 dX0_lower_19 flX0_18 ho rfl (by decide) ?_
      refine Wr_iload_n dX0_lower_22 rfl 1 rfl ?_
      obtain ⟨hi, h⟩ := h
      refine Wr_iald dX0_lower_23 (zo0_2 ho) hi ?_
      refine Wr_icmp_ge 30 dX0_lower_24 (by decide) (fun hc => ?_) (fun hc => ?_)
      · have h := h.1 hc
        obtain ⟨v1, ev1⟩ : ∃ z : Int32, z = x4 + 1 := ⟨_, rfl⟩
        have h := h v1 ev1
        refine Wr_iinc (v := v1) dX0_lower_30 (q := 4) rfl (by rw [ev1]; rfl) (by decide) rfl ?_
        refine Wr_goto 5 dX0_lower_33 (by decide) ?_
        refine zsub [0, 1, 2, 3, 4] rfl ?_
        exact ih _ _ _ _ _ h
      · have h := h.2 hc
        obtain ⟨v2, ev2⟩ : ∃ z : Int32, z = x3 + 1 := ⟨_, rfl⟩
        have h := h v2 ev2
        refine Wr_iinc (v := v2) dX0_lower_27 (q := 3) rfl (by rw [ev2]; rfl) (by decide) rfl ?_
        obtain ⟨v3, ev3⟩ : ∃ z : Int32, z = x4 + 1 := ⟨_, rfl⟩
        have h := h v3 ev3
        refine Wr_iinc (v := v3) dX0_lower_30 (q := 4) rfl (by rw [ev3]; rfl) (by decide) rfl ?_
        refine Wr_goto 5 dX0_lower_33 (by decide) ?_
        refine zsub [0, 1, 2, 3, 4] rfl ?_
        exact ih _ _ _ _ _ h
def pX0_lower (d : Nat) (o : Nat) (x1 : Int32) (x2 : Int32) (μ : zMem) (KI : Int32 → zMem → Prop) (X : Nat → zMem → Prop) : Prop :=
  ∃ n2 : Nat, pX0_lower_5 n2 d o x1 x2 0 0 μ KI X
set_option maxRecDepth 20000 in
theorem wX0_lower_0 {d : Nat} {o : Nat} {KI : Int32 → zMem → Prop} {X : Nat → zMem → Prop} {x1 : Int32} {x2 : Int32} {μ : zMem} (ho : zsh o = .inr 0) (h : pX0_lower d o x1 x2 μ KI X) : Wr mX0_lower (d + 1) 0 0 [(0, .ref o), (1, .int x1), (2, .int x2)] [] μ (kI KI X) := by
  unfold pX0_lower at h
  refine Wr_iconstv (v := 0) dX0_lower_0 (by decide) ?_
  refine Wr_istore_n dX0_lower_1 rfl (by decide) rfl ?_
  refine Wr_iconstv (v := 0) dX0_lower_2 (by decide) ?_
  refine Wr_istore dX0_lower_3 (by decide) rfl ?_
  refine zsub [0, 1, 2, 3, 4] rfl ?_
  obtain ⟨n9, h⟩ := h
  exact wX0_lower_5 ho n9 _ _ _ _ _ h
theorem cX0_lower_ {d : Nat} {o : Nat} {x1 : Int32} {x2 : Int32} {μ : zMem} {KI : Int32 → zMem → Prop} {X : Nat → zMem → Prop} (ho : zsh o = .inr 0) (h : pX0_lower d o x1 x2 μ KI X) : zcI (d + 1) mX0_lower [.ref o, .int x1, .int x2] μ KI X :=
  Ex_of (w := 3) mgX0_lower.2.2.2.2.2 rfl rfl rfl (by decide) (wX0_lower_0 ho h)
