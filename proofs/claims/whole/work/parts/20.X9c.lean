def pX9_isle_25 (d : Nat) (μ : zMem) (KI : Int32 → zMem → Prop) (X : Nat → zMem → Prop) : Prop :=
  zcI d mX9_fail [.ref 106, .int 1] μ (fun u2 m1 => KI u2 m1) X
set_option maxRecDepth 20000 in
theorem wX9_isle_25 {d : Nat} {KI : Int32 → zMem → Prop} {X : Nat → zMem → Prop} {μ : zMem} (h : pX9_isle_25 d μ KI X) : Wr mX9_isle (d + 1) 0 25 [(0, .ref 106)] [] μ (kI KI X) := by
  unfold pX9_isle_25 at h
  refine Wr_aload_n dX9_isle_25 rfl 0 rfl ?_
  refine Wr_iconstv (v := 1) dX9_isle_26 (by decide) ?_
  refine Wr_cVi [.int 1] dX9_isle_27 mlX9_297 mgX9_fail rfl mvX9_fail (zrv zl106 _ rfl rfl) rfl rfl (Nat.le_of_ble_eq_true rfl) rfl (zcI.imp h (fun u2 m1 h => ?_) (fun _ _ h => ⟨rfl, h⟩))
  exact Wr_iret .int dX9_isle_30 rfl rfl ⟨rfl, h⟩
def pX9_isle (d : Nat) (x1 : Int32) (x2 : Int32) (μ : zMem) (KI : Int32 → zMem → Prop) (X : Nat → zMem → Prop) : Prop :=
  ∀ m1 : zMem, m1 = zw μ 106 3 0 → zcI d mX9_isIsle [.ref 106, .int x1] m1 (fun u3 m2 => ((u3 = 0 → pX9_isle_25 d m2 KI X) ∧
  (¬ (u3 = 0) → zcI d mX9_isIn [.long x2.toInt64, .long 0, .long 15] m2 (fun u5 m4 => ((u5 = 0 → pX9_isle_25 d m4 KI X) ∧
    (¬ (u5 = 0) → ((10 ≤ x2 → ((x2 = 10 → zcI d mX9_weightOf [.ref 106, .int x1] m4 (fun u11 m10 => KI u11 m10) X) ∧
        (¬ (x2 = 10) → ((x2 = 11 → zcI d mX9_floats [.ref 106, .int x1] m4 (fun u9 m8 => KI (if u9 = 0 then 0 else 1) m8) X) ∧
          (¬ (x2 = 11) → zcI d mX9_of [.ref 106, .int x1, .int (x2 - 2)] m4 (fun u7 m6 => KI u7 m6) X))))) ∧
      (¬ (10 ≤ x2) → zcI d mX9_of [.ref 106, .int x1, .int x2] m4 (fun u13 m12 => KI u13 m12) X))))) X))) X
set_option maxRecDepth 20000 in
theorem wX9_isle_0 {d : Nat} {KI : Int32 → zMem → Prop} {X : Nat → zMem → Prop} {x1 : Int32} {x2 : Int32} {μ : zMem} (h : pX9_isle d x1 x2 μ KI X) : Wr mX9_isle (d + 1) 0 0 [(0, .ref 106), (1, .int x1), (2, .int x2)] [] μ (kI KI X) := by
  unfold pX9_isle at h
  refine Wr_aload_n dX9_isle_0 rfl 0 rfl ?_
  refine Wr_iconstv (v := 0) dX9_isle_1 (by decide) ?_
  obtain ⟨m1, em1⟩ : ∃ z : zMem, z = zw μ 106 3 0 := ⟨_, rfl⟩
  have h := h m1 em1
  refine Wr_putI dX9_isle_2 fpX9_155 zl106 rfl ?_
  refine Wr_mu em1 ?_
  refine Wr_aload_n dX9_isle_5 rfl 0 rfl ?_
  refine Wr_iload_n dX9_isle_6 rfl 1 rfl ?_
  refine Wr_cVi [.int x1] dX9_isle_7 mlX9_384 mgX9_isIsle rfl mvX9_isIsle (zrv zl106 _ rfl rfl) rfl rfl (Nat.le_of_ble_eq_true rfl) rfl (zcI.imp h (fun u3 m2 h => ?_) (fun _ _ h => ⟨rfl, h⟩))
  refine Wr_if_eq 25 dX9_isle_10 (by decide) (fun hc => ?_) (fun hc => ?_)
  · have h := h.1 hc
    refine zsub [0] rfl ?_
    exact wX9_isle_25 h
  · have h := h.2 hc
    refine Wr_iload_n dX9_isle_13 rfl 2 rfl ?_
    refine Wr_i2l dX9_isle_14 ?_
    refine Wr_lconst (v := 0) dX9_isle_15 (by decide) ?_
    refine Wr_ldc2 dX9_isle_16 lcX9_387 ?_
    refine Wr_cSi [.long x2.toInt64, .long 0, .long 15] dX9_isle_19 mlX9_158 mgX9_isIn rfl msX9_isIn  rfl rfl (Nat.le_of_ble_eq_true rfl) rfl (zcI.imp h (fun u5 m4 h => ?_) (fun _ _ h => ⟨rfl, h⟩))
    refine Wr_if_ne 31 dX9_isle_22 (by decide) (fun hc => ?_) (fun hc => ?_)
    · have h := h.2 hc
      refine Wr_iload_n dX9_isle_31 rfl 2 rfl ?_
      refine Wr_bipush (v := 10) dX9_isle_32 (by decide) ?_
      refine Wr_icmp_ge 46 dX9_isle_34 (by decide) (fun hc => ?_) (fun hc => ?_)
      · have h := h.1 hc
        refine Wr_iload_n dX9_isle_46 rfl 2 rfl ?_
        refine Wr_bipush (v := 10) dX9_isle_47 (by decide) ?_
        refine Wr_icmp_ne 60 dX9_isle_49 (by decide) (fun hc => ?_) (fun hc => ?_)
        · have h := h.2 hc
          refine Wr_iload_n dX9_isle_60 rfl 2 rfl ?_
          refine Wr_bipush (v := 11) dX9_isle_61 (by decide) ?_
          refine Wr_icmp_ne 82 dX9_isle_63 (by decide) (fun hc => ?_) (fun hc => ?_)
          · have h := h.2 hc
            refine Wr_aload_n dX9_isle_82 rfl 0 rfl ?_
            refine Wr_iload_n dX9_isle_83 rfl 1 rfl ?_
            refine Wr_iload_n dX9_isle_84 rfl 2 rfl ?_
            refine Wr_iconstv (v := 2) dX9_isle_85 (by decide) ?_
            refine Wr_isub dX9_isle_86 ?_
            refine Wr_cVi [.int x1, .int (x2 - 2)] dX9_isle_87 mlX9_330 mgX9_of rfl mvX9_of (zrv zl106 _ rfl rfl) rfl rfl (Nat.le_of_ble_eq_true rfl) rfl (zcI.imp h (fun u7 m6 h => ?_) (fun _ _ h => ⟨rfl, h⟩))
            exact Wr_iret .int dX9_isle_90 rfl rfl ⟨rfl, h⟩
          · have h := h.1 hc
            refine Wr_aload_n dX9_isle_66 rfl 0 rfl ?_
            refine Wr_iload_n dX9_isle_67 rfl 1 rfl ?_
            refine Wr_cVi [.int x1] dX9_isle_68 mlX9_351 mgX9_floats rfl mvX9_floats (zrv zl106 _ rfl rfl) rfl rfl (Nat.le_of_ble_eq_true rfl) rfl (zcI.imp h (fun u9 m8 h => ?_) (fun _ _ h => ⟨rfl, h⟩))
            have hj1 : Wr mX9_isle (d + 1) 0 90 [(0, .ref 106), (1, .int x1), (2, .int x2)] [.int (if u9 = 0 then 0 else 1)] m8 (kI KI X) := by
              exact Wr_iret .int dX9_isle_90 rfl rfl ⟨rfl, h⟩
            refine Wr_if_eq 78 dX9_isle_71 (by decide) (fun hc0 => ?_) (fun hc0 => ?_)
            · skip
              refine Wr_iconstv (v := 0) dX9_isle_78 (by decide) ?_
              refine Wr_goto 90 dX9_isle_79 (by decide) ?_
              exact Wr_top (if_pos hc0) hj1
            · skip
              refine Wr_iconstv (v := 1) dX9_isle_74 (by decide) ?_
              refine Wr_goto 90 dX9_isle_75 (by decide) ?_
              exact Wr_top (if_neg hc0) hj1
        · have h := h.1 hc
          refine Wr_aload_n dX9_isle_52 rfl 0 rfl ?_
          refine Wr_iload_n dX9_isle_53 rfl 1 rfl ?_
          refine Wr_cVi [.int x1] dX9_isle_54 mlX9_336 mgX9_weightOf rfl mvX9_weightOf (zrv zl106 _ rfl rfl) rfl rfl (Nat.le_of_ble_eq_true rfl) rfl (zcI.imp h (fun u11 m10 h => ?_) (fun _ _ h => ⟨rfl, h⟩))
          refine Wr_goto 90 dX9_isle_57 (by decide) ?_
          exact Wr_iret .int dX9_isle_90 rfl rfl ⟨rfl, h⟩
      · have h := h.2 hc
        refine Wr_aload_n dX9_isle_37 rfl 0 rfl ?_
        refine Wr_iload_n dX9_isle_38 rfl 1 rfl ?_
        refine Wr_iload_n dX9_isle_39 rfl 2 rfl ?_
        refine Wr_cVi [.int x1, .int x2] dX9_isle_40 mlX9_330 mgX9_of rfl mvX9_of (zrv zl106 _ rfl rfl) rfl rfl (Nat.le_of_ble_eq_true rfl) rfl (zcI.imp h (fun u13 m12 h => ?_) (fun _ _ h => ⟨rfl, h⟩))
        refine Wr_goto 90 dX9_isle_43 (by decide) ?_
        exact Wr_iret .int dX9_isle_90 rfl rfl ⟨rfl, h⟩
    · have h := h.1 hc
      refine zsub [0] rfl ?_
      exact wX9_isle_25 h
theorem cX9_isle_ {d : Nat} {x1 : Int32} {x2 : Int32} {μ : zMem} {KI : Int32 → zMem → Prop} {X : Nat → zMem → Prop} (h : pX9_isle d x1 x2 μ KI X) : zcI (d + 1) mX9_isle [.ref 106, .int x1, .int x2] μ KI X :=
  Ex_of (w := 3) mgX9_isle.2.2.2.2.2 rfl rfl rfl (by decide) (wX9_isle_0 h)

def pX9_wind_21 (d : Nat) (μ : zMem) (KI : Int32 → zMem → Prop) (X : Nat → zMem → Prop) : Prop :=
  zcI d mX9_fail [.ref 106, .int 1] μ (fun u2 m1 => KI u2 m1) X
set_option maxRecDepth 20000 in
theorem wX9_wind_21 {d : Nat} {KI : Int32 → zMem → Prop} {X : Nat → zMem → Prop} {μ : zMem} (h : pX9_wind_21 d μ KI X) : Wr mX9_wind (d + 1) 0 21 [(0, .ref 106)] [] μ (kI KI X) := by
  unfold pX9_wind_21 at h
  refine Wr_aload_n dX9_wind_21 rfl 0 rfl ?_
  refine Wr_iconstv (v := 1) dX9_wind_22 (by decide) ?_
  refine Wr_cVi [.int 1] dX9_wind_23 mlX9_297 mgX9_fail rfl mvX9_fail (zrv zl106 _ rfl rfl) rfl rfl (Nat.le_of_ble_eq_true rfl) rfl (zcI.imp h (fun u2 m1 h => ?_) (fun _ _ h => ⟨rfl, h⟩))
  exact Wr_iret .int dX9_wind_26 rfl rfl ⟨rfl, h⟩
def pX9_wind (d : Nat) (x1 : Int32) (x2 : Int32) (μ : zMem) (KI : Int32 → zMem → Prop) (X : Nat → zMem → Prop) : Prop :=
  ∀ m1 : zMem, m1 = zw μ 106 3 0 → zcI d mX9_isHour [.int x1] m1 (fun u3 m2 => ((u3 = 0 → pX9_wind_21 d m2 KI X) ∧
  (¬ (u3 = 0) → ((x2 < 0 → pX9_wind_21 d m2 KI X) ∧
    (¬ (x2 < 0) → ((x2 ≤ 1 → zcV d mX9_tellWind [.ref 106, .int x1] m2 (fun m4 => KI (if x2 = 0 then m4 106 30 else m4 106 31) m4) X) ∧
      (¬ (x2 ≤ 1) → pX9_wind_21 d m2 KI X))))))) X
set_option maxRecDepth 20000 in
theorem wX9_wind_0 {d : Nat} {KI : Int32 → zMem → Prop} {X : Nat → zMem → Prop} {x1 : Int32} {x2 : Int32} {μ : zMem} (h : pX9_wind d x1 x2 μ KI X) : Wr mX9_wind (d + 1) 0 0 [(0, .ref 106), (1, .int x1), (2, .int x2)] [] μ (kI KI X) := by
  unfold pX9_wind at h
  refine Wr_aload_n dX9_wind_0 rfl 0 rfl ?_
  refine Wr_iconstv (v := 0) dX9_wind_1 (by decide) ?_
  obtain ⟨m1, em1⟩ : ∃ z : zMem, z = zw μ 106 3 0 := ⟨_, rfl⟩
  have h := h m1 em1
  refine Wr_putI dX9_wind_2 fpX9_155 zl106 rfl ?_
  refine Wr_mu em1 ?_
  refine Wr_iload_n dX9_wind_5 rfl 1 rfl ?_
  refine Wr_cSi [.int x1] dX9_wind_6 mlX9_389 mgX9_isHour rfl msX9_isHour  rfl rfl (Nat.le_of_ble_eq_true rfl) rfl (zcI.imp h (fun u3 m2 h => ?_) (fun _ _ h => ⟨rfl, h⟩))
  refine Wr_if_eq 21 dX9_wind_9 (by decide) (fun hc => ?_) (fun hc => ?_)
  · have h := h.1 hc
    refine zsub [0] rfl ?_
    exact wX9_wind_21 h
  · have h := h.2 hc
    refine Wr_iload_n dX9_wind_12 rfl 2 rfl ?_
    refine Wr_if_lt 21 dX9_wind_13 (by decide) (fun hc => ?_) (fun hc => ?_)
    · have h := h.1 hc
      refine zsub [0] rfl ?_
      exact wX9_wind_21 h
    · have h := h.2 hc
      refine Wr_iload_n dX9_wind_16 rfl 2 rfl ?_
      refine Wr_iconstv (v := 1) dX9_wind_17 (by decide) ?_
      refine Wr_icmp_le 27 dX9_wind_18 (by decide) (fun hc => ?_) (fun hc => ?_)
      · have h := h.1 hc
        refine Wr_aload_n dX9_wind_27 rfl 0 rfl ?_
        refine Wr_iload_n dX9_wind_28 rfl 1 rfl ?_
        refine Wr_cVv [.int x1] dX9_wind_29 mlX9_360 mgX9_tellWind rfl mvX9_tellWind (zrv zl106 _ rfl rfl) rfl rfl (Nat.le_of_ble_eq_true rfl) rfl (zcV.imp h (fun m4 h => ?_) (fun _ _ h => ⟨rfl, h⟩))
        refine Wr_iload_n dX9_wind_32 rfl 2 rfl ?_
        have hj1 : Wr mX9_wind (d + 1) 0 47 [(0, .ref 106), (1, .int x1), (2, .int x2)] [.int (if x2 = 0 then m4 106 30 else m4 106 31)] m4 (kI KI X) := by
          exact Wr_iret .int dX9_wind_47 rfl rfl ⟨rfl, h⟩
        refine Wr_if_ne 43 dX9_wind_33 (by decide) (fun hc0 => ?_) (fun hc0 => ?_)
        · skip
          refine Wr_aload_n dX9_wind_43 rfl 0 rfl ?_
          refine Wr_getI dX9_wind_44 flX9_348 zl106 rfl ?_
          exact Wr_top (if_neg hc0) hj1
        · skip
          refine Wr_aload_n dX9_wind_36 rfl 0 rfl ?_
          refine Wr_getI dX9_wind_37 flX9_345 zl106 rfl ?_
          refine Wr_goto 47 dX9_wind_40 (by decide) ?_
          exact Wr_top (if_pos hc0) hj1
      · have h := h.2 hc
        refine zsub [0] rfl ?_
        exact wX9_wind_21 h
theorem cX9_wind_ {d : Nat} {x1 : Int32} {x2 : Int32} {μ : zMem} {KI : Int32 → zMem → Prop} {X : Nat → zMem → Prop} (h : pX9_wind d x1 x2 μ KI X) : zcI (d + 1) mX9_wind [.ref 106, .int x1, .int x2] μ KI X :=
  Ex_of (w := 3) mgX9_wind.2.2.2.2.2 rfl rfl rfl (by decide) (wX9_wind_0 h)

def pX9_leaning_14 (d : Nat) (x1 : Int32) (μ : zMem) (KI : Int32 → zMem → Prop) (X : Nat → zMem → Prop) : Prop :=
  zcI d mX9_of [.ref 106, .int x1, .int 6] μ (fun u2 m1 => KI u2 m1) X
set_option maxRecDepth 20000 in
theorem wX9_leaning_14 {d : Nat} {KI : Int32 → zMem → Prop} {X : Nat → zMem → Prop} {x1 : Int32} {μ : zMem} (h : pX9_leaning_14 d x1 μ KI X) : Wr mX9_leaning (d + 1) 0 14 [(0, .ref 106), (1, .int x1)] [] μ (kI KI X) := by
  unfold pX9_leaning_14 at h
  refine Wr_aload_n dX9_leaning_14 rfl 0 rfl ?_
  refine Wr_iload_n dX9_leaning_15 rfl 1 rfl ?_
  refine Wr_bipush (v := 6) dX9_leaning_16 (by decide) ?_
  refine Wr_cVi [.int x1, .int 6] dX9_leaning_18 mlX9_330 mgX9_of rfl mvX9_of (zrv zl106 _ rfl rfl) rfl rfl (Nat.le_of_ble_eq_true rfl) rfl (zcI.imp h (fun u2 m1 h => ?_) (fun _ _ h => ⟨rfl, h⟩))
  exact Wr_iret .int dX9_leaning_21 rfl rfl ⟨rfl, h⟩
def pX9_leaning (d : Nat) (x1 : Int32) (x2 : Int32) (μ : zMem) (KI : Int32 → zMem → Prop) (X : Nat → zMem → Prop) : Prop :=
  ((x2 = 154 → pX9_leaning_14 d x1 μ KI X) ∧
  (¬ (x2 = 154) → ((x2 = 155 → pX9_leaning_14 d x1 μ KI X) ∧
    (¬ (x2 = 155) → zcI d mX9_of [.ref 106, .int x1, .int 11] μ (fun u2 m1 => zcI d mX9_of [.ref 106, .int x1, .int 13] m1 (fun u4 m3 => zcI d mX9_of [.ref 106, .int x1, .int 10] m3 (fun u6 m5 => zcI d mX9_of [.ref 106, .int x1, .int 12] m5 (fun u8 m7 => KI (zmax (zabs (u2 - u4)) (zabs (u6 - u8))) m7) X) X) X) X))))
set_option maxRecDepth 20000 in
theorem wX9_leaning_0 {d : Nat} {KI : Int32 → zMem → Prop} {X : Nat → zMem → Prop} {x1 : Int32} {x2 : Int32} {μ : zMem} (h : pX9_leaning d x1 x2 μ KI X) : Wr mX9_leaning (d + 1) 0 0 [(0, .ref 106), (1, .int x1), (2, .int x2)] [] μ (kI KI X) := by
  unfold pX9_leaning at h
  refine Wr_iload_n dX9_leaning_0 rfl 2 rfl ?_
  refine Wr_sipush (v := 154) dX9_leaning_1 (by decide) ?_
  refine Wr_icmp_eq 14 dX9_leaning_4 (by decide) (fun hc => ?_) (fun hc => ?_)
  · have h := h.1 hc
    refine zsub [0, 1] rfl ?_
    exact wX9_leaning_14 h
  · have h := h.2 hc
    refine Wr_iload_n dX9_leaning_7 rfl 2 rfl ?_
    refine Wr_sipush (v := 155) dX9_leaning_8 (by decide) ?_
    refine Wr_icmp_ne 22 dX9_leaning_11 (by decide) (fun hc => ?_) (fun hc => ?_)
    · have h := h.2 hc
      refine Wr_aload_n dX9_leaning_22 rfl 0 rfl ?_
      refine Wr_iload_n dX9_leaning_23 rfl 1 rfl ?_
      refine Wr_bipush (v := 11) dX9_leaning_24 (by decide) ?_
      refine Wr_cVi [.int x1, .int 11] dX9_leaning_26 mlX9_330 mgX9_of rfl mvX9_of (zrv zl106 _ rfl rfl) rfl rfl (Nat.le_of_ble_eq_true rfl) rfl (zcI.imp h (fun u2 m1 h => ?_) (fun _ _ h => ⟨rfl, h⟩))
      refine Wr_aload_n dX9_leaning_29 rfl 0 rfl ?_
      refine Wr_iload_n dX9_leaning_30 rfl 1 rfl ?_
      refine Wr_bipush (v := 13) dX9_leaning_31 (by decide) ?_
      refine Wr_cVi [.int x1, .int 13] dX9_leaning_33 mlX9_330 mgX9_of rfl mvX9_of (zrv zl106 _ rfl rfl) rfl rfl (Nat.le_of_ble_eq_true rfl) rfl (zcI.imp h (fun u4 m3 h => ?_) (fun _ _ h => ⟨rfl, h⟩))
      refine Wr_isub dX9_leaning_36 ?_
      refine Wr_mabs dX9_leaning_37 mlX9_357 (Nat.le_of_ble_eq_true rfl) ?_
      refine Wr_aload_n dX9_leaning_40 rfl 0 rfl ?_
      refine Wr_iload_n dX9_leaning_41 rfl 1 rfl ?_
      refine Wr_bipush (v := 10) dX9_leaning_42 (by decide) ?_
      refine Wr_cVi [.int x1, .int 10] dX9_leaning_44 mlX9_330 mgX9_of rfl mvX9_of (zrv zl106 _ rfl rfl) rfl rfl (Nat.le_of_ble_eq_true rfl) rfl (zcI.imp h (fun u6 m5 h => ?_) (fun _ _ h => ⟨rfl, h⟩))
      refine Wr_aload_n dX9_leaning_47 rfl 0 rfl ?_
      refine Wr_iload_n dX9_leaning_48 rfl 1 rfl ?_
      refine Wr_bipush (v := 12) dX9_leaning_49 (by decide) ?_
      refine Wr_cVi [.int x1, .int 12] dX9_leaning_51 mlX9_330 mgX9_of rfl mvX9_of (zrv zl106 _ rfl rfl) rfl rfl (Nat.le_of_ble_eq_true rfl) rfl (zcI.imp h (fun u8 m7 h => ?_) (fun _ _ h => ⟨rfl, h⟩))
      refine Wr_isub dX9_leaning_54 ?_
      refine Wr_mabs dX9_leaning_55 mlX9_357 (Nat.le_of_ble_eq_true rfl) ?_
      refine Wr_mmax dX9_leaning_58 mlX9_333 (Nat.le_of_ble_eq_true rfl) ?_
      exact Wr_iret .int dX9_leaning_61 rfl rfl ⟨rfl, h⟩
    · have h := h.1 hc
      refine zsub [0, 1] rfl ?_
      exact wX9_leaning_14 h
theorem cX9_leaning_ {d : Nat} {x1 : Int32} {x2 : Int32} {μ : zMem} {KI : Int32 → zMem → Prop} {X : Nat → zMem → Prop} (h : pX9_leaning d x1 x2 μ KI X) : zcI (d + 1) mX9_leaning [.ref 106, .int x1, .int x2] μ KI X :=
  Ex_of (w := 3) mgX9_leaning.2.2.2.2.2 rfl rfl rfl (by decide) (wX9_leaning_0 h)

def pX9_where_32 (d : Nat) (μ : zMem) (KI : Int32 → zMem → Prop) (X : Nat → zMem → Prop) : Prop :=
  zcI d mX9_fail [.ref 106, .int 1] μ (fun u2 m1 => KI u2 m1) X
set_option maxRecDepth 20000 in
theorem wX9_where_32 {d : Nat} {KI : Int32 → zMem → Prop} {X : Nat → zMem → Prop} {μ : zMem} (h : pX9_where_32 d μ KI X) : Wr mX9_where (d + 1) 0 32 [(0, .ref 106)] [] μ (kI KI X) := by
  unfold pX9_where_32 at h
  refine Wr_aload_n dX9_where_32 rfl 0 rfl ?_
  refine Wr_iconstv (v := 1) dX9_where_33 (by decide) ?_
  refine Wr_cVi [.int 1] dX9_where_34 mlX9_297 mgX9_fail rfl mvX9_fail (zrv zl106 _ rfl rfl) rfl rfl (Nat.le_of_ble_eq_true rfl) rfl (zcI.imp h (fun u2 m1 h => ?_) (fun _ _ h => ⟨rfl, h⟩))
  exact Wr_iret .int dX9_where_37 rfl rfl ⟨rfl, h⟩
def pX9_where (d : Nat) (x1 : Int32) (x2 : Int32) (x3 : Int32) (μ : zMem) (KI : Int32 → zMem → Prop) (X : Nat → zMem → Prop) : Prop :=
  ∀ m1 : zMem, m1 = zw μ 106 3 0 → zcI d mX9_isIsle [.ref 106, .int x1] m1 (fun u3 m2 => ((u3 = 0 → pX9_where_32 d m2 KI X) ∧
  (¬ (u3 = 0) → zcI d mX9_isHour [.int x2] m2 (fun u5 m4 => ((u5 = 0 → pX9_where_32 d m4 KI X) ∧
    (¬ (u5 = 0) → zcI d mX9_isIn [.long x3.toInt64, .long 0, .long 4] m4 (fun u7 m6 => ((u7 = 0 → pX9_where_32 d m6 KI X) ∧
      (¬ (u7 = 0) → zcV d mX9_tellHour [.ref 106, .int x2, .int 0] m6 (fun m8 => ((x3 = 0 → (vp_in x1 6) ∧ KI (m8 120 x1.toNatClampNeg) m8) ∧
        (¬ (x3 = 0) → ((x3 = 1 → (vp_in x1 6) ∧ KI (m8 121 x1.toNatClampNeg) m8) ∧
          (¬ (x3 = 1) → ((x3 = 2 → (vp_in x1 6) ∧ KI (m8 122 x1.toNatClampNeg) m8) ∧
            (¬ (x3 = 2) → ((x3 = 3 → zcI d mX9_floats [.ref 106, .int x1] m8 (fun u12 m11 => ((u12 = 0 → KI 0 m11) ∧
                (¬ (u12 = 0) → zcI d mX9_pushOf [.ref 106, .int x1, .int x2, .int 0] m11 (fun u14 m13 => KI u14 m13) X))) X) ∧
              (¬ (x3 = 3) → zcI d mX9_leaning [.ref 106, .int x1, .int x2] m8 (fun u10 m9 => KI u10 m9) X))))))))) X))) X))) X))) X
set_option maxRecDepth 20000 in
theorem wX9_where_0 {d : Nat} {KI : Int32 → zMem → Prop} {X : Nat → zMem → Prop} {x1 : Int32} {x2 : Int32} {x3 : Int32} {μ : zMem} (h : pX9_where d x1 x2 x3 μ KI X) : Wr mX9_where (d + 1) 0 0 [(0, .ref 106), (1, .int x1), (2, .int x2), (3, .int x3)] [] μ (kI KI X) := by
  unfold pX9_where at h
  refine Wr_aload_n dX9_where_0 rfl 0 rfl ?_
  refine Wr_iconstv (v := 0) dX9_where_1 (by decide) ?_
  obtain ⟨m1, em1⟩ : ∃ z : zMem, z = zw μ 106 3 0 := ⟨_, rfl⟩
  have h := h m1 em1
  refine Wr_putI dX9_where_2 fpX9_155 zl106 rfl ?_
  refine Wr_mu em1 ?_
  refine Wr_aload_n dX9_where_5 rfl 0 rfl ?_
  refine Wr_iload_n dX9_where_6 rfl 1 rfl ?_
  refine Wr_cVi [.int x1] dX9_where_7 mlX9_384 mgX9_isIsle rfl mvX9_isIsle (zrv zl106 _ rfl rfl) rfl rfl (Nat.le_of_ble_eq_true rfl) rfl (zcI.imp h (fun u3 m2 h => ?_) (fun _ _ h => ⟨rfl, h⟩))
  refine Wr_if_eq 32 dX9_where_10 (by decide) (fun hc => ?_) (fun hc => ?_)
  · have h := h.1 hc
    refine zsub [0] rfl ?_
    exact wX9_where_32 h
  · have h := h.2 hc
    refine Wr_iload_n dX9_where_13 rfl 2 rfl ?_
    refine Wr_cSi [.int x2] dX9_where_14 mlX9_389 mgX9_isHour rfl msX9_isHour  rfl rfl (Nat.le_of_ble_eq_true rfl) rfl (zcI.imp h (fun u5 m4 h => ?_) (fun _ _ h => ⟨rfl, h⟩))
    refine Wr_if_eq 32 dX9_where_17 (by decide) (fun hc => ?_) (fun hc => ?_)
    · have h := h.1 hc
      refine zsub [0] rfl ?_
      exact wX9_where_32 h
    · have h := h.2 hc
      refine Wr_iload_n dX9_where_20 rfl 3 rfl ?_
      refine Wr_i2l dX9_where_21 ?_
      refine Wr_lconst (v := 0) dX9_where_22 (by decide) ?_
      refine Wr_ldc2 dX9_where_23 lcX9_382 ?_
      refine Wr_cSi [.long x3.toInt64, .long 0, .long 4] dX9_where_26 mlX9_158 mgX9_isIn rfl msX9_isIn  rfl rfl (Nat.le_of_ble_eq_true rfl) rfl (zcI.imp h (fun u7 m6 h => ?_) (fun _ _ h => ⟨rfl, h⟩))
      refine Wr_if_ne 38 dX9_where_29 (by decide) (fun hc => ?_) (fun hc => ?_)
      · have h := h.2 hc
        refine Wr_aload_n dX9_where_38 rfl 0 rfl ?_
        refine Wr_iload_n dX9_where_39 rfl 2 rfl ?_
        refine Wr_iconstv (v := 0) dX9_where_40 (by decide) ?_
        refine Wr_cVv [.int x2, .int 0] dX9_where_41 mlX9_392 mgX9_tellHour rfl mvX9_tellHour (zrv zl106 _ rfl rfl) rfl rfl (Nat.le_of_ble_eq_true rfl) rfl (zcV.imp h (fun m8 h => ?_) (fun _ _ h => ⟨rfl, h⟩))
        refine Wr_iload_n dX9_where_44 rfl 3 rfl ?_
        refine Wr_if_ne 57 dX9_where_45 (by decide) (fun hc => ?_) (fun hc => ?_)
        · have h := h.2 hc
          refine Wr_iload_n dX9_where_57 rfl 3 rfl ?_
          refine Wr_iconstv (v := 1) dX9_where_58 (by decide) ?_
          refine Wr_icmp_ne 71 dX9_where_59 (by decide) (fun hc => ?_) (fun hc => ?_)
          · have h := h.2 hc
            refine Wr_iload_n dX9_where_71 rfl 3 rfl ?_
            refine Wr_iconstv (v := 2) dX9_where_72 (by decide) ?_
            refine Wr_icmp_ne 85 dX9_where_73 (by decide) (fun hc => ?_) (fun hc => ?_)
            · have h := h.2 hc
              refine Wr_iload_n dX9_where_85 rfl 3 rfl ?_
              refine Wr_iconstv (v := 3) dX9_where_86 (by decide) ?_
              refine Wr_icmp_ne 112 dX9_where_87 (by decide) (fun hc => ?_) (fun hc => ?_)
              · have h := h.2 hc
                refine Wr_aload_n dX9_where_112 rfl 0 rfl ?_
                refine Wr_iload_n dX9_where_113 rfl 1 rfl ?_
                refine Wr_iload_n dX9_where_114 rfl 2 rfl ?_
                refine Wr_cVi [.int x1, .int x2] dX9_where_115 mlX9_396 mgX9_leaning rfl mvX9_leaning (zrv zl106 _ rfl rfl) rfl rfl (Nat.le_of_ble_eq_true rfl) rfl (zcI.imp h (fun u10 m9 h => ?_) (fun _ _ h => ⟨rfl, h⟩))
                exact Wr_iret .int dX9_where_118 rfl rfl ⟨rfl, h⟩
              · have h := h.1 hc
                refine Wr_aload_n dX9_where_90 rfl 0 rfl ?_
                refine Wr_iload_n dX9_where_91 rfl 1 rfl ?_
                refine Wr_cVi [.int x1] dX9_where_92 mlX9_351 mgX9_floats rfl mvX9_floats (zrv zl106 _ rfl rfl) rfl rfl (Nat.le_of_ble_eq_true rfl) rfl (zcI.imp h (fun u12 m11 h => ?_) (fun _ _ h => ⟨rfl, h⟩))
                refine Wr_if_eq 108 dX9_where_95 (by decide) (fun hc => ?_) (fun hc => ?_)
                · have h := h.1 hc
                  refine Wr_iconstv (v := 0) dX9_where_108 (by decide) ?_
                  refine Wr_goto 118 dX9_where_109 (by decide) ?_
                  exact Wr_iret .int dX9_where_118 rfl rfl ⟨rfl, h⟩
                · have h := h.2 hc
                  refine Wr_aload_n dX9_where_98 rfl 0 rfl ?_
                  refine Wr_iload_n dX9_where_99 rfl 1 rfl ?_
                  refine Wr_iload_n dX9_where_100 rfl 2 rfl ?_
                  refine Wr_iconstv (v := 0) dX9_where_101 (by decide) ?_
                  refine Wr_cVi [.int x1, .int x2, .int 0] dX9_where_102 mlX9_354 mgX9_pushOf rfl mvX9_pushOf (zrv zl106 _ rfl rfl) rfl rfl (Nat.le_of_ble_eq_true rfl) rfl (zcI.imp h (fun u14 m13 h => ?_) (fun _ _ h => ⟨rfl, h⟩))
                  refine Wr_goto 118 dX9_where_105 (by decide) ?_
                  exact Wr_iret .int dX9_where_118 rfl rfl ⟨rfl, h⟩
            · have h := h.1 hc
              refine Wr_aload_n dX9_where_76 rfl 0 rfl ?_
              refine Wr_getR 16 dX9_where_77 flX9_92 zl106 rfl (by decide) ?_
              refine Wr_iload_n dX9_where_80 rfl 1 rfl ?_
              obtain ⟨hi, h⟩ := h
              refine Wr_iald dX9_where_81 zl122 hi ?_
              refine Wr_goto 118 dX9_where_82 (by decide) ?_
              exact Wr_iret .int dX9_where_118 rfl rfl ⟨rfl, h⟩
          · have h := h.1 hc
            refine Wr_aload_n dX9_where_62 rfl 0 rfl ?_
            refine Wr_getR 15 dX9_where_63 flX9_89 zl106 rfl (by decide) ?_
            refine Wr_iload_n dX9_where_66 rfl 1 rfl ?_
            obtain ⟨hi, h⟩ := h
            refine Wr_iald dX9_where_67 zl121 hi ?_
            refine Wr_goto 118 dX9_where_68 (by decide) ?_
            exact Wr_iret .int dX9_where_118 rfl rfl ⟨rfl, h⟩
        · have h := h.1 hc
          refine Wr_aload_n dX9_where_48 rfl 0 rfl ?_
          refine Wr_getR 14 dX9_where_49 flX9_86 zl106 rfl (by decide) ?_
          refine Wr_iload_n dX9_where_52 rfl 1 rfl ?_
          obtain ⟨hi, h⟩ := h
          refine Wr_iald dX9_where_53 zl120 hi ?_
          refine Wr_goto 118 dX9_where_54 (by decide) ?_
          exact Wr_iret .int dX9_where_118 rfl rfl ⟨rfl, h⟩
      · have h := h.1 hc
        refine zsub [0] rfl ?_
        exact wX9_where_32 h
theorem cX9_where_ {d : Nat} {x1 : Int32} {x2 : Int32} {x3 : Int32} {μ : zMem} {KI : Int32 → zMem → Prop} {X : Nat → zMem → Prop} (h : pX9_where d x1 x2 x3 μ KI X) : zcI (d + 1) mX9_where [.ref 106, .int x1, .int x2, .int x3] μ KI X :=
  Ex_of (w := 4) mgX9_where.2.2.2.2.2 rfl rfl rfl (by decide) (wX9_where_0 h)

def pX9_between_41 (d : Nat) (μ : zMem) (KI : Int32 → zMem → Prop) (X : Nat → zMem → Prop) : Prop :=
  ∀ m1 : zMem, m1 = zw μ 106 3 1 → KI 0 m1
set_option maxRecDepth 20000 in
theorem wX9_between_41 {d : Nat} {KI : Int32 → zMem → Prop} {X : Nat → zMem → Prop} {μ : zMem} (h : pX9_between_41 d μ KI X) : Wr mX9_between (d + 1) 0 41 [(0, .ref 106)] [] μ (kI KI X) := by
  unfold pX9_between_41 at h
  refine Wr_aload_n dX9_between_41 rfl 0 rfl ?_
  refine Wr_iconstv (v := 1) dX9_between_42 (by decide) ?_
  obtain ⟨m1, em1⟩ : ∃ z : zMem, z = zw μ 106 3 1 := ⟨_, rfl⟩
  have h := h m1 em1
  refine Wr_putI dX9_between_43 fpX9_155 zl106 rfl ?_
  refine Wr_mu em1 ?_
  refine Wr_iconstv (v := 0) dX9_between_46 (by decide) ?_
  exact Wr_iret .boolean dX9_between_47 rfl rfl ⟨rfl, h⟩
def pX9_between (d : Nat) (x1 : Int32) (x2 : Int32) (x3 : Int32) (x4 : Int32) (μ : zMem) (KI : Int32 → zMem → Prop) (X : Nat → zMem → Prop) : Prop :=
  ∀ m1 : zMem, m1 = zw μ 106 3 0 → zcI d mX9_isIsle [.ref 106, .int x1] m1 (fun u3 m2 => ((u3 = 0 → pX9_between_41 d m2 KI X) ∧
  (¬ (u3 = 0) → zcI d mX9_isIsle [.ref 106, .int x2] m2 (fun u5 m4 => ((u5 = 0 → pX9_between_41 d m4 KI X) ∧
    (¬ (u5 = 0) → zcI d mX9_isHour [.int x3] m4 (fun u7 m6 => ((u7 = 0 → pX9_between_41 d m6 KI X) ∧
      (¬ (u7 = 0) → zcI d mX9_isIn [.long x4.toInt64, .long 0, .long 3] m6 (fun u9 m8 => ((u9 = 0 → pX9_between_41 d m8 KI X) ∧
        (¬ (u9 = 0) → ((x1 = x2 → ∀ m19 : zMem, m19 = zw m8 106 3 2 → KI 0 m19) ∧
          (¬ (x1 = x2) → zcV d mX9_tellHour [.ref 106, .int x3, .int 0] m8 (fun m10 => ((x4 = 0 → zcI d mX9_isOver [.ref 106, .int x1, .int x2, .int 0] m10 (fun u18 m17 => (u18 = 0 ∨ u18 = 1) ∧ KI u18 m17) X) ∧
            (¬ (x4 = 0) → ((x4 = 1 → zcI d mX9_knocks [.ref 106, .int x1, .int x2] m10 (fun u16 m15 => (u16 = 0 ∨ u16 = 1) ∧ KI u16 m15) X) ∧
              (¬ (x4 = 1) → ((x4 = 2 → zcI d mX9_isShaded [.ref 106, .int x1, .int x2] m10 (fun u14 m13 => (u14 = 0 ∨ u14 = 1) ∧ KI u14 m13) X) ∧
                (¬ (x4 = 2) → zcI d mX9_isBridge [.ref 106, .int x1, .int x2] m10 (fun u12 m11 => (u12 = 0 ∨ u12 = 1) ∧ KI u12 m11) X))))))) X))))) X))) X))) X))) X
set_option maxRecDepth 20000 in
theorem wX9_between_0 {d : Nat} {KI : Int32 → zMem → Prop} {X : Nat → zMem → Prop} {x1 : Int32} {x2 : Int32} {x3 : Int32} {x4 : Int32} {μ : zMem} (h : pX9_between d x1 x2 x3 x4 μ KI X) : Wr mX9_between (d + 1) 0 0 [(0, .ref 106), (1, .int x1), (2, .int x2), (3, .int x3), (4, .int x4)] [] μ (kI KI X) := by
  unfold pX9_between at h
  refine Wr_aload_n dX9_between_0 rfl 0 rfl ?_
  refine Wr_iconstv (v := 0) dX9_between_1 (by decide) ?_
  obtain ⟨m1, em1⟩ : ∃ z : zMem, z = zw μ 106 3 0 := ⟨_, rfl⟩
  have h := h m1 em1
  refine Wr_putI dX9_between_2 fpX9_155 zl106 rfl ?_
  refine Wr_mu em1 ?_
  refine Wr_aload_n dX9_between_5 rfl 0 rfl ?_
  refine Wr_iload_n dX9_between_6 rfl 1 rfl ?_
  refine Wr_cVi [.int x1] dX9_between_7 mlX9_384 mgX9_isIsle rfl mvX9_isIsle (zrv zl106 _ rfl rfl) rfl rfl (Nat.le_of_ble_eq_true rfl) rfl (zcI.imp h (fun u3 m2 h => ?_) (fun _ _ h => ⟨rfl, h⟩))
  refine Wr_if_eq 41 dX9_between_10 (by decide) (fun hc => ?_) (fun hc => ?_)
  · have h := h.1 hc
    refine zsub [0] rfl ?_
    exact wX9_between_41 h
  · have h := h.2 hc
    refine Wr_aload_n dX9_between_13 rfl 0 rfl ?_
    refine Wr_iload_n dX9_between_14 rfl 2 rfl ?_
    refine Wr_cVi [.int x2] dX9_between_15 mlX9_384 mgX9_isIsle rfl mvX9_isIsle (zrv zl106 _ rfl rfl) rfl rfl (Nat.le_of_ble_eq_true rfl) rfl (zcI.imp h (fun u5 m4 h => ?_) (fun _ _ h => ⟨rfl, h⟩))
    refine Wr_if_eq 41 dX9_between_18 (by decide) (fun hc => ?_) (fun hc => ?_)
    · have h := h.1 hc
      refine zsub [0] rfl ?_
      exact wX9_between_41 h
    · have h := h.2 hc
      refine Wr_iload_n dX9_between_21 rfl 3 rfl ?_
      refine Wr_cSi [.int x3] dX9_between_22 mlX9_389 mgX9_isHour rfl msX9_isHour  rfl rfl (Nat.le_of_ble_eq_true rfl) rfl (zcI.imp h (fun u7 m6 h => ?_) (fun _ _ h => ⟨rfl, h⟩))
      refine Wr_if_eq 41 dX9_between_25 (by decide) (fun hc => ?_) (fun hc => ?_)
      · have h := h.1 hc
        refine zsub [0] rfl ?_
        exact wX9_between_41 h
      · have h := h.2 hc
        refine Wr_iload dX9_between_28 4 rfl ?_
        refine Wr_i2l dX9_between_30 ?_
        refine Wr_lconst (v := 0) dX9_between_31 (by decide) ?_
        refine Wr_ldc2 dX9_between_32 lcX9_399 ?_
        refine Wr_cSi [.long x4.toInt64, .long 0, .long 3] dX9_between_35 mlX9_158 mgX9_isIn rfl msX9_isIn  rfl rfl (Nat.le_of_ble_eq_true rfl) rfl (zcI.imp h (fun u9 m8 h => ?_) (fun _ _ h => ⟨rfl, h⟩))
        refine Wr_if_ne 48 dX9_between_38 (by decide) (fun hc => ?_) (fun hc => ?_)
        · have h := h.2 hc
          refine Wr_iload_n dX9_between_48 rfl 1 rfl ?_
          refine Wr_iload_n dX9_between_49 rfl 2 rfl ?_
          refine Wr_icmp_ne 60 dX9_between_50 (by decide) (fun hc => ?_) (fun hc => ?_)
          · have h := h.2 hc
            refine Wr_aload_n dX9_between_60 rfl 0 rfl ?_
            refine Wr_iload_n dX9_between_61 rfl 3 rfl ?_
            refine Wr_iconstv (v := 0) dX9_between_62 (by decide) ?_
            refine Wr_cVv [.int x3, .int 0] dX9_between_63 mlX9_392 mgX9_tellHour rfl mvX9_tellHour (zrv zl106 _ rfl rfl) rfl rfl (Nat.le_of_ble_eq_true rfl) rfl (zcV.imp h (fun m10 h => ?_) (fun _ _ h => ⟨rfl, h⟩))
            refine Wr_iload dX9_between_66 4 rfl ?_
            refine Wr_if_ne 81 dX9_between_68 (by decide) (fun hc => ?_) (fun hc => ?_)
            · have h := h.2 hc
              refine Wr_iload dX9_between_81 4 rfl ?_
              refine Wr_iconstv (v := 1) dX9_between_83 (by decide) ?_
              refine Wr_icmp_ne 96 dX9_between_84 (by decide) (fun hc => ?_) (fun hc => ?_)
              · have h := h.2 hc
                refine Wr_iload dX9_between_96 4 rfl ?_
                refine Wr_iconstv (v := 2) dX9_between_98 (by decide) ?_
                refine Wr_icmp_ne 111 dX9_between_99 (by decide) (fun hc => ?_) (fun hc => ?_)
                · have h := h.2 hc
                  refine Wr_aload_n dX9_between_111 rfl 0 rfl ?_
                  refine Wr_iload_n dX9_between_112 rfl 1 rfl ?_
                  refine Wr_iload_n dX9_between_113 rfl 2 rfl ?_
                  refine Wr_cVi [.int x1, .int x2] dX9_between_114 mlX9_401 mgX9_isBridge rfl mvX9_isBridge (zrv zl106 _ rfl rfl) rfl rfl (Nat.le_of_ble_eq_true rfl) rfl (zcI.imp h (fun u12 m11 h => ?_) (fun _ _ h => ⟨rfl, h⟩))
                  exact Wr_iret .boolean dX9_between_117 rfl (znar h.1) ⟨rfl, h.2⟩
                · have h := h.1 hc
                  refine Wr_aload_n dX9_between_102 rfl 0 rfl ?_
                  refine Wr_iload_n dX9_between_103 rfl 1 rfl ?_
                  refine Wr_iload_n dX9_between_104 rfl 2 rfl ?_
                  refine Wr_cVi [.int x1, .int x2] dX9_between_105 mlX9_375 mgX9_isShaded rfl mvX9_isShaded (zrv zl106 _ rfl rfl) rfl rfl (Nat.le_of_ble_eq_true rfl) rfl (zcI.imp h (fun u14 m13 h => ?_) (fun _ _ h => ⟨rfl, h⟩))
                  refine Wr_goto 117 dX9_between_108 (by decide) ?_
                  exact Wr_iret .boolean dX9_between_117 rfl (znar h.1) ⟨rfl, h.2⟩
              · have h := h.1 hc
                refine Wr_aload_n dX9_between_87 rfl 0 rfl ?_
                refine Wr_iload_n dX9_between_88 rfl 1 rfl ?_
                refine Wr_iload_n dX9_between_89 rfl 2 rfl ?_
                refine Wr_cVi [.int x1, .int x2] dX9_between_90 mlX9_371 mgX9_knocks rfl mvX9_knocks (zrv zl106 _ rfl rfl) rfl rfl (Nat.le_of_ble_eq_true rfl) rfl (zcI.imp h (fun u16 m15 h => ?_) (fun _ _ h => ⟨rfl, h⟩))
                refine Wr_goto 117 dX9_between_93 (by decide) ?_
                exact Wr_iret .boolean dX9_between_117 rfl (znar h.1) ⟨rfl, h.2⟩
            · have h := h.1 hc
              refine Wr_aload_n dX9_between_71 rfl 0 rfl ?_
              refine Wr_iload_n dX9_between_72 rfl 1 rfl ?_
              refine Wr_iload_n dX9_between_73 rfl 2 rfl ?_
              refine Wr_iconstv (v := 0) dX9_between_74 (by decide) ?_
              refine Wr_cVi [.int x1, .int x2, .int 0] dX9_between_75 mlX9_367 mgX9_isOver rfl mvX9_isOver (zrv zl106 _ rfl rfl) rfl rfl (Nat.le_of_ble_eq_true rfl) rfl (zcI.imp h (fun u18 m17 h => ?_) (fun _ _ h => ⟨rfl, h⟩))
              refine Wr_goto 117 dX9_between_78 (by decide) ?_
              exact Wr_iret .boolean dX9_between_117 rfl (znar h.1) ⟨rfl, h.2⟩
          · have h := h.1 hc
            refine Wr_aload_n dX9_between_53 rfl 0 rfl ?_
            refine Wr_iconstv (v := 2) dX9_between_54 (by decide) ?_
            obtain ⟨m19, em19⟩ : ∃ z : zMem, z = zw m8 106 3 2 := ⟨_, rfl⟩
            have h := h m19 em19
            refine Wr_putI dX9_between_55 fpX9_155 zl106 rfl ?_
            refine Wr_mu em19 ?_
            refine Wr_iconstv (v := 0) dX9_between_58 (by decide) ?_
            exact Wr_iret .boolean dX9_between_59 rfl rfl ⟨rfl, h⟩
        · have h := h.1 hc
          refine zsub [0] rfl ?_
          exact wX9_between_41 h
theorem cX9_between_ {d : Nat} {x1 : Int32} {x2 : Int32} {x3 : Int32} {x4 : Int32} {μ : zMem} {KI : Int32 → zMem → Prop} {X : Nat → zMem → Prop} (h : pX9_between d x1 x2 x3 x4 μ KI X) : zcI (d + 1) mX9_between [.ref 106, .int x1, .int x2, .int x3, .int x4] μ KI X :=
  Ex_of (w := 5) mgX9_between.2.2.2.2.2 rfl rfl rfl (by decide) (wX9_between_0 h)

def pX9_rain_20 (d : Nat) (μ : zMem) (KI : Int32 → zMem → Prop) (X : Nat → zMem → Prop) : Prop :=
  zcI d mX9_fail [.ref 106, .int 1] μ (fun u2 m1 => KI u2 m1) X
set_option maxRecDepth 20000 in
theorem wX9_rain_20 {d : Nat} {KI : Int32 → zMem → Prop} {X : Nat → zMem → Prop} {μ : zMem} (h : pX9_rain_20 d μ KI X) : Wr mX9_rain (d + 1) 0 20 [(0, .ref 106)] [] μ (kI KI X) := by
  unfold pX9_rain_20 at h
  refine Wr_aload_n dX9_rain_20 rfl 0 rfl ?_
  refine Wr_iconstv (v := 1) dX9_rain_21 (by decide) ?_
  refine Wr_cVi [.int 1] dX9_rain_22 mlX9_297 mgX9_fail rfl mvX9_fail (zrv zl106 _ rfl rfl) rfl rfl (Nat.le_of_ble_eq_true rfl) rfl (zcI.imp h (fun u2 m1 h => ?_) (fun _ _ h => ⟨rfl, h⟩))
  exact Wr_iret .int dX9_rain_25 rfl rfl ⟨rfl, h⟩
def pX9_rain (d : Nat) (x1 : Int32) (x2 : Int32) (μ : zMem) (KI : Int32 → zMem → Prop) (X : Nat → zMem → Prop) : Prop :=
  ∀ m1 : zMem, m1 = zw μ 106 3 0 → zcI d mX9_isIsle [.ref 106, .int x1] m1 (fun u3 m2 => ((u3 = 0 → pX9_rain_20 d m2 KI X) ∧
  (¬ (u3 = 0) → zcI d mX9_isHour [.int x2] m2 (fun u5 m4 => ((u5 = 0 → pX9_rain_20 d m4 KI X) ∧
    (¬ (u5 = 0) → zcV d mX9_tellHour [.ref 106, .int x2, .int 0] m4 (fun m6 => zcI d mX9_rainOf [.ref 106, .int x1] m6 (fun u8 m7 => KI u8 m7) X) X))) X))) X
set_option maxRecDepth 20000 in
theorem wX9_rain_0 {d : Nat} {KI : Int32 → zMem → Prop} {X : Nat → zMem → Prop} {x1 : Int32} {x2 : Int32} {μ : zMem} (h : pX9_rain d x1 x2 μ KI X) : Wr mX9_rain (d + 1) 0 0 [(0, .ref 106), (1, .int x1), (2, .int x2)] [] μ (kI KI X) := by
  unfold pX9_rain at h
  refine Wr_aload_n dX9_rain_0 rfl 0 rfl ?_
  refine Wr_iconstv (v := 0) dX9_rain_1 (by decide) ?_
  obtain ⟨m1, em1⟩ : ∃ z : zMem, z = zw μ 106 3 0 := ⟨_, rfl⟩
  have h := h m1 em1
  refine Wr_putI dX9_rain_2 fpX9_155 zl106 rfl ?_
  refine Wr_mu em1 ?_
  refine Wr_aload_n dX9_rain_5 rfl 0 rfl ?_
  refine Wr_iload_n dX9_rain_6 rfl 1 rfl ?_
  refine Wr_cVi [.int x1] dX9_rain_7 mlX9_384 mgX9_isIsle rfl mvX9_isIsle (zrv zl106 _ rfl rfl) rfl rfl (Nat.le_of_ble_eq_true rfl) rfl (zcI.imp h (fun u3 m2 h => ?_) (fun _ _ h => ⟨rfl, h⟩))
  refine Wr_if_eq 20 dX9_rain_10 (by decide) (fun hc => ?_) (fun hc => ?_)
  · have h := h.1 hc
    refine zsub [0] rfl ?_
    exact wX9_rain_20 h
  · have h := h.2 hc
    refine Wr_iload_n dX9_rain_13 rfl 2 rfl ?_
    refine Wr_cSi [.int x2] dX9_rain_14 mlX9_389 mgX9_isHour rfl msX9_isHour  rfl rfl (Nat.le_of_ble_eq_true rfl) rfl (zcI.imp h (fun u5 m4 h => ?_) (fun _ _ h => ⟨rfl, h⟩))
    refine Wr_if_ne 26 dX9_rain_17 (by decide) (fun hc => ?_) (fun hc => ?_)
    · have h := h.2 hc
      refine Wr_aload_n dX9_rain_26 rfl 0 rfl ?_
      refine Wr_iload_n dX9_rain_27 rfl 2 rfl ?_
      refine Wr_iconstv (v := 0) dX9_rain_28 (by decide) ?_
      refine Wr_cVv [.int x2, .int 0] dX9_rain_29 mlX9_392 mgX9_tellHour rfl mvX9_tellHour (zrv zl106 _ rfl rfl) rfl rfl (Nat.le_of_ble_eq_true rfl) rfl (zcV.imp h (fun m6 h => ?_) (fun _ _ h => ⟨rfl, h⟩))
      refine Wr_aload_n dX9_rain_32 rfl 0 rfl ?_
      refine Wr_iload_n dX9_rain_33 rfl 1 rfl ?_
      refine Wr_cVi [.int x1] dX9_rain_34 mlX9_404 mgX9_rainOf rfl mvX9_rainOf (zrv zl106 _ rfl rfl) rfl rfl (Nat.le_of_ble_eq_true rfl) rfl (zcI.imp h (fun u8 m7 h => ?_) (fun _ _ h => ⟨rfl, h⟩))
      exact Wr_iret .int dX9_rain_37 rfl rfl ⟨rfl, h⟩
    · have h := h.1 hc
      refine zsub [0] rfl ?_
      exact wX9_rain_20 h
theorem cX9_rain_ {d : Nat} {x1 : Int32} {x2 : Int32} {μ : zMem} {KI : Int32 → zMem → Prop} {X : Nat → zMem → Prop} (h : pX9_rain d x1 x2 μ KI X) : zcI (d + 1) mX9_rain [.ref 106, .int x1, .int x2] μ KI X :=
  Ex_of (w := 3) mgX9_rain.2.2.2.2.2 rfl rfl rfl (by decide) (wX9_rain_0 h)

def pX9_keep_55 : Nat → Nat → Int32 → Int32 → zMem → (zMem → Prop) → (Nat → zMem → Prop) → Prop
  | 0, _, _, _, _, _, _ => False
  | n + 1, d, x1, x2, μ, KV, X =>
  ((x1 ≤ x2 → ∀ m1 : zMem, m1 = zw μ 106 27 ((μ 106 27) + 1) → KV m1) ∧
  (¬ (x1 ≤ x2) → (vp_in x2 168) ∧ (vp_in ((x1 * (μ 106 27)) + x2) 3360) ∧ ∀ m2 : zMem, m2 = zw μ 123 ((x1 * (μ 106 27)) + x2).toNatClampNeg (μ 111 x2.toNatClampNeg) → ∀ v3 : Int32, v3 = x2 + 1 → pX9_keep_55 n d x1 v3 m2 KV X))
set_option maxRecDepth 20000 in
theorem wX9_keep_55 {d : Nat} {KV : zMem → Prop} {X : Nat → zMem → Prop} : ∀ (n : Nat) (x1 : Int32) (x2 : Int32) (μ : zMem), pX9_keep_55 n d x1 x2 μ KV X → Wr mX9_keep (d + 1) 0 55 [(0, .ref 106), (1, .int x1), (2, .int x2)] [] μ (kV KV X) := by
  intro n
  induction n with
  | zero =>
    intro x1 x2 μ h
    exact absurd h id
  | succ n ih =>
    intro x1 x2 μ h
    unfold pX9_keep_55 at h
    refine Wr_iload_n dX9_keep_55 rfl 2 rfl ?_
    refine Wr_iload_n dX9_keep_56 rfl 1 rfl ?_
    refine Wr_icmp_ge 85 dX9_keep_57 (by decide) (fun hc => ?_) (fun hc => ?_)
    · have h := h.1 hc
      refine Wr_aload_n dX9_keep_85 rfl 0 rfl ?_
      refine Wr_dup dX9_keep_86 rfl ?_
      refine Wr_getI dX9_keep_87 flX9_310 zl106 rfl ?_
      refine Wr_iconstv (v := 1) dX9_keep_90 (by decide) ?_
      refine Wr_iadd dX9_keep_91 ?_
      obtain ⟨m1, em1⟩ : ∃ z : zMem, z = zw μ 106 27 ((μ 106 27) + 1) := ⟨_, rfl⟩
      have h := h m1 em1
      refine Wr_putI dX9_keep_92 fpX9_310 zl106 rfl ?_
      refine Wr_mu em1 ?_
      exact Wr_vret dX9_keep_95 rfl ⟨rfl, h⟩
    · have h := h.2 hc
      refine Wr_aload_n dX9_keep_60 rfl 0 rfl ?_
      refine Wr_getR 17 dX9_keep_61 flX9_95 zl106 rfl (by decide) ?_
      refine Wr_iload_n dX9_keep_64 rfl 1 rfl ?_
      refine Wr_aload_n dX9_keep_65 rfl 0 rfl ?_
      refine Wr_getI dX9_keep_66 flX9_310 zl106 rfl ?_
      refine Wr_imul dX9_keep_69 ?_
      refine Wr_iload_n dX9_keep_70 rfl 2 rfl ?_
      refine Wr_iadd dX9_keep_71 ?_
      refine Wr_aload_n dX9_keep_72 rfl 0 rfl ?_
      refine Wr_getR 5 dX9_keep_73 flX9_55 zl106 rfl (by decide) ?_
      refine Wr_iload_n dX9_keep_76 rfl 2 rfl ?_
      obtain ⟨hi, h⟩ := h
      refine Wr_iald dX9_keep_77 zl111 hi ?_
      obtain ⟨him2, h⟩ := h
      obtain ⟨m2, em2⟩ : ∃ z : zMem, z = zw μ 123 ((x1 * (μ 106 27)) + x2).toNatClampNeg (μ 111 x2.toNatClampNeg) := ⟨_, rfl⟩
      have h := h m2 em2
      refine Wr_iast dX9_keep_78 zl123 him2 ?_
      refine Wr_mu em2 ?_
      obtain ⟨v3, ev3⟩ : ∃ z : Int32, z = x2 + 1 := ⟨_, rfl⟩
      have h := h v3 ev3
      refine Wr_iinc (v := v3) dX9_keep_79 (q := 2) rfl (by rw [ev3]; rfl) (by decide) rfl ?_
      refine Wr_goto 55 dX9_keep_82 (by decide) ?_
      refine zsub [0, 1, 2] rfl ?_
      exact ih _ _ _ h
def pX9_keep_14 : Nat → Nat → Int32 → Int32 → zMem → (zMem → Prop) → (Nat → zMem → Prop) → Prop
  | 0, _, _, _, _, _, _ => False
  | n + 1, d, x1, x2, μ, KV, X =>
  ((3360 ≤ x2 → ∀ m1 : zMem, m1 = zw μ 106 27 ((μ 106 27) - 1) → ∃ n2 : Nat, pX9_keep_55 n2 d x1 0 m1 KV X) ∧
  (¬ (3360 ≤ x2) → (vp_in x2 3360) ∧ (vp_in (x2 - x1) 3360) ∧ ∀ m2 : zMem, m2 = zw μ 123 (x2 - x1).toNatClampNeg (μ 123 x2.toNatClampNeg) → ∀ v3 : Int32, v3 = x2 + 1 → pX9_keep_14 n d x1 v3 m2 KV X))
set_option maxRecDepth 20000 in
theorem wX9_keep_14 {d : Nat} {KV : zMem → Prop} {X : Nat → zMem → Prop} : ∀ (n : Nat) (x1 : Int32) (x2 : Int32) (μ : zMem), pX9_keep_14 n d x1 x2 μ KV X → Wr mX9_keep (d + 1) 0 14 [(0, .ref 106), (1, .int x1), (2, .int x2)] [] μ (kV KV X) := by
  intro n
  induction n with
  | zero =>
    intro x1 x2 μ h
    exact absurd h id
  | succ n ih =>
    intro x1 x2 μ h
    unfold pX9_keep_14 at h
    refine Wr_iload_n dX9_keep_14 rfl 2 rfl ?_
    refine Wr_aload_n dX9_keep_15 rfl 0 rfl ?_
    refine Wr_getR 17 dX9_keep_16 flX9_95 zl106 rfl (by decide) ?_
    refine Wr_alen dX9_keep_19 zl123 (by decide) ?_
    refine Wr_icmp_ge 43 dX9_keep_20 (by decide) (fun hc => ?_) (fun hc => ?_)
    · have h := h.1 hc
      refine Wr_aload_n dX9_keep_43 rfl 0 rfl ?_
      refine Wr_dup dX9_keep_44 rfl ?_
      refine Wr_getI dX9_keep_45 flX9_310 zl106 rfl ?_
      refine Wr_iconstv (v := 1) dX9_keep_48 (by decide) ?_
      refine Wr_isub dX9_keep_49 ?_
      obtain ⟨m1, em1⟩ : ∃ z : zMem, z = zw μ 106 27 ((μ 106 27) - 1) := ⟨_, rfl⟩
      have h := h m1 em1
      refine Wr_putI dX9_keep_50 fpX9_310 zl106 rfl ?_
      refine Wr_mu em1 ?_
      refine Wr_iconstv (v := 0) dX9_keep_53 (by decide) ?_
      refine Wr_istore_n dX9_keep_54 rfl (by decide) rfl ?_
      refine zsub [0, 1, 2] rfl ?_
      obtain ⟨n9, h⟩ := h
      exact wX9_keep_55 n9 _ _ _ h
    · have h := h.2 hc
      refine Wr_aload_n dX9_keep_23 rfl 0 rfl ?_
      refine Wr_getR 17 dX9_keep_24 flX9_95 zl106 rfl (by decide) ?_
      refine Wr_iload_n dX9_keep_27 rfl 2 rfl ?_
      refine Wr_iload_n dX9_keep_28 rfl 1 rfl ?_
      refine Wr_isub dX9_keep_29 ?_
      refine Wr_aload_n dX9_keep_30 rfl 0 rfl ?_
      refine Wr_getR 17 dX9_keep_31 flX9_95 zl106 rfl (by decide) ?_
      refine Wr_iload_n dX9_keep_34 rfl 2 rfl ?_
      obtain ⟨hi, h⟩ := h
      refine Wr_iald dX9_keep_35 zl123 hi ?_
      obtain ⟨him2, h⟩ := h
      obtain ⟨m2, em2⟩ : ∃ z : zMem, z = zw μ 123 (x2 - x1).toNatClampNeg (μ 123 x2.toNatClampNeg) := ⟨_, rfl⟩
      have h := h m2 em2
      refine Wr_iast dX9_keep_36 zl123 him2 ?_
      refine Wr_mu em2 ?_
      obtain ⟨v3, ev3⟩ : ∃ z : Int32, z = x2 + 1 := ⟨_, rfl⟩
      have h := h v3 ev3
      refine Wr_iinc (v := v3) dX9_keep_37 (q := 2) rfl (by rw [ev3]; rfl) (by decide) rfl ?_
      refine Wr_goto 14 dX9_keep_40 (by decide) ?_
      refine zsub [0, 1, 2] rfl ?_
      exact ih _ _ _ h
def pX9_keep (d : Nat) (μ : zMem) (KV : zMem → Prop) (X : Nat → zMem → Prop) : Prop :=
  ((μ 106 27 = 40 → ∃ n2 : Nat, pX9_keep_14 n2 d 84 84 μ KV X) ∧
  (¬ (μ 106 27 = 40) → ∃ n2 : Nat, pX9_keep_55 n2 d 84 0 μ KV X))
set_option maxRecDepth 20000 in
theorem wX9_keep_0 {d : Nat} {KV : zMem → Prop} {X : Nat → zMem → Prop} {μ : zMem} (h : pX9_keep d μ KV X) : Wr mX9_keep (d + 1) 0 0 [(0, .ref 106)] [] μ (kV KV X) := by
  unfold pX9_keep at h
  refine Wr_bipush (v := 84) dX9_keep_0 (by decide) ?_
  refine Wr_istore_n dX9_keep_2 rfl (by decide) rfl ?_
  refine Wr_aload_n dX9_keep_3 rfl 1 rfl ?_
  refine Wr_getI dX9_keep_4 flX9_310 zl106 rfl ?_
  refine Wr_bipush (v := 40) dX9_keep_7 (by decide) ?_
  refine Wr_icmp_ne 53 dX9_keep_9 (by decide) (fun hc => ?_) (fun hc => ?_)
  · have h := h.2 hc
    refine Wr_iconstv (v := 0) dX9_keep_53 (by decide) ?_
    refine Wr_istore_n dX9_keep_54 rfl (by decide) rfl ?_
    refine zsub [0, 1, 2] rfl ?_
    obtain ⟨n9, h⟩ := h
    exact wX9_keep_55 n9 _ _ _ h
  · have h := h.1 hc
    refine Wr_iload_n dX9_keep_12 rfl 0 rfl ?_
    refine Wr_istore_n dX9_keep_13 rfl (by decide) rfl ?_
    refine zsub [0, 1, 2] rfl ?_
    obtain ⟨n9, h⟩ := h
    exact wX9_keep_14 n9 _ _ _ h
theorem cX9_keep_ {d : Nat} {μ : zMem} {KV : zMem → Prop} {X : Nat → zMem → Prop} (h : pX9_keep d μ KV X) : zcV (d + 1) mX9_keep [.ref 106] μ KV X :=
  Ex_of (w := 1) mgX9_keep.2.2.2.2.2 rfl rfl rfl (by decide) (wX9_keep_0 h)

def pX9_refuse (d : Nat) (x1 : Int32) (μ : zMem) (KI : Int32 → zMem → Prop) (X : Nat → zMem → Prop) : Prop :=
  (vp_in x1 3) ∧ (vp_in x1 3) ∧ ∀ m1 : zMem, m1 = zw μ 116 x1.toNatClampNeg ((μ 116 x1.toNatClampNeg) + 1) → KI (-1) m1
set_option maxRecDepth 20000 in
theorem wX9_refuse_0 {d : Nat} {KI : Int32 → zMem → Prop} {X : Nat → zMem → Prop} {x1 : Int32} {μ : zMem} (h : pX9_refuse d x1 μ KI X) : Wr mX9_refuse (d + 1) 0 0 [(0, .ref 106), (1, .int x1)] [] μ (kI KI X) := by
  unfold pX9_refuse at h
  refine Wr_aload_n dX9_refuse_0 rfl 0 rfl ?_
  refine Wr_getR 10 dX9_refuse_1 flX9_70 zl106 rfl (by decide) ?_
  refine Wr_iload_n dX9_refuse_4 rfl 1 rfl ?_
  refine Wr_dup2 dX9_refuse_5 rfl rfl ?_
  obtain ⟨hi, h⟩ := h
  refine Wr_iald dX9_refuse_6 zl116 hi ?_
  refine Wr_iconstv (v := 1) dX9_refuse_7 (by decide) ?_
  refine Wr_iadd dX9_refuse_8 ?_
  obtain ⟨him1, h⟩ := h
  obtain ⟨m1, em1⟩ : ∃ z : zMem, z = zw μ 116 x1.toNatClampNeg ((μ 116 x1.toNatClampNeg) + 1) := ⟨_, rfl⟩
  have h := h m1 em1
  refine Wr_iast dX9_refuse_9 zl116 him1 ?_
  refine Wr_mu em1 ?_
  refine Wr_iconstv (v := (-1)) dX9_refuse_10 (by decide) ?_
  exact Wr_iret .int dX9_refuse_11 rfl rfl ⟨rfl, h⟩
theorem cX9_refuse_ {d : Nat} {x1 : Int32} {μ : zMem} {KI : Int32 → zMem → Prop} {X : Nat → zMem → Prop} (h : pX9_refuse d x1 μ KI X) : zcI (d + 1) mX9_refuse [.ref 106, .int x1] μ KI X :=
  Ex_of (w := 2) mgX9_refuse.2.2.2.2.2 rfl rfl rfl (by decide) (wX9_refuse_0 h)

def pX9_set (d : Nat) (x1 : Int32) (x2 : Int32) (x3 : Int32) (μ : zMem) (KV : zMem → Prop) (X : Nat → zMem → Prop) : Prop :=
  (vp_in ((14 * x1) + x2) 168) ∧ ∀ m1 : zMem, m1 = zw μ 111 ((14 * x1) + x2).toNatClampNeg x3 → KV m1
set_option maxRecDepth 20000 in
theorem wX9_set_0 {d : Nat} {KV : zMem → Prop} {X : Nat → zMem → Prop} {x1 : Int32} {x2 : Int32} {x3 : Int32} {μ : zMem} (h : pX9_set d x1 x2 x3 μ KV X) : Wr mX9_set (d + 1) 0 0 [(0, .ref 106), (1, .int x1), (2, .int x2), (3, .int x3)] [] μ (kV KV X) := by
  unfold pX9_set at h
  refine Wr_aload_n dX9_set_0 rfl 0 rfl ?_
  refine Wr_getR 5 dX9_set_1 flX9_55 zl106 rfl (by decide) ?_
  refine Wr_bipush (v := 14) dX9_set_4 (by decide) ?_
  refine Wr_iload_n dX9_set_6 rfl 1 rfl ?_
  refine Wr_imul dX9_set_7 ?_
  refine Wr_iload_n dX9_set_8 rfl 2 rfl ?_
  refine Wr_iadd dX9_set_9 ?_
  refine Wr_iload_n dX9_set_10 rfl 3 rfl ?_
  obtain ⟨him1, h⟩ := h
  obtain ⟨m1, em1⟩ : ∃ z : zMem, z = zw μ 111 ((14 * x1) + x2).toNatClampNeg x3 := ⟨_, rfl⟩
  have h := h m1 em1
  refine Wr_iast dX9_set_11 zl111 him1 ?_
  refine Wr_mu em1 ?_
  exact Wr_vret dX9_set_12 rfl ⟨rfl, h⟩
theorem cX9_set_ {d : Nat} {x1 : Int32} {x2 : Int32} {x3 : Int32} {μ : zMem} {KV : zMem → Prop} {X : Nat → zMem → Prop} (h : pX9_set d x1 x2 x3 μ KV X) : zcV (d + 1) mX9_set [.ref 106, .int x1, .int x2, .int x3] μ KV X :=
  Ex_of (w := 4) mgX9_set.2.2.2.2.2 rfl rfl rfl (by decide) (wX9_set_0 h)

def pX9_winch (d : Nat) (x1 : Int32) (x2 : Int32) (μ : zMem) (KI : Int32 → zMem → Prop) (X : Nat → zMem → Prop) : Prop :=
  ∀ m1 : zMem, m1 = zw μ 106 3 0 → zcI d mX9_isIsle [.ref 106, .int x1] m1 (fun u3 m2 => ((u3 = 0 → zcI d mX9_fail [.ref 106, .int 1] m2 (fun u13 m12 => KI u13 m12) X) ∧
  (¬ (u3 = 0) → zcI d mX9_isIn [.long x2.toInt64, .long 1, .long 60] m2 (fun u5 m4 => ((u5 = 0 → zcI d mX9_refuse [.ref 106, .int 1] m4 (fun u11 m10 => KI u11 m10) X) ∧
    (¬ (u5 = 0) → zcV d mX9_keep [.ref 106] m4 (fun m6 => zcI d mX9_of [.ref 106, .int x1, .int 3] m6 (fun u8 m7 => zcV d mX9_set [.ref 106, .int x1, .int 3, .int x2] m7 (fun m9 => KI u8 m9) X) X) X))) X))) X
set_option maxRecDepth 20000 in
theorem wX9_winch_0 {d : Nat} {KI : Int32 → zMem → Prop} {X : Nat → zMem → Prop} {x1 : Int32} {x2 : Int32} {μ : zMem} (h : pX9_winch d x1 x2 μ KI X) : Wr mX9_winch (d + 1) 0 0 [(0, .ref 106), (1, .int x1), (2, .int x2)] [] μ (kI KI X) := by
  unfold pX9_winch at h
  refine Wr_aload_n dX9_winch_0 rfl 0 rfl ?_
  refine Wr_iconstv (v := 0) dX9_winch_1 (by decide) ?_
  obtain ⟨m1, em1⟩ : ∃ z : zMem, z = zw μ 106 3 0 := ⟨_, rfl⟩
  have h := h m1 em1
  refine Wr_putI dX9_winch_2 fpX9_155 zl106 rfl ?_
  refine Wr_mu em1 ?_
  refine Wr_aload_n dX9_winch_5 rfl 0 rfl ?_
  refine Wr_iload_n dX9_winch_6 rfl 1 rfl ?_
  refine Wr_cVi [.int x1] dX9_winch_7 mlX9_384 mgX9_isIsle rfl mvX9_isIsle (zrv zl106 _ rfl rfl) rfl rfl (Nat.le_of_ble_eq_true rfl) rfl (zcI.imp h (fun u3 m2 h => ?_) (fun _ _ h => ⟨rfl, h⟩))
  refine Wr_if_ne 19 dX9_winch_10 (by decide) (fun hc => ?_) (fun hc => ?_)
  · have h := h.2 hc
    refine Wr_iload_n dX9_winch_19 rfl 2 rfl ?_
    refine Wr_i2l dX9_winch_20 ?_
    refine Wr_lconst (v := 1) dX9_winch_21 (by decide) ?_
    refine Wr_ldc2 dX9_winch_22 lcX9_407 ?_
    refine Wr_cSi [.long x2.toInt64, .long 1, .long 60] dX9_winch_25 mlX9_158 mgX9_isIn rfl msX9_isIn  rfl rfl (Nat.le_of_ble_eq_true rfl) rfl (zcI.imp h (fun u5 m4 h => ?_) (fun _ _ h => ⟨rfl, h⟩))
    refine Wr_if_ne 37 dX9_winch_28 (by decide) (fun hc => ?_) (fun hc => ?_)
    · have h := h.2 hc
      refine Wr_aload_n dX9_winch_37 rfl 0 rfl ?_
      refine Wr_cVv [] dX9_winch_38 mlX9_412 mgX9_keep rfl mvX9_keep (zrv zl106 _ rfl rfl) rfl rfl (Nat.le_of_ble_eq_true rfl) rfl (zcV.imp h (fun m6 h => ?_) (fun _ _ h => ⟨rfl, h⟩))
      refine Wr_aload_n dX9_winch_41 rfl 0 rfl ?_
      refine Wr_iload_n dX9_winch_42 rfl 1 rfl ?_
      refine Wr_iconstv (v := 3) dX9_winch_43 (by decide) ?_
      refine Wr_cVi [.int x1, .int 3] dX9_winch_44 mlX9_330 mgX9_of rfl mvX9_of (zrv zl106 _ rfl rfl) rfl rfl (Nat.le_of_ble_eq_true rfl) rfl (zcI.imp h (fun u8 m7 h => ?_) (fun _ _ h => ⟨rfl, h⟩))
      refine Wr_istore_n dX9_winch_47 rfl (by decide) rfl ?_
      refine Wr_aload_n dX9_winch_48 rfl 1 rfl ?_
      refine Wr_iload_n dX9_winch_49 rfl 2 rfl ?_
      refine Wr_iconstv (v := 3) dX9_winch_50 (by decide) ?_
      refine Wr_iload_n dX9_winch_51 rfl 3 rfl ?_
      refine Wr_cVv [.int x1, .int 3, .int x2] dX9_winch_52 mlX9_415 mgX9_set rfl mvX9_set (zrv zl106 _ rfl rfl) rfl rfl (Nat.le_of_ble_eq_true rfl) rfl (zcV.imp h (fun m9 h => ?_) (fun _ _ h => ⟨rfl, h⟩))
      refine Wr_iload_n dX9_winch_55 rfl 0 rfl ?_
      exact Wr_iret .int dX9_winch_56 rfl rfl ⟨rfl, h⟩
    · have h := h.1 hc
      refine Wr_aload_n dX9_winch_31 rfl 0 rfl ?_
      refine Wr_iconstv (v := 1) dX9_winch_32 (by decide) ?_
      refine Wr_cVi [.int 1] dX9_winch_33 mlX9_409 mgX9_refuse rfl mvX9_refuse (zrv zl106 _ rfl rfl) rfl rfl (Nat.le_of_ble_eq_true rfl) rfl (zcI.imp h (fun u11 m10 h => ?_) (fun _ _ h => ⟨rfl, h⟩))
      exact Wr_iret .int dX9_winch_36 rfl rfl ⟨rfl, h⟩
  · have h := h.1 hc
    refine Wr_aload_n dX9_winch_13 rfl 0 rfl ?_
    refine Wr_iconstv (v := 1) dX9_winch_14 (by decide) ?_
    refine Wr_cVi [.int 1] dX9_winch_15 mlX9_297 mgX9_fail rfl mvX9_fail (zrv zl106 _ rfl rfl) rfl rfl (Nat.le_of_ble_eq_true rfl) rfl (zcI.imp h (fun u13 m12 h => ?_) (fun _ _ h => ⟨rfl, h⟩))
    exact Wr_iret .int dX9_winch_18 rfl rfl ⟨rfl, h⟩
theorem cX9_winch_ {d : Nat} {x1 : Int32} {x2 : Int32} {μ : zMem} {KI : Int32 → zMem → Prop} {X : Nat → zMem → Prop} (h : pX9_winch d x1 x2 μ KI X) : zcI (d + 1) mX9_winch [.ref 106, .int x1, .int x2] μ KI X :=
  Ex_of (w := 3) mgX9_winch.2.2.2.2.2 rfl rfl rfl (by decide) (wX9_winch_0 h)

def pX9_knot (d : Nat) (x1 : Int32) (x2 : Int32) (μ : zMem) (KI : Int32 → zMem → Prop) (X : Nat → zMem → Prop) : Prop :=
  ∀ m1 : zMem, m1 = zw μ 106 3 0 → zcI d mX9_isIsle [.ref 106, .int x1] m1 (fun u3 m2 => ((u3 = 0 → zcI d mX9_fail [.ref 106, .int 1] m2 (fun u14 m13 => KI u14 m13) X) ∧
  (¬ (u3 = 0) → zcI d mX9_of [.ref 106, .int x1, .int 9] m2 (fun u5 m4 => ∀ v6 : Int32, v6 = u5 + (if x2 = 0 then (-1) else 1) → zcI d mX9_isIn [.long v6.toInt64, .long 0, .long 60] m4 (fun u8 m7 => ((u8 = 0 → zcI d mX9_refuse [.ref 106, .int 1] m7 (fun u12 m11 => KI u12 m11) X) ∧
    (¬ (u8 = 0) → zcV d mX9_keep [.ref 106] m7 (fun m9 => zcV d mX9_set [.ref 106, .int x1, .int 9, .int v6] m9 (fun m10 => KI v6 m10) X) X))) X) X))) X
set_option maxRecDepth 20000 in
theorem wX9_knot_0 {d : Nat} {KI : Int32 → zMem → Prop} {X : Nat → zMem → Prop} {x1 : Int32} {x2 : Int32} {μ : zMem} (h : pX9_knot d x1 x2 μ KI X) : Wr mX9_knot (d + 1) 0 0 [(0, .ref 106), (1, .int x1), (2, .int x2)] [] μ (kI KI X) := by
  unfold pX9_knot at h
  refine Wr_aload_n dX9_knot_0 rfl 0 rfl ?_
  refine Wr_iconstv (v := 0) dX9_knot_1 (by decide) ?_
  obtain ⟨m1, em1⟩ : ∃ z : zMem, z = zw μ 106 3 0 := ⟨_, rfl⟩
  have h := h m1 em1
  refine Wr_putI dX9_knot_2 fpX9_155 zl106 rfl ?_
  refine Wr_mu em1 ?_
  refine Wr_aload_n dX9_knot_5 rfl 0 rfl ?_
  refine Wr_iload_n dX9_knot_6 rfl 1 rfl ?_
  refine Wr_cVi [.int x1] dX9_knot_7 mlX9_384 mgX9_isIsle rfl mvX9_isIsle (zrv zl106 _ rfl rfl) rfl rfl (Nat.le_of_ble_eq_true rfl) rfl (zcI.imp h (fun u3 m2 h => ?_) (fun _ _ h => ⟨rfl, h⟩))
  refine Wr_if_ne 19 dX9_knot_10 (by decide) (fun hc => ?_) (fun hc => ?_)
  · have h := h.2 hc
    refine Wr_aload_n dX9_knot_19 rfl 0 rfl ?_
    refine Wr_iload_n dX9_knot_20 rfl 1 rfl ?_
    refine Wr_bipush (v := 9) dX9_knot_21 (by decide) ?_
    refine Wr_cVi [.int x1, .int 9] dX9_knot_23 mlX9_330 mgX9_of rfl mvX9_of (zrv zl106 _ rfl rfl) rfl rfl (Nat.le_of_ble_eq_true rfl) rfl (zcI.imp h (fun u5 m4 h => ?_) (fun _ _ h => ⟨rfl, h⟩))
    refine Wr_iload_n dX9_knot_26 rfl 2 rfl ?_
    have hj1 : Wr mX9_knot (d + 1) 0 35 [(0, .ref 106), (1, .int x1), (2, .int x2)] [.int (if x2 = 0 then (-1) else 1), .int u5] m4 (kI KI X) := by
      refine Wr_iadd dX9_knot_35 ?_
      obtain ⟨v6, ev6⟩ : ∃ z : Int32, z = u5 + (if x2 = 0 then (-1) else 1) := ⟨_, rfl⟩
      have h := h v6 ev6
      refine Wr_top ev6 ?_
      refine Wr_istore_n dX9_knot_36 rfl (by decide) rfl ?_
      refine Wr_iload_n dX9_knot_37 rfl 0 rfl ?_
      refine Wr_i2l dX9_knot_38 ?_
      refine Wr_lconst (v := 0) dX9_knot_39 (by decide) ?_
      refine Wr_ldc2 dX9_knot_40 lcX9_407 ?_
      refine Wr_cSi [.long v6.toInt64, .long 0, .long 60] dX9_knot_43 mlX9_158 mgX9_isIn rfl msX9_isIn  rfl rfl (Nat.le_of_ble_eq_true rfl) rfl (zcI.imp h (fun u8 m7 h => ?_) (fun _ _ h => ⟨rfl, h⟩))
      refine Wr_if_ne 55 dX9_knot_46 (by decide) (fun hc => ?_) (fun hc => ?_)
      · have h := h.2 hc
        refine Wr_aload_n dX9_knot_55 rfl 1 rfl ?_
        refine Wr_cVv [] dX9_knot_56 mlX9_412 mgX9_keep rfl mvX9_keep (zrv zl106 _ rfl rfl) rfl rfl (Nat.le_of_ble_eq_true rfl) rfl (zcV.imp h (fun m9 h => ?_) (fun _ _ h => ⟨rfl, h⟩))
        refine Wr_aload_n dX9_knot_59 rfl 1 rfl ?_
        refine Wr_iload_n dX9_knot_60 rfl 2 rfl ?_
        refine Wr_bipush (v := 9) dX9_knot_61 (by decide) ?_
        refine Wr_iload_n dX9_knot_63 rfl 0 rfl ?_
        refine Wr_cVv [.int x1, .int 9, .int v6] dX9_knot_64 mlX9_415 mgX9_set rfl mvX9_set (zrv zl106 _ rfl rfl) rfl rfl (Nat.le_of_ble_eq_true rfl) rfl (zcV.imp h (fun m10 h => ?_) (fun _ _ h => ⟨rfl, h⟩))
        refine Wr_iload_n dX9_knot_67 rfl 0 rfl ?_
        exact Wr_iret .int dX9_knot_68 rfl rfl ⟨rfl, h⟩
      · have h := h.1 hc
        refine Wr_aload_n dX9_knot_49 rfl 1 rfl ?_
        refine Wr_iconstv (v := 1) dX9_knot_50 (by decide) ?_
        refine Wr_cVi [.int 1] dX9_knot_51 mlX9_409 mgX9_refuse rfl mvX9_refuse (zrv zl106 _ rfl rfl) rfl rfl (Nat.le_of_ble_eq_true rfl) rfl (zcI.imp h (fun u12 m11 h => ?_) (fun _ _ h => ⟨rfl, h⟩))
        exact Wr_iret .int dX9_knot_54 rfl rfl ⟨rfl, h⟩
    refine Wr_if_eq 34 dX9_knot_27 (by decide) (fun hc0 => ?_) (fun hc0 => ?_)
    · skip
      refine Wr_iconstv (v := (-1)) dX9_knot_34 (by decide) ?_
      exact Wr_top (if_pos hc0) hj1
    · skip
      refine Wr_iconstv (v := 1) dX9_knot_30 (by decide) ?_
      refine Wr_goto 35 dX9_knot_31 (by decide) ?_
      exact Wr_top (if_neg hc0) hj1
  · have h := h.1 hc
    refine Wr_aload_n dX9_knot_13 rfl 0 rfl ?_
    refine Wr_iconstv (v := 1) dX9_knot_14 (by decide) ?_
    refine Wr_cVi [.int 1] dX9_knot_15 mlX9_297 mgX9_fail rfl mvX9_fail (zrv zl106 _ rfl rfl) rfl rfl (Nat.le_of_ble_eq_true rfl) rfl (zcI.imp h (fun u14 m13 h => ?_) (fun _ _ h => ⟨rfl, h⟩))
    exact Wr_iret .int dX9_knot_18 rfl rfl ⟨rfl, h⟩
theorem cX9_knot_ {d : Nat} {x1 : Int32} {x2 : Int32} {μ : zMem} {KI : Int32 → zMem → Prop} {X : Nat → zMem → Prop} (h : pX9_knot d x1 x2 μ KI X) : zcI (d + 1) mX9_knot [.ref 106, .int x1, .int x2] μ KI X :=
  Ex_of (w := 3) mgX9_knot.2.2.2.2.2 rfl rfl rfl (by decide) (wX9_knot_0 h)

def pX9_load (d : Nat) (x1 : Int32) (x2 : Int32) (μ : zMem) (KI : Int32 → zMem → Prop) (X : Nat → zMem → Prop) : Prop :=
  ∀ m1 : zMem, m1 = zw μ 106 3 0 → zcI d mX9_isIsle [.ref 106, .int x1] m1 (fun u3 m2 => ((u3 = 0 → zcI d mX9_fail [.ref 106, .int 1] m2 (fun u13 m12 => KI u13 m12) X) ∧
  (¬ (u3 = 0) → zcI d mX9_isIn [.long x2.toInt64, .long 0, .long 60] m2 (fun u5 m4 => ((u5 = 0 → zcI d mX9_refuse [.ref 106, .int 1] m4 (fun u11 m10 => KI u11 m10) X) ∧
    (¬ (u5 = 0) → zcV d mX9_keep [.ref 106] m4 (fun m6 => zcI d mX9_of [.ref 106, .int x1, .int 7] m6 (fun u8 m7 => zcV d mX9_set [.ref 106, .int x1, .int 7, .int x2] m7 (fun m9 => KI u8 m9) X) X) X))) X))) X
set_option maxRecDepth 20000 in
theorem wX9_load_0 {d : Nat} {KI : Int32 → zMem → Prop} {X : Nat → zMem → Prop} {x1 : Int32} {x2 : Int32} {μ : zMem} (h : pX9_load d x1 x2 μ KI X) : Wr mX9_load (d + 1) 0 0 [(0, .ref 106), (1, .int x1), (2, .int x2)] [] μ (kI KI X) := by
  unfold pX9_load at h
  refine Wr_aload_n dX9_load_0 rfl 0 rfl ?_
  refine Wr_iconstv (v := 0) dX9_load_1 (by decide) ?_
  obtain ⟨m1, em1⟩ : ∃ z : zMem, z = zw μ 106 3 0 := ⟨_, rfl⟩
  have h := h m1 em1
  refine Wr_putI dX9_load_2 fpX9_155 zl106 rfl ?_
  refine Wr_mu em1 ?_
  refine Wr_aload_n dX9_load_5 rfl 0 rfl ?_
  refine Wr_iload_n dX9_load_6 rfl 1 rfl ?_
  refine Wr_cVi [.int x1] dX9_load_7 mlX9_384 mgX9_isIsle rfl mvX9_isIsle (zrv zl106 _ rfl rfl) rfl rfl (Nat.le_of_ble_eq_true rfl) rfl (zcI.imp h (fun u3 m2 h => ?_) (fun _ _ h => ⟨rfl, h⟩))
  refine Wr_if_ne 19 dX9_load_10 (by decide) (fun hc => ?_) (fun hc => ?_)
  · have h := h.2 hc
    refine Wr_iload_n dX9_load_19 rfl 2 rfl ?_
    refine Wr_i2l dX9_load_20 ?_
    refine Wr_lconst (v := 0) dX9_load_21 (by decide) ?_
    refine Wr_ldc2 dX9_load_22 lcX9_407 ?_
    refine Wr_cSi [.long x2.toInt64, .long 0, .long 60] dX9_load_25 mlX9_158 mgX9_isIn rfl msX9_isIn  rfl rfl (Nat.le_of_ble_eq_true rfl) rfl (zcI.imp h (fun u5 m4 h => ?_) (fun _ _ h => ⟨rfl, h⟩))
    refine Wr_if_ne 37 dX9_load_28 (by decide) (fun hc => ?_) (fun hc => ?_)
    · have h := h.2 hc
      refine Wr_aload_n dX9_load_37 rfl 0 rfl ?_
      refine Wr_cVv [] dX9_load_38 mlX9_412 mgX9_keep rfl mvX9_keep (zrv zl106 _ rfl rfl) rfl rfl (Nat.le_of_ble_eq_true rfl) rfl (zcV.imp h (fun m6 h => ?_) (fun _ _ h => ⟨rfl, h⟩))
      refine Wr_aload_n dX9_load_41 rfl 0 rfl ?_
      refine Wr_iload_n dX9_load_42 rfl 1 rfl ?_
      refine Wr_bipush (v := 7) dX9_load_43 (by decide) ?_
      refine Wr_cVi [.int x1, .int 7] dX9_load_45 mlX9_330 mgX9_of rfl mvX9_of (zrv zl106 _ rfl rfl) rfl rfl (Nat.le_of_ble_eq_true rfl) rfl (zcI.imp h (fun u8 m7 h => ?_) (fun _ _ h => ⟨rfl, h⟩))
      refine Wr_istore_n dX9_load_48 rfl (by decide) rfl ?_
      refine Wr_aload_n dX9_load_49 rfl 1 rfl ?_
      refine Wr_iload_n dX9_load_50 rfl 2 rfl ?_
      refine Wr_bipush (v := 7) dX9_load_51 (by decide) ?_
      refine Wr_iload_n dX9_load_53 rfl 3 rfl ?_
      refine Wr_cVv [.int x1, .int 7, .int x2] dX9_load_54 mlX9_415 mgX9_set rfl mvX9_set (zrv zl106 _ rfl rfl) rfl rfl (Nat.le_of_ble_eq_true rfl) rfl (zcV.imp h (fun m9 h => ?_) (fun _ _ h => ⟨rfl, h⟩))
      refine Wr_iload_n dX9_load_57 rfl 0 rfl ?_
      exact Wr_iret .int dX9_load_58 rfl rfl ⟨rfl, h⟩
    · have h := h.1 hc
      refine Wr_aload_n dX9_load_31 rfl 0 rfl ?_
      refine Wr_iconstv (v := 1) dX9_load_32 (by decide) ?_
      refine Wr_cVi [.int 1] dX9_load_33 mlX9_409 mgX9_refuse rfl mvX9_refuse (zrv zl106 _ rfl rfl) rfl rfl (Nat.le_of_ble_eq_true rfl) rfl (zcI.imp h (fun u11 m10 h => ?_) (fun _ _ h => ⟨rfl, h⟩))
      exact Wr_iret .int dX9_load_36 rfl rfl ⟨rfl, h⟩
  · have h := h.1 hc
    refine Wr_aload_n dX9_load_13 rfl 0 rfl ?_
    refine Wr_iconstv (v := 1) dX9_load_14 (by decide) ?_
    refine Wr_cVi [.int 1] dX9_load_15 mlX9_297 mgX9_fail rfl mvX9_fail (zrv zl106 _ rfl rfl) rfl rfl (Nat.le_of_ble_eq_true rfl) rfl (zcI.imp h (fun u13 m12 h => ?_) (fun _ _ h => ⟨rfl, h⟩))
    exact Wr_iret .int dX9_load_18 rfl rfl ⟨rfl, h⟩
theorem cX9_load_ {d : Nat} {x1 : Int32} {x2 : Int32} {μ : zMem} {KI : Int32 → zMem → Prop} {X : Nat → zMem → Prop} (h : pX9_load d x1 x2 μ KI X) : zcI (d + 1) mX9_load [.ref 106, .int x1, .int x2] μ KI X :=
  Ex_of (w := 3) mgX9_load.2.2.2.2.2 rfl rfl rfl (by decide) (wX9_load_0 h)

def pX9_goat_28 (d : Nat) (μ : zMem) (KI : Int32 → zMem → Prop) (X : Nat → zMem → Prop) : Prop :=
  ∀ m1 : zMem, m1 = zw μ 106 3 1 → KI 0 m1
set_option maxRecDepth 20000 in
theorem wX9_goat_28 {d : Nat} {KI : Int32 → zMem → Prop} {X : Nat → zMem → Prop} {μ : zMem} (h : pX9_goat_28 d μ KI X) : Wr mX9_goat (d + 1) 0 28 [(0, .ref 106)] [] μ (kI KI X) := by
  unfold pX9_goat_28 at h
  refine Wr_aload_n dX9_goat_28 rfl 0 rfl ?_
  refine Wr_iconstv (v := 1) dX9_goat_29 (by decide) ?_
  obtain ⟨m1, em1⟩ : ∃ z : zMem, z = zw μ 106 3 1 := ⟨_, rfl⟩
  have h := h m1 em1
  refine Wr_putI dX9_goat_30 fpX9_155 zl106 rfl ?_
  refine Wr_mu em1 ?_
  refine Wr_iconstv (v := 0) dX9_goat_33 (by decide) ?_
  exact Wr_iret .boolean dX9_goat_34 rfl rfl ⟨rfl, h⟩
def pX9_goat_77 (d : Nat) (μ : zMem) (KI : Int32 → zMem → Prop) (X : Nat → zMem → Prop) : Prop :=
  ∀ m1 : zMem, m1 = zw μ 116 1 ((μ 116 1) + 1) → KI 0 m1
set_option maxRecDepth 20000 in
theorem wX9_goat_77 {d : Nat} {KI : Int32 → zMem → Prop} {X : Nat → zMem → Prop} {μ : zMem} (h : pX9_goat_77 d μ KI X) : Wr mX9_goat (d + 1) 0 77 [(0, .ref 106)] [] μ (kI KI X) := by
  unfold pX9_goat_77 at h
  refine Wr_aload_n dX9_goat_77 rfl 0 rfl ?_
  refine Wr_getR 10 dX9_goat_78 flX9_70 zl106 rfl (by decide) ?_
  refine Wr_iconstv (v := 1) dX9_goat_81 (by decide) ?_
  refine Wr_dup2 dX9_goat_82 rfl rfl ?_
  refine Wr_iald dX9_goat_83 zl116 (by unfold vp_in; decide) ?_
  refine Wr_iconstv (v := 1) dX9_goat_84 (by decide) ?_
  refine Wr_iadd dX9_goat_85 ?_
  obtain ⟨m1, em1⟩ : ∃ z : zMem, z = zw μ 116 1 ((μ 116 1) + 1) := ⟨_, rfl⟩
  have h := h m1 em1
  refine Wr_iast dX9_goat_86 zl116 (by unfold vp_in; decide) ?_
  refine Wr_mu em1 ?_
  refine Wr_iconstv (v := 0) dX9_goat_87 (by decide) ?_
  exact Wr_iret .boolean dX9_goat_88 rfl rfl ⟨rfl, h⟩
def pX9_goat (d : Nat) (x1 : Int32) (x2 : Int32) (x3 : Int32) (μ : zMem) (KI : Int32 → zMem → Prop) (X : Nat → zMem → Prop) : Prop :=
  ∀ m1 : zMem, m1 = zw μ 106 3 0 → zcI d mX9_isIsle [.ref 106, .int x1] m1 (fun u3 m2 => ((u3 = 0 → pX9_goat_28 d m2 KI X) ∧
  (¬ (u3 = 0) → zcI d mX9_isIsle [.ref 106, .int x2] m2 (fun u5 m4 => ((u5 = 0 → pX9_goat_28 d m4 KI X) ∧
    (¬ (u5 = 0) → zcI d mX9_isHour [.int x3] m4 (fun u7 m6 => ((u7 = 0 → pX9_goat_28 d m6 KI X) ∧
      (¬ (u7 = 0) → zcV d mX9_tellHour [.ref 106, .int x3, .int 0] m6 (fun m8 => ((x1 = x2 → pX9_goat_77 d m8 KI X) ∧
        (¬ (x1 = x2) → zcI d mX9_of [.ref 106, .int x1, .int 8] m8 (fun u10 m9 => ((u10 = 0 → pX9_goat_77 d m9 KI X) ∧
          (¬ (u10 = 0) → zcI d mX9_of [.ref 106, .int x2, .int 8] m9 (fun u12 m11 => ((u12 = 9 → pX9_goat_77 d m11 KI X) ∧
            (¬ (u12 = 9) → zcI d mX9_isBridge [.ref 106, .int x1, .int x2] m11 (fun u14 m13 => ((u14 = 0 → pX9_goat_77 d m13 KI X) ∧
              (¬ (u14 = 0) → zcV d mX9_keep [.ref 106] m13 (fun m15 => zcI d mX9_of [.ref 106, .int x1, .int 8] m15 (fun u17 m16 => zcV d mX9_set [.ref 106, .int x1, .int 8, .int (u17 - 1)] m16 (fun m18 => zcI d mX9_of [.ref 106, .int x2, .int 8] m18 (fun u20 m19 => zcV d mX9_set [.ref 106, .int x2, .int 8, .int (u20 + 1)] m19 (fun m21 => KI 1 m21) X) X) X) X) X))) X))) X))) X))) X))) X))) X))) X
set_option maxRecDepth 20000 in
theorem wX9_goat_0 {d : Nat} {KI : Int32 → zMem → Prop} {X : Nat → zMem → Prop} {x1 : Int32} {x2 : Int32} {x3 : Int32} {μ : zMem} (h : pX9_goat d x1 x2 x3 μ KI X) : Wr mX9_goat (d + 1) 0 0 [(0, .ref 106), (1, .int x1), (2, .int x2), (3, .int x3)] [] μ (kI KI X) := by
  unfold pX9_goat at h
  refine Wr_aload_n dX9_goat_0 rfl 0 rfl ?_
  refine Wr_iconstv (v := 0) dX9_goat_1 (by decide) ?_
  obtain ⟨m1, em1⟩ : ∃ z : zMem, z = zw μ 106 3 0 := ⟨_, rfl⟩
  have h := h m1 em1
  refine Wr_putI dX9_goat_2 fpX9_155 zl106 rfl ?_
  refine Wr_mu em1 ?_
  refine Wr_aload_n dX9_goat_5 rfl 0 rfl ?_
  refine Wr_iload_n dX9_goat_6 rfl 1 rfl ?_
  refine Wr_cVi [.int x1] dX9_goat_7 mlX9_384 mgX9_isIsle rfl mvX9_isIsle (zrv zl106 _ rfl rfl) rfl rfl (Nat.le_of_ble_eq_true rfl) rfl (zcI.imp h (fun u3 m2 h => ?_) (fun _ _ h => ⟨rfl, h⟩))
  refine Wr_if_eq 28 dX9_goat_10 (by decide) (fun hc => ?_) (fun hc => ?_)
  · have h := h.1 hc
    refine zsub [0] rfl ?_
    exact wX9_goat_28 h
  · have h := h.2 hc
    refine Wr_aload_n dX9_goat_13 rfl 0 rfl ?_
    refine Wr_iload_n dX9_goat_14 rfl 2 rfl ?_
    refine Wr_cVi [.int x2] dX9_goat_15 mlX9_384 mgX9_isIsle rfl mvX9_isIsle (zrv zl106 _ rfl rfl) rfl rfl (Nat.le_of_ble_eq_true rfl) rfl (zcI.imp h (fun u5 m4 h => ?_) (fun _ _ h => ⟨rfl, h⟩))
    refine Wr_if_eq 28 dX9_goat_18 (by decide) (fun hc => ?_) (fun hc => ?_)
    · have h := h.1 hc
      refine zsub [0] rfl ?_
      exact wX9_goat_28 h
    · have h := h.2 hc
      refine Wr_iload_n dX9_goat_21 rfl 3 rfl ?_
      refine Wr_cSi [.int x3] dX9_goat_22 mlX9_389 mgX9_isHour rfl msX9_isHour  rfl rfl (Nat.le_of_ble_eq_true rfl) rfl (zcI.imp h (fun u7 m6 h => ?_) (fun _ _ h => ⟨rfl, h⟩))
      refine Wr_if_ne 35 dX9_goat_25 (by decide) (fun hc => ?_) (fun hc => ?_)
      · have h := h.2 hc
        refine Wr_aload_n dX9_goat_35 rfl 0 rfl ?_
        refine Wr_iload_n dX9_goat_36 rfl 3 rfl ?_
        refine Wr_iconstv (v := 0) dX9_goat_37 (by decide) ?_
        refine Wr_cVv [.int x3, .int 0] dX9_goat_38 mlX9_392 mgX9_tellHour rfl mvX9_tellHour (zrv zl106 _ rfl rfl) rfl rfl (Nat.le_of_ble_eq_true rfl) rfl (zcV.imp h (fun m8 h => ?_) (fun _ _ h => ⟨rfl, h⟩))
        refine Wr_iload_n dX9_goat_41 rfl 1 rfl ?_
        refine Wr_iload_n dX9_goat_42 rfl 2 rfl ?_
        refine Wr_icmp_eq 77 dX9_goat_43 (by decide) (fun hc => ?_) (fun hc => ?_)
        · have h := h.1 hc
          refine zsub [0] rfl ?_
          exact wX9_goat_77 h
        · have h := h.2 hc
          refine Wr_aload_n dX9_goat_46 rfl 0 rfl ?_
          refine Wr_iload_n dX9_goat_47 rfl 1 rfl ?_
          refine Wr_bipush (v := 8) dX9_goat_48 (by decide) ?_
          refine Wr_cVi [.int x1, .int 8] dX9_goat_50 mlX9_330 mgX9_of rfl mvX9_of (zrv zl106 _ rfl rfl) rfl rfl (Nat.le_of_ble_eq_true rfl) rfl (zcI.imp h (fun u10 m9 h => ?_) (fun _ _ h => ⟨rfl, h⟩))
          refine Wr_if_eq 77 dX9_goat_53 (by decide) (fun hc => ?_) (fun hc => ?_)
          · have h := h.1 hc
            refine zsub [0] rfl ?_
            exact wX9_goat_77 h
          · have h := h.2 hc
            refine Wr_aload_n dX9_goat_56 rfl 0 rfl ?_
            refine Wr_iload_n dX9_goat_57 rfl 2 rfl ?_
            refine Wr_bipush (v := 8) dX9_goat_58 (by decide) ?_
            refine Wr_cVi [.int x2, .int 8] dX9_goat_60 mlX9_330 mgX9_of rfl mvX9_of (zrv zl106 _ rfl rfl) rfl rfl (Nat.le_of_ble_eq_true rfl) rfl (zcI.imp h (fun u12 m11 h => ?_) (fun _ _ h => ⟨rfl, h⟩))
            refine Wr_bipush (v := 9) dX9_goat_63 (by decide) ?_
            refine Wr_icmp_eq 77 dX9_goat_65 (by decide) (fun hc => ?_) (fun hc => ?_)
            · have h := h.1 hc
              refine zsub [0] rfl ?_
              exact wX9_goat_77 h
            · have h := h.2 hc
              refine Wr_aload_n dX9_goat_68 rfl 0 rfl ?_
              refine Wr_iload_n dX9_goat_69 rfl 1 rfl ?_
              refine Wr_iload_n dX9_goat_70 rfl 2 rfl ?_
              refine Wr_cVi [.int x1, .int x2] dX9_goat_71 mlX9_401 mgX9_isBridge rfl mvX9_isBridge (zrv zl106 _ rfl rfl) rfl rfl (Nat.le_of_ble_eq_true rfl) rfl (zcI.imp h (fun u14 m13 h => ?_) (fun _ _ h => ⟨rfl, h⟩))
              refine Wr_if_ne 89 dX9_goat_74 (by decide) (fun hc => ?_) (fun hc => ?_)
              · have h := h.2 hc
                refine Wr_aload_n dX9_goat_89 rfl 0 rfl ?_
                refine Wr_cVv [] dX9_goat_90 mlX9_412 mgX9_keep rfl mvX9_keep (zrv zl106 _ rfl rfl) rfl rfl (Nat.le_of_ble_eq_true rfl) rfl (zcV.imp h (fun m15 h => ?_) (fun _ _ h => ⟨rfl, h⟩))
                refine Wr_aload_n dX9_goat_93 rfl 0 rfl ?_
                refine Wr_iload_n dX9_goat_94 rfl 1 rfl ?_
                refine Wr_bipush (v := 8) dX9_goat_95 (by decide) ?_
                refine Wr_aload_n dX9_goat_97 rfl 0 rfl ?_
                refine Wr_iload_n dX9_goat_98 rfl 1 rfl ?_
                refine Wr_bipush (v := 8) dX9_goat_99 (by decide) ?_
                refine Wr_cVi [.int x1, .int 8] dX9_goat_101 mlX9_330 mgX9_of rfl mvX9_of (zrv zl106 _ rfl rfl) rfl rfl (Nat.le_of_ble_eq_true rfl) rfl (zcI.imp h (fun u17 m16 h => ?_) (fun _ _ h => ⟨rfl, h⟩))
                refine Wr_iconstv (v := 1) dX9_goat_104 (by decide) ?_
                refine Wr_isub dX9_goat_105 ?_
                refine Wr_cVv [.int x1, .int 8, .int (u17 - 1)] dX9_goat_106 mlX9_415 mgX9_set rfl mvX9_set (zrv zl106 _ rfl rfl) rfl rfl (Nat.le_of_ble_eq_true rfl) rfl (zcV.imp h (fun m18 h => ?_) (fun _ _ h => ⟨rfl, h⟩))
                refine Wr_aload_n dX9_goat_109 rfl 0 rfl ?_
                refine Wr_iload_n dX9_goat_110 rfl 2 rfl ?_
                refine Wr_bipush (v := 8) dX9_goat_111 (by decide) ?_
                refine Wr_aload_n dX9_goat_113 rfl 0 rfl ?_
                refine Wr_iload_n dX9_goat_114 rfl 2 rfl ?_
                refine Wr_bipush (v := 8) dX9_goat_115 (by decide) ?_
                refine Wr_cVi [.int x2, .int 8] dX9_goat_117 mlX9_330 mgX9_of rfl mvX9_of (zrv zl106 _ rfl rfl) rfl rfl (Nat.le_of_ble_eq_true rfl) rfl (zcI.imp h (fun u20 m19 h => ?_) (fun _ _ h => ⟨rfl, h⟩))
                refine Wr_iconstv (v := 1) dX9_goat_120 (by decide) ?_
                refine Wr_iadd dX9_goat_121 ?_
                refine Wr_cVv [.int x2, .int 8, .int (u20 + 1)] dX9_goat_122 mlX9_415 mgX9_set rfl mvX9_set (zrv zl106 _ rfl rfl) rfl rfl (Nat.le_of_ble_eq_true rfl) rfl (zcV.imp h (fun m21 h => ?_) (fun _ _ h => ⟨rfl, h⟩))
                refine Wr_iconstv (v := 1) dX9_goat_125 (by decide) ?_
                exact Wr_iret .boolean dX9_goat_126 rfl rfl ⟨rfl, h⟩
              · have h := h.1 hc
                refine zsub [0] rfl ?_
                exact wX9_goat_77 h
      · have h := h.1 hc
        refine zsub [0] rfl ?_
        exact wX9_goat_28 h
theorem cX9_goat_ {d : Nat} {x1 : Int32} {x2 : Int32} {x3 : Int32} {μ : zMem} {KI : Int32 → zMem → Prop} {X : Nat → zMem → Prop} (h : pX9_goat d x1 x2 x3 μ KI X) : zcI (d + 1) mX9_goat [.ref 106, .int x1, .int x2, .int x3] μ KI X :=
  Ex_of (w := 4) mgX9_goat.2.2.2.2.2 rfl rfl rfl (by decide) (wX9_goat_0 h)

def pX9_walk_68 (d : Nat) (μ : zMem) (KI : Int32 → zMem → Prop) (X : Nat → zMem → Prop) : Prop :=
  zcI d mX9_refuse [.ref 106, .int 1] μ (fun u2 m1 => KI u2 m1) X
set_option maxRecDepth 20000 in
theorem wX9_walk_68 {d : Nat} {KI : Int32 → zMem → Prop} {X : Nat → zMem → Prop} {μ : zMem} (h : pX9_walk_68 d μ KI X) : Wr mX9_walk (d + 1) 0 68 [(0, .ref 106)] [] μ (kI KI X) := by
  unfold pX9_walk_68 at h
  refine Wr_aload_n dX9_walk_68 rfl 0 rfl ?_
  refine Wr_iconstv (v := 1) dX9_walk_69 (by decide) ?_
  refine Wr_cVi [.int 1] dX9_walk_70 mlX9_409 mgX9_refuse rfl mvX9_refuse (zrv zl106 _ rfl rfl) rfl rfl (Nat.le_of_ble_eq_true rfl) rfl (zcI.imp h (fun u2 m1 h => ?_) (fun _ _ h => ⟨rfl, h⟩))
  exact Wr_iret .int dX9_walk_73 rfl rfl ⟨rfl, h⟩
def pX9_walk (d : Nat) (x1 : Int32) (x2 : Int32) (x3 : Int32) (x4 : Int32) (μ : zMem) (KI : Int32 → zMem → Prop) (X : Nat → zMem → Prop) : Prop :=
  ∀ m1 : zMem, m1 = zw μ 106 3 0 → zcI d mX9_isIsle [.ref 106, .int x1] m1 (fun u3 m2 => ((u3 = 0 → zcI d mX9_fail [.ref 106, .int 1] m2 (fun u20 m19 => KI u20 m19) X) ∧
  (¬ (u3 = 0) → zcI d mX9_isIn [.long x2.toInt64, .long 0, .long 3] m2 (fun u5 m4 => ((u5 = 0 → pX9_walk_68 d m4 KI X) ∧
    (¬ (u5 = 0) → zcI d mX9_isIn [.long x3.toInt64, .long 0, .long 3] m4 (fun u7 m6 => ((u7 = 0 → pX9_walk_68 d m6 KI X) ∧
      (¬ (u7 = 0) → ((x2 = x3 → pX9_walk_68 d m6 KI X) ∧
        (¬ (x2 = x3) → ((x4 < 1 → pX9_walk_68 d m6 KI X) ∧
          (¬ (x4 < 1) → zcI d mX9_of [.ref 106, .int x1, .int (10 + x2)] m6 (fun u9 m8 => ((x4 ≤ u9 → zcV d mX9_keep [.ref 106] m8 (fun m10 => zcI d mX9_of [.ref 106, .int x1, .int (10 + x2)] m10 (fun u12 m11 => zcV d mX9_set [.ref 106, .int x1, .int (10 + x2), .int (u12 - x4)] m11 (fun m13 => zcI d mX9_of [.ref 106, .int x1, .int (10 + x3)] m13 (fun u15 m14 => zcV d mX9_set [.ref 106, .int x1, .int (10 + x3), .int (u15 + x4)] m14 (fun m16 => zcI d mX9_of [.ref 106, .int x1, .int (10 + x3)] m16 (fun u18 m17 => KI u18 m17) X) X) X) X) X) X) ∧
            (¬ (x4 ≤ u9) → pX9_walk_68 d m8 KI X))) X))))))) X))) X))) X
set_option maxRecDepth 20000 in
theorem wX9_walk_0 {d : Nat} {KI : Int32 → zMem → Prop} {X : Nat → zMem → Prop} {x1 : Int32} {x2 : Int32} {x3 : Int32} {x4 : Int32} {μ : zMem} (h : pX9_walk d x1 x2 x3 x4 μ KI X) : Wr mX9_walk (d + 1) 0 0 [(0, .ref 106), (1, .int x1), (2, .int x2), (3, .int x3), (4, .int x4)] [] μ (kI KI X) := by
  unfold pX9_walk at h
  refine Wr_aload_n dX9_walk_0 rfl 0 rfl ?_
  refine Wr_iconstv (v := 0) dX9_walk_1 (by decide) ?_
  obtain ⟨m1, em1⟩ : ∃ z : zMem, z = zw μ 106 3 0 := ⟨_, rfl⟩
  have h := h m1 em1
  refine Wr_putI dX9_walk_2 fpX9_155 zl106 rfl ?_
  refine Wr_mu em1 ?_
  refine Wr_aload_n dX9_walk_5 rfl 0 rfl ?_
  refine Wr_iload_n dX9_walk_6 rfl 1 rfl ?_
  refine Wr_cVi [.int x1] dX9_walk_7 mlX9_384 mgX9_isIsle rfl mvX9_isIsle (zrv zl106 _ rfl rfl) rfl rfl (Nat.le_of_ble_eq_true rfl) rfl (zcI.imp h (fun u3 m2 h => ?_) (fun _ _ h => ⟨rfl, h⟩))
  refine Wr_if_ne 19 dX9_walk_10 (by decide) (fun hc => ?_) (fun hc => ?_)
  · have h := h.2 hc
    refine Wr_iload_n dX9_walk_19 rfl 2 rfl ?_
    refine Wr_i2l dX9_walk_20 ?_
    refine Wr_lconst (v := 0) dX9_walk_21 (by decide) ?_
    refine Wr_ldc2 dX9_walk_22 lcX9_399 ?_
    refine Wr_cSi [.long x2.toInt64, .long 0, .long 3] dX9_walk_25 mlX9_158 mgX9_isIn rfl msX9_isIn  rfl rfl (Nat.le_of_ble_eq_true rfl) rfl (zcI.imp h (fun u5 m4 h => ?_) (fun _ _ h => ⟨rfl, h⟩))
    refine Wr_if_eq 68 dX9_walk_28 (by decide) (fun hc => ?_) (fun hc => ?_)
    · have h := h.1 hc
      refine zsub [0] rfl ?_
      exact wX9_walk_68 h
    · have h := h.2 hc
      refine Wr_iload_n dX9_walk_31 rfl 3 rfl ?_
      refine Wr_i2l dX9_walk_32 ?_
      refine Wr_lconst (v := 0) dX9_walk_33 (by decide) ?_
      refine Wr_ldc2 dX9_walk_34 lcX9_399 ?_
      refine Wr_cSi [.long x3.toInt64, .long 0, .long 3] dX9_walk_37 mlX9_158 mgX9_isIn rfl msX9_isIn  rfl rfl (Nat.le_of_ble_eq_true rfl) rfl (zcI.imp h (fun u7 m6 h => ?_) (fun _ _ h => ⟨rfl, h⟩))
      refine Wr_if_eq 68 dX9_walk_40 (by decide) (fun hc => ?_) (fun hc => ?_)
      · have h := h.1 hc
        refine zsub [0] rfl ?_
        exact wX9_walk_68 h
      · have h := h.2 hc
        refine Wr_iload_n dX9_walk_43 rfl 2 rfl ?_
        refine Wr_iload_n dX9_walk_44 rfl 3 rfl ?_
        refine Wr_icmp_eq 68 dX9_walk_45 (by decide) (fun hc => ?_) (fun hc => ?_)
        · have h := h.1 hc
          refine zsub [0] rfl ?_
          exact wX9_walk_68 h
        · have h := h.2 hc
          refine Wr_iload dX9_walk_48 4 rfl ?_
          refine Wr_iconstv (v := 1) dX9_walk_50 (by decide) ?_
          refine Wr_icmp_lt 68 dX9_walk_51 (by decide) (fun hc => ?_) (fun hc => ?_)
          · have h := h.1 hc
            refine zsub [0] rfl ?_
            exact wX9_walk_68 h
          · have h := h.2 hc
            refine Wr_iload dX9_walk_54 4 rfl ?_
            refine Wr_aload_n dX9_walk_56 rfl 0 rfl ?_
            refine Wr_iload_n dX9_walk_57 rfl 1 rfl ?_
            refine Wr_bipush (v := 10) dX9_walk_58 (by decide) ?_
            refine Wr_iload_n dX9_walk_60 rfl 2 rfl ?_
            refine Wr_iadd dX9_walk_61 ?_
            refine Wr_cVi [.int x1, .int (10 + x2)] dX9_walk_62 mlX9_330 mgX9_of rfl mvX9_of (zrv zl106 _ rfl rfl) rfl rfl (Nat.le_of_ble_eq_true rfl) rfl (zcI.imp h (fun u9 m8 h => ?_) (fun _ _ h => ⟨rfl, h⟩))
            refine Wr_icmp_le 74 dX9_walk_65 (by decide) (fun hc => ?_) (fun hc => ?_)
            · have h := h.1 hc
              refine Wr_aload_n dX9_walk_74 rfl 0 rfl ?_
              refine Wr_cVv [] dX9_walk_75 mlX9_412 mgX9_keep rfl mvX9_keep (zrv zl106 _ rfl rfl) rfl rfl (Nat.le_of_ble_eq_true rfl) rfl (zcV.imp h (fun m10 h => ?_) (fun _ _ h => ⟨rfl, h⟩))
              refine Wr_aload_n dX9_walk_78 rfl 0 rfl ?_
              refine Wr_iload_n dX9_walk_79 rfl 1 rfl ?_
              refine Wr_bipush (v := 10) dX9_walk_80 (by decide) ?_
              refine Wr_iload_n dX9_walk_82 rfl 2 rfl ?_
              refine Wr_iadd dX9_walk_83 ?_
              refine Wr_aload_n dX9_walk_84 rfl 0 rfl ?_
              refine Wr_iload_n dX9_walk_85 rfl 1 rfl ?_
              refine Wr_bipush (v := 10) dX9_walk_86 (by decide) ?_
              refine Wr_iload_n dX9_walk_88 rfl 2 rfl ?_
              refine Wr_iadd dX9_walk_89 ?_
              refine Wr_cVi [.int x1, .int (10 + x2)] dX9_walk_90 mlX9_330 mgX9_of rfl mvX9_of (zrv zl106 _ rfl rfl) rfl rfl (Nat.le_of_ble_eq_true rfl) rfl (zcI.imp h (fun u12 m11 h => ?_) (fun _ _ h => ⟨rfl, h⟩))
              refine Wr_iload dX9_walk_93 4 rfl ?_
              refine Wr_isub dX9_walk_95 ?_
              refine Wr_cVv [.int x1, .int (10 + x2), .int (u12 - x4)] dX9_walk_96 mlX9_415 mgX9_set rfl mvX9_set (zrv zl106 _ rfl rfl) rfl rfl (Nat.le_of_ble_eq_true rfl) rfl (zcV.imp h (fun m13 h => ?_) (fun _ _ h => ⟨rfl, h⟩))
              refine Wr_aload_n dX9_walk_99 rfl 0 rfl ?_
              refine Wr_iload_n dX9_walk_100 rfl 1 rfl ?_
              refine Wr_bipush (v := 10) dX9_walk_101 (by decide) ?_
              refine Wr_iload_n dX9_walk_103 rfl 3 rfl ?_
              refine Wr_iadd dX9_walk_104 ?_
              refine Wr_aload_n dX9_walk_105 rfl 0 rfl ?_
              refine Wr_iload_n dX9_walk_106 rfl 1 rfl ?_
              refine Wr_bipush (v := 10) dX9_walk_107 (by decide) ?_
              refine Wr_iload_n dX9_walk_109 rfl 3 rfl ?_
              refine Wr_iadd dX9_walk_110 ?_
              refine Wr_cVi [.int x1, .int (10 + x3)] dX9_walk_111 mlX9_330 mgX9_of rfl mvX9_of (zrv zl106 _ rfl rfl) rfl rfl (Nat.le_of_ble_eq_true rfl) rfl (zcI.imp h (fun u15 m14 h => ?_) (fun _ _ h => ⟨rfl, h⟩))
              refine Wr_iload dX9_walk_114 4 rfl ?_
              refine Wr_iadd dX9_walk_116 ?_
              refine Wr_cVv [.int x1, .int (10 + x3), .int (u15 + x4)] dX9_walk_117 mlX9_415 mgX9_set rfl mvX9_set (zrv zl106 _ rfl rfl) rfl rfl (Nat.le_of_ble_eq_true rfl) rfl (zcV.imp h (fun m16 h => ?_) (fun _ _ h => ⟨rfl, h⟩))
              refine Wr_aload_n dX9_walk_120 rfl 0 rfl ?_
              refine Wr_iload_n dX9_walk_121 rfl 1 rfl ?_
              refine Wr_bipush (v := 10) dX9_walk_122 (by decide) ?_
              refine Wr_iload_n dX9_walk_124 rfl 3 rfl ?_
              refine Wr_iadd dX9_walk_125 ?_
              refine Wr_cVi [.int x1, .int (10 + x3)] dX9_walk_126 mlX9_330 mgX9_of rfl mvX9_of (zrv zl106 _ rfl rfl) rfl rfl (Nat.le_of_ble_eq_true rfl) rfl (zcI.imp h (fun u18 m17 h => ?_) (fun _ _ h => ⟨rfl, h⟩))
              exact Wr_iret .int dX9_walk_129 rfl rfl ⟨rfl, h⟩
            · have h := h.2 hc
              refine zsub [0] rfl ?_
              exact wX9_walk_68 h
  · have h := h.1 hc
    refine Wr_aload_n dX9_walk_13 rfl 0 rfl ?_
    refine Wr_iconstv (v := 1) dX9_walk_14 (by decide) ?_
    refine Wr_cVi [.int 1] dX9_walk_15 mlX9_297 mgX9_fail rfl mvX9_fail (zrv zl106 _ rfl rfl) rfl rfl (Nat.le_of_ble_eq_true rfl) rfl (zcI.imp h (fun u20 m19 h => ?_) (fun _ _ h => ⟨rfl, h⟩))
    exact Wr_iret .int dX9_walk_18 rfl rfl ⟨rfl, h⟩
theorem cX9_walk_ {d : Nat} {x1 : Int32} {x2 : Int32} {x3 : Int32} {x4 : Int32} {μ : zMem} {KI : Int32 → zMem → Prop} {X : Nat → zMem → Prop} (h : pX9_walk d x1 x2 x3 x4 μ KI X) : zcI (d + 1) mX9_walk [.ref 106, .int x1, .int x2, .int x3, .int x4] μ KI X :=
  Ex_of (w := 5) mgX9_walk.2.2.2.2.2 rfl rfl rfl (by decide) (wX9_walk_0 h)

def pX9_undo_26 : Nat → Nat → Int32 → zMem → (Int32 → zMem → Prop) → (Nat → zMem → Prop) → Prop
  | 0, _, _, _, _, _ => False
  | n + 1, d, x1, μ, KI, X =>
  ((84 ≤ x1 → KI (μ 106 27) μ) ∧
  (¬ (84 ≤ x1) → (vp_in ((84 * (μ 106 27)) + x1) 3360) ∧ (vp_in x1 168) ∧ ∀ m1 : zMem, m1 = zw μ 111 x1.toNatClampNeg (μ 123 ((84 * (μ 106 27)) + x1).toNatClampNeg) → ∀ v2 : Int32, v2 = x1 + 1 → pX9_undo_26 n d v2 m1 KI X))
set_option maxRecDepth 20000 in
theorem wX9_undo_26 {d : Nat} {KI : Int32 → zMem → Prop} {X : Nat → zMem → Prop} : ∀ (n : Nat) (x1 : Int32) (μ : zMem), pX9_undo_26 n d x1 μ KI X → Wr mX9_undo (d + 1) 0 26 [(0, .ref 106), (1, .int x1)] [] μ (kI KI X) := by
  intro n
  induction n with
  | zero =>
    intro x1 μ h
    exact absurd h id
  | succ n ih =>
    intro x1 μ h
    unfold pX9_undo_26 at h
    refine Wr_iload_n dX9_undo_26 rfl 1 rfl ?_
    refine Wr_bipush (v := 84) dX9_undo_27 (by decide) ?_
    refine Wr_icmp_ge 58 dX9_undo_29 (by decide) (fun hc => ?_) (fun hc => ?_)
    · have h := h.1 hc
      refine Wr_aload_n dX9_undo_58 rfl 0 rfl ?_
      refine Wr_getI dX9_undo_59 flX9_310 zl106 rfl ?_
      exact Wr_iret .int dX9_undo_62 rfl rfl ⟨rfl, h⟩
    · have h := h.2 hc
      refine Wr_aload_n dX9_undo_32 rfl 0 rfl ?_
      refine Wr_getR 5 dX9_undo_33 flX9_55 zl106 rfl (by decide) ?_
      refine Wr_iload_n dX9_undo_36 rfl 1 rfl ?_
      refine Wr_aload_n dX9_undo_37 rfl 0 rfl ?_
      refine Wr_getR 17 dX9_undo_38 flX9_95 zl106 rfl (by decide) ?_
      refine Wr_bipush (v := 84) dX9_undo_41 (by decide) ?_
      refine Wr_aload_n dX9_undo_43 rfl 0 rfl ?_
      refine Wr_getI dX9_undo_44 flX9_310 zl106 rfl ?_
      refine Wr_imul dX9_undo_47 ?_
      refine Wr_iload_n dX9_undo_48 rfl 1 rfl ?_
      refine Wr_iadd dX9_undo_49 ?_
      obtain ⟨hi, h⟩ := h
      refine Wr_iald dX9_undo_50 zl123 hi ?_
      obtain ⟨him1, h⟩ := h
      obtain ⟨m1, em1⟩ : ∃ z : zMem, z = zw μ 111 x1.toNatClampNeg (μ 123 ((84 * (μ 106 27)) + x1).toNatClampNeg) := ⟨_, rfl⟩
      have h := h m1 em1
      refine Wr_iast dX9_undo_51 zl111 him1 ?_
      refine Wr_mu em1 ?_
      obtain ⟨v2, ev2⟩ : ∃ z : Int32, z = x1 + 1 := ⟨_, rfl⟩
      have h := h v2 ev2
      refine Wr_iinc (v := v2) dX9_undo_52 (q := 1) rfl (by rw [ev2]; rfl) (by decide) rfl ?_
      refine Wr_goto 26 dX9_undo_55 (by decide) ?_
      refine zsub [0, 1] rfl ?_
      exact ih _ _ h
def pX9_undo (d : Nat) (μ : zMem) (KI : Int32 → zMem → Prop) (X : Nat → zMem → Prop) : Prop :=
  ∀ m1 : zMem, m1 = zw μ 106 3 0 → ((m1 106 27 = 0 → KI (-1) m1) ∧
  (¬ (m1 106 27 = 0) → ∀ m2 : zMem, m2 = zw m1 106 27 ((m1 106 27) - 1) → ∃ n2 : Nat, pX9_undo_26 n2 d 0 m2 KI X))
set_option maxRecDepth 20000 in
theorem wX9_undo_0 {d : Nat} {KI : Int32 → zMem → Prop} {X : Nat → zMem → Prop} {μ : zMem} (h : pX9_undo d μ KI X) : Wr mX9_undo (d + 1) 0 0 [(0, .ref 106)] [] μ (kI KI X) := by
  unfold pX9_undo at h
  refine Wr_aload_n dX9_undo_0 rfl 0 rfl ?_
  refine Wr_iconstv (v := 0) dX9_undo_1 (by decide) ?_
  obtain ⟨m1, em1⟩ : ∃ z : zMem, z = zw μ 106 3 0 := ⟨_, rfl⟩
  have h := h m1 em1
  refine Wr_putI dX9_undo_2 fpX9_155 zl106 rfl ?_
  refine Wr_mu em1 ?_
  refine Wr_aload_n dX9_undo_5 rfl 0 rfl ?_
  refine Wr_getI dX9_undo_6 flX9_310 zl106 rfl ?_
  refine Wr_if_ne 14 dX9_undo_9 (by decide) (fun hc => ?_) (fun hc => ?_)
  · have h := h.2 hc
    refine Wr_aload_n dX9_undo_14 rfl 0 rfl ?_
    refine Wr_dup dX9_undo_15 rfl ?_
    refine Wr_getI dX9_undo_16 flX9_310 zl106 rfl ?_
    refine Wr_iconstv (v := 1) dX9_undo_19 (by decide) ?_
    refine Wr_isub dX9_undo_20 ?_
    obtain ⟨m2, em2⟩ : ∃ z : zMem, z = zw m1 106 27 ((m1 106 27) - 1) := ⟨_, rfl⟩
    have h := h m2 em2
    refine Wr_putI dX9_undo_21 fpX9_310 zl106 rfl ?_
    refine Wr_mu em2 ?_
    refine Wr_iconstv (v := 0) dX9_undo_24 (by decide) ?_
    refine Wr_istore_n dX9_undo_25 rfl (by decide) rfl ?_
    refine zsub [0, 1] rfl ?_
    obtain ⟨n9, h⟩ := h
    exact wX9_undo_26 n9 _ _ h
  · have h := h.1 hc
    refine Wr_iconstv (v := (-1)) dX9_undo_12 (by decide) ?_
    exact Wr_iret .int dX9_undo_13 rfl rfl ⟨rfl, h⟩
theorem cX9_undo_ {d : Nat} {μ : zMem} {KI : Int32 → zMem → Prop} {X : Nat → zMem → Prop} (h : pX9_undo d μ KI X) : zcI (d + 1) mX9_undo [.ref 106] μ KI X :=
  Ex_of (w := 1) mgX9_undo.2.2.2.2.2 rfl rfl rfl (by decide) (wX9_undo_0 h)

def pX9_knock_14 (d : Nat) (μ : zMem) (KI : Int32 → zMem → Prop) (X : Nat → zMem → Prop) : Prop :=
  zcI d mX9_fail [.ref 106, .int 1] μ (fun u2 m1 => KI u2 m1) X
set_option maxRecDepth 20000 in
theorem wX9_knock_14 {d : Nat} {KI : Int32 → zMem → Prop} {X : Nat → zMem → Prop} {μ : zMem} (h : pX9_knock_14 d μ KI X) : Wr mX9_knock (d + 1) 0 14 [(0, .ref 106)] [] μ (kI KI X) := by
  unfold pX9_knock_14 at h
  refine Wr_aload_n dX9_knock_14 rfl 0 rfl ?_
  refine Wr_iconstv (v := 1) dX9_knock_15 (by decide) ?_
  refine Wr_cVi [.int 1] dX9_knock_16 mlX9_297 mgX9_fail rfl mvX9_fail (zrv zl106 _ rfl rfl) rfl rfl (Nat.le_of_ble_eq_true rfl) rfl (zcI.imp h (fun u2 m1 h => ?_) (fun _ _ h => ⟨rfl, h⟩))
  exact Wr_iret .int dX9_knock_19 rfl rfl ⟨rfl, h⟩
def pX9_knock_37 : Nat → Nat → Int32 → Int32 → Int32 → zMem → (Int32 → zMem → Prop) → (Nat → zMem → Prop) → Prop
  | 0, _, _, _, _, _, _, _ => False
  | n + 1, d, x2, x3, x4, μ, KI, X =>
  ((x2 < x4 → KI (-1) μ) ∧
  (¬ (x2 < x4) → zcV d mX9_tellHour [.ref 106, .int x4, .int 0] μ (fun m1 => zcI d mX9_knocked [.ref 106] m1 (fun u3 m2 => ((u3 = (-1) → ∀ v4 : Int32, v4 = x4 + 1 → pX9_knock_37 n d x2 x3 v4 m2 KI X) ∧
    (¬ (u3 = (-1)) → KI (if x3 = 0 then x4 else u3) m2))) X) X))
set_option maxRecDepth 20000 in
theorem wX9_knock_37 {d : Nat} {KI : Int32 → zMem → Prop} {X : Nat → zMem → Prop} : ∀ (n : Nat) (x2 : Int32) (x3 : Int32) (x4 : Int32) (μ : zMem), pX9_knock_37 n d x2 x3 x4 μ KI X → Wr mX9_knock (d + 1) 0 37 [(0, .ref 106), (2, .int x2), (3, .int x3), (4, .int x4)] [] μ (kI KI X) := by
  intro n
  induction n with
  | zero =>
    intro x2 x3 x4 μ h
    exact absurd h id
  | succ n ih =>
    intro x2 x3 x4 μ h
    unfold pX9_knock_37 at h
    refine Wr_iload dX9_knock_37 3 rfl ?_
    refine Wr_iload_n dX9_knock_39 rfl 1 rfl ?_
    refine Wr_icmp_gt 80 dX9_knock_40 (by decide) (fun hc => ?_) (fun hc => ?_)
    · have h := h.1 hc
      refine Wr_iconstv (v := (-1)) dX9_knock_80 (by decide) ?_
      exact Wr_iret .int dX9_knock_81 rfl rfl ⟨rfl, h⟩
    · have h := h.2 hc
      refine Wr_aload_n dX9_knock_43 rfl 0 rfl ?_
      refine Wr_iload dX9_knock_44 3 rfl ?_
      refine Wr_iconstv (v := 0) dX9_knock_46 (by decide) ?_
      refine Wr_cVv [.int x4, .int 0] dX9_knock_47 mlX9_392 mgX9_tellHour rfl mvX9_tellHour (zrv zl106 _ rfl rfl) rfl rfl (Nat.le_of_ble_eq_true rfl) rfl (zcV.imp h (fun m1 h => ?_) (fun _ _ h => ⟨rfl, h⟩))
      refine Wr_aload_n dX9_knock_50 rfl 0 rfl ?_
      refine Wr_cVi [] dX9_knock_51 mlX9_421 mgX9_knocked rfl mvX9_knocked (zrv zl106 _ rfl rfl) rfl rfl (Nat.le_of_ble_eq_true rfl) rfl (zcI.imp h (fun u3 m2 h => ?_) (fun _ _ h => ⟨rfl, h⟩))
      refine Wr_istore dX9_knock_54 (by decide) rfl ?_
      refine Wr_iload dX9_knock_56 0 rfl ?_
      refine Wr_iconstv (v := (-1)) dX9_knock_58 (by decide) ?_
      refine Wr_icmp_eq 74 dX9_knock_59 (by decide) (fun hc => ?_) (fun hc => ?_)
      · have h := h.1 hc
        obtain ⟨v4, ev4⟩ : ∃ z : Int32, z = x4 + 1 := ⟨_, rfl⟩
        have h := h v4 ev4
        refine Wr_iinc (v := v4) dX9_knock_74 (q := 4) rfl (by rw [ev4]; rfl) (by decide) rfl ?_
        refine Wr_goto 37 dX9_knock_77 (by decide) ?_
        refine zsub [0, 2, 3, 4] rfl ?_
        exact ih _ _ _ _ h
      · have h := h.2 hc
        refine Wr_iload_n dX9_knock_62 rfl 3 rfl ?_
        have hj1 : Wr mX9_knock (d + 1) 0 73 [(5, .int u3), (0, .ref 106), (2, .int x2), (3, .int x3), (4, .int x4)] [.int (if x3 = 0 then x4 else u3)] m2 (kI KI X) := by
          exact Wr_iret .int dX9_knock_73 rfl rfl ⟨rfl, h⟩
        refine Wr_if_ne 71 dX9_knock_63 (by decide) (fun hc0 => ?_) (fun hc0 => ?_)
        · skip
          refine Wr_iload dX9_knock_71 0 rfl ?_
          exact Wr_top (if_neg hc0) hj1
        · skip
          refine Wr_iload dX9_knock_66 4 rfl ?_
          refine Wr_goto 73 dX9_knock_68 (by decide) ?_
          exact Wr_top (if_pos hc0) hj1
def pX9_knock (d : Nat) (x1 : Int32) (x2 : Int32) (x3 : Int32) (μ : zMem) (KI : Int32 → zMem → Prop) (X : Nat → zMem → Prop) : Prop :=
  ∀ m1 : zMem, m1 = zw μ 106 3 0 → ((x3 < 0 → pX9_knock_14 d m1 KI X) ∧
  (¬ (x3 < 0) → ((x3 ≤ 1 → zcI d mX9_isSpan [.int x1, .int x2] m1 (fun u3 m2 => ((u3 = 0 → zcI d mX9_fail [.ref 106, .int 2] m2 (fun u5 m4 => KI u5 m4) X) ∧
      (¬ (u3 = 0) → ∃ n2 : Nat, pX9_knock_37 n2 d x2 x3 x1 m2 KI X))) X) ∧
    (¬ (x3 ≤ 1) → pX9_knock_14 d m1 KI X))))
set_option maxRecDepth 20000 in
theorem wX9_knock_0 {d : Nat} {KI : Int32 → zMem → Prop} {X : Nat → zMem → Prop} {x1 : Int32} {x2 : Int32} {x3 : Int32} {μ : zMem} (h : pX9_knock d x1 x2 x3 μ KI X) : Wr mX9_knock (d + 1) 0 0 [(0, .ref 106), (1, .int x1), (2, .int x2), (3, .int x3)] [] μ (kI KI X) := by
  unfold pX9_knock at h
  refine Wr_aload_n dX9_knock_0 rfl 0 rfl ?_
  refine Wr_iconstv (v := 0) dX9_knock_1 (by decide) ?_
  obtain ⟨m1, em1⟩ : ∃ z : zMem, z = zw μ 106 3 0 := ⟨_, rfl⟩
  have h := h m1 em1
  refine Wr_putI dX9_knock_2 fpX9_155 zl106 rfl ?_
  refine Wr_mu em1 ?_
  refine Wr_iload_n dX9_knock_5 rfl 3 rfl ?_
  refine Wr_if_lt 14 dX9_knock_6 (by decide) (fun hc => ?_) (fun hc => ?_)
  · have h := h.1 hc
    refine zsub [0] rfl ?_
    exact wX9_knock_14 h
  · have h := h.2 hc
    refine Wr_iload_n dX9_knock_9 rfl 3 rfl ?_
    refine Wr_iconstv (v := 1) dX9_knock_10 (by decide) ?_
    refine Wr_icmp_le 20 dX9_knock_11 (by decide) (fun hc => ?_) (fun hc => ?_)
    · have h := h.1 hc
      refine Wr_iload_n dX9_knock_20 rfl 1 rfl ?_
      refine Wr_iload_n dX9_knock_21 rfl 2 rfl ?_
      refine Wr_cSi [.int x1, .int x2] dX9_knock_22 mlX9_418 mgX9_isSpan rfl msX9_isSpan  rfl rfl (Nat.le_of_ble_eq_true rfl) rfl (zcI.imp h (fun u3 m2 h => ?_) (fun _ _ h => ⟨rfl, h⟩))
      refine Wr_if_ne 34 dX9_knock_25 (by decide) (fun hc => ?_) (fun hc => ?_)
      · have h := h.2 hc
        refine Wr_iload_n dX9_knock_34 rfl 1 rfl ?_
        refine Wr_istore dX9_knock_35 (by decide) rfl ?_
        refine zsub [0, 2, 3, 4] rfl ?_
        obtain ⟨n9, h⟩ := h
        exact wX9_knock_37 n9 _ _ _ _ h
      · have h := h.1 hc
        refine Wr_aload_n dX9_knock_28 rfl 0 rfl ?_
        refine Wr_iconstv (v := 2) dX9_knock_29 (by decide) ?_
        refine Wr_cVi [.int 2] dX9_knock_30 mlX9_297 mgX9_fail rfl mvX9_fail (zrv zl106 _ rfl rfl) rfl rfl (Nat.le_of_ble_eq_true rfl) rfl (zcI.imp h (fun u5 m4 h => ?_) (fun _ _ h => ⟨rfl, h⟩))
        exact Wr_iret .int dX9_knock_33 rfl rfl ⟨rfl, h⟩
    · have h := h.2 hc
      refine zsub [0] rfl ?_
      exact wX9_knock_14 h
theorem cX9_knock_ {d : Nat} {x1 : Int32} {x2 : Int32} {x3 : Int32} {μ : zMem} {KI : Int32 → zMem → Prop} {X : Nat → zMem → Prop} (h : pX9_knock d x1 x2 x3 μ KI X) : zcI (d + 1) mX9_knock [.ref 106, .int x1, .int x2, .int x3] μ KI X :=
  Ex_of (w := 4) mgX9_knock.2.2.2.2.2 rfl rfl rfl (by decide) (wX9_knock_0 h)

def pX9_rained_6 : Nat → Nat → Int32 → Int32 → Int32 → Int32 → Int32 → zMem → (Int32 → zMem → Prop) → (Nat → zMem → Prop) → Prop
  | 0, _, _, _, _, _, _, _, _, _ => False
  | n + 1, d, x1, x2, x4, x5, x6, μ, KI, X =>
  ((x4 < x6 → KI x5 μ) ∧
  (¬ (x4 < x6) → zcV d mX9_tellHour [.ref 106, .int x6, .int 0] μ (fun m1 => zcI d mX9_rainOf [.ref 106, .int x1] m1 (fun u3 m2 => ∀ v4 : Int32, v4 = x5 + (if u3 = (-1) then 0 else (if x2 = (-1) then 1 else (if x2 = u3 then 1 else 0))) → ∀ v5 : Int32, v5 = x6 + 1 → pX9_rained_6 n d x1 x2 x4 v4 v5 m2 KI X) X) X))
set_option maxRecDepth 20000 in
theorem wX9_rained_6 {d : Nat} {KI : Int32 → zMem → Prop} {X : Nat → zMem → Prop} : ∀ (n : Nat) (x1 : Int32) (x2 : Int32) (x4 : Int32) (x5 : Int32) (x6 : Int32) (μ : zMem), pX9_rained_6 n d x1 x2 x4 x5 x6 μ KI X → Wr mX9_rained (d + 1) 0 6 [(0, .ref 106), (1, .int x1), (2, .int x2), (4, .int x4), (5, .int x5), (6, .int x6)] [] μ (kI KI X) := by
  intro n
  induction n with
  | zero =>
    intro x1 x2 x4 x5 x6 μ h
    exact absurd h id
  | succ n ih =>
    intro x1 x2 x4 x5 x6 μ h
    unfold pX9_rained_6 at h
    refine Wr_iload dX9_rained_6 5 rfl ?_
    refine Wr_iload dX9_rained_8 3 rfl ?_
    refine Wr_icmp_gt 60 dX9_rained_10 (by decide) (fun hc => ?_) (fun hc => ?_)
    · have h := h.1 hc
      refine Wr_iload dX9_rained_60 4 rfl ?_
      exact Wr_iret .int dX9_rained_62 rfl rfl ⟨rfl, h⟩
    · have h := h.2 hc
      refine Wr_aload_n dX9_rained_13 rfl 0 rfl ?_
      refine Wr_iload dX9_rained_14 5 rfl ?_
      refine Wr_iconstv (v := 0) dX9_rained_16 (by decide) ?_
      refine Wr_cVv [.int x6, .int 0] dX9_rained_17 mlX9_392 mgX9_tellHour rfl mvX9_tellHour (zrv zl106 _ rfl rfl) rfl rfl (Nat.le_of_ble_eq_true rfl) rfl (zcV.imp h (fun m1 h => ?_) (fun _ _ h => ⟨rfl, h⟩))
      refine Wr_aload_n dX9_rained_20 rfl 0 rfl ?_
      refine Wr_iload_n dX9_rained_21 rfl 1 rfl ?_
      refine Wr_cVi [.int x1] dX9_rained_22 mlX9_404 mgX9_rainOf rfl mvX9_rainOf (zrv zl106 _ rfl rfl) rfl rfl (Nat.le_of_ble_eq_true rfl) rfl (zcI.imp h (fun u3 m2 h => ?_) (fun _ _ h => ⟨rfl, h⟩))
      refine Wr_istore dX9_rained_25 (by decide) rfl ?_
      refine Wr_iload dX9_rained_27 5 rfl ?_
      refine Wr_iload dX9_rained_29 0 rfl ?_
      refine Wr_iconstv (v := (-1)) dX9_rained_31 (by decide) ?_
      have hj1 : Wr mX9_rained (d + 1) 0 51 [(7, .int u3), (0, .ref 106), (1, .int x1), (2, .int x2), (4, .int x4), (5, .int x5), (6, .int x6)] [.int (if u3 = (-1) then 0 else (if x2 = (-1) then 1 else (if x2 = u3 then 1 else 0))), .int x5] m2 (kI KI X) := by
        refine Wr_iadd dX9_rained_51 ?_
        obtain ⟨v4, ev4⟩ : ∃ z : Int32, z = x5 + (if u3 = (-1) then 0 else (if x2 = (-1) then 1 else (if x2 = u3 then 1 else 0))) := ⟨_, rfl⟩
        have h := h v4 ev4
        refine Wr_top ev4 ?_
        refine Wr_istore dX9_rained_52 (by decide) rfl ?_
        obtain ⟨v5, ev5⟩ : ∃ z : Int32, z = x6 + 1 := ⟨_, rfl⟩
        have h := h v5 ev5
        refine Wr_iinc (v := v5) dX9_rained_54 (q := 6) rfl (by rw [ev5]; rfl) (by decide) rfl ?_
        refine Wr_goto 6 dX9_rained_57 (by decide) ?_
        refine zsub [0, 1, 2, 4, 5, 6] rfl ?_
        exact ih _ _ _ _ _ _ h
      refine Wr_icmp_eq 50 dX9_rained_32 (by decide) (fun hc0 => ?_) (fun hc0 => ?_)
      · skip
        refine Wr_iconstv (v := 0) dX9_rained_50 (by decide) ?_
        exact Wr_top (if_pos hc0) hj1
      · skip
        refine Wr_iload_n dX9_rained_35 rfl 3 rfl ?_
        refine Wr_iconstv (v := (-1)) dX9_rained_36 (by decide) ?_
        refine Wr_icmp_eq 46 dX9_rained_37 (by decide) (fun hc1 => ?_) (fun hc1 => ?_)
        · skip
          refine Wr_iconstv (v := 1) dX9_rained_46 (by decide) ?_
          refine Wr_goto 51 dX9_rained_47 (by decide) ?_
          exact Wr_top ((if_neg hc0).trans (if_pos hc1)) hj1
        · skip
          refine Wr_iload_n dX9_rained_40 rfl 3 rfl ?_
          refine Wr_iload dX9_rained_41 0 rfl ?_
          refine Wr_icmp_ne 50 dX9_rained_43 (by decide) (fun hc2 => ?_) (fun hc2 => ?_)
          · skip
            refine Wr_iconstv (v := 0) dX9_rained_50 (by decide) ?_
            exact Wr_top ((if_neg hc0).trans ((if_neg hc1).trans (if_neg hc2))) hj1
          · skip
            refine Wr_iconstv (v := 1) dX9_rained_46 (by decide) ?_
            refine Wr_goto 51 dX9_rained_47 (by decide) ?_
            exact Wr_top ((if_neg hc0).trans ((if_neg hc1).trans (if_pos hc2))) hj1
def pX9_rained (d : Nat) (x1 : Int32) (x2 : Int32) (x3 : Int32) (x4 : Int32) (μ : zMem) (KI : Int32 → zMem → Prop) (X : Nat → zMem → Prop) : Prop :=
  ∃ n2 : Nat, pX9_rained_6 n2 d x1 x2 x4 0 x3 μ KI X
set_option maxRecDepth 20000 in
theorem wX9_rained_0 {d : Nat} {KI : Int32 → zMem → Prop} {X : Nat → zMem → Prop} {x1 : Int32} {x2 : Int32} {x3 : Int32} {x4 : Int32} {μ : zMem} (h : pX9_rained d x1 x2 x3 x4 μ KI X) : Wr mX9_rained (d + 1) 0 0 [(0, .ref 106), (1, .int x1), (2, .int x2), (3, .int x3), (4, .int x4)] [] μ (kI KI X) := by
  unfold pX9_rained at h
  refine Wr_iconstv (v := 0) dX9_rained_0 (by decide) ?_
  refine Wr_istore dX9_rained_1 (by decide) rfl ?_
  refine Wr_iload_n dX9_rained_3 rfl 4 rfl ?_
  refine Wr_istore dX9_rained_4 (by decide) rfl ?_
  refine zsub [0, 1, 2, 4, 5, 6] rfl ?_
  obtain ⟨n9, h⟩ := h
  exact wX9_rained_6 n9 _ _ _ _ _ _ h
theorem cX9_rained_ {d : Nat} {x1 : Int32} {x2 : Int32} {x3 : Int32} {x4 : Int32} {μ : zMem} {KI : Int32 → zMem → Prop} {X : Nat → zMem → Prop} (h : pX9_rained d x1 x2 x3 x4 μ KI X) : zcI (d + 1) mX9_rained [.ref 106, .int x1, .int x2, .int x3, .int x4] μ KI X :=
  Ex_of (w := 5) mgX9_rained.2.2.2.2.2 rfl rfl rfl (by decide) (wX9_rained_0 h)

def pX9_shade (d : Nat) (x1 : Int32) (x2 : Int32) (x3 : Int32) (μ : zMem) (KI : Int32 → zMem → Prop) (X : Nat → zMem → Prop) : Prop :=
  ∀ m1 : zMem, m1 = zw μ 106 3 0 → zcI d mX9_isIsle [.ref 106, .int x1] m1 (fun u3 m2 => ((u3 = 0 → zcI d mX9_fail [.ref 106, .int 1] m2 (fun u11 m10 => KI u11 m10) X) ∧
  (¬ (u3 = 0) → zcI d mX9_isSpan [.int x2, .int x3] m2 (fun u5 m4 => ((u5 = 0 → zcI d mX9_fail [.ref 106, .int 2] m4 (fun u7 m6 => KI u7 m6) X) ∧
    (¬ (u5 = 0) → zcI d mX9_rained [.ref 106, .int x1, .int (-1), .int x2, .int x3] m4 (fun u9 m8 => KI u9 m8) X))) X))) X
set_option maxRecDepth 20000 in
theorem wX9_shade_0 {d : Nat} {KI : Int32 → zMem → Prop} {X : Nat → zMem → Prop} {x1 : Int32} {x2 : Int32} {x3 : Int32} {μ : zMem} (h : pX9_shade d x1 x2 x3 μ KI X) : Wr mX9_shade (d + 1) 0 0 [(0, .ref 106), (1, .int x1), (2, .int x2), (3, .int x3)] [] μ (kI KI X) := by
  unfold pX9_shade at h
  refine Wr_aload_n dX9_shade_0 rfl 0 rfl ?_
  refine Wr_iconstv (v := 0) dX9_shade_1 (by decide) ?_
  obtain ⟨m1, em1⟩ : ∃ z : zMem, z = zw μ 106 3 0 := ⟨_, rfl⟩
  have h := h m1 em1
  refine Wr_putI dX9_shade_2 fpX9_155 zl106 rfl ?_
  refine Wr_mu em1 ?_
  refine Wr_aload_n dX9_shade_5 rfl 0 rfl ?_
  refine Wr_iload_n dX9_shade_6 rfl 1 rfl ?_
  refine Wr_cVi [.int x1] dX9_shade_7 mlX9_384 mgX9_isIsle rfl mvX9_isIsle (zrv zl106 _ rfl rfl) rfl rfl (Nat.le_of_ble_eq_true rfl) rfl (zcI.imp h (fun u3 m2 h => ?_) (fun _ _ h => ⟨rfl, h⟩))
  refine Wr_if_ne 19 dX9_shade_10 (by decide) (fun hc => ?_) (fun hc => ?_)
  · have h := h.2 hc
    refine Wr_iload_n dX9_shade_19 rfl 2 rfl ?_
    refine Wr_iload_n dX9_shade_20 rfl 3 rfl ?_
    refine Wr_cSi [.int x2, .int x3] dX9_shade_21 mlX9_418 mgX9_isSpan rfl msX9_isSpan  rfl rfl (Nat.le_of_ble_eq_true rfl) rfl (zcI.imp h (fun u5 m4 h => ?_) (fun _ _ h => ⟨rfl, h⟩))
    refine Wr_if_eq 38 dX9_shade_24 (by decide) (fun hc => ?_) (fun hc => ?_)
    · have h := h.1 hc
      refine Wr_aload_n dX9_shade_38 rfl 0 rfl ?_
      refine Wr_iconstv (v := 2) dX9_shade_39 (by decide) ?_
      refine Wr_cVi [.int 2] dX9_shade_40 mlX9_297 mgX9_fail rfl mvX9_fail (zrv zl106 _ rfl rfl) rfl rfl (Nat.le_of_ble_eq_true rfl) rfl (zcI.imp h (fun u7 m6 h => ?_) (fun _ _ h => ⟨rfl, h⟩))
      exact Wr_iret .int dX9_shade_43 rfl rfl ⟨rfl, h⟩
    · have h := h.2 hc
      refine Wr_aload_n dX9_shade_27 rfl 0 rfl ?_
      refine Wr_iload_n dX9_shade_28 rfl 1 rfl ?_
      refine Wr_iconstv (v := (-1)) dX9_shade_29 (by decide) ?_
      refine Wr_iload_n dX9_shade_30 rfl 2 rfl ?_
      refine Wr_iload_n dX9_shade_31 rfl 3 rfl ?_
      refine Wr_cVi [.int x1, .int (-1), .int x2, .int x3] dX9_shade_32 mlX9_424 mgX9_rained rfl mvX9_rained (zrv zl106 _ rfl rfl) rfl rfl (Nat.le_of_ble_eq_true rfl) rfl (zcI.imp h (fun u9 m8 h => ?_) (fun _ _ h => ⟨rfl, h⟩))
      refine Wr_goto 43 dX9_shade_35 (by decide) ?_
      exact Wr_iret .int dX9_shade_43 rfl rfl ⟨rfl, h⟩
  · have h := h.1 hc
    refine Wr_aload_n dX9_shade_13 rfl 0 rfl ?_
    refine Wr_iconstv (v := 1) dX9_shade_14 (by decide) ?_
    refine Wr_cVi [.int 1] dX9_shade_15 mlX9_297 mgX9_fail rfl mvX9_fail (zrv zl106 _ rfl rfl) rfl rfl (Nat.le_of_ble_eq_true rfl) rfl (zcI.imp h (fun u11 m10 h => ?_) (fun _ _ h => ⟨rfl, h⟩))
    exact Wr_iret .int dX9_shade_18 rfl rfl ⟨rfl, h⟩
theorem cX9_shade_ {d : Nat} {x1 : Int32} {x2 : Int32} {x3 : Int32} {μ : zMem} {KI : Int32 → zMem → Prop} {X : Nat → zMem → Prop} (h : pX9_shade d x1 x2 x3 μ KI X) : zcI (d + 1) mX9_shade [.ref 106, .int x1, .int x2, .int x3] μ KI X :=
  Ex_of (w := 4) mgX9_shade.2.2.2.2.2 rfl rfl rfl (by decide) (wX9_shade_0 h)

def pX9_wet_42 : Nat → Nat → Int32 → Int32 → Int32 → Int32 → Int32 → Int32 → zMem → (Int32 → zMem → Prop) → (Nat → zMem → Prop) → Prop
  | 0, _, _, _, _, _, _, _, _, _, _ => False
  | n + 1, d, x1, x2, x3, x4, x5, x6, μ, KI, X =>
  ((μ 110 0 ≤ x6 → KI x4 μ) ∧
  (¬ (μ 110 0 ≤ x6) → zcI d mX9_rained [.ref 106, .int x1, .int x6, .int x2, .int x3] μ (fun u2 m1 => ((x5 < u2 → ∀ v3 : Int32, v3 = x6 + 1 → pX9_wet_42 n d x1 x2 x3 x6 u2 v3 m1 KI X) ∧
    (¬ (x5 < u2) → ∀ v4 : Int32, v4 = x6 + 1 → pX9_wet_42 n d x1 x2 x3 x4 x5 v4 m1 KI X))) X))
set_option maxRecDepth 20000 in
theorem wX9_wet_42 {d : Nat} {KI : Int32 → zMem → Prop} {X : Nat → zMem → Prop} : ∀ (n : Nat) (x1 : Int32) (x2 : Int32) (x3 : Int32) (x4 : Int32) (x5 : Int32) (x6 : Int32) (μ : zMem), pX9_wet_42 n d x1 x2 x3 x4 x5 x6 μ KI X → Wr mX9_wet (d + 1) 0 42 [(0, .ref 106), (1, .int x1), (2, .int x2), (3, .int x3), (4, .int x4), (5, .int x5), (6, .int x6)] [] μ (kI KI X) := by
  intro n
  induction n with
  | zero =>
    intro x1 x2 x3 x4 x5 x6 μ h
    exact absurd h id
  | succ n ih =>
    intro x1 x2 x3 x4 x5 x6 μ h
    unfold pX9_wet_42 at h
    refine Wr_iload dX9_wet_42 6 rfl ?_
    refine Wr_aload_n dX9_wet_44 rfl 0 rfl ?_
    refine Wr_getR 4 dX9_wet_45 flX9_51 zl106 rfl (by decide) ?_
    refine Wr_iconstv (v := 0) dX9_wet_48 (by decide) ?_
    refine Wr_iald dX9_wet_49 zl110 (by unfold vp_in; decide) ?_
    refine Wr_icmp_ge 88 dX9_wet_50 (by decide) (fun hc => ?_) (fun hc => ?_)
    · have h := h.1 hc
      refine Wr_iload dX9_wet_88 4 rfl ?_
      exact Wr_iret .int dX9_wet_90 rfl rfl ⟨rfl, h⟩
    · have h := h.2 hc
      refine Wr_aload_n dX9_wet_53 rfl 0 rfl ?_
      refine Wr_iload_n dX9_wet_54 rfl 1 rfl ?_
      refine Wr_iload dX9_wet_55 6 rfl ?_
      refine Wr_iload_n dX9_wet_57 rfl 2 rfl ?_
      refine Wr_iload_n dX9_wet_58 rfl 3 rfl ?_
      refine Wr_cVi [.int x1, .int x6, .int x2, .int x3] dX9_wet_59 mlX9_424 mgX9_rained rfl mvX9_rained (zrv zl106 _ rfl rfl) rfl rfl (Nat.le_of_ble_eq_true rfl) rfl (zcI.imp h (fun u2 m1 h => ?_) (fun _ _ h => ⟨rfl, h⟩))
      refine Wr_istore dX9_wet_62 (by decide) rfl ?_
      refine Wr_iload dX9_wet_64 0 rfl ?_
      refine Wr_iload dX9_wet_66 6 rfl ?_
      refine Wr_icmp_gt 74 dX9_wet_68 (by decide) (fun hc => ?_) (fun hc => ?_)
      · have h := h.1 hc
        refine Wr_iload dX9_wet_74 7 rfl ?_
        refine Wr_istore dX9_wet_76 (by decide) rfl ?_
        refine Wr_iload dX9_wet_78 1 rfl ?_
        refine Wr_istore dX9_wet_80 (by decide) rfl ?_
        obtain ⟨v3, ev3⟩ : ∃ z : Int32, z = x6 + 1 := ⟨_, rfl⟩
        have h := h v3 ev3
        refine Wr_iinc (v := v3) dX9_wet_82 (q := 7) rfl (by rw [ev3]; rfl) (by decide) rfl ?_
        refine Wr_goto 42 dX9_wet_85 (by decide) ?_
        refine zsub [0, 1, 2, 3, 4, 5, 6] rfl ?_
        exact ih _ _ _ _ _ _ _ h
      · have h := h.2 hc
        refine Wr_goto 82 dX9_wet_71 (by decide) ?_
        obtain ⟨v4, ev4⟩ : ∃ z : Int32, z = x6 + 1 := ⟨_, rfl⟩
        have h := h v4 ev4
        refine Wr_iinc (v := v4) dX9_wet_82 (q := 7) rfl (by rw [ev4]; rfl) (by decide) rfl ?_
        refine Wr_goto 42 dX9_wet_85 (by decide) ?_
        refine zsub [0, 1, 2, 3, 4, 5, 6] rfl ?_
        exact ih _ _ _ _ _ _ _ h
def pX9_wet (d : Nat) (x1 : Int32) (x2 : Int32) (x3 : Int32) (μ : zMem) (KI : Int32 → zMem → Prop) (X : Nat → zMem → Prop) : Prop :=
  ∀ m1 : zMem, m1 = zw μ 106 3 0 → zcI d mX9_isIsle [.ref 106, .int x1] m1 (fun u3 m2 => ((u3 = 0 → zcI d mX9_fail [.ref 106, .int 1] m2 (fun u9 m8 => KI u9 m8) X) ∧
  (¬ (u3 = 0) → zcI d mX9_isSpan [.int x2, .int x3] m2 (fun u5 m4 => ((u5 = 0 → zcI d mX9_fail [.ref 106, .int 2] m4 (fun u7 m6 => KI u7 m6) X) ∧
    (¬ (u5 = 0) → ∃ n2 : Nat, pX9_wet_42 n2 d x1 x2 x3 (-1) 0 0 m4 KI X))) X))) X
set_option maxRecDepth 20000 in
theorem wX9_wet_0 {d : Nat} {KI : Int32 → zMem → Prop} {X : Nat → zMem → Prop} {x1 : Int32} {x2 : Int32} {x3 : Int32} {μ : zMem} (h : pX9_wet d x1 x2 x3 μ KI X) : Wr mX9_wet (d + 1) 0 0 [(0, .ref 106), (1, .int x1), (2, .int x2), (3, .int x3)] [] μ (kI KI X) := by
  unfold pX9_wet at h
  refine Wr_aload_n dX9_wet_0 rfl 0 rfl ?_
  refine Wr_iconstv (v := 0) dX9_wet_1 (by decide) ?_
  obtain ⟨m1, em1⟩ : ∃ z : zMem, z = zw μ 106 3 0 := ⟨_, rfl⟩
  have h := h m1 em1
  refine Wr_putI dX9_wet_2 fpX9_155 zl106 rfl ?_
  refine Wr_mu em1 ?_
  refine Wr_aload_n dX9_wet_5 rfl 0 rfl ?_
  refine Wr_iload_n dX9_wet_6 rfl 1 rfl ?_
  refine Wr_cVi [.int x1] dX9_wet_7 mlX9_384 mgX9_isIsle rfl mvX9_isIsle (zrv zl106 _ rfl rfl) rfl rfl (Nat.le_of_ble_eq_true rfl) rfl (zcI.imp h (fun u3 m2 h => ?_) (fun _ _ h => ⟨rfl, h⟩))
  refine Wr_if_ne 19 dX9_wet_10 (by decide) (fun hc => ?_) (fun hc => ?_)
  · have h := h.2 hc
    refine Wr_iload_n dX9_wet_19 rfl 2 rfl ?_
    refine Wr_iload_n dX9_wet_20 rfl 3 rfl ?_
    refine Wr_cSi [.int x2, .int x3] dX9_wet_21 mlX9_418 mgX9_isSpan rfl msX9_isSpan  rfl rfl (Nat.le_of_ble_eq_true rfl) rfl (zcI.imp h (fun u5 m4 h => ?_) (fun _ _ h => ⟨rfl, h⟩))
    refine Wr_if_ne 33 dX9_wet_24 (by decide) (fun hc => ?_) (fun hc => ?_)
    · have h := h.2 hc
      refine Wr_iconstv (v := (-1)) dX9_wet_33 (by decide) ?_
      refine Wr_istore dX9_wet_34 (by decide) rfl ?_
      refine Wr_iconstv (v := 0) dX9_wet_36 (by decide) ?_
      refine Wr_istore dX9_wet_37 (by decide) rfl ?_
      refine Wr_iconstv (v := 0) dX9_wet_39 (by decide) ?_
      refine Wr_istore dX9_wet_40 (by decide) rfl ?_
      refine zsub [0, 1, 2, 3, 4, 5, 6] rfl ?_
      obtain ⟨n9, h⟩ := h
      exact wX9_wet_42 n9 _ _ _ _ _ _ _ h
    · have h := h.1 hc
      refine Wr_aload_n dX9_wet_27 rfl 0 rfl ?_
      refine Wr_iconstv (v := 2) dX9_wet_28 (by decide) ?_
      refine Wr_cVi [.int 2] dX9_wet_29 mlX9_297 mgX9_fail rfl mvX9_fail (zrv zl106 _ rfl rfl) rfl rfl (Nat.le_of_ble_eq_true rfl) rfl (zcI.imp h (fun u7 m6 h => ?_) (fun _ _ h => ⟨rfl, h⟩))
      exact Wr_iret .int dX9_wet_32 rfl rfl ⟨rfl, h⟩
  · have h := h.1 hc
    refine Wr_aload_n dX9_wet_13 rfl 0 rfl ?_
    refine Wr_iconstv (v := 1) dX9_wet_14 (by decide) ?_
    refine Wr_cVi [.int 1] dX9_wet_15 mlX9_297 mgX9_fail rfl mvX9_fail (zrv zl106 _ rfl rfl) rfl rfl (Nat.le_of_ble_eq_true rfl) rfl (zcI.imp h (fun u9 m8 h => ?_) (fun _ _ h => ⟨rfl, h⟩))
    exact Wr_iret .int dX9_wet_18 rfl rfl ⟨rfl, h⟩
theorem cX9_wet_ {d : Nat} {x1 : Int32} {x2 : Int32} {x3 : Int32} {μ : zMem} {KI : Int32 → zMem → Prop} {X : Nat → zMem → Prop} (h : pX9_wet d x1 x2 x3 μ KI X) : zcI (d + 1) mX9_wet [.ref 106, .int x1, .int x2, .int x3] μ KI X :=
  Ex_of (w := 4) mgX9_wet.2.2.2.2.2 rfl rfl rfl (by decide) (wX9_wet_0 h)

def pX9_winds_21 (d : Nat) (μ : zMem) (KI : Int32 → zMem → Prop) (X : Nat → zMem → Prop) : Prop :=
  zcI d mX9_fail [.ref 106, .int 1] μ (fun u2 m1 => KI u2 m1) X
set_option maxRecDepth 20000 in
theorem wX9_winds_21 {d : Nat} {KI : Int32 → zMem → Prop} {X : Nat → zMem → Prop} {μ : zMem} (h : pX9_winds_21 d μ KI X) : Wr mX9_winds (d + 1) 0 21 [(0, .ref 106)] [] μ (kI KI X) := by
  unfold pX9_winds_21 at h
  refine Wr_aload_n dX9_winds_21 rfl 0 rfl ?_
  refine Wr_iconstv (v := 1) dX9_winds_22 (by decide) ?_
  refine Wr_cVi [.int 1] dX9_winds_23 mlX9_297 mgX9_fail rfl mvX9_fail (zrv zl106 _ rfl rfl) rfl rfl (Nat.le_of_ble_eq_true rfl) rfl (zcI.imp h (fun u2 m1 h => ?_) (fun _ _ h => ⟨rfl, h⟩))
  exact Wr_iret .int dX9_winds_26 rfl rfl ⟨rfl, h⟩
def pX9_winds_41 (d : Nat) (μ : zMem) (KI : Int32 → zMem → Prop) (X : Nat → zMem → Prop) : Prop :=
  zcI d mX9_fail [.ref 106, .int 2] μ (fun u2 m1 => KI u2 m1) X
set_option maxRecDepth 20000 in
theorem wX9_winds_41 {d : Nat} {KI : Int32 → zMem → Prop} {X : Nat → zMem → Prop} {μ : zMem} (h : pX9_winds_41 d μ KI X) : Wr mX9_winds (d + 1) 0 41 [(0, .ref 106)] [] μ (kI KI X) := by
  unfold pX9_winds_41 at h
  refine Wr_aload_n dX9_winds_41 rfl 0 rfl ?_
  refine Wr_iconstv (v := 2) dX9_winds_42 (by decide) ?_
  refine Wr_cVi [.int 2] dX9_winds_43 mlX9_297 mgX9_fail rfl mvX9_fail (zrv zl106 _ rfl rfl) rfl rfl (Nat.le_of_ble_eq_true rfl) rfl (zcI.imp h (fun u2 m1 h => ?_) (fun _ _ h => ⟨rfl, h⟩))
  exact Wr_iret .int dX9_winds_46 rfl rfl ⟨rfl, h⟩
def pX9_winds_56 : Nat → Nat → Int32 → Int32 → Int32 → Int32 → Int32 → Int32 → Int32 → zMem → (Int32 → zMem → Prop) → (Nat → zMem → Prop) → Prop
  | 0, _, _, _, _, _, _, _, _, _, _, _ => False
  | n + 1, d, x1, x2, x3, x4, x5, x6, x7, μ, KI, X =>
  ((x4 < x7 → KI x5 μ) ∧
  (¬ (x4 < x7) → zcV d mX9_tellHour [.ref 106, .int x7, .int 0] μ (fun m1 => (vp_in x2 6) ∧ (vp_in x1 6) ∧ ∀ v2 : Int32, v2 = (if m1 120 x1.toNatClampNeg ≤ m1 120 x2.toNatClampNeg then 0 else 1) → ((x7 ≤ x3 → ∀ v3 : Int32, v3 = x7 + 1 → pX9_winds_56 n d x1 x2 x3 x4 x5 v2 v3 m1 KI X) ∧
    (¬ (x7 ≤ x3) → ((v2 = x6 → ∀ v4 : Int32, v4 = x7 + 1 → pX9_winds_56 n d x1 x2 x3 x4 x5 v2 v4 m1 KI X) ∧
      (¬ (v2 = x6) → (vp_in x2 6) ∧ (vp_in x1 6) ∧ ((m1 121 x2.toNatClampNeg ≤ m1 121 x1.toNatClampNeg → ∀ v5 : Int32, v5 = x7 + 1 → pX9_winds_56 n d x1 x2 x3 x4 x5 v2 v5 m1 KI X) ∧
        (¬ (m1 121 x2.toNatClampNeg ≤ m1 121 x1.toNatClampNeg) → ∀ v6 : Int32, v6 = x5 + (if v2 = 0 then (-1) else 1) → ∀ v7 : Int32, v7 = x7 + 1 → pX9_winds_56 n d x1 x2 x3 x4 v6 v2 v7 m1 KI X))))))) X))
set_option maxRecDepth 20000 in
theorem wX9_winds_56 {d : Nat} {KI : Int32 → zMem → Prop} {X : Nat → zMem → Prop} : ∀ (n : Nat) (x1 : Int32) (x2 : Int32) (x3 : Int32) (x4 : Int32) (x5 : Int32) (x6 : Int32) (x7 : Int32) (μ : zMem), pX9_winds_56 n d x1 x2 x3 x4 x5 x6 x7 μ KI X → Wr mX9_winds (d + 1) 0 56 [(0, .ref 106), (1, .int x1), (2, .int x2), (3, .int x3), (4, .int x4), (5, .int x5), (6, .int x6), (7, .int x7)] [] μ (kI KI X) := by
  intro n
  induction n with
  | zero =>
    intro x1 x2 x3 x4 x5 x6 x7 μ h
    exact absurd h id
  | succ n ih =>
    intro x1 x2 x3 x4 x5 x6 x7 μ h
    unfold pX9_winds_56 at h
    refine Wr_iload dX9_winds_56 7 rfl ?_
    refine Wr_iload dX9_winds_58 4 rfl ?_
    refine Wr_icmp_gt 145 dX9_winds_60 (by decide) (fun hc => ?_) (fun hc => ?_)
    · have h := h.1 hc
      refine Wr_iload dX9_winds_145 5 rfl ?_
      exact Wr_iret .int dX9_winds_147 rfl rfl ⟨rfl, h⟩
    · have h := h.2 hc
      refine Wr_aload_n dX9_winds_63 rfl 0 rfl ?_
      refine Wr_iload dX9_winds_64 7 rfl ?_
      refine Wr_iconstv (v := 0) dX9_winds_66 (by decide) ?_
      refine Wr_cVv [.int x7, .int 0] dX9_winds_67 mlX9_392 mgX9_tellHour rfl mvX9_tellHour (zrv zl106 _ rfl rfl) rfl rfl (Nat.le_of_ble_eq_true rfl) rfl (zcV.imp h (fun m1 h => ?_) (fun _ _ h => ⟨rfl, h⟩))
      refine Wr_aload_n dX9_winds_70 rfl 0 rfl ?_
      refine Wr_getR 14 dX9_winds_71 flX9_86 zl106 rfl (by decide) ?_
      refine Wr_iload_n dX9_winds_74 rfl 2 rfl ?_
      obtain ⟨hi, h⟩ := h
      refine Wr_iald dX9_winds_75 zl120 hi ?_
      refine Wr_aload_n dX9_winds_76 rfl 0 rfl ?_
      refine Wr_getR 14 dX9_winds_77 flX9_86 zl106 rfl (by decide) ?_
      refine Wr_iload_n dX9_winds_80 rfl 1 rfl ?_
      obtain ⟨hi, h⟩ := h
      refine Wr_iald dX9_winds_81 zl120 hi ?_
      have hj1 : Wr mX9_winds (d + 1) 0 90 [(0, .ref 106), (1, .int x1), (2, .int x2), (3, .int x3), (4, .int x4), (5, .int x5), (6, .int x6), (7, .int x7)] [.int (if m1 120 x1.toNatClampNeg ≤ m1 120 x2.toNatClampNeg then 0 else 1)] m1 (kI KI X) := by
        obtain ⟨v2, ev2⟩ : ∃ z : Int32, z = (if m1 120 x1.toNatClampNeg ≤ m1 120 x2.toNatClampNeg then 0 else 1) := ⟨_, rfl⟩
        have h := h v2 ev2
        refine Wr_top ev2 ?_
        refine Wr_istore dX9_winds_90 (by decide) rfl ?_
        refine Wr_iload dX9_winds_92 8 rfl ?_
        refine Wr_iload_n dX9_winds_94 rfl 4 rfl ?_
        refine Wr_icmp_le 135 dX9_winds_95 (by decide) (fun hc => ?_) (fun hc => ?_)
        · have h := h.1 hc
          refine Wr_iload dX9_winds_135 0 rfl ?_
          refine Wr_istore dX9_winds_137 (by decide) rfl ?_
          obtain ⟨v3, ev3⟩ : ∃ z : Int32, z = x7 + 1 := ⟨_, rfl⟩
          have h := h v3 ev3
          refine Wr_iinc (v := v3) dX9_winds_139 (q := 8) rfl (by rw [ev3]; rfl) (by decide) rfl ?_
          refine Wr_goto 56 dX9_winds_142 (by decide) ?_
          refine zsub [0, 1, 2, 3, 4, 5, 6, 7] rfl ?_
          exact ih _ _ _ _ _ _ _ _ h
        · have h := h.2 hc
          refine Wr_iload dX9_winds_98 0 rfl ?_
          refine Wr_iload dX9_winds_100 7 rfl ?_
          refine Wr_icmp_eq 135 dX9_winds_102 (by decide) (fun hc => ?_) (fun hc => ?_)
          · have h := h.1 hc
            refine Wr_iload dX9_winds_135 0 rfl ?_
            refine Wr_istore dX9_winds_137 (by decide) rfl ?_
            obtain ⟨v4, ev4⟩ : ∃ z : Int32, z = x7 + 1 := ⟨_, rfl⟩
            have h := h v4 ev4
            refine Wr_iinc (v := v4) dX9_winds_139 (q := 8) rfl (by rw [ev4]; rfl) (by decide) rfl ?_
            refine Wr_goto 56 dX9_winds_142 (by decide) ?_
            refine zsub [0, 1, 2, 3, 4, 5, 6, 7] rfl ?_
            exact ih _ _ _ _ _ _ _ _ h
          · have h := h.2 hc
            refine Wr_aload_n dX9_winds_105 rfl 1 rfl ?_
            refine Wr_getR 15 dX9_winds_106 flX9_89 zl106 rfl (by decide) ?_
            refine Wr_iload_n dX9_winds_109 rfl 3 rfl ?_
            obtain ⟨hi, h⟩ := h
            refine Wr_iald dX9_winds_110 zl121 hi ?_
            refine Wr_aload_n dX9_winds_111 rfl 1 rfl ?_
            refine Wr_getR 15 dX9_winds_112 flX9_89 zl106 rfl (by decide) ?_
            refine Wr_iload_n dX9_winds_115 rfl 2 rfl ?_
            obtain ⟨hi, h⟩ := h
            refine Wr_iald dX9_winds_116 zl121 hi ?_
            refine Wr_icmp_le 135 dX9_winds_117 (by decide) (fun hc => ?_) (fun hc => ?_)
            · have h := h.1 hc
              refine Wr_iload dX9_winds_135 0 rfl ?_
              refine Wr_istore dX9_winds_137 (by decide) rfl ?_
              obtain ⟨v5, ev5⟩ : ∃ z : Int32, z = x7 + 1 := ⟨_, rfl⟩
              have h := h v5 ev5
              refine Wr_iinc (v := v5) dX9_winds_139 (q := 8) rfl (by rw [ev5]; rfl) (by decide) rfl ?_
              refine Wr_goto 56 dX9_winds_142 (by decide) ?_
              refine zsub [0, 1, 2, 3, 4, 5, 6, 7] rfl ?_
              exact ih _ _ _ _ _ _ _ _ h
            · have h := h.2 hc
              refine Wr_iload dX9_winds_120 6 rfl ?_
              refine Wr_iload dX9_winds_122 0 rfl ?_
              have hj2 : Wr mX9_winds (d + 1) 0 132 [(8, .int v2), (0, .ref 106), (1, .int x1), (2, .int x2), (3, .int x3), (4, .int x4), (5, .int x5), (6, .int x6), (7, .int x7)] [.int (if v2 = 0 then (-1) else 1), .int x5] m1 (kI KI X) := by
                refine Wr_iadd dX9_winds_132 ?_
                obtain ⟨v6, ev6⟩ : ∃ z : Int32, z = x5 + (if v2 = 0 then (-1) else 1) := ⟨_, rfl⟩
                have h := h v6 ev6
                refine Wr_top ev6 ?_
                refine Wr_istore dX9_winds_133 (by decide) rfl ?_
                refine Wr_iload dX9_winds_135 1 rfl ?_
                refine Wr_istore dX9_winds_137 (by decide) rfl ?_
                obtain ⟨v7, ev7⟩ : ∃ z : Int32, z = x7 + 1 := ⟨_, rfl⟩
                have h := h v7 ev7
                refine Wr_iinc (v := v7) dX9_winds_139 (q := 8) rfl (by rw [ev7]; rfl) (by decide) rfl ?_
                refine Wr_goto 56 dX9_winds_142 (by decide) ?_
                refine zsub [0, 1, 2, 3, 4, 5, 6, 7] rfl ?_
                exact ih _ _ _ _ _ _ _ _ h
              refine Wr_if_eq 131 dX9_winds_124 (by decide) (fun hc0 => ?_) (fun hc0 => ?_)
              · skip
                refine Wr_iconstv (v := (-1)) dX9_winds_131 (by decide) ?_
                exact Wr_top (if_pos hc0) hj2
              · skip
                refine Wr_iconstv (v := 1) dX9_winds_127 (by decide) ?_
                refine Wr_goto 132 dX9_winds_128 (by decide) ?_
                exact Wr_top (if_neg hc0) hj2
      refine Wr_icmp_ge 89 dX9_winds_82 (by decide) (fun hc0 => ?_) (fun hc0 => ?_)
      · skip
        refine Wr_iconstv (v := 0) dX9_winds_89 (by decide) ?_
        exact Wr_top (if_pos hc0) hj1
      · skip
        refine Wr_iconstv (v := 1) dX9_winds_85 (by decide) ?_
        refine Wr_goto 90 dX9_winds_86 (by decide) ?_
        exact Wr_top (if_neg hc0) hj1
def pX9_winds (d : Nat) (x1 : Int32) (x2 : Int32) (x3 : Int32) (x4 : Int32) (μ : zMem) (KI : Int32 → zMem → Prop) (X : Nat → zMem → Prop) : Prop :=
  ∀ m1 : zMem, m1 = zw μ 106 3 0 → zcI d mX9_isIsle [.ref 106, .int x1] m1 (fun u3 m2 => ((u3 = 0 → pX9_winds_21 d m2 KI X) ∧
  (¬ (u3 = 0) → zcI d mX9_isIsle [.ref 106, .int x2] m2 (fun u5 m4 => ((u5 = 0 → pX9_winds_21 d m4 KI X) ∧
    (¬ (u5 = 0) → zcI d mX9_isSpan [.int x3, .int x4] m4 (fun u7 m6 => ((u7 = 0 → pX9_winds_41 d m6 KI X) ∧
      (¬ (u7 = 0) → ((x1 = x2 → pX9_winds_41 d m6 KI X) ∧
        (¬ (x1 = x2) → ∃ n2 : Nat, pX9_winds_56 n2 d x1 x2 x3 x4 0 0 x3 m6 KI X))))) X))) X))) X
set_option maxRecDepth 20000 in
theorem wX9_winds_0 {d : Nat} {KI : Int32 → zMem → Prop} {X : Nat → zMem → Prop} {x1 : Int32} {x2 : Int32} {x3 : Int32} {x4 : Int32} {μ : zMem} (h : pX9_winds d x1 x2 x3 x4 μ KI X) : Wr mX9_winds (d + 1) 0 0 [(0, .ref 106), (1, .int x1), (2, .int x2), (3, .int x3), (4, .int x4)] [] μ (kI KI X) := by
  unfold pX9_winds at h
  refine Wr_aload_n dX9_winds_0 rfl 0 rfl ?_
  refine Wr_iconstv (v := 0) dX9_winds_1 (by decide) ?_
  obtain ⟨m1, em1⟩ : ∃ z : zMem, z = zw μ 106 3 0 := ⟨_, rfl⟩
  have h := h m1 em1
  refine Wr_putI dX9_winds_2 fpX9_155 zl106 rfl ?_
  refine Wr_mu em1 ?_
  refine Wr_aload_n dX9_winds_5 rfl 0 rfl ?_
  refine Wr_iload_n dX9_winds_6 rfl 1 rfl ?_
  refine Wr_cVi [.int x1] dX9_winds_7 mlX9_384 mgX9_isIsle rfl mvX9_isIsle (zrv zl106 _ rfl rfl) rfl rfl (Nat.le_of_ble_eq_true rfl) rfl (zcI.imp h (fun u3 m2 h => ?_) (fun _ _ h => ⟨rfl, h⟩))
  refine Wr_if_eq 21 dX9_winds_10 (by decide) (fun hc => ?_) (fun hc => ?_)
  · have h := h.1 hc
    refine zsub [0] rfl ?_
    exact wX9_winds_21 h
  · have h := h.2 hc
    refine Wr_aload_n dX9_winds_13 rfl 0 rfl ?_
    refine Wr_iload_n dX9_winds_14 rfl 2 rfl ?_
    refine Wr_cVi [.int x2] dX9_winds_15 mlX9_384 mgX9_isIsle rfl mvX9_isIsle (zrv zl106 _ rfl rfl) rfl rfl (Nat.le_of_ble_eq_true rfl) rfl (zcI.imp h (fun u5 m4 h => ?_) (fun _ _ h => ⟨rfl, h⟩))
    refine Wr_if_ne 27 dX9_winds_18 (by decide) (fun hc => ?_) (fun hc => ?_)
    · have h := h.2 hc
      refine Wr_iload_n dX9_winds_27 rfl 3 rfl ?_
      refine Wr_iload dX9_winds_28 4 rfl ?_
      refine Wr_cSi [.int x3, .int x4] dX9_winds_30 mlX9_418 mgX9_isSpan rfl msX9_isSpan  rfl rfl (Nat.le_of_ble_eq_true rfl) rfl (zcI.imp h (fun u7 m6 h => ?_) (fun _ _ h => ⟨rfl, h⟩))
      refine Wr_if_eq 41 dX9_winds_33 (by decide) (fun hc => ?_) (fun hc => ?_)
      · have h := h.1 hc
        refine zsub [0] rfl ?_
        exact wX9_winds_41 h
      · have h := h.2 hc
        refine Wr_iload_n dX9_winds_36 rfl 1 rfl ?_
        refine Wr_iload_n dX9_winds_37 rfl 2 rfl ?_
        refine Wr_icmp_ne 47 dX9_winds_38 (by decide) (fun hc => ?_) (fun hc => ?_)
        · have h := h.2 hc
          refine Wr_iconstv (v := 0) dX9_winds_47 (by decide) ?_
          refine Wr_istore dX9_winds_48 (by decide) rfl ?_
          refine Wr_iconstv (v := 0) dX9_winds_50 (by decide) ?_
          refine Wr_istore dX9_winds_51 (by decide) rfl ?_
          refine Wr_iload_n dX9_winds_53 rfl 5 rfl ?_
          refine Wr_istore dX9_winds_54 (by decide) rfl ?_
          refine zsub [0, 1, 2, 3, 4, 5, 6, 7] rfl ?_
          obtain ⟨n9, h⟩ := h
          exact wX9_winds_56 n9 _ _ _ _ _ _ _ _ h
        · have h := h.1 hc
          refine zsub [0] rfl ?_
          exact wX9_winds_41 h
    · have h := h.1 hc
      refine zsub [0] rfl ?_
      exact wX9_winds_21 h
theorem cX9_winds_ {d : Nat} {x1 : Int32} {x2 : Int32} {x3 : Int32} {x4 : Int32} {μ : zMem} {KI : Int32 → zMem → Prop} {X : Nat → zMem → Prop} (h : pX9_winds d x1 x2 x3 x4 μ KI X) : zcI (d + 1) mX9_winds [.ref 106, .int x1, .int x2, .int x3, .int x4] μ KI X :=
  Ex_of (w := 5) mgX9_winds.2.2.2.2.2 rfl rfl rfl (by decide) (wX9_winds_0 h)

def pX9_isFine_63 : Nat → Nat → Int32 → Int32 → zMem → (Int32 → zMem → Prop) → (Nat → zMem → Prop) → (Int32 → zMem → Prop) → Prop
  | 0, _, _, _, _, _, _, _ => False
  | n + 1, d, x1, x2, μ, KI, X, C30 =>
  ((μ 110 0 ≤ x2 → ∀ v1 : Int32, v1 = x1 + 1 → C30 v1 μ) ∧
  (¬ (μ 110 0 ≤ x2) → ((μ 106 42 = 0 → ∀ v2 : Int32, v2 = x1 + 1 → C30 v2 μ) ∧
    (¬ (μ 106 42 = 0) → (vp_in x2 6) ∧ zcI d mX9_rainOf [.ref 106, .int x2] μ (fun u4 m3 => (vp_in x2 6) ∧ ∀ m5 : zMem, m5 = zw m3 126 x2.toNatClampNeg ((μ 126 x2.toNatClampNeg) + (if u4 = (-1) then 0 else 1)) → (vp_in x2 6) ∧ ((m5 126 x2.toNatClampNeg ≤ m5 110 4 → ∀ v6 : Int32, v6 = x2 + 1 → pX9_isFine_63 n d x1 v6 m5 KI X C30) ∧
      (¬ (m5 126 x2.toNatClampNeg ≤ m5 110 4) → KI 0 m5))) X))))
set_option maxRecDepth 20000 in
theorem wX9_isFine_63 {d : Nat} {KI : Int32 → zMem → Prop} {X : Nat → zMem → Prop} {C30 : Int32 → zMem → Prop} (hC30 : ∀ (x1 : Int32) (μ : zMem), C30 x1 μ → Wr mX9_isFine (d + 1) 0 30 [(0, .ref 106), (1, .int x1)] [] μ (kI KI X)) : ∀ (n : Nat) (x1 : Int32) (x2 : Int32) (μ : zMem), pX9_isFine_63 n d x1 x2 μ KI X C30 → Wr mX9_isFine (d + 1) 0 63 [(0, .ref 106), (1, .int x1), (2, .int x2)] [] μ (kI KI X) := by
  intro n
  induction n with
  | zero =>
    intro x1 x2 μ h
    exact absurd h id
  | succ n ih =>
    intro x1 x2 μ h
    unfold pX9_isFine_63 at h
    refine Wr_iload_n dX9_isFine_63 rfl 2 rfl ?_
    refine Wr_aload_n dX9_isFine_64 rfl 0 rfl ?_
    refine Wr_getR 4 dX9_isFine_65 flX9_51 zl106 rfl (by decide) ?_
    refine Wr_iconstv (v := 0) dX9_isFine_68 (by decide) ?_
    refine Wr_iald dX9_isFine_69 zl110 (by unfold vp_in; decide) ?_
    refine Wr_icmp_ge 126 dX9_isFine_70 (by decide) (fun hc => ?_) (fun hc => ?_)
    · have h := h.1 hc
      obtain ⟨v1, ev1⟩ : ∃ z : Int32, z = x1 + 1 := ⟨_, rfl⟩
      have h := h v1 ev1
      refine Wr_iinc (v := v1) dX9_isFine_126 (q := 1) rfl (by rw [ev1]; rfl) (by decide) rfl ?_
      refine Wr_goto 30 dX9_isFine_129 (by decide) ?_
      refine zsub [0, 1] rfl ?_
      exact hC30 _ _ h
    · have h := h.2 hc
      refine Wr_aload_n dX9_isFine_73 rfl 0 rfl ?_
      refine Wr_getI dX9_isFine_74 flX9_434 zl106 rfl ?_
      refine Wr_if_eq 126 dX9_isFine_77 (by decide) (fun hc => ?_) (fun hc => ?_)
      · have h := h.1 hc
        obtain ⟨v2, ev2⟩ : ∃ z : Int32, z = x1 + 1 := ⟨_, rfl⟩
        have h := h v2 ev2
        refine Wr_iinc (v := v2) dX9_isFine_126 (q := 1) rfl (by rw [ev2]; rfl) (by decide) rfl ?_
        refine Wr_goto 30 dX9_isFine_129 (by decide) ?_
        refine zsub [0, 1] rfl ?_
        exact hC30 _ _ h
      · have h := h.2 hc
        refine Wr_aload_n dX9_isFine_80 rfl 0 rfl ?_
        refine Wr_getR 20 dX9_isFine_81 flX9_104 zl106 rfl (by decide) ?_
        refine Wr_iload_n dX9_isFine_84 rfl 2 rfl ?_
        refine Wr_dup2 dX9_isFine_85 rfl rfl ?_
        obtain ⟨hi, h⟩ := h
        refine Wr_iald dX9_isFine_86 zl126 hi ?_
        refine Wr_aload_n dX9_isFine_87 rfl 0 rfl ?_
        refine Wr_iload_n dX9_isFine_88 rfl 2 rfl ?_
        refine Wr_cVi [.int x2] dX9_isFine_89 mlX9_404 mgX9_rainOf rfl mvX9_rainOf (zrv zl106 _ rfl rfl) rfl rfl (Nat.le_of_ble_eq_true rfl) rfl (zcI.imp h (fun u4 m3 h => ?_) (fun _ _ h => ⟨rfl, h⟩))
        refine Wr_iconstv (v := (-1)) dX9_isFine_92 (by decide) ?_
        have hj1 : Wr mX9_isFine (d + 1) 0 101 [(0, .ref 106), (1, .int x1), (2, .int x2)] [.int (if u4 = (-1) then 0 else 1), .int (μ 126 x2.toNatClampNeg), .int x2, .ref 126] m3 (kI KI X) := by
          refine Wr_iadd dX9_isFine_101 ?_
          obtain ⟨him5, h⟩ := h
          obtain ⟨m5, em5⟩ : ∃ z : zMem, z = zw m3 126 x2.toNatClampNeg ((μ 126 x2.toNatClampNeg) + (if u4 = (-1) then 0 else 1)) := ⟨_, rfl⟩
          have h := h m5 em5
          refine Wr_iast dX9_isFine_102 zl126 him5 ?_
          refine Wr_mu em5 ?_
          refine Wr_aload_n dX9_isFine_103 rfl 0 rfl ?_
          refine Wr_getR 20 dX9_isFine_104 flX9_104 zl106 rfl (by decide) ?_
          refine Wr_iload_n dX9_isFine_107 rfl 2 rfl ?_
          obtain ⟨hi, h⟩ := h
          refine Wr_iald dX9_isFine_108 zl126 hi ?_
          refine Wr_aload_n dX9_isFine_109 rfl 0 rfl ?_
          refine Wr_getR 4 dX9_isFine_110 flX9_51 zl106 rfl (by decide) ?_
          refine Wr_iconstv (v := 4) dX9_isFine_113 (by decide) ?_
          refine Wr_iald dX9_isFine_114 zl110 (by unfold vp_in; decide) ?_
          refine Wr_icmp_le 120 dX9_isFine_115 (by decide) (fun hc => ?_) (fun hc => ?_)
          · have h := h.1 hc
            obtain ⟨v6, ev6⟩ : ∃ z : Int32, z = x2 + 1 := ⟨_, rfl⟩
            have h := h v6 ev6
            refine Wr_iinc (v := v6) dX9_isFine_120 (q := 2) rfl (by rw [ev6]; rfl) (by decide) rfl ?_
            refine Wr_goto 63 dX9_isFine_123 (by decide) ?_
            refine zsub [0, 1, 2] rfl ?_
            exact ih _ _ _ h
          · have h := h.2 hc
            refine Wr_iconstv (v := 0) dX9_isFine_118 (by decide) ?_
            exact Wr_iret .boolean dX9_isFine_119 rfl rfl ⟨rfl, h⟩
        refine Wr_icmp_ne 100 dX9_isFine_93 (by decide) (fun hc0 => ?_) (fun hc0 => ?_)
        · skip
          refine Wr_iconstv (v := 1) dX9_isFine_100 (by decide) ?_
          exact Wr_top (if_neg hc0) hj1
        · skip
          refine Wr_iconstv (v := 0) dX9_isFine_96 (by decide) ?_
          refine Wr_goto 101 dX9_isFine_97 (by decide) ?_
          exact Wr_top (if_pos hc0) hj1
def pX9_isFine_30 : Nat → Nat → Int32 → zMem → (Int32 → zMem → Prop) → (Nat → zMem → Prop) → Prop
  | 0, _, _, _, _, _ => False
  | n + 1, d, x1, μ, KI, X =>
  ((μ 106 40 < x1 → KI 1 μ) ∧
  (¬ (μ 106 40 < x1) → zcV d mX9_tellHour [.ref 106, .int x1, .int 0] μ (fun m1 => ((m1 106 42 = 0 → zcI d mX9_knocked [.ref 106] m1 (fun u3 m2 => ((u3 = (-1) → ∃ n2 : Nat, pX9_isFine_63 n2 d x1 0 m2 KI X (fun z0 m => pX9_isFine_30 n d z0 m KI X)) ∧
      (¬ (u3 = (-1)) → KI 0 m2))) X) ∧
    (¬ (m1 106 42 = 0) → ∃ n2 : Nat, pX9_isFine_63 n2 d x1 0 m1 KI X (fun z0 m => pX9_isFine_30 n d z0 m KI X)))) X))
set_option maxRecDepth 20000 in
theorem wX9_isFine_30 {d : Nat} {KI : Int32 → zMem → Prop} {X : Nat → zMem → Prop} : ∀ (n : Nat) (x1 : Int32) (μ : zMem), pX9_isFine_30 n d x1 μ KI X → Wr mX9_isFine (d + 1) 0 30 [(0, .ref 106), (1, .int x1)] [] μ (kI KI X) := by
  intro n
  induction n with
  | zero =>
    intro x1 μ h
    exact absurd h id
  | succ n ih =>
    intro x1 μ h
    unfold pX9_isFine_30 at h
    refine Wr_iload_n dX9_isFine_30 rfl 1 rfl ?_
    refine Wr_aload_n dX9_isFine_31 rfl 0 rfl ?_
    refine Wr_getI dX9_isFine_32 flX9_431 zl106 rfl ?_
    refine Wr_icmp_gt 132 dX9_isFine_35 (by decide) (fun hc => ?_) (fun hc => ?_)
    · have h := h.1 hc
      refine Wr_iconstv (v := 1) dX9_isFine_132 (by decide) ?_
      exact Wr_iret .boolean dX9_isFine_133 rfl rfl ⟨rfl, h⟩
    · have h := h.2 hc
      refine Wr_aload_n dX9_isFine_38 rfl 0 rfl ?_
      refine Wr_iload_n dX9_isFine_39 rfl 1 rfl ?_
      refine Wr_iconstv (v := 0) dX9_isFine_40 (by decide) ?_
      refine Wr_cVv [.int x1, .int 0] dX9_isFine_41 mlX9_392 mgX9_tellHour rfl mvX9_tellHour (zrv zl106 _ rfl rfl) rfl rfl (Nat.le_of_ble_eq_true rfl) rfl (zcV.imp h (fun m1 h => ?_) (fun _ _ h => ⟨rfl, h⟩))
      refine Wr_aload_n dX9_isFine_44 rfl 0 rfl ?_
      refine Wr_getI dX9_isFine_45 flX9_434 zl106 rfl ?_
      refine Wr_if_ne 61 dX9_isFine_48 (by decide) (fun hc => ?_) (fun hc => ?_)
      · have h := h.2 hc
        refine Wr_iconstv (v := 0) dX9_isFine_61 (by decide) ?_
        refine Wr_istore_n dX9_isFine_62 rfl (by decide) rfl ?_
        refine zsub [0, 1, 2] rfl ?_
        obtain ⟨n9, h⟩ := h
        exact wX9_isFine_63 (fun z0 m h => ih z0 m h) n9 _ _ _ h
      · have h := h.1 hc
        refine Wr_aload_n dX9_isFine_51 rfl 0 rfl ?_
        refine Wr_cVi [] dX9_isFine_52 mlX9_421 mgX9_knocked rfl mvX9_knocked (zrv zl106 _ rfl rfl) rfl rfl (Nat.le_of_ble_eq_true rfl) rfl (zcI.imp h (fun u3 m2 h => ?_) (fun _ _ h => ⟨rfl, h⟩))
        refine Wr_iconstv (v := (-1)) dX9_isFine_55 (by decide) ?_
        refine Wr_icmp_eq 61 dX9_isFine_56 (by decide) (fun hc => ?_) (fun hc => ?_)
        · have h := h.1 hc
          refine Wr_iconstv (v := 0) dX9_isFine_61 (by decide) ?_
          refine Wr_istore_n dX9_isFine_62 rfl (by decide) rfl ?_
          refine zsub [0, 1, 2] rfl ?_
          obtain ⟨n9, h⟩ := h
          exact wX9_isFine_63 (fun z0 m h => ih z0 m h) n9 _ _ _ h
        · have h := h.2 hc
          refine Wr_iconstv (v := 0) dX9_isFine_59 (by decide) ?_
          exact Wr_iret .boolean dX9_isFine_60 rfl rfl ⟨rfl, h⟩
def pX9_isFine_2 : Nat → Nat → Int32 → zMem → (Int32 → zMem → Prop) → (Nat → zMem → Prop) → Prop
  | 0, _, _, _, _, _ => False
  | n + 1, d, x1, μ, KI, X =>
  ((μ 110 0 ≤ x1 → ∃ n2 : Nat, pX9_isFine_30 n2 d (μ 106 39) μ KI X) ∧
  (¬ (μ 110 0 ≤ x1) → (vp_in x1 6) ∧ ∀ m1 : zMem, m1 = zw μ 126 x1.toNatClampNeg 0 → ∀ v2 : Int32, v2 = x1 + 1 → pX9_isFine_2 n d v2 m1 KI X))
set_option maxRecDepth 20000 in
theorem wX9_isFine_2 {d : Nat} {KI : Int32 → zMem → Prop} {X : Nat → zMem → Prop} : ∀ (n : Nat) (x1 : Int32) (μ : zMem), pX9_isFine_2 n d x1 μ KI X → Wr mX9_isFine (d + 1) 0 2 [(0, .ref 106), (1, .int x1)] [] μ (kI KI X) := by
  intro n
  induction n with
  | zero =>
    intro x1 μ h
    exact absurd h id
  | succ n ih =>
    intro x1 μ h
    unfold pX9_isFine_2 at h
    refine Wr_iload_n dX9_isFine_2 rfl 1 rfl ?_
    refine Wr_aload_n dX9_isFine_3 rfl 0 rfl ?_
    refine Wr_getR 4 dX9_isFine_4 flX9_51 zl106 rfl (by decide) ?_
    refine Wr_iconstv (v := 0) dX9_isFine_7 (by decide) ?_
    refine Wr_iald dX9_isFine_8 zl110 (by unfold vp_in; decide) ?_
    refine Wr_icmp_ge 25 dX9_isFine_9 (by decide) (fun hc => ?_) (fun hc => ?_)
    · have h := h.1 hc
      refine Wr_aload_n dX9_isFine_25 rfl 0 rfl ?_
      refine Wr_getI dX9_isFine_26 flX9_428 zl106 rfl ?_
      refine Wr_istore_n dX9_isFine_29 rfl (by decide) rfl ?_
      refine zsub [0, 1] rfl ?_
      obtain ⟨n9, h⟩ := h
      exact wX9_isFine_30 n9 _ _ h
    · have h := h.2 hc
      refine Wr_aload_n dX9_isFine_12 rfl 0 rfl ?_
      refine Wr_getR 20 dX9_isFine_13 flX9_104 zl106 rfl (by decide) ?_
      refine Wr_iload_n dX9_isFine_16 rfl 1 rfl ?_
      refine Wr_iconstv (v := 0) dX9_isFine_17 (by decide) ?_
      obtain ⟨him1, h⟩ := h
      obtain ⟨m1, em1⟩ : ∃ z : zMem, z = zw μ 126 x1.toNatClampNeg 0 := ⟨_, rfl⟩
      have h := h m1 em1
      refine Wr_iast dX9_isFine_18 zl126 him1 ?_
      refine Wr_mu em1 ?_
      obtain ⟨v2, ev2⟩ : ∃ z : Int32, z = x1 + 1 := ⟨_, rfl⟩
      have h := h v2 ev2
      refine Wr_iinc (v := v2) dX9_isFine_19 (q := 1) rfl (by rw [ev2]; rfl) (by decide) rfl ?_
      refine Wr_goto 2 dX9_isFine_22 (by decide) ?_
      refine zsub [0, 1] rfl ?_
      exact ih _ _ h
def pX9_isFine (d : Nat) (μ : zMem) (KI : Int32 → zMem → Prop) (X : Nat → zMem → Prop) : Prop :=
  ∃ n2 : Nat, pX9_isFine_2 n2 d 0 μ KI X
set_option maxRecDepth 20000 in
theorem wX9_isFine_0 {d : Nat} {KI : Int32 → zMem → Prop} {X : Nat → zMem → Prop} {μ : zMem} (h : pX9_isFine d μ KI X) : Wr mX9_isFine (d + 1) 0 0 [(0, .ref 106)] [] μ (kI KI X) := by
  unfold pX9_isFine at h
  refine Wr_iconstv (v := 0) dX9_isFine_0 (by decide) ?_
  refine Wr_istore_n dX9_isFine_1 rfl (by decide) rfl ?_
  refine zsub [0, 1] rfl ?_
  obtain ⟨n9, h⟩ := h
  exact wX9_isFine_2 n9 _ _ h
theorem cX9_isFine_ {d : Nat} {μ : zMem} {KI : Int32 → zMem → Prop} {X : Nat → zMem → Prop} (h : pX9_isFine d μ KI X) : zcI (d + 1) mX9_isFine [.ref 106] μ KI X :=
  Ex_of (w := 1) mgX9_isFine.2.2.2.2.2 rfl rfl rfl (by decide) (wX9_isFine_0 h)

def pX9_winchOn_33 : Nat → Nat → Int32 → Int32 → Int32 → zMem → (zMem → Prop) → (Nat → zMem → Prop) → Prop
  | 0, _, _, _, _, _, _, _ => False
  | n + 1, d, x1, x2, x3, μ, KV, X =>
  ((μ 106 41 < x3 → (vp_in x1 6) ∧ zcV d mX9_set [.ref 106, .int x1, .int 3, .int (μ 124 x1.toNatClampNeg)] μ (fun m1 => KV m1) X) ∧
  (¬ (μ 106 41 < x3) → (vp_in x1 6) ∧ zcI d mX9_isIn [.long (((μ 124 x1.toNatClampNeg) + x3).toInt64), .long 1, .long 60] μ (fun u3 m2 => ((u3 = 0 → ∀ v7 : Int32, v7 = x3 + 1 → pX9_winchOn_33 n d x1 x2 v7 m2 KV X) ∧
    (¬ (u3 = 0) → (vp_in x1 6) ∧ zcV d mX9_set [.ref 106, .int x1, .int 3, .int ((m2 124 x1.toNatClampNeg) + x3)] m2 (fun m4 => zcV d mX9_winchOn [.ref 106, .int (x1 + 1), .int (x2 + (zabs x3))] m4 (fun m5 => ∀ v6 : Int32, v6 = x3 + 1 → pX9_winchOn_33 n d x1 x2 v6 m5 KV X) X) X))) X))
set_option maxRecDepth 20000 in
theorem wX9_winchOn_33 {d : Nat} {KV : zMem → Prop} {X : Nat → zMem → Prop} : ∀ (n : Nat) (x1 : Int32) (x2 : Int32) (x3 : Int32) (μ : zMem), pX9_winchOn_33 n d x1 x2 x3 μ KV X → Wr mX9_winchOn (d + 1) 0 33 [(0, .ref 106), (1, .int x1), (2, .int x2), (3, .int x3)] [] μ (kV KV X) := by
  intro n
  induction n with
  | zero =>
    intro x1 x2 x3 μ h
    exact absurd h id
  | succ n ih =>
    intro x1 x2 x3 μ h
    unfold pX9_winchOn_33 at h
    refine Wr_iload_n dX9_winchOn_33 rfl 3 rfl ?_
    refine Wr_aload_n dX9_winchOn_34 rfl 0 rfl ?_
    refine Wr_getI dX9_winchOn_35 flX9_440 zl106 rfl ?_
    refine Wr_icmp_gt 96 dX9_winchOn_38 (by decide) (fun hc => ?_) (fun hc => ?_)
    · have h := h.1 hc
      refine Wr_aload_n dX9_winchOn_96 rfl 0 rfl ?_
      refine Wr_iload_n dX9_winchOn_97 rfl 1 rfl ?_
      refine Wr_iconstv (v := 3) dX9_winchOn_98 (by decide) ?_
      refine Wr_aload_n dX9_winchOn_99 rfl 0 rfl ?_
      refine Wr_getR 18 dX9_winchOn_100 flX9_98 zl106 rfl (by decide) ?_
      refine Wr_iload_n dX9_winchOn_103 rfl 1 rfl ?_
      obtain ⟨hi, h⟩ := h
      refine Wr_iald dX9_winchOn_104 zl124 hi ?_
      refine Wr_cVv [.int x1, .int 3, .int (μ 124 x1.toNatClampNeg)] dX9_winchOn_105 mlX9_415 mgX9_set rfl mvX9_set (zrv zl106 _ rfl rfl) rfl rfl (Nat.le_of_ble_eq_true rfl) rfl (zcV.imp h (fun m1 h => ?_) (fun _ _ h => ⟨rfl, h⟩))
      exact Wr_vret dX9_winchOn_108 rfl ⟨rfl, h⟩
    · have h := h.2 hc
      refine Wr_aload_n dX9_winchOn_41 rfl 0 rfl ?_
      refine Wr_getR 18 dX9_winchOn_42 flX9_98 zl106 rfl (by decide) ?_
      refine Wr_iload_n dX9_winchOn_45 rfl 1 rfl ?_
      obtain ⟨hi, h⟩ := h
      refine Wr_iald dX9_winchOn_46 zl124 hi ?_
      refine Wr_iload_n dX9_winchOn_47 rfl 3 rfl ?_
      refine Wr_iadd dX9_winchOn_48 ?_
      refine Wr_i2l dX9_winchOn_49 ?_
      refine Wr_lconst (v := 1) dX9_winchOn_50 (by decide) ?_
      refine Wr_ldc2 dX9_winchOn_51 lcX9_407 ?_
      refine Wr_cSi [.long (((μ 124 x1.toNatClampNeg) + x3).toInt64), .long 1, .long 60] dX9_winchOn_54 mlX9_158 mgX9_isIn rfl msX9_isIn  rfl rfl (Nat.le_of_ble_eq_true rfl) rfl (zcI.imp h (fun u3 m2 h => ?_) (fun _ _ h => ⟨rfl, h⟩))
      refine Wr_if_ne 63 dX9_winchOn_57 (by decide) (fun hc => ?_) (fun hc => ?_)
      · have h := h.2 hc
        refine Wr_aload_n dX9_winchOn_63 rfl 0 rfl ?_
        refine Wr_iload_n dX9_winchOn_64 rfl 1 rfl ?_
        refine Wr_iconstv (v := 3) dX9_winchOn_65 (by decide) ?_
        refine Wr_aload_n dX9_winchOn_66 rfl 0 rfl ?_
        refine Wr_getR 18 dX9_winchOn_67 flX9_98 zl106 rfl (by decide) ?_
        refine Wr_iload_n dX9_winchOn_70 rfl 1 rfl ?_
        obtain ⟨hi, h⟩ := h
        refine Wr_iald dX9_winchOn_71 zl124 hi ?_
        refine Wr_iload_n dX9_winchOn_72 rfl 3 rfl ?_
        refine Wr_iadd dX9_winchOn_73 ?_
        refine Wr_cVv [.int x1, .int 3, .int ((m2 124 x1.toNatClampNeg) + x3)] dX9_winchOn_74 mlX9_415 mgX9_set rfl mvX9_set (zrv zl106 _ rfl rfl) rfl rfl (Nat.le_of_ble_eq_true rfl) rfl (zcV.imp h (fun m4 h => ?_) (fun _ _ h => ⟨rfl, h⟩))
        refine Wr_aload_n dX9_winchOn_77 rfl 0 rfl ?_
        refine Wr_iload_n dX9_winchOn_78 rfl 1 rfl ?_
        refine Wr_iconstv (v := 1) dX9_winchOn_79 (by decide) ?_
        refine Wr_iadd dX9_winchOn_80 ?_
        refine Wr_iload_n dX9_winchOn_81 rfl 2 rfl ?_
        refine Wr_iload_n dX9_winchOn_82 rfl 3 rfl ?_
        refine Wr_mabs dX9_winchOn_83 mlX9_357 (Nat.le_of_ble_eq_true rfl) ?_
        refine Wr_iadd dX9_winchOn_86 ?_
        refine Wr_cVv [.int (x1 + 1), .int (x2 + (zabs x3))] dX9_winchOn_87 mlX9_442 mgX9_winchOn rfl mvX9_winchOn (zrv zl106 _ rfl rfl) rfl rfl (Nat.le_of_ble_eq_true rfl) rfl (zcV.imp h (fun m5 h => ?_) (fun _ _ h => ⟨rfl, h⟩))
        obtain ⟨v6, ev6⟩ : ∃ z : Int32, z = x3 + 1 := ⟨_, rfl⟩
        have h := h v6 ev6
        refine Wr_iinc (v := v6) dX9_winchOn_90 (q := 3) rfl (by rw [ev6]; rfl) (by decide) rfl ?_
        refine Wr_goto 33 dX9_winchOn_93 (by decide) ?_
        refine zsub [0, 1, 2, 3] rfl ?_
        exact ih _ _ _ _ h
      · have h := h.1 hc
        refine Wr_goto 90 dX9_winchOn_60 (by decide) ?_
        obtain ⟨v7, ev7⟩ : ∃ z : Int32, z = x3 + 1 := ⟨_, rfl⟩
        have h := h v7 ev7
        refine Wr_iinc (v := v7) dX9_winchOn_90 (q := 3) rfl (by rw [ev7]; rfl) (by decide) rfl ?_
        refine Wr_goto 33 dX9_winchOn_93 (by decide) ?_
        refine zsub [0, 1, 2, 3] rfl ?_
        exact ih _ _ _ _ h
def pX9_winchOn_124 : Nat → Nat → Int32 → zMem → (zMem → Prop) → (Nat → zMem → Prop) → Prop
  | 0, _, _, _, _, _ => False
  | n + 1, d, x3, μ, KV, X =>
  ((μ 110 0 ≤ x3 → KV μ) ∧
  (¬ (μ 110 0 ≤ x3) → zcI d mX9_of [.ref 106, .int x3, .int 3] μ (fun u2 m1 => (vp_in x3 6) ∧ ∀ m3 : zMem, m3 = zw m1 125 x3.toNatClampNeg u2 → ∀ v4 : Int32, v4 = x3 + 1 → pX9_winchOn_124 n d v4 m3 KV X) X))
set_option maxRecDepth 20000 in
theorem wX9_winchOn_124 {d : Nat} {KV : zMem → Prop} {X : Nat → zMem → Prop} : ∀ (n : Nat) (x3 : Int32) (μ : zMem), pX9_winchOn_124 n d x3 μ KV X → Wr mX9_winchOn (d + 1) 0 124 [(0, .ref 106), (3, .int x3)] [] μ (kV KV X) := by
  intro n
  induction n with
  | zero =>
    intro x3 μ h
    exact absurd h id
  | succ n ih =>
    intro x3 μ h
    unfold pX9_winchOn_124 at h
    refine Wr_iload_n dX9_winchOn_124 rfl 1 rfl ?_
    refine Wr_aload_n dX9_winchOn_125 rfl 0 rfl ?_
    refine Wr_getR 4 dX9_winchOn_126 flX9_51 zl106 rfl (by decide) ?_
    refine Wr_iconstv (v := 0) dX9_winchOn_129 (by decide) ?_
    refine Wr_iald dX9_winchOn_130 zl110 (by unfold vp_in; decide) ?_
    refine Wr_icmp_ge 152 dX9_winchOn_131 (by decide) (fun hc => ?_) (fun hc => ?_)
    · have h := h.1 hc
      exact Wr_vret dX9_winchOn_152 rfl ⟨rfl, h⟩
    · have h := h.2 hc
      refine Wr_aload_n dX9_winchOn_134 rfl 0 rfl ?_
      refine Wr_getR 19 dX9_winchOn_135 flX9_101 zl106 rfl (by decide) ?_
      refine Wr_iload_n dX9_winchOn_138 rfl 1 rfl ?_
      refine Wr_aload_n dX9_winchOn_139 rfl 0 rfl ?_
      refine Wr_iload_n dX9_winchOn_140 rfl 1 rfl ?_
      refine Wr_iconstv (v := 3) dX9_winchOn_141 (by decide) ?_
      refine Wr_cVi [.int x3, .int 3] dX9_winchOn_142 mlX9_330 mgX9_of rfl mvX9_of (zrv zl106 _ rfl rfl) rfl rfl (Nat.le_of_ble_eq_true rfl) rfl (zcI.imp h (fun u2 m1 h => ?_) (fun _ _ h => ⟨rfl, h⟩))
      obtain ⟨him3, h⟩ := h
      obtain ⟨m3, em3⟩ : ∃ z : zMem, z = zw m1 125 x3.toNatClampNeg u2 := ⟨_, rfl⟩
      have h := h m3 em3
      refine Wr_iast dX9_winchOn_145 zl125 him3 ?_
      refine Wr_mu em3 ?_
      obtain ⟨v4, ev4⟩ : ∃ z : Int32, z = x3 + 1 := ⟨_, rfl⟩
      have h := h v4 ev4
      refine Wr_iinc (v := v4) dX9_winchOn_146 (q := 1) rfl (by rw [ev4]; rfl) (by decide) rfl ?_
      refine Wr_goto 124 dX9_winchOn_149 (by decide) ?_
      refine zsub [0, 3] rfl ?_
      exact ih _ _ h
def pX9_winchOn_17 (d : Nat) (x1 : Int32) (x2 : Int32) (μ : zMem) (KV : zMem → Prop) (X : Nat → zMem → Prop) : Prop :=
  ((μ 110 0 ≤ x1 → zcI d mX9_isFine [.ref 106] μ (fun u2 m1 => ((u2 = 0 → KV m1) ∧
    (¬ (u2 = 0) → ∀ m3 : zMem, m3 = zw m1 106 38 x2 → ∃ n2 : Nat, pX9_winchOn_124 n2 d 0 m3 KV X))) X) ∧
  (¬ (μ 110 0 ≤ x1) → ∃ n2 : Nat, pX9_winchOn_33 n2 d x1 x2 (-(μ 106 41)) μ KV X))
set_option maxRecDepth 20000 in
theorem wX9_winchOn_17 {d : Nat} {KV : zMem → Prop} {X : Nat → zMem → Prop} {x1 : Int32} {x2 : Int32} {μ : zMem} (h : pX9_winchOn_17 d x1 x2 μ KV X) : Wr mX9_winchOn (d + 1) 0 17 [(0, .ref 106), (1, .int x1), (2, .int x2)] [] μ (kV KV X) := by
  unfold pX9_winchOn_17 at h
  refine Wr_iload_n dX9_winchOn_17 rfl 1 rfl ?_
  refine Wr_aload_n dX9_winchOn_18 rfl 0 rfl ?_
  refine Wr_getR 4 dX9_winchOn_19 flX9_51 zl106 rfl (by decide) ?_
  refine Wr_iconstv (v := 0) dX9_winchOn_22 (by decide) ?_
  refine Wr_iald dX9_winchOn_23 zl110 (by unfold vp_in; decide) ?_
  refine Wr_icmp_ge 109 dX9_winchOn_24 (by decide) (fun hc => ?_) (fun hc => ?_)
  · have h := h.1 hc
    refine Wr_aload_n dX9_winchOn_109 rfl 0 rfl ?_
    refine Wr_cVi [] dX9_winchOn_110 mlX9_445 mgX9_isFine rfl mvX9_isFine (zrv zl106 _ rfl rfl) rfl rfl (Nat.le_of_ble_eq_true rfl) rfl (zcI.imp h (fun u2 m1 h => ?_) (fun _ _ h => ⟨rfl, h⟩))
    refine Wr_if_ne 117 dX9_winchOn_113 (by decide) (fun hc => ?_) (fun hc => ?_)
    · have h := h.2 hc
      refine Wr_aload_n dX9_winchOn_117 rfl 0 rfl ?_
      refine Wr_iload_n dX9_winchOn_118 rfl 2 rfl ?_
      obtain ⟨m3, em3⟩ : ∃ z : zMem, z = zw m1 106 38 x2 := ⟨_, rfl⟩
      have h := h m3 em3
      refine Wr_putI dX9_winchOn_119 fpX9_437 zl106 rfl ?_
      refine Wr_mu em3 ?_
      refine Wr_iconstv (v := 0) dX9_winchOn_122 (by decide) ?_
      refine Wr_istore_n dX9_winchOn_123 rfl (by decide) rfl ?_
      refine zsub [0, 3] rfl ?_
      obtain ⟨n9, h⟩ := h
      exact wX9_winchOn_124 n9 _ _ h
    · have h := h.1 hc
      exact Wr_vret dX9_winchOn_116 rfl ⟨rfl, h⟩
  · have h := h.2 hc
    refine Wr_aload_n dX9_winchOn_27 rfl 0 rfl ?_
    refine Wr_getI dX9_winchOn_28 flX9_440 zl106 rfl ?_
    refine Wr_ineg dX9_winchOn_31 ?_
    refine Wr_istore_n dX9_winchOn_32 rfl (by decide) rfl ?_
    refine zsub [0, 1, 2, 3] rfl ?_
    obtain ⟨n9, h⟩ := h
    exact wX9_winchOn_33 n9 _ _ _ _ h
def pX9_winchOn (d : Nat) (x1 : Int32) (x2 : Int32) (μ : zMem) (KV : zMem → Prop) (X : Nat → zMem → Prop) : Prop :=
  ((μ 106 38 = (-1) → pX9_winchOn_17 d x1 x2 μ KV X) ∧
  (¬ (μ 106 38 = (-1)) → ((x2 < μ 106 38 → pX9_winchOn_17 d x1 x2 μ KV X) ∧
    (¬ (x2 < μ 106 38) → KV μ))))
set_option maxRecDepth 20000 in
theorem wX9_winchOn_0 {d : Nat} {KV : zMem → Prop} {X : Nat → zMem → Prop} {x1 : Int32} {x2 : Int32} {μ : zMem} (h : pX9_winchOn d x1 x2 μ KV X) : Wr mX9_winchOn (d + 1) 0 0 [(0, .ref 106), (1, .int x1), (2, .int x2)] [] μ (kV KV X) := by
  unfold pX9_winchOn at h
  refine Wr_aload_n dX9_winchOn_0 rfl 0 rfl ?_
  refine Wr_getI dX9_winchOn_1 flX9_437 zl106 rfl ?_
  refine Wr_iconstv (v := (-1)) dX9_winchOn_4 (by decide) ?_
  refine Wr_icmp_eq 17 dX9_winchOn_5 (by decide) (fun hc => ?_) (fun hc => ?_)
  · have h := h.1 hc
    refine zsub [0, 1, 2] rfl ?_
    exact wX9_winchOn_17 h
  · have h := h.2 hc
    refine Wr_iload_n dX9_winchOn_8 rfl 2 rfl ?_
    refine Wr_aload_n dX9_winchOn_9 rfl 0 rfl ?_
    refine Wr_getI dX9_winchOn_10 flX9_437 zl106 rfl ?_
    refine Wr_icmp_lt 17 dX9_winchOn_13 (by decide) (fun hc => ?_) (fun hc => ?_)
    · have h := h.1 hc
      refine zsub [0, 1, 2] rfl ?_
      exact wX9_winchOn_17 h
    · have h := h.2 hc
      exact Wr_vret dX9_winchOn_16 rfl ⟨rfl, h⟩
theorem cX9_winchOn_ {d : Nat} {x1 : Int32} {x2 : Int32} {μ : zMem} {KV : zMem → Prop} {X : Nat → zMem → Prop} (h : pX9_winchOn d x1 x2 μ KV X) : zcV (d + 1) mX9_winchOn [.ref 106, .int x1, .int x2] μ KV X :=
  Ex_of (w := 3) mgX9_winchOn.2.2.2.2.2 rfl rfl rfl (by decide) (wX9_winchOn_0 h)

def pX9_least_33 (d : Nat) (μ : zMem) (KI : Int32 → zMem → Prop) (X : Nat → zMem → Prop) : Prop :=
  zcI d mX9_fail [.ref 106, .int 1] μ (fun u2 m1 => KI u2 m1) X
set_option maxRecDepth 20000 in
theorem wX9_least_33 {d : Nat} {KI : Int32 → zMem → Prop} {X : Nat → zMem → Prop} {μ : zMem} (h : pX9_least_33 d μ KI X) : Wr mX9_least (d + 1) 0 33 [(0, .ref 106)] [] μ (kI KI X) := by
  unfold pX9_least_33 at h
  refine Wr_aload_n dX9_least_33 rfl 0 rfl ?_
  refine Wr_iconstv (v := 1) dX9_least_34 (by decide) ?_
  refine Wr_cVi [.int 1] dX9_least_35 mlX9_297 mgX9_fail rfl mvX9_fail (zrv zl106 _ rfl rfl) rfl rfl (Nat.le_of_ble_eq_true rfl) rfl (zcI.imp h (fun u2 m1 h => ?_) (fun _ _ h => ⟨rfl, h⟩))
  exact Wr_iret .int dX9_least_38 rfl rfl ⟨rfl, h⟩
def pX9_least_143 : Nat → Nat → Int32 → zMem → (Int32 → zMem → Prop) → (Nat → zMem → Prop) → Prop
  | 0, _, _, _, _, _ => False
  | n + 1, d, x5, μ, KI, X =>
  ((μ 110 0 ≤ x5 → KI (-1) μ) ∧
  (¬ (μ 110 0 ≤ x5) → (vp_in x5 6) ∧ (vp_in x5 6) ∧ ∀ m1 : zMem, m1 = zw μ 125 x5.toNatClampNeg (μ 127 x5.toNatClampNeg) → ∀ v2 : Int32, v2 = x5 + 1 → pX9_least_143 n d v2 m1 KI X))
set_option maxRecDepth 20000 in
theorem wX9_least_143 {d : Nat} {KI : Int32 → zMem → Prop} {X : Nat → zMem → Prop} : ∀ (n : Nat) (x5 : Int32) (μ : zMem), pX9_least_143 n d x5 μ KI X → Wr mX9_least (d + 1) 0 143 [(0, .ref 106), (5, .int x5)] [] μ (kI KI X) := by
  intro n
  induction n with
  | zero =>
    intro x5 μ h
    exact absurd h id
  | succ n ih =>
    intro x5 μ h
    unfold pX9_least_143 at h
    refine Wr_iload dX9_least_143 1 rfl ?_
    refine Wr_aload_n dX9_least_145 rfl 0 rfl ?_
    refine Wr_getR 4 dX9_least_146 flX9_51 zl106 rfl (by decide) ?_
    refine Wr_iconstv (v := 0) dX9_least_149 (by decide) ?_
    refine Wr_iald dX9_least_150 zl110 (by unfold vp_in; decide) ?_
    refine Wr_icmp_ge 174 dX9_least_151 (by decide) (fun hc => ?_) (fun hc => ?_)
    · have h := h.1 hc
      refine Wr_iconstv (v := (-1)) dX9_least_174 (by decide) ?_
      exact Wr_iret .int dX9_least_175 rfl rfl ⟨rfl, h⟩
    · have h := h.2 hc
      refine Wr_aload_n dX9_least_154 rfl 0 rfl ?_
      refine Wr_getR 19 dX9_least_155 flX9_101 zl106 rfl (by decide) ?_
      refine Wr_iload dX9_least_158 1 rfl ?_
      refine Wr_aload_n dX9_least_160 rfl 0 rfl ?_
      refine Wr_getR 21 dX9_least_161 flX9_107 zl106 rfl (by decide) ?_
      refine Wr_iload dX9_least_164 1 rfl ?_
      obtain ⟨hi, h⟩ := h
      refine Wr_iald dX9_least_166 zl127 hi ?_
      obtain ⟨him1, h⟩ := h
      obtain ⟨m1, em1⟩ : ∃ z : zMem, z = zw μ 125 x5.toNatClampNeg (μ 127 x5.toNatClampNeg) := ⟨_, rfl⟩
      have h := h m1 em1
      refine Wr_iast dX9_least_167 zl125 him1 ?_
      refine Wr_mu em1 ?_
      obtain ⟨v2, ev2⟩ : ∃ z : Int32, z = x5 + 1 := ⟨_, rfl⟩
      have h := h v2 ev2
      refine Wr_iinc (v := v2) dX9_least_168 (q := 1) rfl (by rw [ev2]; rfl) (by decide) rfl ?_
      refine Wr_goto 143 dX9_least_171 (by decide) ?_
      refine zsub [0, 5] rfl ?_
      exact ih _ _ h
def pX9_least_81 : Nat → Nat → Int32 → zMem → (Int32 → zMem → Prop) → (Nat → zMem → Prop) → Prop
  | 0, _, _, _, _, _ => False
  | n + 1, d, x5, μ, KI, X =>
  ((μ 110 0 ≤ x5 → zcV d mX9_winchOn [.ref 106, .int 0, .int 0] μ (fun m1 => ((m1 106 38 = (-1) → ∃ n2 : Nat, pX9_least_143 n2 d 0 m1 KI X) ∧
    (¬ (m1 106 38 = (-1)) → ∀ m2 : zMem, m2 = zw m1 106 36 1 → KI (m2 106 38) m2))) X) ∧
  (¬ (μ 110 0 ≤ x5) → zcI d mX9_of [.ref 106, .int x5, .int 3] μ (fun u4 m3 => (vp_in x5 6) ∧ ∀ m5 : zMem, m5 = zw m3 124 x5.toNatClampNeg u4 → (vp_in x5 6) ∧ (vp_in x5 6) ∧ ∀ m6 : zMem, m6 = zw m5 127 x5.toNatClampNeg (m5 125 x5.toNatClampNeg) → ∀ v7 : Int32, v7 = x5 + 1 → pX9_least_81 n d v7 m6 KI X) X))
set_option maxRecDepth 20000 in
theorem wX9_least_81 {d : Nat} {KI : Int32 → zMem → Prop} {X : Nat → zMem → Prop} : ∀ (n : Nat) (x5 : Int32) (μ : zMem), pX9_least_81 n d x5 μ KI X → Wr mX9_least (d + 1) 0 81 [(0, .ref 106), (5, .int x5)] [] μ (kI KI X) := by
  intro n
  induction n with
  | zero =>
    intro x5 μ h
    exact absurd h id
  | succ n ih =>
    intro x5 μ h
    unfold pX9_least_81 at h
    refine Wr_iload dX9_least_81 1 rfl ?_
    refine Wr_aload_n dX9_least_83 rfl 0 rfl ?_
    refine Wr_getR 4 dX9_least_84 flX9_51 zl106 rfl (by decide) ?_
    refine Wr_iconstv (v := 0) dX9_least_87 (by decide) ?_
    refine Wr_iald dX9_least_88 zl110 (by unfold vp_in; decide) ?_
    refine Wr_icmp_ge 126 dX9_least_89 (by decide) (fun hc => ?_) (fun hc => ?_)
    · have h := h.1 hc
      refine Wr_aload_n dX9_least_126 rfl 0 rfl ?_
      refine Wr_iconstv (v := 0) dX9_least_127 (by decide) ?_
      refine Wr_iconstv (v := 0) dX9_least_128 (by decide) ?_
      refine Wr_cVv [.int 0, .int 0] dX9_least_129 mlX9_442 mgX9_winchOn rfl mvX9_winchOn (zrv zl106 _ rfl rfl) rfl rfl (Nat.le_of_ble_eq_true rfl) rfl (zcV.imp h (fun m1 h => ?_) (fun _ _ h => ⟨rfl, h⟩))
      refine Wr_aload_n dX9_least_132 rfl 0 rfl ?_
      refine Wr_getI dX9_least_133 flX9_437 zl106 rfl ?_
      refine Wr_iconstv (v := (-1)) dX9_least_136 (by decide) ?_
      refine Wr_icmp_ne 176 dX9_least_137 (by decide) (fun hc => ?_) (fun hc => ?_)
      · have h := h.2 hc
        refine Wr_aload_n dX9_least_176 rfl 0 rfl ?_
        refine Wr_iconstv (v := 1) dX9_least_177 (by decide) ?_
        obtain ⟨m2, em2⟩ : ∃ z : zMem, z = zw m1 106 36 1 := ⟨_, rfl⟩
        have h := h m2 em2
        refine Wr_putZ dX9_least_178 fpX9_319 zl106 rfl (by decide) ?_
        refine Wr_mu em2 ?_
        refine Wr_aload_n dX9_least_181 rfl 0 rfl ?_
        refine Wr_getI dX9_least_182 flX9_437 zl106 rfl ?_
        exact Wr_iret .int dX9_least_185 rfl rfl ⟨rfl, h⟩
      · have h := h.1 hc
        refine Wr_iconstv (v := 0) dX9_least_140 (by decide) ?_
        refine Wr_istore dX9_least_141 (by decide) rfl ?_
        refine zsub [0, 5] rfl ?_
        obtain ⟨n9, h⟩ := h
        exact wX9_least_143 n9 _ _ h
    · have h := h.2 hc
      refine Wr_aload_n dX9_least_92 rfl 0 rfl ?_
      refine Wr_getR 18 dX9_least_93 flX9_98 zl106 rfl (by decide) ?_
      refine Wr_iload dX9_least_96 1 rfl ?_
      refine Wr_aload_n dX9_least_98 rfl 0 rfl ?_
      refine Wr_iload dX9_least_99 1 rfl ?_
      refine Wr_iconstv (v := 3) dX9_least_101 (by decide) ?_
      refine Wr_cVi [.int x5, .int 3] dX9_least_102 mlX9_330 mgX9_of rfl mvX9_of (zrv zl106 _ rfl rfl) rfl rfl (Nat.le_of_ble_eq_true rfl) rfl (zcI.imp h (fun u4 m3 h => ?_) (fun _ _ h => ⟨rfl, h⟩))
      obtain ⟨him5, h⟩ := h
      obtain ⟨m5, em5⟩ : ∃ z : zMem, z = zw m3 124 x5.toNatClampNeg u4 := ⟨_, rfl⟩
      have h := h m5 em5
      refine Wr_iast dX9_least_105 zl124 him5 ?_
      refine Wr_mu em5 ?_
      refine Wr_aload_n dX9_least_106 rfl 0 rfl ?_
      refine Wr_getR 21 dX9_least_107 flX9_107 zl106 rfl (by decide) ?_
      refine Wr_iload dX9_least_110 1 rfl ?_
      refine Wr_aload_n dX9_least_112 rfl 0 rfl ?_
      refine Wr_getR 19 dX9_least_113 flX9_101 zl106 rfl (by decide) ?_
      refine Wr_iload dX9_least_116 1 rfl ?_
      obtain ⟨hi, h⟩ := h
      refine Wr_iald dX9_least_118 zl125 hi ?_
      obtain ⟨him6, h⟩ := h
      obtain ⟨m6, em6⟩ : ∃ z : zMem, z = zw m5 127 x5.toNatClampNeg (m5 125 x5.toNatClampNeg) := ⟨_, rfl⟩
      have h := h m6 em6
      refine Wr_iast dX9_least_119 zl127 him6 ?_
      refine Wr_mu em6 ?_
      obtain ⟨v7, ev7⟩ : ∃ z : Int32, z = x5 + 1 := ⟨_, rfl⟩
      have h := h v7 ev7
      refine Wr_iinc (v := v7) dX9_least_120 (q := 1) rfl (by rw [ev7]; rfl) (by decide) rfl ?_
      refine Wr_goto 81 dX9_least_123 (by decide) ?_
      refine zsub [0, 5] rfl ?_
      exact ih _ _ h
def pX9_least (d : Nat) (x1 : Int32) (x2 : Int32) (x3 : Int32) (x4 : Int32) (μ : zMem) (KI : Int32 → zMem → Prop) (X : Nat → zMem → Prop) : Prop :=
  ∀ m1 : zMem, m1 = zw μ 106 3 0 → zcI d mX9_isSpan [.int x1, .int x2] m1 (fun u3 m2 => ((u3 = 0 → pX9_least_33 d m2 KI X) ∧
  (¬ (u3 = 0) → ((24 ≤ x2 - x1 → pX9_least_33 d m2 KI X) ∧
    (¬ (24 ≤ x2 - x1) → zcI d mX9_isIn [.long x3.toInt64, .long 0, .long 4] m2 (fun u5 m4 => ((u5 = 0 → pX9_least_33 d m4 KI X) ∧
      (¬ (u5 = 0) → ((m4 110 0 ≤ 4 → ∀ m6 : zMem, m6 = zw m4 106 39 x1 → ∀ m7 : zMem, m7 = zw m6 106 40 x2 → ∀ m8 : zMem, m8 = zw m7 106 41 x3 → (x4 = 0 ∨ x4 = 1) ∧ ∀ m9 : zMem, m9 = zw m8 106 42 x4 → ∀ m10 : zMem, m10 = zw m9 106 38 (-1) → ∃ n2 : Nat, pX9_least_81 n2 d 0 m10 KI X) ∧
        (¬ (m4 110 0 ≤ 4) → KI (-2) m4))))) X))))) X
set_option maxRecDepth 20000 in
theorem wX9_least_0 {d : Nat} {KI : Int32 → zMem → Prop} {X : Nat → zMem → Prop} {x1 : Int32} {x2 : Int32} {x3 : Int32} {x4 : Int32} {μ : zMem} (h : pX9_least d x1 x2 x3 x4 μ KI X) : Wr mX9_least (d + 1) 0 0 [(0, .ref 106), (1, .int x1), (2, .int x2), (3, .int x3), (4, .int x4)] [] μ (kI KI X) := by
  unfold pX9_least at h
  refine Wr_aload_n dX9_least_0 rfl 0 rfl ?_
  refine Wr_iconstv (v := 0) dX9_least_1 (by decide) ?_
  obtain ⟨m1, em1⟩ : ∃ z : zMem, z = zw μ 106 3 0 := ⟨_, rfl⟩
  have h := h m1 em1
  refine Wr_putI dX9_least_2 fpX9_155 zl106 rfl ?_
  refine Wr_mu em1 ?_
  refine Wr_iload_n dX9_least_5 rfl 1 rfl ?_
  refine Wr_iload_n dX9_least_6 rfl 2 rfl ?_
  refine Wr_cSi [.int x1, .int x2] dX9_least_7 mlX9_418 mgX9_isSpan rfl msX9_isSpan  rfl rfl (Nat.le_of_ble_eq_true rfl) rfl (zcI.imp h (fun u3 m2 h => ?_) (fun _ _ h => ⟨rfl, h⟩))
  refine Wr_if_eq 33 dX9_least_10 (by decide) (fun hc => ?_) (fun hc => ?_)
  · have h := h.1 hc
    refine zsub [0] rfl ?_
    exact wX9_least_33 h
  · have h := h.2 hc
    refine Wr_iload_n dX9_least_13 rfl 2 rfl ?_
    refine Wr_iload_n dX9_least_14 rfl 1 rfl ?_
    refine Wr_isub dX9_least_15 ?_
    refine Wr_bipush (v := 24) dX9_least_16 (by decide) ?_
    refine Wr_icmp_ge 33 dX9_least_18 (by decide) (fun hc => ?_) (fun hc => ?_)
    · have h := h.1 hc
      refine zsub [0] rfl ?_
      exact wX9_least_33 h
    · have h := h.2 hc
      refine Wr_iload_n dX9_least_21 rfl 3 rfl ?_
      refine Wr_i2l dX9_least_22 ?_
      refine Wr_lconst (v := 0) dX9_least_23 (by decide) ?_
      refine Wr_ldc2 dX9_least_24 lcX9_382 ?_
      refine Wr_cSi [.long x3.toInt64, .long 0, .long 4] dX9_least_27 mlX9_158 mgX9_isIn rfl msX9_isIn  rfl rfl (Nat.le_of_ble_eq_true rfl) rfl (zcI.imp h (fun u5 m4 h => ?_) (fun _ _ h => ⟨rfl, h⟩))
      refine Wr_if_ne 39 dX9_least_30 (by decide) (fun hc => ?_) (fun hc => ?_)
      · have h := h.2 hc
        refine Wr_aload_n dX9_least_39 rfl 0 rfl ?_
        refine Wr_getR 4 dX9_least_40 flX9_51 zl106 rfl (by decide) ?_
        refine Wr_iconstv (v := 0) dX9_least_43 (by decide) ?_
        refine Wr_iald dX9_least_44 zl110 (by unfold vp_in; decide) ?_
        refine Wr_iconstv (v := 4) dX9_least_45 (by decide) ?_
        refine Wr_icmp_le 52 dX9_least_46 (by decide) (fun hc => ?_) (fun hc => ?_)
        · have h := h.1 hc
          refine Wr_aload_n dX9_least_52 rfl 0 rfl ?_
          refine Wr_iload_n dX9_least_53 rfl 1 rfl ?_
          obtain ⟨m6, em6⟩ : ∃ z : zMem, z = zw m4 106 39 x1 := ⟨_, rfl⟩
          have h := h m6 em6
          refine Wr_putI dX9_least_54 fpX9_428 zl106 rfl ?_
          refine Wr_mu em6 ?_
          refine Wr_aload_n dX9_least_57 rfl 0 rfl ?_
          refine Wr_iload_n dX9_least_58 rfl 2 rfl ?_
          obtain ⟨m7, em7⟩ : ∃ z : zMem, z = zw m6 106 40 x2 := ⟨_, rfl⟩
          have h := h m7 em7
          refine Wr_putI dX9_least_59 fpX9_431 zl106 rfl ?_
          refine Wr_mu em7 ?_
          refine Wr_aload_n dX9_least_62 rfl 0 rfl ?_
          refine Wr_iload_n dX9_least_63 rfl 3 rfl ?_
          obtain ⟨m8, em8⟩ : ∃ z : zMem, z = zw m7 106 41 x3 := ⟨_, rfl⟩
          have h := h m8 em8
          refine Wr_putI dX9_least_64 fpX9_440 zl106 rfl ?_
          refine Wr_mu em8 ?_
          refine Wr_aload_n dX9_least_67 rfl 0 rfl ?_
          refine Wr_iload dX9_least_68 4 rfl ?_
          obtain ⟨hzm9, h⟩ := h
          obtain ⟨m9, em9⟩ : ∃ z : zMem, z = zw m8 106 42 x4 := ⟨_, rfl⟩
          have h := h m9 em9
          refine Wr_putZ dX9_least_70 fpX9_434 zl106 rfl hzm9 ?_
          refine Wr_mu em9 ?_
          refine Wr_aload_n dX9_least_73 rfl 0 rfl ?_
          refine Wr_iconstv (v := (-1)) dX9_least_74 (by decide) ?_
          obtain ⟨m10, em10⟩ : ∃ z : zMem, z = zw m9 106 38 (-1) := ⟨_, rfl⟩
          have h := h m10 em10
          refine Wr_putI dX9_least_75 fpX9_437 zl106 rfl ?_
          refine Wr_mu em10 ?_
          refine Wr_iconstv (v := 0) dX9_least_78 (by decide) ?_
          refine Wr_istore dX9_least_79 (by decide) rfl ?_
          refine zsub [0, 5] rfl ?_
          obtain ⟨n9, h⟩ := h
          exact wX9_least_81 n9 _ _ h
        · have h := h.2 hc
          refine Wr_bipush (v := (-2)) dX9_least_49 (by decide) ?_
          exact Wr_iret .int dX9_least_51 rfl rfl ⟨rfl, h⟩
      · have h := h.1 hc
        refine zsub [0] rfl ?_
        exact wX9_least_33 h
theorem cX9_least_ {d : Nat} {x1 : Int32} {x2 : Int32} {x3 : Int32} {x4 : Int32} {μ : zMem} {KI : Int32 → zMem → Prop} {X : Nat → zMem → Prop} (h : pX9_least d x1 x2 x3 x4 μ KI X) : zcI (d + 1) mX9_least [.ref 106, .int x1, .int x2, .int x3, .int x4] μ KI X :=
  Ex_of (w := 5) mgX9_least.2.2.2.2.2 rfl rfl rfl (by decide) (wX9_least_0 h)

def pX9_rope_29 (d : Nat) (μ : zMem) (KI : Int32 → zMem → Prop) (X : Nat → zMem → Prop) : Prop :=
  zcI d mX9_fail [.ref 106, .int 1] μ (fun u2 m1 => KI u2 m1) X
set_option maxRecDepth 20000 in
theorem wX9_rope_29 {d : Nat} {KI : Int32 → zMem → Prop} {X : Nat → zMem → Prop} {μ : zMem} (h : pX9_rope_29 d μ KI X) : Wr mX9_rope (d + 1) 0 29 [(0, .ref 106)] [] μ (kI KI X) := by
  unfold pX9_rope_29 at h
  refine Wr_aload_n dX9_rope_29 rfl 0 rfl ?_
  refine Wr_iconstv (v := 1) dX9_rope_30 (by decide) ?_
  refine Wr_cVi [.int 1] dX9_rope_31 mlX9_297 mgX9_fail rfl mvX9_fail (zrv zl106 _ rfl rfl) rfl rfl (Nat.le_of_ble_eq_true rfl) rfl (zcI.imp h (fun u2 m1 h => ?_) (fun _ _ h => ⟨rfl, h⟩))
  exact Wr_iret .int dX9_rope_34 rfl rfl ⟨rfl, h⟩
def pX9_rope (d : Nat) (x1 : Int32) (μ : zMem) (KI : Int32 → zMem → Prop) (X : Nat → zMem → Prop) : Prop :=
  ∀ m1 : zMem, m1 = zw μ 106 3 0 → zcI d mX9_isIsle [.ref 106, .int x1] m1 (fun u3 m2 => ((u3 = 0 → pX9_rope_29 d m2 KI X) ∧
  (¬ (u3 = 0) → ((m2 106 36 = 0 → pX9_rope_29 d m2 KI X) ∧
    (¬ (m2 106 36 = 0) → (vp_in x1 6) ∧ KI (m2 125 x1.toNatClampNeg) m2))))) X
set_option maxRecDepth 20000 in
theorem wX9_rope_0 {d : Nat} {KI : Int32 → zMem → Prop} {X : Nat → zMem → Prop} {x1 : Int32} {μ : zMem} (h : pX9_rope d x1 μ KI X) : Wr mX9_rope (d + 1) 0 0 [(0, .ref 106), (1, .int x1)] [] μ (kI KI X) := by
  unfold pX9_rope at h
  refine Wr_aload_n dX9_rope_0 rfl 0 rfl ?_
  refine Wr_iconstv (v := 0) dX9_rope_1 (by decide) ?_
  obtain ⟨m1, em1⟩ : ∃ z : zMem, z = zw μ 106 3 0 := ⟨_, rfl⟩
  have h := h m1 em1
  refine Wr_putI dX9_rope_2 fpX9_155 zl106 rfl ?_
  refine Wr_mu em1 ?_
  refine Wr_aload_n dX9_rope_5 rfl 0 rfl ?_
  refine Wr_iload_n dX9_rope_6 rfl 1 rfl ?_
  refine Wr_cVi [.int x1] dX9_rope_7 mlX9_384 mgX9_isIsle rfl mvX9_isIsle (zrv zl106 _ rfl rfl) rfl rfl (Nat.le_of_ble_eq_true rfl) rfl (zcI.imp h (fun u3 m2 h => ?_) (fun _ _ h => ⟨rfl, h⟩))
  refine Wr_if_eq 29 dX9_rope_10 (by decide) (fun hc => ?_) (fun hc => ?_)
  · have h := h.1 hc
    refine zsub [0] rfl ?_
    exact wX9_rope_29 h
  · have h := h.2 hc
    refine Wr_aload_n dX9_rope_13 rfl 0 rfl ?_
    refine Wr_getI dX9_rope_14 flX9_319 zl106 rfl ?_
    refine Wr_if_eq 29 dX9_rope_17 (by decide) (fun hc => ?_) (fun hc => ?_)
    · have h := h.1 hc
      refine zsub [0] rfl ?_
      exact wX9_rope_29 h
    · have h := h.2 hc
      refine Wr_aload_n dX9_rope_20 rfl 0 rfl ?_
      refine Wr_getR 19 dX9_rope_21 flX9_101 zl106 rfl (by decide) ?_
      refine Wr_iload_n dX9_rope_24 rfl 1 rfl ?_
      obtain ⟨hi, h⟩ := h
      refine Wr_iald dX9_rope_25 zl125 hi ?_
      refine Wr_goto 34 dX9_rope_26 (by decide) ?_
      exact Wr_iret .int dX9_rope_34 rfl rfl ⟨rfl, h⟩
theorem cX9_rope_ {d : Nat} {x1 : Int32} {μ : zMem} {KI : Int32 → zMem → Prop} {X : Nat → zMem → Prop} (h : pX9_rope d x1 μ KI X) : zcI (d + 1) mX9_rope [.ref 106, .int x1] μ KI X :=
  Ex_of (w := 2) mgX9_rope.2.2.2.2.2 rfl rfl rfl (by decide) (wX9_rope_0 h)

def pX9_goOver_86 (d : Nat) (x2 : Int32) (x3 : Int32) (μ : zMem) (KV : zMem → Prop) (X : Nat → zMem → Prop) (C2 : Int32 → zMem → Prop) (C10 : Int32 → Int32 → zMem → Prop) (C22 : Int32 → Int32 → Int32 → zMem → Prop) : Prop :=
  (vp_in x2 6) ∧ (vp_in x3 6) ∧ ∀ m1 : zMem, m1 = zw μ 128 x3.toNatClampNeg ((μ 128 x2.toNatClampNeg) + 1) → ∀ v2 : Int32, v2 = x3 + 1 → C22 1 x2 v2 m1
set_option maxRecDepth 20000 in
theorem wX9_goOver_86 {d : Nat} {KV : zMem → Prop} {X : Nat → zMem → Prop} {C2 : Int32 → zMem → Prop} {C10 : Int32 → Int32 → zMem → Prop} {C22 : Int32 → Int32 → Int32 → zMem → Prop} {x2 : Int32} {x3 : Int32} {μ : zMem} (hC2 : ∀ (x1 : Int32) (μ : zMem), C2 x1 μ → Wr mX9_goOver (d + 1) 0 2 [(0, .ref 106), (1, .int x1)] [] μ (kV KV X)) (hC10 : ∀ (x1 : Int32) (x2 : Int32) (μ : zMem), C10 x1 x2 μ → Wr mX9_goOver (d + 1) 0 10 [(0, .ref 106), (1, .int x1), (2, .int x2)] [] μ (kV KV X)) (hC22 : ∀ (x1 : Int32) (x2 : Int32) (x3 : Int32) (μ : zMem), C22 x1 x2 x3 μ → Wr mX9_goOver (d + 1) 0 22 [(0, .ref 106), (1, .int x1), (2, .int x2), (3, .int x3)] [] μ (kV KV X)) (h : pX9_goOver_86 d x2 x3 μ KV X C2 C10 C22) : Wr mX9_goOver (d + 1) 0 86 [(0, .ref 106), (2, .int x2), (3, .int x3)] [] μ (kV KV X) := by
  unfold pX9_goOver_86 at h
  refine Wr_aload_n dX9_goOver_86 rfl 0 rfl ?_
  refine Wr_getR 22 dX9_goOver_87 flX9_110 zl106 rfl (by decide) ?_
  refine Wr_iload_n dX9_goOver_90 rfl 2 rfl ?_
  refine Wr_aload_n dX9_goOver_91 rfl 0 rfl ?_
  refine Wr_getR 22 dX9_goOver_92 flX9_110 zl106 rfl (by decide) ?_
  refine Wr_iload_n dX9_goOver_95 rfl 1 rfl ?_
  obtain ⟨hi, h⟩ := h
  refine Wr_iald dX9_goOver_96 zl128 hi ?_
  refine Wr_iconstv (v := 1) dX9_goOver_97 (by decide) ?_
  refine Wr_iadd dX9_goOver_98 ?_
  obtain ⟨him1, h⟩ := h
  obtain ⟨m1, em1⟩ : ∃ z : zMem, z = zw μ 128 x3.toNatClampNeg ((μ 128 x2.toNatClampNeg) + 1) := ⟨_, rfl⟩
  have h := h m1 em1
  refine Wr_iast dX9_goOver_99 zl128 him1 ?_
  refine Wr_mu em1 ?_
  refine Wr_iconstv (v := 1) dX9_goOver_100 (by decide) ?_
  refine Wr_istore_n dX9_goOver_101 rfl (by decide) rfl ?_
  obtain ⟨v2, ev2⟩ : ∃ z : Int32, z = x3 + 1 := ⟨_, rfl⟩
  have h := h v2 ev2
  refine Wr_iinc (v := v2) dX9_goOver_102 (q := 3) rfl (by rw [ev2]; rfl) (by decide) rfl ?_
  refine Wr_goto 22 dX9_goOver_105 (by decide) ?_
  refine zsub [0, 1, 2, 3] rfl ?_
  exact hC22 _ _ _ _ h
def pX9_goOver_22 : Nat → Nat → Int32 → Int32 → Int32 → zMem → (zMem → Prop) → (Nat → zMem → Prop) → (Int32 → zMem → Prop) → (Int32 → Int32 → zMem → Prop) → Prop
  | 0, _, _, _, _, _, _, _, _, _ => False
  | n + 1, d, x1, x2, x3, μ, KV, X, C2, C10 =>
  ((μ 110 0 ≤ x3 → ∀ v1 : Int32, v1 = x2 + 1 → C10 x1 v1 μ) ∧
  (¬ (μ 110 0 ≤ x3) → ((x2 = x3 → ∀ v2 : Int32, v2 = x3 + 1 → pX9_goOver_22 n d x1 x2 v2 μ KV X C2 C10) ∧
    (¬ (x2 = x3) → (vp_in x2 6) ∧ ((μ 128 x2.toNatClampNeg = (-1) → ∀ v3 : Int32, v3 = x3 + 1 → pX9_goOver_22 n d x1 x2 v3 μ KV X C2 C10) ∧
      (¬ (μ 128 x2.toNatClampNeg = (-1)) → zcI d mX9_isBridge [.ref 106, .int x2, .int x3] μ (fun u5 m4 => ((u5 = 0 → ∀ v6 : Int32, v6 = x3 + 1 → pX9_goOver_22 n d x1 x2 v6 m4 KV X C2 C10) ∧
        (¬ (u5 = 0) → (vp_in x3 6) ∧ ((m4 128 x3.toNatClampNeg = (-1) → pX9_goOver_86 d x2 x3 m4 KV X C2 C10 (fun z0 z1 z2 m => pX9_goOver_22 n d z0 z1 z2 m KV X C2 C10)) ∧
          (¬ (m4 128 x3.toNatClampNeg = (-1)) → (vp_in x3 6) ∧ (vp_in x2 6) ∧ (((m4 128 x2.toNatClampNeg) + 1 < m4 128 x3.toNatClampNeg → pX9_goOver_86 d x2 x3 m4 KV X C2 C10 (fun z0 z1 z2 m => pX9_goOver_22 n d z0 z1 z2 m KV X C2 C10)) ∧
            (¬ ((m4 128 x2.toNatClampNeg) + 1 < m4 128 x3.toNatClampNeg) → ∀ v7 : Int32, v7 = x3 + 1 → pX9_goOver_22 n d x1 x2 v7 m4 KV X C2 C10))))))) X))))))
set_option maxRecDepth 20000 in
theorem wX9_goOver_22 {d : Nat} {KV : zMem → Prop} {X : Nat → zMem → Prop} {C2 : Int32 → zMem → Prop} {C10 : Int32 → Int32 → zMem → Prop} (hC2 : ∀ (x1 : Int32) (μ : zMem), C2 x1 μ → Wr mX9_goOver (d + 1) 0 2 [(0, .ref 106), (1, .int x1)] [] μ (kV KV X)) (hC10 : ∀ (x1 : Int32) (x2 : Int32) (μ : zMem), C10 x1 x2 μ → Wr mX9_goOver (d + 1) 0 10 [(0, .ref 106), (1, .int x1), (2, .int x2)] [] μ (kV KV X)) : ∀ (n : Nat) (x1 : Int32) (x2 : Int32) (x3 : Int32) (μ : zMem), pX9_goOver_22 n d x1 x2 x3 μ KV X C2 C10 → Wr mX9_goOver (d + 1) 0 22 [(0, .ref 106), (1, .int x1), (2, .int x2), (3, .int x3)] [] μ (kV KV X) := by
  intro n
  induction n with
  | zero =>
    intro x1 x2 x3 μ h
    exact absurd h id
  | succ n ih =>
    intro x1 x2 x3 μ h
    unfold pX9_goOver_22 at h
    refine Wr_iload_n dX9_goOver_22 rfl 3 rfl ?_
    refine Wr_aload_n dX9_goOver_23 rfl 0 rfl ?_
    refine Wr_getR 4 dX9_goOver_24 flX9_51 zl106 rfl (by decide) ?_
    refine Wr_iconstv (v := 0) dX9_goOver_27 (by decide) ?_
    refine Wr_iald dX9_goOver_28 zl110 (by unfold vp_in; decide) ?_
    refine Wr_icmp_ge 108 dX9_goOver_29 (by decide) (fun hc => ?_) (fun hc => ?_)
    · have h := h.1 hc
      obtain ⟨v1, ev1⟩ : ∃ z : Int32, z = x2 + 1 := ⟨_, rfl⟩
      have h := h v1 ev1
      refine Wr_iinc (v := v1) dX9_goOver_108 (q := 2) rfl (by rw [ev1]; rfl) (by decide) rfl ?_
      refine Wr_goto 10 dX9_goOver_111 (by decide) ?_
      refine zsub [0, 1, 2] rfl ?_
      exact hC10 _ _ _ h
    · have h := h.2 hc
      refine Wr_iload_n dX9_goOver_32 rfl 2 rfl ?_
      refine Wr_iload_n dX9_goOver_33 rfl 3 rfl ?_
      refine Wr_icmp_eq 102 dX9_goOver_34 (by decide) (fun hc => ?_) (fun hc => ?_)
      · have h := h.1 hc
        obtain ⟨v2, ev2⟩ : ∃ z : Int32, z = x3 + 1 := ⟨_, rfl⟩
        have h := h v2 ev2
        refine Wr_iinc (v := v2) dX9_goOver_102 (q := 3) rfl (by rw [ev2]; rfl) (by decide) rfl ?_
        refine Wr_goto 22 dX9_goOver_105 (by decide) ?_
        refine zsub [0, 1, 2, 3] rfl ?_
        exact ih _ _ _ _ h
      · have h := h.2 hc
        refine Wr_aload_n dX9_goOver_37 rfl 0 rfl ?_
        refine Wr_getR 22 dX9_goOver_38 flX9_110 zl106 rfl (by decide) ?_
        refine Wr_iload_n dX9_goOver_41 rfl 2 rfl ?_
        obtain ⟨hi, h⟩ := h
        refine Wr_iald dX9_goOver_42 zl128 hi ?_
        refine Wr_iconstv (v := (-1)) dX9_goOver_43 (by decide) ?_
        refine Wr_icmp_eq 102 dX9_goOver_44 (by decide) (fun hc => ?_) (fun hc => ?_)
        · have h := h.1 hc
          obtain ⟨v3, ev3⟩ : ∃ z : Int32, z = x3 + 1 := ⟨_, rfl⟩
          have h := h v3 ev3
          refine Wr_iinc (v := v3) dX9_goOver_102 (q := 3) rfl (by rw [ev3]; rfl) (by decide) rfl ?_
          refine Wr_goto 22 dX9_goOver_105 (by decide) ?_
          refine zsub [0, 1, 2, 3] rfl ?_
          exact ih _ _ _ _ h
        · have h := h.2 hc
          refine Wr_aload_n dX9_goOver_47 rfl 0 rfl ?_
          refine Wr_iload_n dX9_goOver_48 rfl 2 rfl ?_
          refine Wr_iload_n dX9_goOver_49 rfl 3 rfl ?_
          refine Wr_cVi [.int x2, .int x3] dX9_goOver_50 mlX9_401 mgX9_isBridge rfl mvX9_isBridge (zrv zl106 _ rfl rfl) rfl rfl (Nat.le_of_ble_eq_true rfl) rfl (zcI.imp h (fun u5 m4 h => ?_) (fun _ _ h => ⟨rfl, h⟩))
          refine Wr_if_eq 102 dX9_goOver_53 (by decide) (fun hc => ?_) (fun hc => ?_)
          · have h := h.1 hc
            obtain ⟨v6, ev6⟩ : ∃ z : Int32, z = x3 + 1 := ⟨_, rfl⟩
            have h := h v6 ev6
            refine Wr_iinc (v := v6) dX9_goOver_102 (q := 3) rfl (by rw [ev6]; rfl) (by decide) rfl ?_
            refine Wr_goto 22 dX9_goOver_105 (by decide) ?_
            refine zsub [0, 1, 2, 3] rfl ?_
            exact ih _ _ _ _ h
          · have h := h.2 hc
            refine Wr_aload_n dX9_goOver_56 rfl 0 rfl ?_
            refine Wr_getR 22 dX9_goOver_57 flX9_110 zl106 rfl (by decide) ?_
            refine Wr_iload_n dX9_goOver_60 rfl 3 rfl ?_
            obtain ⟨hi, h⟩ := h
            refine Wr_iald dX9_goOver_61 zl128 hi ?_
            refine Wr_iconstv (v := (-1)) dX9_goOver_62 (by decide) ?_
            refine Wr_icmp_eq 86 dX9_goOver_63 (by decide) (fun hc => ?_) (fun hc => ?_)
            · have h := h.1 hc
              refine zsub [0, 2, 3] rfl ?_
              exact wX9_goOver_86 hC2 hC10 (fun z0 z1 z2 m h => ih z0 z1 z2 m h) h
            · have h := h.2 hc
              refine Wr_aload_n dX9_goOver_66 rfl 0 rfl ?_
              refine Wr_getR 22 dX9_goOver_67 flX9_110 zl106 rfl (by decide) ?_
              refine Wr_iload_n dX9_goOver_70 rfl 3 rfl ?_
              obtain ⟨hi, h⟩ := h
              refine Wr_iald dX9_goOver_71 zl128 hi ?_
              refine Wr_aload_n dX9_goOver_72 rfl 0 rfl ?_
              refine Wr_getR 22 dX9_goOver_73 flX9_110 zl106 rfl (by decide) ?_
              refine Wr_iload_n dX9_goOver_76 rfl 2 rfl ?_
              obtain ⟨hi, h⟩ := h
              refine Wr_iald dX9_goOver_77 zl128 hi ?_
              refine Wr_iconstv (v := 1) dX9_goOver_78 (by decide) ?_
              refine Wr_iadd dX9_goOver_79 ?_
              refine Wr_icmp_gt 86 dX9_goOver_80 (by decide) (fun hc => ?_) (fun hc => ?_)
              · have h := h.1 hc
                refine zsub [0, 2, 3] rfl ?_
                exact wX9_goOver_86 hC2 hC10 (fun z0 z1 z2 m h => ih z0 z1 z2 m h) h
              · have h := h.2 hc
                refine Wr_goto 102 dX9_goOver_83 (by decide) ?_
                obtain ⟨v7, ev7⟩ : ∃ z : Int32, z = x3 + 1 := ⟨_, rfl⟩
                have h := h v7 ev7
                refine Wr_iinc (v := v7) dX9_goOver_102 (q := 3) rfl (by rw [ev7]; rfl) (by decide) rfl ?_
                refine Wr_goto 22 dX9_goOver_105 (by decide) ?_
                refine zsub [0, 1, 2, 3] rfl ?_
                exact ih _ _ _ _ h
def pX9_goOver_10 : Nat → Nat → Int32 → Int32 → zMem → (zMem → Prop) → (Nat → zMem → Prop) → (Int32 → zMem → Prop) → Prop
  | 0, _, _, _, _, _, _, _ => False
  | n + 1, d, x1, x2, μ, KV, X, C2 =>
  ((μ 110 0 ≤ x2 → C2 x1 μ) ∧
  (¬ (μ 110 0 ≤ x2) → ∃ n2 : Nat, pX9_goOver_22 n2 d x1 x2 0 μ KV X C2 (fun z0 z1 m => pX9_goOver_10 n d z0 z1 m KV X C2)))
set_option maxRecDepth 20000 in
theorem wX9_goOver_10 {d : Nat} {KV : zMem → Prop} {X : Nat → zMem → Prop} {C2 : Int32 → zMem → Prop} (hC2 : ∀ (x1 : Int32) (μ : zMem), C2 x1 μ → Wr mX9_goOver (d + 1) 0 2 [(0, .ref 106), (1, .int x1)] [] μ (kV KV X)) : ∀ (n : Nat) (x1 : Int32) (x2 : Int32) (μ : zMem), pX9_goOver_10 n d x1 x2 μ KV X C2 → Wr mX9_goOver (d + 1) 0 10 [(0, .ref 106), (1, .int x1), (2, .int x2)] [] μ (kV KV X) := by
  intro n
  induction n with
  | zero =>
    intro x1 x2 μ h
    exact absurd h id
  | succ n ih =>
    intro x1 x2 μ h
    unfold pX9_goOver_10 at h
    refine Wr_iload_n dX9_goOver_10 rfl 2 rfl ?_
    refine Wr_aload_n dX9_goOver_11 rfl 0 rfl ?_
    refine Wr_getR 4 dX9_goOver_12 flX9_51 zl106 rfl (by decide) ?_
    refine Wr_iconstv (v := 0) dX9_goOver_15 (by decide) ?_
    refine Wr_iald dX9_goOver_16 zl110 (by unfold vp_in; decide) ?_
    refine Wr_icmp_ge 114 dX9_goOver_17 (by decide) (fun hc => ?_) (fun hc => ?_)
    · have h := h.1 hc
      refine Wr_goto 2 dX9_goOver_114 (by decide) ?_
      refine zsub [0, 1] rfl ?_
      exact hC2 _ _ h
    · have h := h.2 hc
      refine Wr_iconstv (v := 0) dX9_goOver_20 (by decide) ?_
      refine Wr_istore_n dX9_goOver_21 rfl (by decide) rfl ?_
      refine zsub [0, 1, 2, 3] rfl ?_
      obtain ⟨n9, h⟩ := h
      exact wX9_goOver_22 hC2 (fun z0 z1 m h => ih z0 z1 m h) n9 _ _ _ _ h
def pX9_goOver_2 : Nat → Nat → Int32 → zMem → (zMem → Prop) → (Nat → zMem → Prop) → Prop
  | 0, _, _, _, _, _ => False
  | n + 1, d, x1, μ, KV, X =>
  ((x1 = 0 → KV μ) ∧
  (¬ (x1 = 0) → ∃ n2 : Nat, pX9_goOver_10 n2 d 0 0 μ KV X (fun z0 m => pX9_goOver_2 n d z0 m KV X)))
set_option maxRecDepth 20000 in
theorem wX9_goOver_2 {d : Nat} {KV : zMem → Prop} {X : Nat → zMem → Prop} : ∀ (n : Nat) (x1 : Int32) (μ : zMem), pX9_goOver_2 n d x1 μ KV X → Wr mX9_goOver (d + 1) 0 2 [(0, .ref 106), (1, .int x1)] [] μ (kV KV X) := by
  intro n
  induction n with
  | zero =>
    intro x1 μ h
    exact absurd h id
  | succ n ih =>
    intro x1 μ h
    unfold pX9_goOver_2 at h
    refine Wr_iload_n dX9_goOver_2 rfl 1 rfl ?_
    refine Wr_if_eq 117 dX9_goOver_3 (by decide) (fun hc => ?_) (fun hc => ?_)
    · have h := h.1 hc
      exact Wr_vret dX9_goOver_117 rfl ⟨rfl, h⟩
    · have h := h.2 hc
      refine Wr_iconstv (v := 0) dX9_goOver_6 (by decide) ?_
      refine Wr_istore_n dX9_goOver_7 rfl (by decide) rfl ?_
      refine Wr_iconstv (v := 0) dX9_goOver_8 (by decide) ?_
      refine Wr_istore_n dX9_goOver_9 rfl (by decide) rfl ?_
      refine zsub [0, 1, 2] rfl ?_
      obtain ⟨n9, h⟩ := h
      exact wX9_goOver_10 (fun z0 m h => ih z0 m h) n9 _ _ _ h
def pX9_goOver (d : Nat) (μ : zMem) (KV : zMem → Prop) (X : Nat → zMem → Prop) : Prop :=
  ∃ n2 : Nat, pX9_goOver_2 n2 d 1 μ KV X
set_option maxRecDepth 20000 in
theorem wX9_goOver_0 {d : Nat} {KV : zMem → Prop} {X : Nat → zMem → Prop} {μ : zMem} (h : pX9_goOver d μ KV X) : Wr mX9_goOver (d + 1) 0 0 [(0, .ref 106)] [] μ (kV KV X) := by
  unfold pX9_goOver at h
  refine Wr_iconstv (v := 1) dX9_goOver_0 (by decide) ?_
  refine Wr_istore_n dX9_goOver_1 rfl (by decide) rfl ?_
  refine zsub [0, 1] rfl ?_
  obtain ⟨n9, h⟩ := h
  exact wX9_goOver_2 n9 _ _ h
theorem cX9_goOver_ {d : Nat} {μ : zMem} {KV : zMem → Prop} {X : Nat → zMem → Prop} (h : pX9_goOver d μ KV X) : zcV (d + 1) mX9_goOver [.ref 106] μ KV X :=
  Ex_of (w := 1) mgX9_goOver.2.2.2.2.2 rfl rfl rfl (by decide) (wX9_goOver_0 h)

def pX9_way_39 (d : Nat) (μ : zMem) (KI : Int32 → zMem → Prop) (X : Nat → zMem → Prop) : Prop :=
  zcI d mX9_fail [.ref 106, .int 1] μ (fun u2 m1 => KI u2 m1) X
set_option maxRecDepth 20000 in
theorem wX9_way_39 {d : Nat} {KI : Int32 → zMem → Prop} {X : Nat → zMem → Prop} {μ : zMem} (h : pX9_way_39 d μ KI X) : Wr mX9_way (d + 1) 0 39 [(0, .ref 106)] [] μ (kI KI X) := by
  unfold pX9_way_39 at h
  refine Wr_aload_n dX9_way_39 rfl 0 rfl ?_
  refine Wr_iconstv (v := 1) dX9_way_40 (by decide) ?_
  refine Wr_cVi [.int 1] dX9_way_41 mlX9_297 mgX9_fail rfl mvX9_fail (zrv zl106 _ rfl rfl) rfl rfl (Nat.le_of_ble_eq_true rfl) rfl (zcI.imp h (fun u2 m1 h => ?_) (fun _ _ h => ⟨rfl, h⟩))
  exact Wr_iret .int dX9_way_44 rfl rfl ⟨rfl, h⟩
def pX9_way_86 : Nat → Nat → Int32 → Int32 → Int32 → zMem → (Int32 → zMem → Prop) → (Nat → zMem → Prop) → Prop
  | 0, _, _, _, _, _, _, _ => False
  | n + 1, d, x2, x4, x5, μ, KI, X =>
  ((168 ≤ x5 → KI (-1) μ) ∧
  (¬ (168 ≤ x5) → zcV d mX9_tellHour [.ref 106, .int x5, .int 0] μ (fun m1 => zcV d mX9_goOver [.ref 106] m1 (fun m2 => (vp_in x2 6) ∧ ((m2 128 x2.toNatClampNeg = (-1) → ∀ v3 : Int32, v3 = x5 + 1 → pX9_way_86 n d x2 x4 v3 m2 KI X) ∧
    (¬ (m2 128 x2.toNatClampNeg = (-1)) → ((x4 = 0 → KI x5 m2) ∧
      (¬ (x4 = 0) → (vp_in x2 6) ∧ KI (m2 128 x2.toNatClampNeg) m2))))) X) X))
set_option maxRecDepth 20000 in
theorem wX9_way_86 {d : Nat} {KI : Int32 → zMem → Prop} {X : Nat → zMem → Prop} : ∀ (n : Nat) (x2 : Int32) (x4 : Int32) (x5 : Int32) (μ : zMem), pX9_way_86 n d x2 x4 x5 μ KI X → Wr mX9_way (d + 1) 0 86 [(0, .ref 106), (2, .int x2), (4, .int x4), (5, .int x5)] [] μ (kI KI X) := by
  intro n
  induction n with
  | zero =>
    intro x2 x4 x5 μ h
    exact absurd h id
  | succ n ih =>
    intro x2 x4 x5 μ h
    unfold pX9_way_86 at h
    refine Wr_iload dX9_way_86 3 rfl ?_
    refine Wr_sipush (v := 168) dX9_way_88 (by decide) ?_
    refine Wr_icmp_ge 138 dX9_way_91 (by decide) (fun hc => ?_) (fun hc => ?_)
    · have h := h.1 hc
      refine Wr_iconstv (v := (-1)) dX9_way_138 (by decide) ?_
      exact Wr_iret .int dX9_way_139 rfl rfl ⟨rfl, h⟩
    · have h := h.2 hc
      refine Wr_aload_n dX9_way_94 rfl 0 rfl ?_
      refine Wr_iload dX9_way_95 3 rfl ?_
      refine Wr_iconstv (v := 0) dX9_way_97 (by decide) ?_
      refine Wr_cVv [.int x5, .int 0] dX9_way_98 mlX9_392 mgX9_tellHour rfl mvX9_tellHour (zrv zl106 _ rfl rfl) rfl rfl (Nat.le_of_ble_eq_true rfl) rfl (zcV.imp h (fun m1 h => ?_) (fun _ _ h => ⟨rfl, h⟩))
      refine Wr_aload_n dX9_way_101 rfl 0 rfl ?_
      refine Wr_cVv [] dX9_way_102 mlX9_449 mgX9_goOver rfl mvX9_goOver (zrv zl106 _ rfl rfl) rfl rfl (Nat.le_of_ble_eq_true rfl) rfl (zcV.imp h (fun m2 h => ?_) (fun _ _ h => ⟨rfl, h⟩))
      refine Wr_aload_n dX9_way_105 rfl 0 rfl ?_
      refine Wr_getR 22 dX9_way_106 flX9_110 zl106 rfl (by decide) ?_
      refine Wr_iload_n dX9_way_109 rfl 1 rfl ?_
      obtain ⟨hi, h⟩ := h
      refine Wr_iald dX9_way_110 zl128 hi ?_
      refine Wr_iconstv (v := (-1)) dX9_way_111 (by decide) ?_
      refine Wr_icmp_eq 132 dX9_way_112 (by decide) (fun hc => ?_) (fun hc => ?_)
      · have h := h.1 hc
        obtain ⟨v3, ev3⟩ : ∃ z : Int32, z = x5 + 1 := ⟨_, rfl⟩
        have h := h v3 ev3
        refine Wr_iinc (v := v3) dX9_way_132 (q := 3) rfl (by rw [ev3]; rfl) (by decide) rfl ?_
        refine Wr_goto 86 dX9_way_135 (by decide) ?_
        refine zsub [0, 2, 4, 5] rfl ?_
        exact ih _ _ _ _ h
      · have h := h.2 hc
        refine Wr_iload dX9_way_115 2 rfl ?_
        refine Wr_if_ne 125 dX9_way_117 (by decide) (fun hc => ?_) (fun hc => ?_)
        · have h := h.2 hc
          refine Wr_aload_n dX9_way_125 rfl 0 rfl ?_
          refine Wr_getR 22 dX9_way_126 flX9_110 zl106 rfl (by decide) ?_
          refine Wr_iload_n dX9_way_129 rfl 1 rfl ?_
          obtain ⟨hi, h⟩ := h
          refine Wr_iald dX9_way_130 zl128 hi ?_
          exact Wr_iret .int dX9_way_131 rfl rfl ⟨rfl, h⟩
        · have h := h.1 hc
          refine Wr_iload dX9_way_120 3 rfl ?_
          refine Wr_goto 131 dX9_way_122 (by decide) ?_
          exact Wr_iret .int dX9_way_131 rfl rfl ⟨rfl, h⟩
def pX9_way_48 : Nat → Nat → Int32 → Int32 → Int32 → Int32 → Int32 → zMem → (Int32 → zMem → Prop) → (Nat → zMem → Prop) → Prop
  | 0, _, _, _, _, _, _, _, _, _ => False
  | n + 1, d, x1, x2, x3, x4, x5, μ, KI, X =>
  ((μ 110 0 ≤ x5 → ∃ n2 : Nat, pX9_way_86 n2 d x2 x4 x3 μ KI X) ∧
  (¬ (μ 110 0 ≤ x5) → (vp_in x5 6) ∧ ∀ m1 : zMem, m1 = zw μ 128 x5.toNatClampNeg (if x5 = x1 then 0 else (-1)) → ∀ v2 : Int32, v2 = x5 + 1 → pX9_way_48 n d x1 x2 x3 x4 v2 m1 KI X))
set_option maxRecDepth 20000 in
theorem wX9_way_48 {d : Nat} {KI : Int32 → zMem → Prop} {X : Nat → zMem → Prop} : ∀ (n : Nat) (x1 : Int32) (x2 : Int32) (x3 : Int32) (x4 : Int32) (x5 : Int32) (μ : zMem), pX9_way_48 n d x1 x2 x3 x4 x5 μ KI X → Wr mX9_way (d + 1) 0 48 [(0, .ref 106), (1, .int x1), (2, .int x2), (3, .int x3), (4, .int x4), (5, .int x5)] [] μ (kI KI X) := by
  intro n
  induction n with
  | zero =>
    intro x1 x2 x3 x4 x5 μ h
    exact absurd h id
  | succ n ih =>
    intro x1 x2 x3 x4 x5 μ h
    unfold pX9_way_48 at h
    refine Wr_iload dX9_way_48 5 rfl ?_
    refine Wr_aload_n dX9_way_50 rfl 0 rfl ?_
    refine Wr_getR 4 dX9_way_51 flX9_51 zl106 rfl (by decide) ?_
    refine Wr_iconstv (v := 0) dX9_way_54 (by decide) ?_
    refine Wr_iald dX9_way_55 zl110 (by unfold vp_in; decide) ?_
    refine Wr_icmp_ge 83 dX9_way_56 (by decide) (fun hc => ?_) (fun hc => ?_)
    · have h := h.1 hc
      refine Wr_iload_n dX9_way_83 rfl 3 rfl ?_
      refine Wr_istore dX9_way_84 (by decide) rfl ?_
      refine zsub [0, 2, 4, 5] rfl ?_
      obtain ⟨n9, h⟩ := h
      exact wX9_way_86 n9 _ _ _ _ h
    · have h := h.2 hc
      refine Wr_aload_n dX9_way_59 rfl 0 rfl ?_
      refine Wr_getR 22 dX9_way_60 flX9_110 zl106 rfl (by decide) ?_
      refine Wr_iload dX9_way_63 5 rfl ?_
      refine Wr_iload dX9_way_65 5 rfl ?_
      refine Wr_iload_n dX9_way_67 rfl 1 rfl ?_
      have hj1 : Wr mX9_way (d + 1) 0 76 [(0, .ref 106), (1, .int x1), (2, .int x2), (3, .int x3), (4, .int x4), (5, .int x5)] [.int (if x5 = x1 then 0 else (-1)), .int x5, .ref 128] μ (kI KI X) := by
        obtain ⟨him1, h⟩ := h
        obtain ⟨m1, em1⟩ : ∃ z : zMem, z = zw μ 128 x5.toNatClampNeg (if x5 = x1 then 0 else (-1)) := ⟨_, rfl⟩
        have h := h m1 em1
        refine Wr_iast dX9_way_76 zl128 him1 ?_
        refine Wr_mu em1 ?_
        obtain ⟨v2, ev2⟩ : ∃ z : Int32, z = x5 + 1 := ⟨_, rfl⟩
        have h := h v2 ev2
        refine Wr_iinc (v := v2) dX9_way_77 (q := 5) rfl (by rw [ev2]; rfl) (by decide) rfl ?_
        refine Wr_goto 48 dX9_way_80 (by decide) ?_
        refine zsub [0, 1, 2, 3, 4, 5] rfl ?_
        exact ih _ _ _ _ _ _ h
      refine Wr_icmp_ne 75 dX9_way_68 (by decide) (fun hc0 => ?_) (fun hc0 => ?_)
      · skip
        refine Wr_iconstv (v := (-1)) dX9_way_75 (by decide) ?_
        exact Wr_top (if_neg hc0) hj1
      · skip
        refine Wr_iconstv (v := 0) dX9_way_71 (by decide) ?_
        refine Wr_goto 76 dX9_way_72 (by decide) ?_
        exact Wr_top (if_pos hc0) hj1
def pX9_way (d : Nat) (x1 : Int32) (x2 : Int32) (x3 : Int32) (x4 : Int32) (μ : zMem) (KI : Int32 → zMem → Prop) (X : Nat → zMem → Prop) : Prop :=
  ∀ m1 : zMem, m1 = zw μ 106 3 0 → zcI d mX9_isIsle [.ref 106, .int x1] m1 (fun u3 m2 => ((u3 = 0 → pX9_way_39 d m2 KI X) ∧
  (¬ (u3 = 0) → zcI d mX9_isIsle [.ref 106, .int x2] m2 (fun u5 m4 => ((u5 = 0 → pX9_way_39 d m4 KI X) ∧
    (¬ (u5 = 0) → zcI d mX9_isHour [.int x3] m4 (fun u7 m6 => ((u7 = 0 → pX9_way_39 d m6 KI X) ∧
      (¬ (u7 = 0) → ((x4 < 0 → pX9_way_39 d m6 KI X) ∧
        (¬ (x4 < 0) → ((x4 ≤ 1 → ∃ n2 : Nat, pX9_way_48 n2 d x1 x2 x3 x4 0 m6 KI X) ∧
          (¬ (x4 ≤ 1) → pX9_way_39 d m6 KI X))))))) X))) X))) X
set_option maxRecDepth 20000 in
theorem wX9_way_0 {d : Nat} {KI : Int32 → zMem → Prop} {X : Nat → zMem → Prop} {x1 : Int32} {x2 : Int32} {x3 : Int32} {x4 : Int32} {μ : zMem} (h : pX9_way d x1 x2 x3 x4 μ KI X) : Wr mX9_way (d + 1) 0 0 [(0, .ref 106), (1, .int x1), (2, .int x2), (3, .int x3), (4, .int x4)] [] μ (kI KI X) := by
  unfold pX9_way at h
  refine Wr_aload_n dX9_way_0 rfl 0 rfl ?_
  refine Wr_iconstv (v := 0) dX9_way_1 (by decide) ?_
  obtain ⟨m1, em1⟩ : ∃ z : zMem, z = zw μ 106 3 0 := ⟨_, rfl⟩
  have h := h m1 em1
  refine Wr_putI dX9_way_2 fpX9_155 zl106 rfl ?_
  refine Wr_mu em1 ?_
  refine Wr_aload_n dX9_way_5 rfl 0 rfl ?_
  refine Wr_iload_n dX9_way_6 rfl 1 rfl ?_
  refine Wr_cVi [.int x1] dX9_way_7 mlX9_384 mgX9_isIsle rfl mvX9_isIsle (zrv zl106 _ rfl rfl) rfl rfl (Nat.le_of_ble_eq_true rfl) rfl (zcI.imp h (fun u3 m2 h => ?_) (fun _ _ h => ⟨rfl, h⟩))
  refine Wr_if_eq 39 dX9_way_10 (by decide) (fun hc => ?_) (fun hc => ?_)
  · have h := h.1 hc
    refine zsub [0] rfl ?_
    exact wX9_way_39 h
  · have h := h.2 hc
    refine Wr_aload_n dX9_way_13 rfl 0 rfl ?_
    refine Wr_iload_n dX9_way_14 rfl 2 rfl ?_
    refine Wr_cVi [.int x2] dX9_way_15 mlX9_384 mgX9_isIsle rfl mvX9_isIsle (zrv zl106 _ rfl rfl) rfl rfl (Nat.le_of_ble_eq_true rfl) rfl (zcI.imp h (fun u5 m4 h => ?_) (fun _ _ h => ⟨rfl, h⟩))
    refine Wr_if_eq 39 dX9_way_18 (by decide) (fun hc => ?_) (fun hc => ?_)
    · have h := h.1 hc
      refine zsub [0] rfl ?_
      exact wX9_way_39 h
    · have h := h.2 hc
      refine Wr_iload_n dX9_way_21 rfl 3 rfl ?_
      refine Wr_cSi [.int x3] dX9_way_22 mlX9_389 mgX9_isHour rfl msX9_isHour  rfl rfl (Nat.le_of_ble_eq_true rfl) rfl (zcI.imp h (fun u7 m6 h => ?_) (fun _ _ h => ⟨rfl, h⟩))
      refine Wr_if_eq 39 dX9_way_25 (by decide) (fun hc => ?_) (fun hc => ?_)
      · have h := h.1 hc
        refine zsub [0] rfl ?_
        exact wX9_way_39 h
      · have h := h.2 hc
        refine Wr_iload dX9_way_28 4 rfl ?_
        refine Wr_if_lt 39 dX9_way_30 (by decide) (fun hc => ?_) (fun hc => ?_)
        · have h := h.1 hc
          refine zsub [0] rfl ?_
          exact wX9_way_39 h
        · have h := h.2 hc
          refine Wr_iload dX9_way_33 4 rfl ?_
          refine Wr_iconstv (v := 1) dX9_way_35 (by decide) ?_
          refine Wr_icmp_le 45 dX9_way_36 (by decide) (fun hc => ?_) (fun hc => ?_)
          · have h := h.1 hc
            refine Wr_iconstv (v := 0) dX9_way_45 (by decide) ?_
            refine Wr_istore dX9_way_46 (by decide) rfl ?_
            refine zsub [0, 1, 2, 3, 4, 5] rfl ?_
            obtain ⟨n9, h⟩ := h
            exact wX9_way_48 n9 _ _ _ _ _ _ h
          · have h := h.2 hc
            refine zsub [0] rfl ?_
            exact wX9_way_39 h
theorem cX9_way_ {d : Nat} {x1 : Int32} {x2 : Int32} {x3 : Int32} {x4 : Int32} {μ : zMem} {KI : Int32 → zMem → Prop} {X : Nat → zMem → Prop} (h : pX9_way d x1 x2 x3 x4 μ KI X) : zcI (d + 1) mX9_way [.ref 106, .int x1, .int x2, .int x3, .int x4] μ KI X :=
  Ex_of (w := 5) mgX9_way.2.2.2.2.2 rfl rfl rfl (by decide) (wX9_way_0 h)
