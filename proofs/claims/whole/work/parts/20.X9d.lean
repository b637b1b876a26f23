def pX9_cross_32 (d : Nat) (μ : zMem) (KI : Int32 → zMem → Prop) (X : Nat → zMem → Prop) : Prop :=
  zcI d mX9_refuse [.ref 106, .int 2] μ (fun u2 m1 => KI u2 m1) X
set_option maxRecDepth 20000 in
theorem wX9_cross_32 {d : Nat} {KI : Int32 → zMem → Prop} {X : Nat → zMem → Prop} {μ : zMem} (h : pX9_cross_32 d μ KI X) : Wr mX9_cross (d + 1) 0 32 [(0, .ref 106)] [] μ (kI KI X) := by
  unfold pX9_cross_32 at h
  refine Wr_aload_n dX9_cross_32 rfl 0 rfl ?_
  refine Wr_iconstv (v := 2) dX9_cross_33 (by decide) ?_
  refine Wr_cVi [.int 2] dX9_cross_34 mlX9_409 mgX9_refuse rfl mvX9_refuse (zrv zl106 _ rfl rfl) rfl rfl (Nat.le_of_ble_eq_true rfl) rfl (zcI.imp h (fun u2 m1 h => ?_) (fun _ _ h => ⟨rfl, h⟩))
  exact Wr_iret .int dX9_cross_37 rfl rfl ⟨rfl, h⟩
def pX9_cross (d : Nat) (x1 : Int32) (x2 : Int32) (μ : zMem) (KI : Int32 → zMem → Prop) (X : Nat → zMem → Prop) : Prop :=
  ∀ m1 : zMem, m1 = zw μ 106 3 0 → ((m1 106 28 = 40 → pX9_cross_32 d m1 KI X) ∧
  (¬ (m1 106 28 = 40) → zcI d mX9_isIn [.long x1.toInt64, .long 0, .long (((m1 110 0) - 2).toInt64)] m1 (fun u3 m2 => ((u3 = 0 → pX9_cross_32 d m2 KI X) ∧
    (¬ (u3 = 0) → (vp_in (m2 106 28) 40) ∧ ∀ m4 : zMem, m4 = zw m2 129 (m2 106 28).toNatClampNeg ((2 * x1) + (if x2 = 0 then 0 else 1)) → ∀ m5 : zMem, m5 = zw m4 106 28 ((m4 106 28) + 1) → KI (m5 106 28) m5))) X))
set_option maxRecDepth 20000 in
theorem wX9_cross_0 {d : Nat} {KI : Int32 → zMem → Prop} {X : Nat → zMem → Prop} {x1 : Int32} {x2 : Int32} {μ : zMem} (h : pX9_cross d x1 x2 μ KI X) : Wr mX9_cross (d + 1) 0 0 [(0, .ref 106), (1, .int x1), (2, .int x2)] [] μ (kI KI X) := by
  unfold pX9_cross at h
  refine Wr_aload_n dX9_cross_0 rfl 0 rfl ?_
  refine Wr_iconstv (v := 0) dX9_cross_1 (by decide) ?_
  obtain ⟨m1, em1⟩ : ∃ z : zMem, z = zw μ 106 3 0 := ⟨_, rfl⟩
  have h := h m1 em1
  refine Wr_putI dX9_cross_2 fpX9_155 zl106 rfl ?_
  refine Wr_mu em1 ?_
  refine Wr_aload_n dX9_cross_5 rfl 0 rfl ?_
  refine Wr_getI dX9_cross_6 flX9_313 zl106 rfl ?_
  refine Wr_bipush (v := 40) dX9_cross_9 (by decide) ?_
  refine Wr_icmp_eq 32 dX9_cross_11 (by decide) (fun hc => ?_) (fun hc => ?_)
  · have h := h.1 hc
    refine zsub [0] rfl ?_
    exact wX9_cross_32 h
  · have h := h.2 hc
    refine Wr_iload_n dX9_cross_14 rfl 1 rfl ?_
    refine Wr_i2l dX9_cross_15 ?_
    refine Wr_lconst (v := 0) dX9_cross_16 (by decide) ?_
    refine Wr_aload_n dX9_cross_17 rfl 0 rfl ?_
    refine Wr_getR 4 dX9_cross_18 flX9_51 zl106 rfl (by decide) ?_
    refine Wr_iconstv (v := 0) dX9_cross_21 (by decide) ?_
    refine Wr_iald dX9_cross_22 zl110 (by unfold vp_in; decide) ?_
    refine Wr_iconstv (v := 2) dX9_cross_23 (by decide) ?_
    refine Wr_isub dX9_cross_24 ?_
    refine Wr_i2l dX9_cross_25 ?_
    refine Wr_cSi [.long x1.toInt64, .long 0, .long (((m1 110 0) - 2).toInt64)] dX9_cross_26 mlX9_158 mgX9_isIn rfl msX9_isIn  rfl rfl (Nat.le_of_ble_eq_true rfl) rfl (zcI.imp h (fun u3 m2 h => ?_) (fun _ _ h => ⟨rfl, h⟩))
    refine Wr_if_ne 38 dX9_cross_29 (by decide) (fun hc => ?_) (fun hc => ?_)
    · have h := h.2 hc
      refine Wr_aload_n dX9_cross_38 rfl 0 rfl ?_
      refine Wr_getR 23 dX9_cross_39 flX9_113 zl106 rfl (by decide) ?_
      refine Wr_aload_n dX9_cross_42 rfl 0 rfl ?_
      refine Wr_getI dX9_cross_43 flX9_313 zl106 rfl ?_
      refine Wr_iconstv (v := 2) dX9_cross_46 (by decide) ?_
      refine Wr_iload_n dX9_cross_47 rfl 1 rfl ?_
      refine Wr_imul dX9_cross_48 ?_
      refine Wr_iload_n dX9_cross_49 rfl 2 rfl ?_
      have hj1 : Wr mX9_cross (d + 1) 0 58 [(0, .ref 106), (1, .int x1), (2, .int x2)] [.int (if x2 = 0 then 0 else 1), .int (2 * x1), .int (m2 106 28), .ref 129] m2 (kI KI X) := by
        refine Wr_iadd dX9_cross_58 ?_
        obtain ⟨him4, h⟩ := h
        obtain ⟨m4, em4⟩ : ∃ z : zMem, z = zw m2 129 (m2 106 28).toNatClampNeg ((2 * x1) + (if x2 = 0 then 0 else 1)) := ⟨_, rfl⟩
        have h := h m4 em4
        refine Wr_iast dX9_cross_59 zl129 him4 ?_
        refine Wr_mu em4 ?_
        refine Wr_aload_n dX9_cross_60 rfl 0 rfl ?_
        refine Wr_dup dX9_cross_61 rfl ?_
        refine Wr_getI dX9_cross_62 flX9_313 zl106 rfl ?_
        refine Wr_iconstv (v := 1) dX9_cross_65 (by decide) ?_
        refine Wr_iadd dX9_cross_66 ?_
        obtain ⟨m5, em5⟩ : ∃ z : zMem, z = zw m4 106 28 ((m4 106 28) + 1) := ⟨_, rfl⟩
        have h := h m5 em5
        refine Wr_putI dX9_cross_67 fpX9_313 zl106 rfl ?_
        refine Wr_mu em5 ?_
        refine Wr_aload_n dX9_cross_70 rfl 0 rfl ?_
        refine Wr_getI dX9_cross_71 flX9_313 zl106 rfl ?_
        exact Wr_iret .int dX9_cross_74 rfl rfl ⟨rfl, h⟩
      refine Wr_if_eq 57 dX9_cross_50 (by decide) (fun hc0 => ?_) (fun hc0 => ?_)
      · skip
        refine Wr_iconstv (v := 0) dX9_cross_57 (by decide) ?_
        exact Wr_top (if_pos hc0) hj1
      · skip
        refine Wr_iconstv (v := 1) dX9_cross_53 (by decide) ?_
        refine Wr_goto 58 dX9_cross_54 (by decide) ?_
        exact Wr_top (if_neg hc0) hj1
    · have h := h.1 hc
      refine zsub [0] rfl ?_
      exact wX9_cross_32 h
theorem cX9_cross_ {d : Nat} {x1 : Int32} {x2 : Int32} {μ : zMem} {KI : Int32 → zMem → Prop} {X : Nat → zMem → Prop} (h : pX9_cross d x1 x2 μ KI X) : zcI (d + 1) mX9_cross [.ref 106, .int x1, .int x2] μ KI X :=
  Ex_of (w := 3) mgX9_cross.2.2.2.2.2 rfl rfl rfl (by decide) (wX9_cross_0 h)

def pX9_uncross (d : Nat) (μ : zMem) (KI : Int32 → zMem → Prop) (X : Nat → zMem → Prop) : Prop :=
  ∀ m1 : zMem, m1 = zw μ 106 3 0 → ((m1 106 28 = 0 → KI (-1) m1) ∧
  (¬ (m1 106 28 = 0) → ∀ m2 : zMem, m2 = zw m1 106 28 ((m1 106 28) - 1) → KI (m2 106 28) m2))
set_option maxRecDepth 20000 in
theorem wX9_uncross_0 {d : Nat} {KI : Int32 → zMem → Prop} {X : Nat → zMem → Prop} {μ : zMem} (h : pX9_uncross d μ KI X) : Wr mX9_uncross (d + 1) 0 0 [(0, .ref 106)] [] μ (kI KI X) := by
  unfold pX9_uncross at h
  refine Wr_aload_n dX9_uncross_0 rfl 0 rfl ?_
  refine Wr_iconstv (v := 0) dX9_uncross_1 (by decide) ?_
  obtain ⟨m1, em1⟩ : ∃ z : zMem, z = zw μ 106 3 0 := ⟨_, rfl⟩
  have h := h m1 em1
  refine Wr_putI dX9_uncross_2 fpX9_155 zl106 rfl ?_
  refine Wr_mu em1 ?_
  refine Wr_aload_n dX9_uncross_5 rfl 0 rfl ?_
  refine Wr_getI dX9_uncross_6 flX9_313 zl106 rfl ?_
  refine Wr_if_ne 14 dX9_uncross_9 (by decide) (fun hc => ?_) (fun hc => ?_)
  · have h := h.2 hc
    refine Wr_aload_n dX9_uncross_14 rfl 0 rfl ?_
    refine Wr_dup dX9_uncross_15 rfl ?_
    refine Wr_getI dX9_uncross_16 flX9_313 zl106 rfl ?_
    refine Wr_iconstv (v := 1) dX9_uncross_19 (by decide) ?_
    refine Wr_isub dX9_uncross_20 ?_
    obtain ⟨m2, em2⟩ : ∃ z : zMem, z = zw m1 106 28 ((m1 106 28) - 1) := ⟨_, rfl⟩
    have h := h m2 em2
    refine Wr_putI dX9_uncross_21 fpX9_313 zl106 rfl ?_
    refine Wr_mu em2 ?_
    refine Wr_aload_n dX9_uncross_24 rfl 0 rfl ?_
    refine Wr_getI dX9_uncross_25 flX9_313 zl106 rfl ?_
    exact Wr_iret .int dX9_uncross_28 rfl rfl ⟨rfl, h⟩
  · have h := h.1 hc
    refine Wr_iconstv (v := (-1)) dX9_uncross_12 (by decide) ?_
    exact Wr_iret .int dX9_uncross_13 rfl rfl ⟨rfl, h⟩
theorem cX9_uncross_ {d : Nat} {μ : zMem} {KI : Int32 → zMem → Prop} {X : Nat → zMem → Prop} (h : pX9_uncross d μ KI X) : zcI (d + 1) mX9_uncross [.ref 106] μ KI X :=
  Ex_of (w := 1) mgX9_uncross.2.2.2.2.2 rfl rfl rfl (by decide) (wX9_uncross_0 h)

def pX9_tellLeft_41 (d : Nat) (x1 : Int32) (x2 : Int32) (μ : zMem) (KI : Int32 → zMem → Prop) (X : Nat → zMem → Prop) (C4 : Int32 → Int32 → zMem → Prop) : Prop :=
  (vp_in x2 40) ∧ (vp_in x1 40) ∧ ∀ m1 : zMem, m1 = zw μ 130 x1.toNatClampNeg (μ 129 x2.toNatClampNeg) → ∀ v2 : Int32, v2 = x1 + 1 → ∀ v3 : Int32, v3 = x2 + 1 → C4 v2 v3 m1
set_option maxRecDepth 20000 in
theorem wX9_tellLeft_41 {d : Nat} {KI : Int32 → zMem → Prop} {X : Nat → zMem → Prop} {C4 : Int32 → Int32 → zMem → Prop} {x1 : Int32} {x2 : Int32} {μ : zMem} (hC4 : ∀ (x1 : Int32) (x2 : Int32) (μ : zMem), C4 x1 x2 μ → Wr mX9_tellLeft (d + 1) 0 4 [(0, .ref 106), (1, .int x1), (2, .int x2)] [] μ (kI KI X)) (h : pX9_tellLeft_41 d x1 x2 μ KI X C4) : Wr mX9_tellLeft (d + 1) 0 41 [(0, .ref 106), (1, .int x1), (2, .int x2)] [] μ (kI KI X) := by
  unfold pX9_tellLeft_41 at h
  refine Wr_aload_n dX9_tellLeft_41 rfl 0 rfl ?_
  refine Wr_getR 24 dX9_tellLeft_42 flX9_116 zl106 rfl (by decide) ?_
  refine Wr_iload_n dX9_tellLeft_45 rfl 1 rfl ?_
  refine Wr_aload_n dX9_tellLeft_46 rfl 0 rfl ?_
  refine Wr_getR 23 dX9_tellLeft_47 flX9_113 zl106 rfl (by decide) ?_
  refine Wr_iload_n dX9_tellLeft_50 rfl 2 rfl ?_
  obtain ⟨hi, h⟩ := h
  refine Wr_iald dX9_tellLeft_51 zl129 hi ?_
  obtain ⟨him1, h⟩ := h
  obtain ⟨m1, em1⟩ : ∃ z : zMem, z = zw μ 130 x1.toNatClampNeg (μ 129 x2.toNatClampNeg) := ⟨_, rfl⟩
  have h := h m1 em1
  refine Wr_iast dX9_tellLeft_52 zl130 him1 ?_
  refine Wr_mu em1 ?_
  obtain ⟨v2, ev2⟩ : ∃ z : Int32, z = x1 + 1 := ⟨_, rfl⟩
  have h := h v2 ev2
  refine Wr_iinc (v := v2) dX9_tellLeft_53 (q := 1) rfl (by rw [ev2]; rfl) (by decide) rfl ?_
  obtain ⟨v3, ev3⟩ : ∃ z : Int32, z = x2 + 1 := ⟨_, rfl⟩
  have h := h v3 ev3
  refine Wr_iinc (v := v3) dX9_tellLeft_56 (q := 2) rfl (by rw [ev3]; rfl) (by decide) rfl ?_
  refine Wr_goto 4 dX9_tellLeft_59 (by decide) ?_
  refine zsub [0, 1, 2] rfl ?_
  exact hC4 _ _ _ h
def pX9_tellLeft_4 : Nat → Nat → Int32 → Int32 → zMem → (Int32 → zMem → Prop) → (Nat → zMem → Prop) → Prop
  | 0, _, _, _, _, _, _ => False
  | n + 1, d, x1, x2, μ, KI, X =>
  ((μ 106 28 ≤ x2 → KI x1 μ) ∧
  (¬ (μ 106 28 ≤ x2) → ((x1 ≤ 0 → pX9_tellLeft_41 d x1 x2 μ KI X (fun z0 z1 m => pX9_tellLeft_4 n d z0 z1 m KI X)) ∧
    (¬ (x1 ≤ 0) → (vp_in (x1 - 1) 40) ∧ (vp_in x2 40) ∧ ((μ 130 (x1 - 1).toNatClampNeg = (μ 129 x2.toNatClampNeg) ^^^ 1 → ∀ v1 : Int32, v1 = x1 + (-1) → ∀ v2 : Int32, v2 = x2 + 1 → pX9_tellLeft_4 n d v1 v2 μ KI X) ∧
      (¬ (μ 130 (x1 - 1).toNatClampNeg = (μ 129 x2.toNatClampNeg) ^^^ 1) → pX9_tellLeft_41 d x1 x2 μ KI X (fun z0 z1 m => pX9_tellLeft_4 n d z0 z1 m KI X)))))))
set_option maxRecDepth 20000 in
theorem wX9_tellLeft_4 {d : Nat} {KI : Int32 → zMem → Prop} {X : Nat → zMem → Prop} : ∀ (n : Nat) (x1 : Int32) (x2 : Int32) (μ : zMem), pX9_tellLeft_4 n d x1 x2 μ KI X → Wr mX9_tellLeft (d + 1) 0 4 [(0, .ref 106), (1, .int x1), (2, .int x2)] [] μ (kI KI X) := by
  intro n
  induction n with
  | zero =>
    intro x1 x2 μ h
    exact absurd h id
  | succ n ih =>
    intro x1 x2 μ h
    unfold pX9_tellLeft_4 at h
    refine Wr_iload_n dX9_tellLeft_4 rfl 2 rfl ?_
    refine Wr_aload_n dX9_tellLeft_5 rfl 0 rfl ?_
    refine Wr_getI dX9_tellLeft_6 flX9_313 zl106 rfl ?_
    refine Wr_icmp_ge 62 dX9_tellLeft_9 (by decide) (fun hc => ?_) (fun hc => ?_)
    · have h := h.1 hc
      refine Wr_iload_n dX9_tellLeft_62 rfl 1 rfl ?_
      exact Wr_iret .int dX9_tellLeft_63 rfl rfl ⟨rfl, h⟩
    · have h := h.2 hc
      refine Wr_iload_n dX9_tellLeft_12 rfl 1 rfl ?_
      refine Wr_if_le 41 dX9_tellLeft_13 (by decide) (fun hc => ?_) (fun hc => ?_)
      · have h := h.1 hc
        refine zsub [0, 1, 2] rfl ?_
        exact wX9_tellLeft_41 (fun z0 z1 m h => ih z0 z1 m h) h
      · have h := h.2 hc
        refine Wr_aload_n dX9_tellLeft_16 rfl 0 rfl ?_
        refine Wr_getR 24 dX9_tellLeft_17 flX9_116 zl106 rfl (by decide) ?_
        refine Wr_iload_n dX9_tellLeft_20 rfl 1 rfl ?_
        refine Wr_iconstv (v := 1) dX9_tellLeft_21 (by decide) ?_
        refine Wr_isub dX9_tellLeft_22 ?_
        obtain ⟨hi, h⟩ := h
        refine Wr_iald dX9_tellLeft_23 zl130 hi ?_
        refine Wr_aload_n dX9_tellLeft_24 rfl 0 rfl ?_
        refine Wr_getR 23 dX9_tellLeft_25 flX9_113 zl106 rfl (by decide) ?_
        refine Wr_iload_n dX9_tellLeft_28 rfl 2 rfl ?_
        obtain ⟨hi, h⟩ := h
        refine Wr_iald dX9_tellLeft_29 zl129 hi ?_
        refine Wr_iconstv (v := 1) dX9_tellLeft_30 (by decide) ?_
        refine Wr_ixor dX9_tellLeft_31 ?_
        refine Wr_icmp_ne 41 dX9_tellLeft_32 (by decide) (fun hc => ?_) (fun hc => ?_)
        · have h := h.2 hc
          refine zsub [0, 1, 2] rfl ?_
          exact wX9_tellLeft_41 (fun z0 z1 m h => ih z0 z1 m h) h
        · have h := h.1 hc
          obtain ⟨v1, ev1⟩ : ∃ z : Int32, z = x1 + (-1) := ⟨_, rfl⟩
          have h := h v1 ev1
          refine Wr_iinc (v := v1) dX9_tellLeft_35 (q := 1) rfl (by rw [ev1]; rfl) (by decide) rfl ?_
          refine Wr_goto 56 dX9_tellLeft_38 (by decide) ?_
          obtain ⟨v2, ev2⟩ : ∃ z : Int32, z = x2 + 1 := ⟨_, rfl⟩
          have h := h v2 ev2
          refine Wr_iinc (v := v2) dX9_tellLeft_56 (q := 2) rfl (by rw [ev2]; rfl) (by decide) rfl ?_
          refine Wr_goto 4 dX9_tellLeft_59 (by decide) ?_
          refine zsub [0, 1, 2] rfl ?_
          exact ih _ _ _ h
def pX9_tellLeft (d : Nat) (μ : zMem) (KI : Int32 → zMem → Prop) (X : Nat → zMem → Prop) : Prop :=
  ∃ n2 : Nat, pX9_tellLeft_4 n2 d 0 0 μ KI X
set_option maxRecDepth 20000 in
theorem wX9_tellLeft_0 {d : Nat} {KI : Int32 → zMem → Prop} {X : Nat → zMem → Prop} {μ : zMem} (h : pX9_tellLeft d μ KI X) : Wr mX9_tellLeft (d + 1) 0 0 [(0, .ref 106)] [] μ (kI KI X) := by
  unfold pX9_tellLeft at h
  refine Wr_iconstv (v := 0) dX9_tellLeft_0 (by decide) ?_
  refine Wr_istore_n dX9_tellLeft_1 rfl (by decide) rfl ?_
  refine Wr_iconstv (v := 0) dX9_tellLeft_2 (by decide) ?_
  refine Wr_istore_n dX9_tellLeft_3 rfl (by decide) rfl ?_
  refine zsub [0, 1, 2] rfl ?_
  obtain ⟨n9, h⟩ := h
  exact wX9_tellLeft_4 n9 _ _ _ h
theorem cX9_tellLeft_ {d : Nat} {μ : zMem} {KI : Int32 → zMem → Prop} {X : Nat → zMem → Prop} (h : pX9_tellLeft d μ KI X) : zcI (d + 1) mX9_tellLeft [.ref 106] μ KI X :=
  Ex_of (w := 1) mgX9_tellLeft.2.2.2.2.2 rfl rfl rfl (by decide) (wX9_tellLeft_0 h)

def pX9_freed (d : Nat) (x1 : Int32) (μ : zMem) (KI : Int32 → zMem → Prop) (X : Nat → zMem → Prop) : Prop :=
  ∀ m1 : zMem, m1 = zw μ 106 3 0 → zcI d mX9_tellLeft [.ref 106] m1 (fun u3 m2 => zcI d mX9_isIn [.long x1.toInt64, .long (-1), .long ((u3 - 1).toInt64)] m2 (fun u5 m4 => ((u5 = 0 → zcI d mX9_fail [.ref 106, .int 1] m4 (fun u7 m6 => KI u7 m6) X) ∧
  (¬ (u5 = 0) → ((x1 = (-1) → KI u3 m4) ∧
    (¬ (x1 = (-1)) → (vp_in x1 40) ∧ (vp_in x1 40) ∧ KI (((m4 130 x1.toNatClampNeg) / 2) + (10 * ((m4 130 x1.toNatClampNeg) - (m4 130 x1.toNatClampNeg) / 2 * 2))) m4))))) X) X
set_option maxRecDepth 20000 in
theorem wX9_freed_0 {d : Nat} {KI : Int32 → zMem → Prop} {X : Nat → zMem → Prop} {x1 : Int32} {μ : zMem} (h : pX9_freed d x1 μ KI X) : Wr mX9_freed (d + 1) 0 0 [(0, .ref 106), (1, .int x1)] [] μ (kI KI X) := by
  unfold pX9_freed at h
  refine Wr_aload_n dX9_freed_0 rfl 0 rfl ?_
  refine Wr_iconstv (v := 0) dX9_freed_1 (by decide) ?_
  obtain ⟨m1, em1⟩ : ∃ z : zMem, z = zw μ 106 3 0 := ⟨_, rfl⟩
  have h := h m1 em1
  refine Wr_putI dX9_freed_2 fpX9_155 zl106 rfl ?_
  refine Wr_mu em1 ?_
  refine Wr_aload_n dX9_freed_5 rfl 0 rfl ?_
  refine Wr_cVi [] dX9_freed_6 mlX9_452 mgX9_tellLeft rfl mvX9_tellLeft (zrv zl106 _ rfl rfl) rfl rfl (Nat.le_of_ble_eq_true rfl) rfl (zcI.imp h (fun u3 m2 h => ?_) (fun _ _ h => ⟨rfl, h⟩))
  refine Wr_istore_n dX9_freed_9 rfl (by decide) rfl ?_
  refine Wr_iload_n dX9_freed_10 rfl 2 rfl ?_
  refine Wr_i2l dX9_freed_11 ?_
  refine Wr_ldc2 dX9_freed_12 lcX9_455 ?_
  refine Wr_iload_n dX9_freed_15 rfl 0 rfl ?_
  refine Wr_iconstv (v := 1) dX9_freed_16 (by decide) ?_
  refine Wr_isub dX9_freed_17 ?_
  refine Wr_i2l dX9_freed_18 ?_
  refine Wr_cSi [.long x1.toInt64, .long (-1), .long ((u3 - 1).toInt64)] dX9_freed_19 mlX9_158 mgX9_isIn rfl msX9_isIn  rfl rfl (Nat.le_of_ble_eq_true rfl) rfl (zcI.imp h (fun u5 m4 h => ?_) (fun _ _ h => ⟨rfl, h⟩))
  refine Wr_if_ne 31 dX9_freed_22 (by decide) (fun hc => ?_) (fun hc => ?_)
  · have h := h.2 hc
    refine Wr_iload_n dX9_freed_31 rfl 2 rfl ?_
    refine Wr_iconstv (v := (-1)) dX9_freed_32 (by decide) ?_
    refine Wr_icmp_ne 40 dX9_freed_33 (by decide) (fun hc => ?_) (fun hc => ?_)
    · have h := h.2 hc
      refine Wr_aload_n dX9_freed_40 rfl 1 rfl ?_
      refine Wr_getR 24 dX9_freed_41 flX9_116 zl106 rfl (by decide) ?_
      refine Wr_iload_n dX9_freed_44 rfl 2 rfl ?_
      obtain ⟨hi, h⟩ := h
      refine Wr_iald dX9_freed_45 zl130 hi ?_
      refine Wr_iconstv (v := 2) dX9_freed_46 (by decide) ?_
      refine Wr_idiv dX9_freed_47 (by decide) ?_
      refine Wr_bipush (v := 10) dX9_freed_48 (by decide) ?_
      refine Wr_aload_n dX9_freed_50 rfl 1 rfl ?_
      refine Wr_getR 24 dX9_freed_51 flX9_116 zl106 rfl (by decide) ?_
      refine Wr_iload_n dX9_freed_54 rfl 2 rfl ?_
      obtain ⟨hi, h⟩ := h
      refine Wr_iald dX9_freed_55 zl130 hi ?_
      refine Wr_iconstv (v := 2) dX9_freed_56 (by decide) ?_
      refine Wr_irem dX9_freed_57 (by decide) ?_
      refine Wr_imul dX9_freed_58 ?_
      refine Wr_iadd dX9_freed_59 ?_
      exact Wr_iret .int dX9_freed_60 rfl rfl ⟨rfl, h⟩
    · have h := h.1 hc
      refine Wr_iload_n dX9_freed_36 rfl 0 rfl ?_
      refine Wr_goto 60 dX9_freed_37 (by decide) ?_
      exact Wr_iret .int dX9_freed_60 rfl rfl ⟨rfl, h⟩
  · have h := h.1 hc
    refine Wr_aload_n dX9_freed_25 rfl 1 rfl ?_
    refine Wr_iconstv (v := 1) dX9_freed_26 (by decide) ?_
    refine Wr_cVi [.int 1] dX9_freed_27 mlX9_297 mgX9_fail rfl mvX9_fail (zrv zl106 _ rfl rfl) rfl rfl (Nat.le_of_ble_eq_true rfl) rfl (zcI.imp h (fun u7 m6 h => ?_) (fun _ _ h => ⟨rfl, h⟩))
    exact Wr_iret .int dX9_freed_30 rfl rfl ⟨rfl, h⟩
theorem cX9_freed_ {d : Nat} {x1 : Int32} {μ : zMem} {KI : Int32 → zMem → Prop} {X : Nat → zMem → Prop} (h : pX9_freed d x1 μ KI X) : zcI (d + 1) mX9_freed [.ref 106, .int x1] μ KI X :=
  Ex_of (w := 2) mgX9_freed.2.2.2.2.2 rfl rfl rfl (by decide) (wX9_freed_0 h)

def pX9_tellPlaces_82 : Nat → Nat → Int32 → zMem → (Int32 → zMem → Prop) → (Nat → zMem → Prop) → Prop
  | 0, _, _, _, _, _ => False
  | n + 1, d, x1, μ, KI, X =>
  ((μ 110 0 ≤ x1 → KI 1 μ) ∧
  (¬ (μ 110 0 ≤ x1) → (vp_in x1 6) ∧ ((μ 131 x1.toNatClampNeg = x1 → ∀ v1 : Int32, v1 = x1 + 1 → pX9_tellPlaces_82 n d v1 μ KI X) ∧
    (¬ (μ 131 x1.toNatClampNeg = x1) → KI 0 μ))))
set_option maxRecDepth 20000 in
theorem wX9_tellPlaces_82 {d : Nat} {KI : Int32 → zMem → Prop} {X : Nat → zMem → Prop} : ∀ (n : Nat) (x1 : Int32) (μ : zMem), pX9_tellPlaces_82 n d x1 μ KI X → Wr mX9_tellPlaces (d + 1) 0 82 [(0, .ref 106), (1, .int x1)] [] μ (kI KI X) := by
  intro n
  induction n with
  | zero =>
    intro x1 μ h
    exact absurd h id
  | succ n ih =>
    intro x1 μ h
    unfold pX9_tellPlaces_82 at h
    refine Wr_iload_n dX9_tellPlaces_82 rfl 1 rfl ?_
    refine Wr_aload_n dX9_tellPlaces_83 rfl 0 rfl ?_
    refine Wr_getR 4 dX9_tellPlaces_84 flX9_51 zl106 rfl (by decide) ?_
    refine Wr_iconstv (v := 0) dX9_tellPlaces_87 (by decide) ?_
    refine Wr_iald dX9_tellPlaces_88 zl110 (by unfold vp_in; decide) ?_
    refine Wr_icmp_ge 110 dX9_tellPlaces_89 (by decide) (fun hc => ?_) (fun hc => ?_)
    · have h := h.1 hc
      refine Wr_iconstv (v := 1) dX9_tellPlaces_110 (by decide) ?_
      exact Wr_iret .boolean dX9_tellPlaces_111 rfl rfl ⟨rfl, h⟩
    · have h := h.2 hc
      refine Wr_aload_n dX9_tellPlaces_92 rfl 0 rfl ?_
      refine Wr_getR 25 dX9_tellPlaces_93 flX9_119 zl106 rfl (by decide) ?_
      refine Wr_iload_n dX9_tellPlaces_96 rfl 1 rfl ?_
      obtain ⟨hi, h⟩ := h
      refine Wr_iald dX9_tellPlaces_97 zl131 hi ?_
      refine Wr_iload_n dX9_tellPlaces_98 rfl 1 rfl ?_
      refine Wr_icmp_eq 104 dX9_tellPlaces_99 (by decide) (fun hc => ?_) (fun hc => ?_)
      · have h := h.1 hc
        obtain ⟨v1, ev1⟩ : ∃ z : Int32, z = x1 + 1 := ⟨_, rfl⟩
        have h := h v1 ev1
        refine Wr_iinc (v := v1) dX9_tellPlaces_104 (q := 1) rfl (by rw [ev1]; rfl) (by decide) rfl ?_
        refine Wr_goto 82 dX9_tellPlaces_107 (by decide) ?_
        refine zsub [0, 1] rfl ?_
        exact ih _ _ h
      · have h := h.2 hc
        refine Wr_iconstv (v := 0) dX9_tellPlaces_102 (by decide) ?_
        exact Wr_iret .boolean dX9_tellPlaces_103 rfl rfl ⟨rfl, h⟩
def pX9_tellPlaces_27 : Nat → Nat → Int32 → zMem → (Int32 → zMem → Prop) → (Nat → zMem → Prop) → Prop
  | 0, _, _, _, _, _ => False
  | n + 1, d, x1, μ, KI, X =>
  ((μ 106 28 ≤ x1 → ∃ n2 : Nat, pX9_tellPlaces_82 n2 d 0 μ KI X) ∧
  (¬ (μ 106 28 ≤ x1) → (vp_in x1 40) ∧ ∀ v1 : Int32, v1 = (μ 129 x1.toNatClampNeg) / 2 → (vp_in v1 6) ∧ ∀ v2 : Int32, v2 = μ 131 v1.toNatClampNeg → (vp_in (v1 + 1) 6) ∧ (vp_in v1 6) ∧ ∀ m3 : zMem, m3 = zw μ 131 v1.toNatClampNeg (μ 131 (v1 + 1).toNatClampNeg) → (vp_in (v1 + 1) 6) ∧ ∀ m4 : zMem, m4 = zw m3 131 (v1 + 1).toNatClampNeg v2 → ∀ v5 : Int32, v5 = x1 + 1 → pX9_tellPlaces_27 n d v5 m4 KI X))
set_option maxRecDepth 20000 in
theorem wX9_tellPlaces_27 {d : Nat} {KI : Int32 → zMem → Prop} {X : Nat → zMem → Prop} : ∀ (n : Nat) (x1 : Int32) (μ : zMem), pX9_tellPlaces_27 n d x1 μ KI X → Wr mX9_tellPlaces (d + 1) 0 27 [(0, .ref 106), (1, .int x1)] [] μ (kI KI X) := by
  intro n
  induction n with
  | zero =>
    intro x1 μ h
    exact absurd h id
  | succ n ih =>
    intro x1 μ h
    unfold pX9_tellPlaces_27 at h
    refine Wr_iload_n dX9_tellPlaces_27 rfl 1 rfl ?_
    refine Wr_aload_n dX9_tellPlaces_28 rfl 0 rfl ?_
    refine Wr_getI dX9_tellPlaces_29 flX9_313 zl106 rfl ?_
    refine Wr_icmp_ge 80 dX9_tellPlaces_32 (by decide) (fun hc => ?_) (fun hc => ?_)
    · have h := h.1 hc
      refine Wr_iconstv (v := 0) dX9_tellPlaces_80 (by decide) ?_
      refine Wr_istore_n dX9_tellPlaces_81 rfl (by decide) rfl ?_
      refine zsub [0, 1] rfl ?_
      obtain ⟨n9, h⟩ := h
      exact wX9_tellPlaces_82 n9 _ _ h
    · have h := h.2 hc
      refine Wr_aload_n dX9_tellPlaces_35 rfl 0 rfl ?_
      refine Wr_getR 23 dX9_tellPlaces_36 flX9_113 zl106 rfl (by decide) ?_
      refine Wr_iload_n dX9_tellPlaces_39 rfl 1 rfl ?_
      obtain ⟨hi, h⟩ := h
      refine Wr_iald dX9_tellPlaces_40 zl129 hi ?_
      refine Wr_iconstv (v := 2) dX9_tellPlaces_41 (by decide) ?_
      refine Wr_idiv dX9_tellPlaces_42 (by decide) ?_
      obtain ⟨v1, ev1⟩ : ∃ z : Int32, z = (μ 129 x1.toNatClampNeg) / 2 := ⟨_, rfl⟩
      have h := h v1 ev1
      refine Wr_top ev1 ?_
      refine Wr_istore_n dX9_tellPlaces_43 rfl (by decide) rfl ?_
      refine Wr_aload_n dX9_tellPlaces_44 rfl 1 rfl ?_
      refine Wr_getR 25 dX9_tellPlaces_45 flX9_119 zl106 rfl (by decide) ?_
      refine Wr_iload_n dX9_tellPlaces_48 rfl 0 rfl ?_
      obtain ⟨hi, h⟩ := h
      refine Wr_iald dX9_tellPlaces_49 zl131 hi ?_
      obtain ⟨v2, ev2⟩ : ∃ z : Int32, z = μ 131 v1.toNatClampNeg := ⟨_, rfl⟩
      have h := h v2 ev2
      refine Wr_top ev2 ?_
      refine Wr_istore_n dX9_tellPlaces_50 rfl (by decide) rfl ?_
      refine Wr_aload_n dX9_tellPlaces_51 rfl 2 rfl ?_
      refine Wr_getR 25 dX9_tellPlaces_52 flX9_119 zl106 rfl (by decide) ?_
      refine Wr_iload_n dX9_tellPlaces_55 rfl 1 rfl ?_
      refine Wr_aload_n dX9_tellPlaces_56 rfl 2 rfl ?_
      refine Wr_getR 25 dX9_tellPlaces_57 flX9_119 zl106 rfl (by decide) ?_
      refine Wr_iload_n dX9_tellPlaces_60 rfl 1 rfl ?_
      refine Wr_iconstv (v := 1) dX9_tellPlaces_61 (by decide) ?_
      refine Wr_iadd dX9_tellPlaces_62 ?_
      obtain ⟨hi, h⟩ := h
      refine Wr_iald dX9_tellPlaces_63 zl131 hi ?_
      obtain ⟨him3, h⟩ := h
      obtain ⟨m3, em3⟩ : ∃ z : zMem, z = zw μ 131 v1.toNatClampNeg (μ 131 (v1 + 1).toNatClampNeg) := ⟨_, rfl⟩
      have h := h m3 em3
      refine Wr_iast dX9_tellPlaces_64 zl131 him3 ?_
      refine Wr_mu em3 ?_
      refine Wr_aload_n dX9_tellPlaces_65 rfl 2 rfl ?_
      refine Wr_getR 25 dX9_tellPlaces_66 flX9_119 zl106 rfl (by decide) ?_
      refine Wr_iload_n dX9_tellPlaces_69 rfl 1 rfl ?_
      refine Wr_iconstv (v := 1) dX9_tellPlaces_70 (by decide) ?_
      refine Wr_iadd dX9_tellPlaces_71 ?_
      refine Wr_iload_n dX9_tellPlaces_72 rfl 0 rfl ?_
      obtain ⟨him4, h⟩ := h
      obtain ⟨m4, em4⟩ : ∃ z : zMem, z = zw m3 131 (v1 + 1).toNatClampNeg v2 := ⟨_, rfl⟩
      have h := h m4 em4
      refine Wr_iast dX9_tellPlaces_73 zl131 him4 ?_
      refine Wr_mu em4 ?_
      obtain ⟨v5, ev5⟩ : ∃ z : Int32, z = x1 + 1 := ⟨_, rfl⟩
      have h := h v5 ev5
      refine Wr_iinc (v := v5) dX9_tellPlaces_74 (q := 3) rfl (by rw [ev5]; rfl) (by decide) rfl ?_
      refine Wr_goto 27 dX9_tellPlaces_77 (by decide) ?_
      refine zsub [0, 1] rfl ?_
      exact ih _ _ h
def pX9_tellPlaces_2 : Nat → Nat → Int32 → zMem → (Int32 → zMem → Prop) → (Nat → zMem → Prop) → Prop
  | 0, _, _, _, _, _ => False
  | n + 1, d, x1, μ, KI, X =>
  ((μ 110 0 ≤ x1 → ∃ n2 : Nat, pX9_tellPlaces_27 n2 d 0 μ KI X) ∧
  (¬ (μ 110 0 ≤ x1) → (vp_in x1 6) ∧ ∀ m1 : zMem, m1 = zw μ 131 x1.toNatClampNeg x1 → ∀ v2 : Int32, v2 = x1 + 1 → pX9_tellPlaces_2 n d v2 m1 KI X))
set_option maxRecDepth 20000 in
theorem wX9_tellPlaces_2 {d : Nat} {KI : Int32 → zMem → Prop} {X : Nat → zMem → Prop} : ∀ (n : Nat) (x1 : Int32) (μ : zMem), pX9_tellPlaces_2 n d x1 μ KI X → Wr mX9_tellPlaces (d + 1) 0 2 [(0, .ref 106), (1, .int x1)] [] μ (kI KI X) := by
  intro n
  induction n with
  | zero =>
    intro x1 μ h
    exact absurd h id
  | succ n ih =>
    intro x1 μ h
    unfold pX9_tellPlaces_2 at h
    refine Wr_iload_n dX9_tellPlaces_2 rfl 1 rfl ?_
    refine Wr_aload_n dX9_tellPlaces_3 rfl 0 rfl ?_
    refine Wr_getR 4 dX9_tellPlaces_4 flX9_51 zl106 rfl (by decide) ?_
    refine Wr_iconstv (v := 0) dX9_tellPlaces_7 (by decide) ?_
    refine Wr_iald dX9_tellPlaces_8 zl110 (by unfold vp_in; decide) ?_
    refine Wr_icmp_ge 25 dX9_tellPlaces_9 (by decide) (fun hc => ?_) (fun hc => ?_)
    · have h := h.1 hc
      refine Wr_iconstv (v := 0) dX9_tellPlaces_25 (by decide) ?_
      refine Wr_istore_n dX9_tellPlaces_26 rfl (by decide) rfl ?_
      refine zsub [0, 1] rfl ?_
      obtain ⟨n9, h⟩ := h
      exact wX9_tellPlaces_27 n9 _ _ h
    · have h := h.2 hc
      refine Wr_aload_n dX9_tellPlaces_12 rfl 0 rfl ?_
      refine Wr_getR 25 dX9_tellPlaces_13 flX9_119 zl106 rfl (by decide) ?_
      refine Wr_iload_n dX9_tellPlaces_16 rfl 1 rfl ?_
      refine Wr_iload_n dX9_tellPlaces_17 rfl 1 rfl ?_
      obtain ⟨him1, h⟩ := h
      obtain ⟨m1, em1⟩ : ∃ z : zMem, z = zw μ 131 x1.toNatClampNeg x1 := ⟨_, rfl⟩
      have h := h m1 em1
      refine Wr_iast dX9_tellPlaces_18 zl131 him1 ?_
      refine Wr_mu em1 ?_
      obtain ⟨v2, ev2⟩ : ∃ z : Int32, z = x1 + 1 := ⟨_, rfl⟩
      have h := h v2 ev2
      refine Wr_iinc (v := v2) dX9_tellPlaces_19 (q := 1) rfl (by rw [ev2]; rfl) (by decide) rfl ?_
      refine Wr_goto 2 dX9_tellPlaces_22 (by decide) ?_
      refine zsub [0, 1] rfl ?_
      exact ih _ _ h
def pX9_tellPlaces (d : Nat) (μ : zMem) (KI : Int32 → zMem → Prop) (X : Nat → zMem → Prop) : Prop :=
  ∃ n2 : Nat, pX9_tellPlaces_2 n2 d 0 μ KI X
set_option maxRecDepth 20000 in
theorem wX9_tellPlaces_0 {d : Nat} {KI : Int32 → zMem → Prop} {X : Nat → zMem → Prop} {μ : zMem} (h : pX9_tellPlaces d μ KI X) : Wr mX9_tellPlaces (d + 1) 0 0 [(0, .ref 106)] [] μ (kI KI X) := by
  unfold pX9_tellPlaces at h
  refine Wr_iconstv (v := 0) dX9_tellPlaces_0 (by decide) ?_
  refine Wr_istore_n dX9_tellPlaces_1 rfl (by decide) rfl ?_
  refine zsub [0, 1] rfl ?_
  obtain ⟨n9, h⟩ := h
  exact wX9_tellPlaces_2 n9 _ _ h
theorem cX9_tellPlaces_ {d : Nat} {μ : zMem} {KI : Int32 → zMem → Prop} {X : Nat → zMem → Prop} (h : pX9_tellPlaces d μ KI X) : zcI (d + 1) mX9_tellPlaces [.ref 106] μ KI X :=
  Ex_of (w := 1) mgX9_tellPlaces.2.2.2.2.2 rfl rfl rfl (by decide) (wX9_tellPlaces_0 h)

def pX9_tangle_22 (d : Nat) (μ : zMem) (KI : Int32 → zMem → Prop) (X : Nat → zMem → Prop) : Prop :=
  zcI d mX9_fail [.ref 106, .int 1] μ (fun u2 m1 => KI u2 m1) X
set_option maxRecDepth 20000 in
theorem wX9_tangle_22 {d : Nat} {KI : Int32 → zMem → Prop} {X : Nat → zMem → Prop} {μ : zMem} (h : pX9_tangle_22 d μ KI X) : Wr mX9_tangle (d + 1) 0 22 [(0, .ref 106)] [] μ (kI KI X) := by
  unfold pX9_tangle_22 at h
  refine Wr_aload_n dX9_tangle_22 rfl 0 rfl ?_
  refine Wr_iconstv (v := 1) dX9_tangle_23 (by decide) ?_
  refine Wr_cVi [.int 1] dX9_tangle_24 mlX9_297 mgX9_fail rfl mvX9_fail (zrv zl106 _ rfl rfl) rfl rfl (Nat.le_of_ble_eq_true rfl) rfl (zcI.imp h (fun u2 m1 h => ?_) (fun _ _ h => ⟨rfl, h⟩))
  exact Wr_iret .int dX9_tangle_27 rfl rfl ⟨rfl, h⟩
def pX9_tangle_54 : Nat → Nat → Int32 → Int32 → zMem → (Int32 → zMem → Prop) → (Nat → zMem → Prop) → Prop
  | 0, _, _, _, _, _, _ => False
  | n + 1, d, x1, x4, μ, KI, X =>
  (vp_in x4 6) ∧ ((μ 131 x4.toNatClampNeg = x1 → KI x4 μ) ∧
  (¬ (μ 131 x4.toNatClampNeg = x1) → ∀ v1 : Int32, v1 = x4 + 1 → pX9_tangle_54 n d x1 v1 μ KI X))
set_option maxRecDepth 20000 in
theorem wX9_tangle_54 {d : Nat} {KI : Int32 → zMem → Prop} {X : Nat → zMem → Prop} : ∀ (n : Nat) (x1 : Int32) (x4 : Int32) (μ : zMem), pX9_tangle_54 n d x1 x4 μ KI X → Wr mX9_tangle (d + 1) 0 54 [(0, .ref 106), (1, .int x1), (4, .int x4)] [] μ (kI KI X) := by
  intro n
  induction n with
  | zero =>
    intro x1 x4 μ h
    exact absurd h id
  | succ n ih =>
    intro x1 x4 μ h
    unfold pX9_tangle_54 at h
    refine Wr_aload_n dX9_tangle_54 rfl 0 rfl ?_
    refine Wr_getR 25 dX9_tangle_55 flX9_119 zl106 rfl (by decide) ?_
    refine Wr_iload dX9_tangle_58 2 rfl ?_
    obtain ⟨hi, h⟩ := h
    refine Wr_iald dX9_tangle_60 zl131 hi ?_
    refine Wr_iload_n dX9_tangle_61 rfl 1 rfl ?_
    refine Wr_icmp_eq 71 dX9_tangle_62 (by decide) (fun hc => ?_) (fun hc => ?_)
    · have h := h.1 hc
      refine Wr_iload dX9_tangle_71 2 rfl ?_
      exact Wr_iret .int dX9_tangle_73 rfl rfl ⟨rfl, h⟩
    · have h := h.2 hc
      obtain ⟨v1, ev1⟩ : ∃ z : Int32, z = x4 + 1 := ⟨_, rfl⟩
      have h := h v1 ev1
      refine Wr_iinc (v := v1) dX9_tangle_65 (q := 2) rfl (by rw [ev1]; rfl) (by decide) rfl ?_
      refine Wr_goto 54 dX9_tangle_68 (by decide) ?_
      refine zsub [0, 1, 4] rfl ?_
      exact ih _ _ _ h
def pX9_tangle (d : Nat) (x1 : Int32) (x2 : Int32) (μ : zMem) (KI : Int32 → zMem → Prop) (X : Nat → zMem → Prop) : Prop :=
  ∀ m1 : zMem, m1 = zw μ 106 3 0 → zcI d mX9_isIsle [.ref 106, .int x1] m1 (fun u3 m2 => ((u3 = 0 → pX9_tangle_22 d m2 KI X) ∧
  (¬ (u3 = 0) → ((x2 < 0 → pX9_tangle_22 d m2 KI X) ∧
    (¬ (x2 < 0) → ((x2 ≤ 1 → zcI d mX9_tellPlaces [.ref 106] m2 (fun u5 m4 => ((x2 = 1 → ((u5 = 0 → KI 0 m4) ∧
          (¬ (u5 = 0) → zcI d mX9_tellLeft [.ref 106] m4 (fun u7 m6 => KI u7 m6) X))) ∧
        (¬ (x2 = 1) → ∃ n2 : Nat, pX9_tangle_54 n2 d x1 0 m4 KI X))) X) ∧
      (¬ (x2 ≤ 1) → pX9_tangle_22 d m2 KI X))))))) X
set_option maxRecDepth 20000 in
theorem wX9_tangle_0 {d : Nat} {KI : Int32 → zMem → Prop} {X : Nat → zMem → Prop} {x1 : Int32} {x2 : Int32} {μ : zMem} (h : pX9_tangle d x1 x2 μ KI X) : Wr mX9_tangle (d + 1) 0 0 [(0, .ref 106), (1, .int x1), (2, .int x2)] [] μ (kI KI X) := by
  unfold pX9_tangle at h
  refine Wr_aload_n dX9_tangle_0 rfl 0 rfl ?_
  refine Wr_iconstv (v := 0) dX9_tangle_1 (by decide) ?_
  obtain ⟨m1, em1⟩ : ∃ z : zMem, z = zw μ 106 3 0 := ⟨_, rfl⟩
  have h := h m1 em1
  refine Wr_putI dX9_tangle_2 fpX9_155 zl106 rfl ?_
  refine Wr_mu em1 ?_
  refine Wr_aload_n dX9_tangle_5 rfl 0 rfl ?_
  refine Wr_iload_n dX9_tangle_6 rfl 1 rfl ?_
  refine Wr_cVi [.int x1] dX9_tangle_7 mlX9_384 mgX9_isIsle rfl mvX9_isIsle (zrv zl106 _ rfl rfl) rfl rfl (Nat.le_of_ble_eq_true rfl) rfl (zcI.imp h (fun u3 m2 h => ?_) (fun _ _ h => ⟨rfl, h⟩))
  refine Wr_if_eq 22 dX9_tangle_10 (by decide) (fun hc => ?_) (fun hc => ?_)
  · have h := h.1 hc
    refine zsub [0] rfl ?_
    exact wX9_tangle_22 h
  · have h := h.2 hc
    refine Wr_iload_n dX9_tangle_13 rfl 2 rfl ?_
    refine Wr_if_lt 22 dX9_tangle_14 (by decide) (fun hc => ?_) (fun hc => ?_)
    · have h := h.1 hc
      refine zsub [0] rfl ?_
      exact wX9_tangle_22 h
    · have h := h.2 hc
      refine Wr_iload_n dX9_tangle_17 rfl 2 rfl ?_
      refine Wr_iconstv (v := 1) dX9_tangle_18 (by decide) ?_
      refine Wr_icmp_le 28 dX9_tangle_19 (by decide) (fun hc => ?_) (fun hc => ?_)
      · have h := h.1 hc
        refine Wr_aload_n dX9_tangle_28 rfl 0 rfl ?_
        refine Wr_cVi [] dX9_tangle_29 mlX9_457 mgX9_tellPlaces rfl mvX9_tellPlaces (zrv zl106 _ rfl rfl) rfl rfl (Nat.le_of_ble_eq_true rfl) rfl (zcI.imp h (fun u5 m4 h => ?_) (fun _ _ h => ⟨rfl, h⟩))
        refine Wr_istore_n dX9_tangle_32 rfl (by decide) rfl ?_
        refine Wr_iload_n dX9_tangle_33 rfl 3 rfl ?_
        refine Wr_iconstv (v := 1) dX9_tangle_34 (by decide) ?_
        refine Wr_icmp_ne 51 dX9_tangle_35 (by decide) (fun hc => ?_) (fun hc => ?_)
        · have h := h.2 hc
          refine Wr_iconstv (v := 0) dX9_tangle_51 (by decide) ?_
          refine Wr_istore dX9_tangle_52 (by decide) rfl ?_
          refine zsub [0, 1, 4] rfl ?_
          obtain ⟨n9, h⟩ := h
          exact wX9_tangle_54 n9 _ _ _ h
        · have h := h.1 hc
          refine Wr_iload_n dX9_tangle_38 rfl 0 rfl ?_
          refine Wr_if_eq 49 dX9_tangle_39 (by decide) (fun hc => ?_) (fun hc => ?_)
          · have h := h.1 hc
            refine Wr_iconstv (v := 0) dX9_tangle_49 (by decide) ?_
            exact Wr_iret .int dX9_tangle_50 rfl rfl ⟨rfl, h⟩
          · have h := h.2 hc
            refine Wr_aload_n dX9_tangle_42 rfl 1 rfl ?_
            refine Wr_cVi [] dX9_tangle_43 mlX9_452 mgX9_tellLeft rfl mvX9_tellLeft (zrv zl106 _ rfl rfl) rfl rfl (Nat.le_of_ble_eq_true rfl) rfl (zcI.imp h (fun u7 m6 h => ?_) (fun _ _ h => ⟨rfl, h⟩))
            refine Wr_goto 50 dX9_tangle_46 (by decide) ?_
            exact Wr_iret .int dX9_tangle_50 rfl rfl ⟨rfl, h⟩
      · have h := h.2 hc
        refine zsub [0] rfl ?_
        exact wX9_tangle_22 h
theorem cX9_tangle_ {d : Nat} {x1 : Int32} {x2 : Int32} {μ : zMem} {KI : Int32 → zMem → Prop} {X : Nat → zMem → Prop} (h : pX9_tangle d x1 x2 μ KI X) : zcI (d + 1) mX9_tangle [.ref 106, .int x1, .int x2] μ KI X :=
  Ex_of (w := 3) mgX9_tangle.2.2.2.2.2 rfl rfl rfl (by decide) (wX9_tangle_0 h)

def pX9_see_20 (d : Nat) (μ : zMem) (KI : Int32 → zMem → Prop) (X : Nat → zMem → Prop) : Prop :=
  zcI d mX9_fail [.ref 106, .int 1] μ (fun u2 m1 => KI u2 m1) X
set_option maxRecDepth 20000 in
theorem wX9_see_20 {d : Nat} {KI : Int32 → zMem → Prop} {X : Nat → zMem → Prop} {μ : zMem} (h : pX9_see_20 d μ KI X) : Wr mX9_see (d + 1) 0 20 [(0, .ref 106)] [] μ (kI KI X) := by
  unfold pX9_see_20 at h
  refine Wr_aload_n dX9_see_20 rfl 0 rfl ?_
  refine Wr_iconstv (v := 1) dX9_see_21 (by decide) ?_
  refine Wr_cVi [.int 1] dX9_see_22 mlX9_297 mgX9_fail rfl mvX9_fail (zrv zl106 _ rfl rfl) rfl rfl (Nat.le_of_ble_eq_true rfl) rfl (zcI.imp h (fun u2 m1 h => ?_) (fun _ _ h => ⟨rfl, h⟩))
  exact Wr_iret .int dX9_see_25 rfl rfl ⟨rfl, h⟩
def pX9_see_47 (d : Nat) (μ : zMem) (KI : Int32 → zMem → Prop) (X : Nat → zMem → Prop) : Prop :=
  zcI d mX9_refuse [.ref 106, .int 2] μ (fun u2 m1 => KI u2 m1) X
set_option maxRecDepth 20000 in
theorem wX9_see_47 {d : Nat} {KI : Int32 → zMem → Prop} {X : Nat → zMem → Prop} {μ : zMem} (h : pX9_see_47 d μ KI X) : Wr mX9_see (d + 1) 0 47 [(0, .ref 106)] [] μ (kI KI X) := by
  unfold pX9_see_47 at h
  refine Wr_aload_n dX9_see_47 rfl 0 rfl ?_
  refine Wr_iconstv (v := 2) dX9_see_48 (by decide) ?_
  refine Wr_cVi [.int 2] dX9_see_49 mlX9_409 mgX9_refuse rfl mvX9_refuse (zrv zl106 _ rfl rfl) rfl rfl (Nat.le_of_ble_eq_true rfl) rfl (zcI.imp h (fun u2 m1 h => ?_) (fun _ _ h => ⟨rfl, h⟩))
  exact Wr_iret .int dX9_see_52 rfl rfl ⟨rfl, h⟩
def pX9_see (d : Nat) (x1 : Int32) (x2 : Int32) (x3 : Int32) (μ : zMem) (KI : Int32 → zMem → Prop) (X : Nat → zMem → Prop) : Prop :=
  ∀ m1 : zMem, m1 = zw μ 106 3 0 → zcI d mX9_isIsle [.ref 106, .int x1] m1 (fun u3 m2 => ((u3 = 0 → pX9_see_20 d m2 KI X) ∧
  (¬ (u3 = 0) → zcI d mX9_isHour [.int x2] m2 (fun u5 m4 => ((u5 = 0 → pX9_see_20 d m4 KI X) ∧
    (¬ (u5 = 0) → ((m4 106 29 = 12 → pX9_see_47 d m4 KI X) ∧
      (¬ (m4 106 29 = 12) → zcI d mX9_isIn [.long x3.toInt64, .long 0, .long 60] m4 (fun u7 m6 => ((u7 = 0 → pX9_see_47 d m6 KI X) ∧
        (¬ (u7 = 0) → (vp_in (m6 106 29) 12) ∧ ∀ m8 : zMem, m8 = zw m6 132 (m6 106 29).toNatClampNeg x1 → (vp_in (m8 106 29) 12) ∧ ∀ m9 : zMem, m9 = zw m8 133 (m8 106 29).toNatClampNeg x2 → (vp_in (m9 106 29) 12) ∧ ∀ m10 : zMem, m10 = zw m9 134 (m9 106 29).toNatClampNeg x3 → ∀ m11 : zMem, m11 = zw m10 106 29 ((m10 106 29) + 1) → KI (m11 106 29) m11))) X))))) X))) X
set_option maxRecDepth 20000 in
theorem wX9_see_0 {d : Nat} {KI : Int32 → zMem → Prop} {X : Nat → zMem → Prop} {x1 : Int32} {x2 : Int32} {x3 : Int32} {μ : zMem} (h : pX9_see d x1 x2 x3 μ KI X) : Wr mX9_see (d + 1) 0 0 [(0, .ref 106), (1, .int x1), (2, .int x2), (3, .int x3)] [] μ (kI KI X) := by
  unfold pX9_see at h
  refine Wr_aload_n dX9_see_0 rfl 0 rfl ?_
  refine Wr_iconstv (v := 0) dX9_see_1 (by decide) ?_
  obtain ⟨m1, em1⟩ : ∃ z : zMem, z = zw μ 106 3 0 := ⟨_, rfl⟩
  have h := h m1 em1
  refine Wr_putI dX9_see_2 fpX9_155 zl106 rfl ?_
  refine Wr_mu em1 ?_
  refine Wr_aload_n dX9_see_5 rfl 0 rfl ?_
  refine Wr_iload_n dX9_see_6 rfl 1 rfl ?_
  refine Wr_cVi [.int x1] dX9_see_7 mlX9_384 mgX9_isIsle rfl mvX9_isIsle (zrv zl106 _ rfl rfl) rfl rfl (Nat.le_of_ble_eq_true rfl) rfl (zcI.imp h (fun u3 m2 h => ?_) (fun _ _ h => ⟨rfl, h⟩))
  refine Wr_if_eq 20 dX9_see_10 (by decide) (fun hc => ?_) (fun hc => ?_)
  · have h := h.1 hc
    refine zsub [0] rfl ?_
    exact wX9_see_20 h
  · have h := h.2 hc
    refine Wr_iload_n dX9_see_13 rfl 2 rfl ?_
    refine Wr_cSi [.int x2] dX9_see_14 mlX9_389 mgX9_isHour rfl msX9_isHour  rfl rfl (Nat.le_of_ble_eq_true rfl) rfl (zcI.imp h (fun u5 m4 h => ?_) (fun _ _ h => ⟨rfl, h⟩))
    refine Wr_if_ne 26 dX9_see_17 (by decide) (fun hc => ?_) (fun hc => ?_)
    · have h := h.2 hc
      refine Wr_aload_n dX9_see_26 rfl 0 rfl ?_
      refine Wr_getI dX9_see_27 flX9_316 zl106 rfl ?_
      refine Wr_bipush (v := 12) dX9_see_30 (by decide) ?_
      refine Wr_icmp_eq 47 dX9_see_32 (by decide) (fun hc => ?_) (fun hc => ?_)
      · have h := h.1 hc
        refine zsub [0] rfl ?_
        exact wX9_see_47 h
      · have h := h.2 hc
        refine Wr_iload_n dX9_see_35 rfl 3 rfl ?_
        refine Wr_i2l dX9_see_36 ?_
        refine Wr_lconst (v := 0) dX9_see_37 (by decide) ?_
        refine Wr_ldc2 dX9_see_38 lcX9_407 ?_
        refine Wr_cSi [.long x3.toInt64, .long 0, .long 60] dX9_see_41 mlX9_158 mgX9_isIn rfl msX9_isIn  rfl rfl (Nat.le_of_ble_eq_true rfl) rfl (zcI.imp h (fun u7 m6 h => ?_) (fun _ _ h => ⟨rfl, h⟩))
        refine Wr_if_ne 53 dX9_see_44 (by decide) (fun hc => ?_) (fun hc => ?_)
        · have h := h.2 hc
          refine Wr_aload_n dX9_see_53 rfl 0 rfl ?_
          refine Wr_getR 26 dX9_see_54 flX9_122 zl106 rfl (by decide) ?_
          refine Wr_aload_n dX9_see_57 rfl 0 rfl ?_
          refine Wr_getI dX9_see_58 flX9_316 zl106 rfl ?_
          refine Wr_iload_n dX9_see_61 rfl 1 rfl ?_
          obtain ⟨him8, h⟩ := h
          obtain ⟨m8, em8⟩ : ∃ z : zMem, z = zw m6 132 (m6 106 29).toNatClampNeg x1 := ⟨_, rfl⟩
          have h := h m8 em8
          refine Wr_iast dX9_see_62 zl132 him8 ?_
          refine Wr_mu em8 ?_
          refine Wr_aload_n dX9_see_63 rfl 0 rfl ?_
          refine Wr_getR 27 dX9_see_64 flX9_125 zl106 rfl (by decide) ?_
          refine Wr_aload_n dX9_see_67 rfl 0 rfl ?_
          refine Wr_getI dX9_see_68 flX9_316 zl106 rfl ?_
          refine Wr_iload_n dX9_see_71 rfl 2 rfl ?_
          obtain ⟨him9, h⟩ := h
          obtain ⟨m9, em9⟩ : ∃ z : zMem, z = zw m8 133 (m8 106 29).toNatClampNeg x2 := ⟨_, rfl⟩
          have h := h m9 em9
          refine Wr_iast dX9_see_72 zl133 him9 ?_
          refine Wr_mu em9 ?_
          refine Wr_aload_n dX9_see_73 rfl 0 rfl ?_
          refine Wr_getR 28 dX9_see_74 flX9_128 zl106 rfl (by decide) ?_
          refine Wr_aload_n dX9_see_77 rfl 0 rfl ?_
          refine Wr_getI dX9_see_78 flX9_316 zl106 rfl ?_
          refine Wr_iload_n dX9_see_81 rfl 3 rfl ?_
          obtain ⟨him10, h⟩ := h
          obtain ⟨m10, em10⟩ : ∃ z : zMem, z = zw m9 134 (m9 106 29).toNatClampNeg x3 := ⟨_, rfl⟩
          have h := h m10 em10
          refine Wr_iast dX9_see_82 zl134 him10 ?_
          refine Wr_mu em10 ?_
          refine Wr_aload_n dX9_see_83 rfl 0 rfl ?_
          refine Wr_dup dX9_see_84 rfl ?_
          refine Wr_getI dX9_see_85 flX9_316 zl106 rfl ?_
          refine Wr_iconstv (v := 1) dX9_see_88 (by decide) ?_
          refine Wr_iadd dX9_see_89 ?_
          obtain ⟨m11, em11⟩ : ∃ z : zMem, z = zw m10 106 29 ((m10 106 29) + 1) := ⟨_, rfl⟩
          have h := h m11 em11
          refine Wr_putI dX9_see_90 fpX9_316 zl106 rfl ?_
          refine Wr_mu em11 ?_
          refine Wr_aload_n dX9_see_93 rfl 0 rfl ?_
          refine Wr_getI dX9_see_94 flX9_316 zl106 rfl ?_
          exact Wr_iret .int dX9_see_97 rfl rfl ⟨rfl, h⟩
        · have h := h.1 hc
          refine zsub [0] rfl ?_
          exact wX9_see_47 h
    · have h := h.1 hc
      refine zsub [0] rfl ?_
      exact wX9_see_20 h
theorem cX9_see_ {d : Nat} {x1 : Int32} {x2 : Int32} {x3 : Int32} {μ : zMem} {KI : Int32 → zMem → Prop} {X : Nat → zMem → Prop} (h : pX9_see d x1 x2 x3 μ KI X) : zcI (d + 1) mX9_see [.ref 106, .int x1, .int x2, .int x3] μ KI X :=
  Ex_of (w := 4) mgX9_see.2.2.2.2.2 rfl rfl rfl (by decide) (wX9_see_0 h)

def pX9_isAsSeen_2 : Nat → Nat → Int32 → zMem → (Int32 → zMem → Prop) → (Nat → zMem → Prop) → Prop
  | 0, _, _, _, _, _ => False
  | n + 1, d, x1, μ, KI, X =>
  ((μ 106 29 ≤ x1 → KI 1 μ) ∧
  (¬ (μ 106 29 ≤ x1) → (vp_in x1 12) ∧ zcV d mX9_tellHour [.ref 106, .int (μ 133 x1.toNatClampNeg), .int 0] μ (fun m1 => (vp_in x1 12) ∧ (vp_in (m1 132 x1.toNatClampNeg) 6) ∧ (vp_in x1 12) ∧ ((m1 122 (m1 132 x1.toNatClampNeg).toNatClampNeg = m1 134 x1.toNatClampNeg → ∀ v2 : Int32, v2 = x1 + 1 → pX9_isAsSeen_2 n d v2 m1 KI X) ∧
    (¬ (m1 122 (m1 132 x1.toNatClampNeg).toNatClampNeg = m1 134 x1.toNatClampNeg) → KI 0 m1))) X))
set_option maxRecDepth 20000 in
theorem wX9_isAsSeen_2 {d : Nat} {KI : Int32 → zMem → Prop} {X : Nat → zMem → Prop} : ∀ (n : Nat) (x1 : Int32) (μ : zMem), pX9_isAsSeen_2 n d x1 μ KI X → Wr mX9_isAsSeen (d + 1) 0 2 [(0, .ref 106), (1, .int x1)] [] μ (kI KI X) := by
  intro n
  induction n with
  | zero =>
    intro x1 μ h
    exact absurd h id
  | succ n ih =>
    intro x1 μ h
    unfold pX9_isAsSeen_2 at h
    refine Wr_iload_n dX9_isAsSeen_2 rfl 1 rfl ?_
    refine Wr_aload_n dX9_isAsSeen_3 rfl 0 rfl ?_
    refine Wr_getI dX9_isAsSeen_4 flX9_316 zl106 rfl ?_
    refine Wr_icmp_ge 49 dX9_isAsSeen_7 (by decide) (fun hc => ?_) (fun hc => ?_)
    · have h := h.1 hc
      refine Wr_iconstv (v := 1) dX9_isAsSeen_49 (by decide) ?_
      exact Wr_iret .boolean dX9_isAsSeen_50 rfl rfl ⟨rfl, h⟩
    · have h := h.2 hc
      refine Wr_aload_n dX9_isAsSeen_10 rfl 0 rfl ?_
      refine Wr_aload_n dX9_isAsSeen_11 rfl 0 rfl ?_
      refine Wr_getR 27 dX9_isAsSeen_12 flX9_125 zl106 rfl (by decide) ?_
      refine Wr_iload_n dX9_isAsSeen_15 rfl 1 rfl ?_
      obtain ⟨hi, h⟩ := h
      refine Wr_iald dX9_isAsSeen_16 zl133 hi ?_
      refine Wr_iconstv (v := 0) dX9_isAsSeen_17 (by decide) ?_
      refine Wr_cVv [.int (μ 133 x1.toNatClampNeg), .int 0] dX9_isAsSeen_18 mlX9_392 mgX9_tellHour rfl mvX9_tellHour (zrv zl106 _ rfl rfl) rfl rfl (Nat.le_of_ble_eq_true rfl) rfl (zcV.imp h (fun m1 h => ?_) (fun _ _ h => ⟨rfl, h⟩))
      refine Wr_aload_n dX9_isAsSeen_21 rfl 0 rfl ?_
      refine Wr_getR 16 dX9_isAsSeen_22 flX9_92 zl106 rfl (by decide) ?_
      refine Wr_aload_n dX9_isAsSeen_25 rfl 0 rfl ?_
      refine Wr_getR 26 dX9_isAsSeen_26 flX9_122 zl106 rfl (by decide) ?_
      refine Wr_iload_n dX9_isAsSeen_29 rfl 1 rfl ?_
      obtain ⟨hi, h⟩ := h
      refine Wr_iald dX9_isAsSeen_30 zl132 hi ?_
      obtain ⟨hi, h⟩ := h
      refine Wr_iald dX9_isAsSeen_31 zl122 hi ?_
      refine Wr_aload_n dX9_isAsSeen_32 rfl 0 rfl ?_
      refine Wr_getR 28 dX9_isAsSeen_33 flX9_128 zl106 rfl (by decide) ?_
      refine Wr_iload_n dX9_isAsSeen_36 rfl 1 rfl ?_
      obtain ⟨hi, h⟩ := h
      refine Wr_iald dX9_isAsSeen_37 zl134 hi ?_
      refine Wr_icmp_eq 43 dX9_isAsSeen_38 (by decide) (fun hc => ?_) (fun hc => ?_)
      · have h := h.1 hc
        obtain ⟨v2, ev2⟩ : ∃ z : Int32, z = x1 + 1 := ⟨_, rfl⟩
        have h := h v2 ev2
        refine Wr_iinc (v := v2) dX9_isAsSeen_43 (q := 1) rfl (by rw [ev2]; rfl) (by decide) rfl ?_
        refine Wr_goto 2 dX9_isAsSeen_46 (by decide) ?_
        refine zsub [0, 1] rfl ?_
        exact ih _ _ h
      · have h := h.2 hc
        refine Wr_iconstv (v := 0) dX9_isAsSeen_41 (by decide) ?_
        exact Wr_iret .boolean dX9_isAsSeen_42 rfl rfl ⟨rfl, h⟩
def pX9_isAsSeen (d : Nat) (μ : zMem) (KI : Int32 → zMem → Prop) (X : Nat → zMem → Prop) : Prop :=
  ∃ n2 : Nat, pX9_isAsSeen_2 n2 d 0 μ KI X
set_option maxRecDepth 20000 in
theorem wX9_isAsSeen_0 {d : Nat} {KI : Int32 → zMem → Prop} {X : Nat → zMem → Prop} {μ : zMem} (h : pX9_isAsSeen d μ KI X) : Wr mX9_isAsSeen (d + 1) 0 0 [(0, .ref 106)] [] μ (kI KI X) := by
  unfold pX9_isAsSeen at h
  refine Wr_iconstv (v := 0) dX9_isAsSeen_0 (by decide) ?_
  refine Wr_istore_n dX9_isAsSeen_1 rfl (by decide) rfl ?_
  refine zsub [0, 1] rfl ?_
  obtain ⟨n9, h⟩ := h
  exact wX9_isAsSeen_2 n9 _ _ h
theorem cX9_isAsSeen_ {d : Nat} {μ : zMem} {KI : Int32 → zMem → Prop} {X : Nat → zMem → Prop} (h : pX9_isAsSeen d μ KI X) : zcI (d + 1) mX9_isAsSeen [.ref 106] μ KI X :=
  Ex_of (w := 1) mgX9_isAsSeen.2.2.2.2.2 rfl rfl rfl (by decide) (wX9_isAsSeen_0 h)

def pX9_fits_14 (d : Nat) (μ : zMem) (KI : Int32 → zMem → Prop) (X : Nat → zMem → Prop) : Prop :=
  zcI d mX9_fail [.ref 106, .int 1] μ (fun u2 m1 => KI u2 m1) X
set_option maxRecDepth 20000 in
theorem wX9_fits_14 {d : Nat} {KI : Int32 → zMem → Prop} {X : Nat → zMem → Prop} {μ : zMem} (h : pX9_fits_14 d μ KI X) : Wr mX9_fits (d + 1) 0 14 [(0, .ref 106)] [] μ (kI KI X) := by
  unfold pX9_fits_14 at h
  refine Wr_aload_n dX9_fits_14 rfl 0 rfl ?_
  refine Wr_iconstv (v := 1) dX9_fits_15 (by decide) ?_
  refine Wr_cVi [.int 1] dX9_fits_16 mlX9_297 mgX9_fail rfl mvX9_fail (zrv zl106 _ rfl rfl) rfl rfl (Nat.le_of_ble_eq_true rfl) rfl (zcI.imp h (fun u2 m1 h => ?_) (fun _ _ h => ⟨rfl, h⟩))
  exact Wr_iret .int dX9_fits_19 rfl rfl ⟨rfl, h⟩
def pX9_fits_116 (d : Nat) (x1 : Int32) (x2 : Int32) (x3 : Int32) (x4 : Int32) (x5 : Int32) (μ : zMem) (KI : Int32 → zMem → Prop) (X : Nat → zMem → Prop) (C27 : Int32 → Int32 → Int32 → Int32 → zMem → Prop) : Prop :=
  zcV d mX9_set [.ref 106, .int x4, .int 3, .int x5] μ (fun m1 => ∀ v2 : Int32, v2 = x4 + 1 → C27 x1 x2 x3 v2 m1) X
set_option maxRecDepth 20000 in
theorem wX9_fits_116 {d : Nat} {KI : Int32 → zMem → Prop} {X : Nat → zMem → Prop} {C27 : Int32 → Int32 → Int32 → Int32 → zMem → Prop} {x1 : Int32} {x2 : Int32} {x3 : Int32} {x4 : Int32} {x5 : Int32} {μ : zMem} (hC27 : ∀ (x1 : Int32) (x2 : Int32) (x3 : Int32) (x4 : Int32) (μ : zMem), C27 x1 x2 x3 x4 μ → Wr mX9_fits (d + 1) 0 27 [(0, .ref 106), (1, .int x1), (2, .int x2), (3, .int x3), (4, .int x4)] [] μ (kI KI X)) (h : pX9_fits_116 d x1 x2 x3 x4 x5 μ KI X C27) : Wr mX9_fits (d + 1) 0 116 [(0, .ref 106), (1, .int x1), (2, .int x2), (3, .int x3), (4, .int x4), (5, .int x5)] [] μ (kI KI X) := by
  unfold pX9_fits_116 at h
  refine Wr_aload_n dX9_fits_116 rfl 0 rfl ?_
  refine Wr_iload dX9_fits_117 4 rfl ?_
  refine Wr_iconstv (v := 3) dX9_fits_119 (by decide) ?_
  refine Wr_iload dX9_fits_120 5 rfl ?_
  refine Wr_cVv [.int x4, .int 3, .int x5] dX9_fits_122 mlX9_415 mgX9_set rfl mvX9_set (zrv zl106 _ rfl rfl) rfl rfl (Nat.le_of_ble_eq_true rfl) rfl (zcV.imp h (fun m1 h => ?_) (fun _ _ h => ⟨rfl, h⟩))
  obtain ⟨v2, ev2⟩ : ∃ z : Int32, z = x4 + 1 := ⟨_, rfl⟩
  have h := h v2 ev2
  refine Wr_iinc (v := v2) dX9_fits_125 (q := 4) rfl (by rw [ev2]; rfl) (by decide) rfl ?_
  refine Wr_goto 27 dX9_fits_128 (by decide) ?_
  refine zsub [0, 1, 2, 3, 4] rfl ?_
  exact hC27 _ _ _ _ _ h
def pX9_fits_50 : Nat → Nat → Int32 → Int32 → Int32 → Int32 → Int32 → Int32 → zMem → (Int32 → zMem → Prop) → (Nat → zMem → Prop) → (Int32 → Int32 → Int32 → Int32 → zMem → Prop) → Prop
  | 0, _, _, _, _, _, _, _, _, _, _, _ => False
  | n + 1, d, x1, x2, x3, x4, x5, x6, μ, KI, X, C27 =>
  ((9 < x6 → pX9_fits_116 d x1 x2 x3 x4 x5 μ KI X C27) ∧
  (¬ (9 < x6) → ((60 < x5 + x6 → pX9_fits_116 d x1 x2 x3 x4 x5 μ KI X C27) ∧
    (¬ (60 < x5 + x6) → zcV d mX9_set [.ref 106, .int x4, .int 3, .int (x5 + x6)] μ (fun m1 => zcI d mX9_isAsSeen [.ref 106] m1 (fun u3 m2 => ((u3 = 0 → ∀ v7 : Int32, v7 = x6 + 1 → pX9_fits_50 n d x1 x2 x3 x4 x5 v7 m2 KI X C27) ∧
      (¬ (u3 = 0) → ∀ v4 : Int32, v4 = x2 + 1 → ∀ v5 : Int32, v5 = (if x3 = (-1) then (10 * x4) + x6 else x3) → ∀ v6 : Int32, v6 = x6 + 1 → pX9_fits_50 n d x1 v4 v5 x4 x5 v6 m2 KI X C27))) X) X))))
set_option maxRecDepth 20000 in
theorem wX9_fits_50 {d : Nat} {KI : Int32 → zMem → Prop} {X : Nat → zMem → Prop} {C27 : Int32 → Int32 → Int32 → Int32 → zMem → Prop} (hC27 : ∀ (x1 : Int32) (x2 : Int32) (x3 : Int32) (x4 : Int32) (μ : zMem), C27 x1 x2 x3 x4 μ → Wr mX9_fits (d + 1) 0 27 [(0, .ref 106), (1, .int x1), (2, .int x2), (3, .int x3), (4, .int x4)] [] μ (kI KI X)) : ∀ (n : Nat) (x1 : Int32) (x2 : Int32) (x3 : Int32) (x4 : Int32) (x5 : Int32) (x6 : Int32) (μ : zMem), pX9_fits_50 n d x1 x2 x3 x4 x5 x6 μ KI X C27 → Wr mX9_fits (d + 1) 0 50 [(0, .ref 106), (1, .int x1), (2, .int x2), (3, .int x3), (4, .int x4), (5, .int x5), (6, .int x6)] [] μ (kI KI X) := by
  intro n
  induction n with
  | zero =>
    intro x1 x2 x3 x4 x5 x6 μ h
    exact absurd h id
  | succ n ih =>
    intro x1 x2 x3 x4 x5 x6 μ h
    unfold pX9_fits_50 at h
    refine Wr_iload dX9_fits_50 6 rfl ?_
    refine Wr_bipush (v := 9) dX9_fits_52 (by decide) ?_
    refine Wr_icmp_gt 116 dX9_fits_54 (by decide) (fun hc => ?_) (fun hc => ?_)
    · have h := h.1 hc
      refine zsub [0, 1, 2, 3, 4, 5] rfl ?_
      exact wX9_fits_116 hC27 h
    · have h := h.2 hc
      refine Wr_iload dX9_fits_57 5 rfl ?_
      refine Wr_iload dX9_fits_59 6 rfl ?_
      refine Wr_iadd dX9_fits_61 ?_
      refine Wr_bipush (v := 60) dX9_fits_62 (by decide) ?_
      refine Wr_icmp_gt 116 dX9_fits_64 (by decide) (fun hc => ?_) (fun hc => ?_)
      · have h := h.1 hc
        refine zsub [0, 1, 2, 3, 4, 5] rfl ?_
        exact wX9_fits_116 hC27 h
      · have h := h.2 hc
        refine Wr_aload_n dX9_fits_67 rfl 0 rfl ?_
        refine Wr_iload dX9_fits_68 4 rfl ?_
        refine Wr_iconstv (v := 3) dX9_fits_70 (by decide) ?_
        refine Wr_iload dX9_fits_71 5 rfl ?_
        refine Wr_iload dX9_fits_73 6 rfl ?_
        refine Wr_iadd dX9_fits_75 ?_
        refine Wr_cVv [.int x4, .int 3, .int (x5 + x6)] dX9_fits_76 mlX9_415 mgX9_set rfl mvX9_set (zrv zl106 _ rfl rfl) rfl rfl (Nat.le_of_ble_eq_true rfl) rfl (zcV.imp h (fun m1 h => ?_) (fun _ _ h => ⟨rfl, h⟩))
        refine Wr_aload_n dX9_fits_79 rfl 0 rfl ?_
        refine Wr_cVi [] dX9_fits_80 mlX9_460 mgX9_isAsSeen rfl mvX9_isAsSeen (zrv zl106 _ rfl rfl) rfl rfl (Nat.le_of_ble_eq_true rfl) rfl (zcI.imp h (fun u3 m2 h => ?_) (fun _ _ h => ⟨rfl, h⟩))
        refine Wr_if_ne 89 dX9_fits_83 (by decide) (fun hc => ?_) (fun hc => ?_)
        · have h := h.2 hc
          obtain ⟨v4, ev4⟩ : ∃ z : Int32, z = x2 + 1 := ⟨_, rfl⟩
          have h := h v4 ev4
          refine Wr_iinc (v := v4) dX9_fits_89 (q := 2) rfl (by rw [ev4]; rfl) (by decide) rfl ?_
          refine Wr_iload_n dX9_fits_92 rfl 3 rfl ?_
          refine Wr_iconstv (v := (-1)) dX9_fits_93 (by decide) ?_
          have hj2 : Wr mX9_fits (d + 1) 0 109 [(2, .int v4), (0, .ref 106), (1, .int x1), (3, .int x3), (4, .int x4), (5, .int x5), (6, .int x6)] [.int (if x3 = (-1) then (10 * x4) + x6 else x3)] m2 (kI KI X) := by
            obtain ⟨v5, ev5⟩ : ∃ z : Int32, z = (if x3 = (-1) then (10 * x4) + x6 else x3) := ⟨_, rfl⟩
            have h := h v5 ev5
            refine Wr_top ev5 ?_
            refine Wr_istore_n dX9_fits_109 rfl (by decide) rfl ?_
            obtain ⟨v6, ev6⟩ : ∃ z : Int32, z = x6 + 1 := ⟨_, rfl⟩
            have h := h v6 ev6
            refine Wr_iinc (v := v6) dX9_fits_110 (q := 6) rfl (by rw [ev6]; rfl) (by decide) rfl ?_
            refine Wr_goto 50 dX9_fits_113 (by decide) ?_
            refine zsub [0, 1, 2, 3, 4, 5, 6] rfl ?_
            exact ih _ _ _ _ _ _ _ h
          refine Wr_icmp_ne 108 dX9_fits_94 (by decide) (fun hc0 => ?_) (fun hc0 => ?_)
          · skip
            refine Wr_iload_n dX9_fits_108 rfl 3 rfl ?_
            exact Wr_top (if_neg hc0) hj2
          · skip
            refine Wr_bipush (v := 10) dX9_fits_97 (by decide) ?_
            refine Wr_iload dX9_fits_99 4 rfl ?_
            refine Wr_imul dX9_fits_101 ?_
            refine Wr_iload dX9_fits_102 6 rfl ?_
            refine Wr_iadd dX9_fits_104 ?_
            refine Wr_goto 109 dX9_fits_105 (by decide) ?_
            exact Wr_top (if_pos hc0) hj2
        · have h := h.1 hc
          refine Wr_goto 110 dX9_fits_86 (by decide) ?_
          obtain ⟨v7, ev7⟩ : ∃ z : Int32, z = x6 + 1 := ⟨_, rfl⟩
          have h := h v7 ev7
          refine Wr_iinc (v := v7) dX9_fits_110 (q := 6) rfl (by rw [ev7]; rfl) (by decide) rfl ?_
          refine Wr_goto 50 dX9_fits_113 (by decide) ?_
          refine zsub [0, 1, 2, 3, 4, 5, 6] rfl ?_
          exact ih _ _ _ _ _ _ _ h
def pX9_fits_27 : Nat → Nat → Int32 → Int32 → Int32 → Int32 → zMem → (Int32 → zMem → Prop) → (Nat → zMem → Prop) → Prop
  | 0, _, _, _, _, _, _, _, _ => False
  | n + 1, d, x1, x2, x3, x4, μ, KI, X =>
  ((μ 110 0 ≤ x4 → KI (if x1 = 0 then x2 else x3) μ) ∧
  (¬ (μ 110 0 ≤ x4) → zcI d mX9_of [.ref 106, .int x4, .int 3] μ (fun u2 m1 => ∃ n2 : Nat, pX9_fits_50 n2 d x1 x2 x3 x4 u2 1 m1 KI X (fun z0 z1 z2 z3 m => pX9_fits_27 n d z0 z1 z2 z3 m KI X)) X))
set_option maxRecDepth 20000 in
theorem wX9_fits_27 {d : Nat} {KI : Int32 → zMem → Prop} {X : Nat → zMem → Prop} : ∀ (n : Nat) (x1 : Int32) (x2 : Int32) (x3 : Int32) (x4 : Int32) (μ : zMem), pX9_fits_27 n d x1 x2 x3 x4 μ KI X → Wr mX9_fits (d + 1) 0 27 [(0, .ref 106), (1, .int x1), (2, .int x2), (3, .int x3), (4, .int x4)] [] μ (kI KI X) := by
  intro n
  induction n with
  | zero =>
    intro x1 x2 x3 x4 μ h
    exact absurd h id
  | succ n ih =>
    intro x1 x2 x3 x4 μ h
    unfold pX9_fits_27 at h
    refine Wr_iload dX9_fits_27 4 rfl ?_
    refine Wr_aload_n dX9_fits_29 rfl 0 rfl ?_
    refine Wr_getR 4 dX9_fits_30 flX9_51 zl106 rfl (by decide) ?_
    refine Wr_iconstv (v := 0) dX9_fits_33 (by decide) ?_
    refine Wr_iald dX9_fits_34 zl110 (by unfold vp_in; decide) ?_
    refine Wr_icmp_ge 131 dX9_fits_35 (by decide) (fun hc => ?_) (fun hc => ?_)
    · have h := h.1 hc
      refine Wr_iload_n dX9_fits_131 rfl 1 rfl ?_
      have hj1 : Wr mX9_fits (d + 1) 0 140 [(0, .ref 106), (1, .int x1), (2, .int x2), (3, .int x3), (4, .int x4)] [.int (if x1 = 0 then x2 else x3)] μ (kI KI X) := by
        exact Wr_iret .int dX9_fits_140 rfl rfl ⟨rfl, h⟩
      refine Wr_if_ne 139 dX9_fits_132 (by decide) (fun hc0 => ?_) (fun hc0 => ?_)
      · skip
        refine Wr_iload_n dX9_fits_139 rfl 3 rfl ?_
        exact Wr_top (if_neg hc0) hj1
      · skip
        refine Wr_iload_n dX9_fits_135 rfl 2 rfl ?_
        refine Wr_goto 140 dX9_fits_136 (by decide) ?_
        exact Wr_top (if_pos hc0) hj1
    · have h := h.2 hc
      refine Wr_aload_n dX9_fits_38 rfl 0 rfl ?_
      refine Wr_iload dX9_fits_39 4 rfl ?_
      refine Wr_iconstv (v := 3) dX9_fits_41 (by decide) ?_
      refine Wr_cVi [.int x4, .int 3] dX9_fits_42 mlX9_330 mgX9_of rfl mvX9_of (zrv zl106 _ rfl rfl) rfl rfl (Nat.le_of_ble_eq_true rfl) rfl (zcI.imp h (fun u2 m1 h => ?_) (fun _ _ h => ⟨rfl, h⟩))
      refine Wr_istore dX9_fits_45 (by decide) rfl ?_
      refine Wr_iconstv (v := 1) dX9_fits_47 (by decide) ?_
      refine Wr_istore dX9_fits_48 (by decide) rfl ?_
      refine zsub [0, 1, 2, 3, 4, 5, 6] rfl ?_
      obtain ⟨n9, h⟩ := h
      exact wX9_fits_50 (fun z0 z1 z2 z3 m h => ih z0 z1 z2 z3 m h) n9 _ _ _ _ _ _ _ h
def pX9_fits (d : Nat) (x1 : Int32) (μ : zMem) (KI : Int32 → zMem → Prop) (X : Nat → zMem → Prop) : Prop :=
  ∀ m1 : zMem, m1 = zw μ 106 3 0 → ((x1 < 0 → pX9_fits_14 d m1 KI X) ∧
  (¬ (x1 < 0) → ((x1 ≤ 1 → ∃ n2 : Nat, pX9_fits_27 n2 d x1 0 (-1) 0 m1 KI X) ∧
    (¬ (x1 ≤ 1) → pX9_fits_14 d m1 KI X))))
set_option maxRecDepth 20000 in
theorem wX9_fits_0 {d : Nat} {KI : Int32 → zMem → Prop} {X : Nat → zMem → Prop} {x1 : Int32} {μ : zMem} (h : pX9_fits d x1 μ KI X) : Wr mX9_fits (d + 1) 0 0 [(0, .ref 106), (1, .int x1)] [] μ (kI KI X) := by
  unfold pX9_fits at h
  refine Wr_aload_n dX9_fits_0 rfl 0 rfl ?_
  refine Wr_iconstv (v := 0) dX9_fits_1 (by decide) ?_
  obtain ⟨m1, em1⟩ : ∃ z : zMem, z = zw μ 106 3 0 := ⟨_, rfl⟩
  have h := h m1 em1
  refine Wr_putI dX9_fits_2 fpX9_155 zl106 rfl ?_
  refine Wr_mu em1 ?_
  refine Wr_iload_n dX9_fits_5 rfl 1 rfl ?_
  refine Wr_if_lt 14 dX9_fits_6 (by decide) (fun hc => ?_) (fun hc => ?_)
  · have h := h.1 hc
    refine zsub [0] rfl ?_
    exact wX9_fits_14 h
  · have h := h.2 hc
    refine Wr_iload_n dX9_fits_9 rfl 1 rfl ?_
    refine Wr_iconstv (v := 1) dX9_fits_10 (by decide) ?_
    refine Wr_icmp_le 20 dX9_fits_11 (by decide) (fun hc => ?_) (fun hc => ?_)
    · have h := h.1 hc
      refine Wr_iconstv (v := 0) dX9_fits_20 (by decide) ?_
      refine Wr_istore_n dX9_fits_21 rfl (by decide) rfl ?_
      refine Wr_iconstv (v := (-1)) dX9_fits_22 (by decide) ?_
      refine Wr_istore_n dX9_fits_23 rfl (by decide) rfl ?_
      refine Wr_iconstv (v := 0) dX9_fits_24 (by decide) ?_
      refine Wr_istore dX9_fits_25 (by decide) rfl ?_
      refine zsub [0, 1, 2, 3, 4] rfl ?_
      obtain ⟨n9, h⟩ := h
      exact wX9_fits_27 n9 _ _ _ _ _ h
    · have h := h.2 hc
      refine zsub [0] rfl ?_
      exact wX9_fits_14 h
theorem cX9_fits_ {d : Nat} {x1 : Int32} {μ : zMem} {KI : Int32 → zMem → Prop} {X : Nat → zMem → Prop} (h : pX9_fits d x1 μ KI X) : zcI (d + 1) mX9_fits [.ref 106, .int x1] μ KI X :=
  Ex_of (w := 2) mgX9_fits.2.2.2.2.2 rfl rfl rfl (by decide) (wX9_fits_0 h)

def pX9_weighed_31 (d : Nat) (μ : zMem) (KI : Int32 → zMem → Prop) (X : Nat → zMem → Prop) : Prop :=
  zcI d mX9_fail [.ref 106, .int 1] μ (fun u2 m1 => KI u2 m1) X
set_option maxRecDepth 20000 in
theorem wX9_weighed_31 {d : Nat} {KI : Int32 → zMem → Prop} {X : Nat → zMem → Prop} {μ : zMem} (h : pX9_weighed_31 d μ KI X) : Wr mX9_weighed (d + 1) 0 31 [(0, .ref 106)] [] μ (kI KI X) := by
  unfold pX9_weighed_31 at h
  refine Wr_aload_n dX9_weighed_31 rfl 0 rfl ?_
  refine Wr_iconstv (v := 1) dX9_weighed_32 (by decide) ?_
  refine Wr_cVi [.int 1] dX9_weighed_33 mlX9_297 mgX9_fail rfl mvX9_fail (zrv zl106 _ rfl rfl) rfl rfl (Nat.le_of_ble_eq_true rfl) rfl (zcI.imp h (fun u2 m1 h => ?_) (fun _ _ h => ⟨rfl, h⟩))
  exact Wr_iret .int dX9_weighed_36 rfl rfl ⟨rfl, h⟩
def pX9_weighed_55 : Nat → Nat → Int32 → Int32 → Int32 → Int32 → Int32 → Int32 → Int32 → Int32 → zMem → (Int32 → zMem → Prop) → (Nat → zMem → Prop) → Prop
  | 0, _, _, _, _, _, _, _, _, _, _, _, _ => False
  | n + 1, d, x1, x2, x3, x4, x5, x6, x7, x8, μ, KI, X =>
  ((60 < x8 → zcV d mX9_set [.ref 106, .int x1, .int 7, .int x5] μ (fun m1 => KI (if x4 = 0 then x6 else x7) m1) X) ∧
  (¬ (60 < x8) → zcV d mX9_set [.ref 106, .int x1, .int 7, .int x8] μ (fun m2 => zcV d mX9_tellHour [.ref 106, .int x2, .int 0] m2 (fun m3 => (vp_in x1 6) ∧ ((m3 122 x1.toNatClampNeg = x3 → ∀ v4 : Int32, v4 = x6 + 1 → ∀ v5 : Int32, v5 = (if x7 = (-1) then x8 else x7) → ∀ v6 : Int32, v6 = x8 + 1 → pX9_weighed_55 n d x1 x2 x3 x4 x5 v4 v5 v6 m3 KI X) ∧
    (¬ (m3 122 x1.toNatClampNeg = x3) → ∀ v7 : Int32, v7 = x8 + 1 → pX9_weighed_55 n d x1 x2 x3 x4 x5 x6 x7 v7 m3 KI X))) X) X))
set_option maxRecDepth 20000 in
theorem wX9_weighed_55 {d : Nat} {KI : Int32 → zMem → Prop} {X : Nat → zMem → Prop} : ∀ (n : Nat) (x1 : Int32) (x2 : Int32) (x3 : Int32) (x4 : Int32) (x5 : Int32) (x6 : Int32) (x7 : Int32) (x8 : Int32) (μ : zMem), pX9_weighed_55 n d x1 x2 x3 x4 x5 x6 x7 x8 μ KI X → Wr mX9_weighed (d + 1) 0 55 [(0, .ref 106), (1, .int x1), (2, .int x2), (3, .int x3), (4, .int x4), (5, .int x5), (6, .int x6), (7, .int x7), (8, .int x8)] [] μ (kI KI X) := by
  intro n
  induction n with
  | zero =>
    intro x1 x2 x3 x4 x5 x6 x7 x8 μ h
    exact absurd h id
  | succ n ih =>
    intro x1 x2 x3 x4 x5 x6 x7 x8 μ h
    unfold pX9_weighed_55 at h
    refine Wr_iload dX9_weighed_55 8 rfl ?_
    refine Wr_bipush (v := 60) dX9_weighed_57 (by decide) ?_
    refine Wr_icmp_gt 114 dX9_weighed_59 (by decide) (fun hc => ?_) (fun hc => ?_)
    · have h := h.1 hc
      refine Wr_aload_n dX9_weighed_114 rfl 0 rfl ?_
      refine Wr_iload_n dX9_weighed_115 rfl 1 rfl ?_
      refine Wr_bipush (v := 7) dX9_weighed_116 (by decide) ?_
      refine Wr_iload dX9_weighed_118 5 rfl ?_
      refine Wr_cVv [.int x1, .int 7, .int x5] dX9_weighed_120 mlX9_415 mgX9_set rfl mvX9_set (zrv zl106 _ rfl rfl) rfl rfl (Nat.le_of_ble_eq_true rfl) rfl (zcV.imp h (fun m1 h => ?_) (fun _ _ h => ⟨rfl, h⟩))
      refine Wr_iload dX9_weighed_123 4 rfl ?_
      have hj1 : Wr mX9_weighed (d + 1) 0 135 [(0, .ref 106), (1, .int x1), (2, .int x2), (3, .int x3), (4, .int x4), (5, .int x5), (6, .int x6), (7, .int x7), (8, .int x8)] [.int (if x4 = 0 then x6 else x7)] m1 (kI KI X) := by
        exact Wr_iret .int dX9_weighed_135 rfl rfl ⟨rfl, h⟩
      refine Wr_if_ne 133 dX9_weighed_125 (by decide) (fun hc0 => ?_) (fun hc0 => ?_)
      · skip
        refine Wr_iload dX9_weighed_133 7 rfl ?_
        exact Wr_top (if_neg hc0) hj1
      · skip
        refine Wr_iload dX9_weighed_128 6 rfl ?_
        refine Wr_goto 135 dX9_weighed_130 (by decide) ?_
        exact Wr_top (if_pos hc0) hj1
    · have h := h.2 hc
      refine Wr_aload_n dX9_weighed_62 rfl 0 rfl ?_
      refine Wr_iload_n dX9_weighed_63 rfl 1 rfl ?_
      refine Wr_bipush (v := 7) dX9_weighed_64 (by decide) ?_
      refine Wr_iload dX9_weighed_66 8 rfl ?_
      refine Wr_cVv [.int x1, .int 7, .int x8] dX9_weighed_68 mlX9_415 mgX9_set rfl mvX9_set (zrv zl106 _ rfl rfl) rfl rfl (Nat.le_of_ble_eq_true rfl) rfl (zcV.imp h (fun m2 h => ?_) (fun _ _ h => ⟨rfl, h⟩))
      refine Wr_aload_n dX9_weighed_71 rfl 0 rfl ?_
      refine Wr_iload_n dX9_weighed_72 rfl 2 rfl ?_
      refine Wr_iconstv (v := 0) dX9_weighed_73 (by decide) ?_
      refine Wr_cVv [.int x2, .int 0] dX9_weighed_74 mlX9_392 mgX9_tellHour rfl mvX9_tellHour (zrv zl106 _ rfl rfl) rfl rfl (Nat.le_of_ble_eq_true rfl) rfl (zcV.imp h (fun m3 h => ?_) (fun _ _ h => ⟨rfl, h⟩))
      refine Wr_aload_n dX9_weighed_77 rfl 0 rfl ?_
      refine Wr_getR 16 dX9_weighed_78 flX9_92 zl106 rfl (by decide) ?_
      refine Wr_iload_n dX9_weighed_81 rfl 1 rfl ?_
      obtain ⟨hi, h⟩ := h
      refine Wr_iald dX9_weighed_82 zl122 hi ?_
      refine Wr_iload_n dX9_weighed_83 rfl 3 rfl ?_
      refine Wr_icmp_eq 90 dX9_weighed_84 (by decide) (fun hc => ?_) (fun hc => ?_)
      · have h := h.1 hc
        obtain ⟨v4, ev4⟩ : ∃ z : Int32, z = x6 + 1 := ⟨_, rfl⟩
        have h := h v4 ev4
        refine Wr_iinc (v := v4) dX9_weighed_90 (q := 6) rfl (by rw [ev4]; rfl) (by decide) rfl ?_
        refine Wr_iload dX9_weighed_93 7 rfl ?_
        refine Wr_iconstv (v := (-1)) dX9_weighed_95 (by decide) ?_
        have hj2 : Wr mX9_weighed (d + 1) 0 106 [(6, .int v4), (0, .ref 106), (1, .int x1), (2, .int x2), (3, .int x3), (4, .int x4), (5, .int x5), (7, .int x7), (8, .int x8)] [.int (if x7 = (-1) then x8 else x7)] m3 (kI KI X) := by
          obtain ⟨v5, ev5⟩ : ∃ z : Int32, z = (if x7 = (-1) then x8 else x7) := ⟨_, rfl⟩
          have h := h v5 ev5
          refine Wr_top ev5 ?_
          refine Wr_istore dX9_weighed_106 (by decide) rfl ?_
          obtain ⟨v6, ev6⟩ : ∃ z : Int32, z = x8 + 1 := ⟨_, rfl⟩
          have h := h v6 ev6
          refine Wr_iinc (v := v6) dX9_weighed_108 (q := 8) rfl (by rw [ev6]; rfl) (by decide) rfl ?_
          refine Wr_goto 55 dX9_weighed_111 (by decide) ?_
          refine zsub [0, 1, 2, 3, 4, 5, 6, 7, 8] rfl ?_
          exact ih _ _ _ _ _ _ _ _ _ h
        refine Wr_icmp_ne 104 dX9_weighed_96 (by decide) (fun hc0 => ?_) (fun hc0 => ?_)
        · skip
          refine Wr_iload dX9_weighed_104 7 rfl ?_
          exact Wr_top (if_neg hc0) hj2
        · skip
          refine Wr_iload dX9_weighed_99 8 rfl ?_
          refine Wr_goto 106 dX9_weighed_101 (by decide) ?_
          exact Wr_top (if_pos hc0) hj2
      · have h := h.2 hc
        refine Wr_goto 108 dX9_weighed_87 (by decide) ?_
        obtain ⟨v7, ev7⟩ : ∃ z : Int32, z = x8 + 1 := ⟨_, rfl⟩
        have h := h v7 ev7
        refine Wr_iinc (v := v7) dX9_weighed_108 (q := 8) rfl (by rw [ev7]; rfl) (by decide) rfl ?_
        refine Wr_goto 55 dX9_weighed_111 (by decide) ?_
        refine zsub [0, 1, 2, 3, 4, 5, 6, 7, 8] rfl ?_
        exact ih _ _ _ _ _ _ _ _ _ h
def pX9_weighed (d : Nat) (x1 : Int32) (x2 : Int32) (x3 : Int32) (x4 : Int32) (μ : zMem) (KI : Int32 → zMem → Prop) (X : Nat → zMem → Prop) : Prop :=
  ∀ m1 : zMem, m1 = zw μ 106 3 0 → zcI d mX9_isIsle [.ref 106, .int x1] m1 (fun u3 m2 => ((u3 = 0 → pX9_weighed_31 d m2 KI X) ∧
  (¬ (u3 = 0) → zcI d mX9_isHour [.int x2] m2 (fun u5 m4 => ((u5 = 0 → pX9_weighed_31 d m4 KI X) ∧
    (¬ (u5 = 0) → ((x4 < 0 → pX9_weighed_31 d m4 KI X) ∧
      (¬ (x4 < 0) → ((x4 ≤ 1 → zcI d mX9_of [.ref 106, .int x1, .int 7] m4 (fun u7 m6 => ∃ n2 : Nat, pX9_weighed_55 n2 d x1 x2 x3 x4 u7 0 (-1) 0 m6 KI X) X) ∧
        (¬ (x4 ≤ 1) → pX9_weighed_31 d m4 KI X))))))) X))) X
set_option maxRecDepth 20000 in
theorem wX9_weighed_0 {d : Nat} {KI : Int32 → zMem → Prop} {X : Nat → zMem → Prop} {x1 : Int32} {x2 : Int32} {x3 : Int32} {x4 : Int32} {μ : zMem} (h : pX9_weighed d x1 x2 x3 x4 μ KI X) : Wr mX9_weighed (d + 1) 0 0 [(0, .ref 106), (1, .int x1), (2, .int x2), (3, .int x3), (4, .int x4)] [] μ (kI KI X) := by
  unfold pX9_weighed at h
  refine Wr_aload_n dX9_weighed_0 rfl 0 rfl ?_
  refine Wr_iconstv (v := 0) dX9_weighed_1 (by decide) ?_
  obtain ⟨m1, em1⟩ : ∃ z : zMem, z = zw μ 106 3 0 := ⟨_, rfl⟩
  have h := h m1 em1
  refine Wr_putI dX9_weighed_2 fpX9_155 zl106 rfl ?_
  refine Wr_mu em1 ?_
  refine Wr_aload_n dX9_weighed_5 rfl 0 rfl ?_
  refine Wr_iload_n dX9_weighed_6 rfl 1 rfl ?_
  refine Wr_cVi [.int x1] dX9_weighed_7 mlX9_384 mgX9_isIsle rfl mvX9_isIsle (zrv zl106 _ rfl rfl) rfl rfl (Nat.le_of_ble_eq_true rfl) rfl (zcI.imp h (fun u3 m2 h => ?_) (fun _ _ h => ⟨rfl, h⟩))
  refine Wr_if_eq 31 dX9_weighed_10 (by decide) (fun hc => ?_) (fun hc => ?_)
  · have h := h.1 hc
    refine zsub [0] rfl ?_
    exact wX9_weighed_31 h
  · have h := h.2 hc
    refine Wr_iload_n dX9_weighed_13 rfl 2 rfl ?_
    refine Wr_cSi [.int x2] dX9_weighed_14 mlX9_389 mgX9_isHour rfl msX9_isHour  rfl rfl (Nat.le_of_ble_eq_true rfl) rfl (zcI.imp h (fun u5 m4 h => ?_) (fun _ _ h => ⟨rfl, h⟩))
    refine Wr_if_eq 31 dX9_weighed_17 (by decide) (fun hc => ?_) (fun hc => ?_)
    · have h := h.1 hc
      refine zsub [0] rfl ?_
      exact wX9_weighed_31 h
    · have h := h.2 hc
      refine Wr_iload dX9_weighed_20 4 rfl ?_
      refine Wr_if_lt 31 dX9_weighed_22 (by decide) (fun hc => ?_) (fun hc => ?_)
      · have h := h.1 hc
        refine zsub [0] rfl ?_
        exact wX9_weighed_31 h
      · have h := h.2 hc
        refine Wr_iload dX9_weighed_25 4 rfl ?_
        refine Wr_iconstv (v := 1) dX9_weighed_27 (by decide) ?_
        refine Wr_icmp_le 37 dX9_weighed_28 (by decide) (fun hc => ?_) (fun hc => ?_)
        · have h := h.1 hc
          refine Wr_aload_n dX9_weighed_37 rfl 0 rfl ?_
          refine Wr_iload_n dX9_weighed_38 rfl 1 rfl ?_
          refine Wr_bipush (v := 7) dX9_weighed_39 (by decide) ?_
          refine Wr_cVi [.int x1, .int 7] dX9_weighed_41 mlX9_330 mgX9_of rfl mvX9_of (zrv zl106 _ rfl rfl) rfl rfl (Nat.le_of_ble_eq_true rfl) rfl (zcI.imp h (fun u7 m6 h => ?_) (fun _ _ h => ⟨rfl, h⟩))
          refine Wr_istore dX9_weighed_44 (by decide) rfl ?_
          refine Wr_iconstv (v := 0) dX9_weighed_46 (by decide) ?_
          refine Wr_istore dX9_weighed_47 (by decide) rfl ?_
          refine Wr_iconstv (v := (-1)) dX9_weighed_49 (by decide) ?_
          refine Wr_istore dX9_weighed_50 (by decide) rfl ?_
          refine Wr_iconstv (v := 0) dX9_weighed_52 (by decide) ?_
          refine Wr_istore dX9_weighed_53 (by decide) rfl ?_
          refine zsub [0, 1, 2, 3, 4, 5, 6, 7, 8] rfl ?_
          obtain ⟨n9, h⟩ := h
          exact wX9_weighed_55 n9 _ _ _ _ _ _ _ _ _ h
        · have h := h.2 hc
          refine zsub [0] rfl ?_
          exact wX9_weighed_31 h
theorem cX9_weighed_ {d : Nat} {x1 : Int32} {x2 : Int32} {x3 : Int32} {x4 : Int32} {μ : zMem} {KI : Int32 → zMem → Prop} {X : Nat → zMem → Prop} (h : pX9_weighed d x1 x2 x3 x4 μ KI X) : zcI (d + 1) mX9_weighed [.ref 106, .int x1, .int x2, .int x3, .int x4] μ KI X :=
  Ex_of (w := 5) mgX9_weighed.2.2.2.2.2 rfl rfl rfl (by decide) (wX9_weighed_0 h)

def pX9_common_6 : Nat → Nat → Int64 → Int64 → zMem → (Int64 → zMem → Prop) → (Nat → zMem → Prop) → Prop
  | 0, _, _, _, _, _, _ => False
  | n + 1, d, x4, x6, μ, KL, X =>
  ((x6 = 0 → KL x4 μ) ∧
  (¬ (x6 = 0) → (¬ x6 = 0) ∧ ∀ v1 : Int64, v1 = x4 - x4 / x6 * x6 → pX9_common_6 n d x6 v1 μ KL X))
set_option maxRecDepth 20000 in
theorem wX9_common_6 {d : Nat} {KL : Int64 → zMem → Prop} {X : Nat → zMem → Prop} : ∀ (n : Nat) (x4 : Int64) (x6 : Int64) (μ : zMem), pX9_common_6 n d x4 x6 μ KL X → Wr mX9_common (d + 1) 0 6 [(4, .long x4), (6, .long x6)] [] μ (kL KL X) := by
  intro n
  induction n with
  | zero =>
    intro x4 x6 μ h
    exact absurd h id
  | succ n ih =>
    intro x4 x6 μ h
    unfold pX9_common_6 at h
    refine Wr_lload dX9_common_6 1 rfl ?_
    refine Wr_lconst (v := 0) dX9_common_8 (by decide) ?_
    refine Wr_lc_eq 31 dX9_common_9 dX9_common_10 (by decide) (fun hc => ?_) (fun hc => ?_)
    · have h := h.1 hc
      refine Wr_lload dX9_common_31 0 rfl ?_
      exact Wr_lret dX9_common_33 rfl ⟨rfl, h⟩
    · have h := h.2 hc
      refine Wr_lload dX9_common_13 0 rfl ?_
      refine Wr_lload dX9_common_15 1 rfl ?_
      obtain ⟨hi, h⟩ := h
      refine Wr_lrem dX9_common_17 hi ?_
      obtain ⟨v1, ev1⟩ : ∃ z : Int64, z = x4 - x4 / x6 * x6 := ⟨_, rfl⟩
      have h := h v1 ev1
      refine Wr_topL ev1 ?_
      refine Wr_lstore dX9_common_18 (by decide) rfl ?_
      refine Wr_lload dX9_common_20 2 rfl ?_
      refine Wr_lstore dX9_common_22 (by decide) rfl ?_
      refine Wr_lload dX9_common_24 1 rfl ?_
      refine Wr_lstore dX9_common_26 (by decide) rfl ?_
      refine Wr_goto 6 dX9_common_28 (by decide) ?_
      refine zsub [4, 6] rfl ?_
      exact ih _ _ _ h
def pX9_common (d : Nat) (x0 : Int64) (x2 : Int64) (μ : zMem) (KL : Int64 → zMem → Prop) (X : Nat → zMem → Prop) : Prop :=
  ∃ n2 : Nat, pX9_common_6 n2 d x0 x2 μ KL X
set_option maxRecDepth 20000 in
theorem wX9_common_0 {d : Nat} {KL : Int64 → zMem → Prop} {X : Nat → zMem → Prop} {x0 : Int64} {x2 : Int64} {μ : zMem} (h : pX9_common d x0 x2 μ KL X) : Wr mX9_common (d + 1) 0 0 [(0, .long x0), (2, .long x2)] [] μ (kL KL X) := by
  unfold pX9_common at h
  refine Wr_lload_n dX9_common_0 rfl 0 rfl ?_
  refine Wr_lstore dX9_common_1 (by decide) rfl ?_
  refine Wr_lload_n dX9_common_3 rfl 2 rfl ?_
  refine Wr_lstore dX9_common_4 (by decide) rfl ?_
  refine zsub [4, 6] rfl ?_
  obtain ⟨n9, h⟩ := h
  exact wX9_common_6 n9 _ _ _ h
theorem cX9_common_ {d : Nat} {x0 : Int64} {x2 : Int64} {μ : zMem} {KL : Int64 → zMem → Prop} {X : Nat → zMem → Prop} (h : pX9_common d x0 x2 μ KL X) : zcL (d + 1) mX9_common [.long x0, .long x2] μ KL X :=
  Ex_of (w := 4) mgX9_common.2.2.2.2.2 rfl rfl rfl (by decide) (wX9_common_0 h)

def pX9_allGusts (d : Nat) (μ : zMem) (KI : Int32 → zMem → Prop) (X : Nat → zMem → Prop) : Prop :=
  KI ((((μ 110 5) + (μ 110 6)) + (μ 110 7)) + (μ 110 8)) μ
set_option maxRecDepth 20000 in
theorem wX9_allGusts_0 {d : Nat} {KI : Int32 → zMem → Prop} {X : Nat → zMem → Prop} {μ : zMem} (h : pX9_allGusts d μ KI X) : Wr mX9_allGusts (d + 1) 0 0 [(0, .ref 106)] [] μ (kI KI X) := by
  unfold pX9_allGusts at h
  refine Wr_aload_n dX9_allGusts_0 rfl 0 rfl ?_
  refine Wr_getR 4 dX9_allGusts_1 flX9_51 zl106 rfl (by decide) ?_
  refine Wr_iconstv (v := 5) dX9_allGusts_4 (by decide) ?_
  refine Wr_iald dX9_allGusts_5 zl110 (by unfold vp_in; decide) ?_
  refine Wr_aload_n dX9_allGusts_6 rfl 0 rfl ?_
  refine Wr_getR 4 dX9_allGusts_7 flX9_51 zl106 rfl (by decide) ?_
  refine Wr_bipush (v := 6) dX9_allGusts_10 (by decide) ?_
  refine Wr_iald dX9_allGusts_12 zl110 (by unfold vp_in; decide) ?_
  refine Wr_iadd dX9_allGusts_13 ?_
  refine Wr_aload_n dX9_allGusts_14 rfl 0 rfl ?_
  refine Wr_getR 4 dX9_allGusts_15 flX9_51 zl106 rfl (by decide) ?_
  refine Wr_bipush (v := 7) dX9_allGusts_18 (by decide) ?_
  refine Wr_iald dX9_allGusts_20 zl110 (by unfold vp_in; decide) ?_
  refine Wr_iadd dX9_allGusts_21 ?_
  refine Wr_aload_n dX9_allGusts_22 rfl 0 rfl ?_
  refine Wr_getR 4 dX9_allGusts_23 flX9_51 zl106 rfl (by decide) ?_
  refine Wr_bipush (v := 8) dX9_allGusts_26 (by decide) ?_
  refine Wr_iald dX9_allGusts_28 zl110 (by unfold vp_in; decide) ?_
  refine Wr_iadd dX9_allGusts_29 ?_
  exact Wr_iret .int dX9_allGusts_30 rfl rfl ⟨rfl, h⟩
theorem cX9_allGusts_ {d : Nat} {μ : zMem} {KI : Int32 → zMem → Prop} {X : Nat → zMem → Prop} (h : pX9_allGusts d μ KI X) : zcI (d + 1) mX9_allGusts [.ref 106] μ KI X :=
  Ex_of (w := 1) mgX9_allGusts.2.2.2.2.2 rfl rfl rfl (by decide) (wX9_allGusts_0 h)

def pX9_knockedBy_4 : Nat → Nat → Int32 → Int32 → Int32 → zMem → (Int32 → zMem → Prop) → (Nat → zMem → Prop) → Prop
  | 0, _, _, _, _, _, _, _ => False
  | n + 1, d, x1, x2, x3, μ, KI, X =>
  ((4 ≤ x3 → KI x2 μ) ∧
  (¬ (4 ≤ x3) → zcV d mX9_tellHour [.ref 106, .int x1, .int x3] μ (fun m1 => zcI d mX9_knocked [.ref 106] m1 (fun u3 m2 => ((u3 = (-1) → ∀ v6 : Int32, v6 = x3 + 1 → pX9_knockedBy_4 n d x1 (x2 + 0) v6 m2 KI X) ∧
    (¬ (u3 = (-1)) → (vp_in (5 + x3) 20) ∧ ∀ v4 : Int32, v4 = x2 + (m2 110 (5 + x3).toNatClampNeg) → ∀ v5 : Int32, v5 = x3 + 1 → pX9_knockedBy_4 n d x1 v4 v5 m2 KI X))) X) X))
set_option maxRecDepth 20000 in
theorem wX9_knockedBy_4 {d : Nat} {KI : Int32 → zMem → Prop} {X : Nat → zMem → Prop} : ∀ (n : Nat) (x1 : Int32) (x2 : Int32) (x3 : Int32) (μ : zMem), pX9_knockedBy_4 n d x1 x2 x3 μ KI X → Wr mX9_knockedBy (d + 1) 0 4 [(0, .ref 106), (1, .int x1), (2, .int x2), (3, .int x3)] [] μ (kI KI X) := by
  intro n
  induction n with
  | zero =>
    intro x1 x2 x3 μ h
    exact absurd h id
  | succ n ih =>
    intro x1 x2 x3 μ h
    unfold pX9_knockedBy_4 at h
    refine Wr_iload_n dX9_knockedBy_4 rfl 3 rfl ?_
    refine Wr_iconstv (v := 4) dX9_knockedBy_5 (by decide) ?_
    refine Wr_icmp_ge 44 dX9_knockedBy_6 (by decide) (fun hc => ?_) (fun hc => ?_)
    · have h := h.1 hc
      refine Wr_iload_n dX9_knockedBy_44 rfl 2 rfl ?_
      exact Wr_iret .int dX9_knockedBy_45 rfl rfl ⟨rfl, h⟩
    · have h := h.2 hc
      refine Wr_aload_n dX9_knockedBy_9 rfl 0 rfl ?_
      refine Wr_iload_n dX9_knockedBy_10 rfl 1 rfl ?_
      refine Wr_iload_n dX9_knockedBy_11 rfl 3 rfl ?_
      refine Wr_cVv [.int x1, .int x3] dX9_knockedBy_12 mlX9_392 mgX9_tellHour rfl mvX9_tellHour (zrv zl106 _ rfl rfl) rfl rfl (Nat.le_of_ble_eq_true rfl) rfl (zcV.imp h (fun m1 h => ?_) (fun _ _ h => ⟨rfl, h⟩))
      refine Wr_iload_n dX9_knockedBy_15 rfl 2 rfl ?_
      refine Wr_aload_n dX9_knockedBy_16 rfl 0 rfl ?_
      refine Wr_cVi [] dX9_knockedBy_17 mlX9_421 mgX9_knocked rfl mvX9_knocked (zrv zl106 _ rfl rfl) rfl rfl (Nat.le_of_ble_eq_true rfl) rfl (zcI.imp h (fun u3 m2 h => ?_) (fun _ _ h => ⟨rfl, h⟩))
      refine Wr_iconstv (v := (-1)) dX9_knockedBy_20 (by decide) ?_
      refine Wr_icmp_ne 28 dX9_knockedBy_21 (by decide) (fun hc => ?_) (fun hc => ?_)
      · have h := h.2 hc
        refine Wr_aload_n dX9_knockedBy_28 rfl 0 rfl ?_
        refine Wr_getR 4 dX9_knockedBy_29 flX9_51 zl106 rfl (by decide) ?_
        refine Wr_iconstv (v := 5) dX9_knockedBy_32 (by decide) ?_
        refine Wr_iload_n dX9_knockedBy_33 rfl 3 rfl ?_
        refine Wr_iadd dX9_knockedBy_34 ?_
        obtain ⟨hi, h⟩ := h
        refine Wr_iald dX9_knockedBy_35 zl110 hi ?_
        refine Wr_iadd dX9_knockedBy_36 ?_
        obtain ⟨v4, ev4⟩ : ∃ z : Int32, z = x2 + (m2 110 (5 + x3).toNatClampNeg) := ⟨_, rfl⟩
        have h := h v4 ev4
        refine Wr_top ev4 ?_
        refine Wr_istore_n dX9_knockedBy_37 rfl (by decide) rfl ?_
        obtain ⟨v5, ev5⟩ : ∃ z : Int32, z = x3 + 1 := ⟨_, rfl⟩
        have h := h v5 ev5
        refine Wr_iinc (v := v5) dX9_knockedBy_38 (q := 3) rfl (by rw [ev5]; rfl) (by decide) rfl ?_
        refine Wr_goto 4 dX9_knockedBy_41 (by decide) ?_
        refine zsub [0, 1, 2, 3] rfl ?_
        exact ih _ _ _ _ h
      · have h := h.1 hc
        refine Wr_iconstv (v := 0) dX9_knockedBy_24 (by decide) ?_
        refine Wr_goto 36 dX9_knockedBy_25 (by decide) ?_
        refine Wr_iadd dX9_knockedBy_36 ?_
        refine Wr_istore_n dX9_knockedBy_37 rfl (by decide) rfl ?_
        obtain ⟨v6, ev6⟩ : ∃ z : Int32, z = x3 + 1 := ⟨_, rfl⟩
        have h := h v6 ev6
        refine Wr_iinc (v := v6) dX9_knockedBy_38 (q := 3) rfl (by rw [ev6]; rfl) (by decide) rfl ?_
        refine Wr_goto 4 dX9_knockedBy_41 (by decide) ?_
        refine zsub [0, 1, 2, 3] rfl ?_
        exact ih _ _ _ _ h
def pX9_knockedBy (d : Nat) (x1 : Int32) (μ : zMem) (KI : Int32 → zMem → Prop) (X : Nat → zMem → Prop) : Prop :=
  ∃ n2 : Nat, pX9_knockedBy_4 n2 d x1 0 0 μ KI X
set_option maxRecDepth 20000 in
theorem wX9_knockedBy_0 {d : Nat} {KI : Int32 → zMem → Prop} {X : Nat → zMem → Prop} {x1 : Int32} {μ : zMem} (h : pX9_knockedBy d x1 μ KI X) : Wr mX9_knockedBy (d + 1) 0 0 [(0, .ref 106), (1, .int x1)] [] μ (kI KI X) := by
  unfold pX9_knockedBy at h
  refine Wr_iconstv (v := 0) dX9_knockedBy_0 (by decide) ?_
  refine Wr_istore_n dX9_knockedBy_1 rfl (by decide) rfl ?_
  refine Wr_iconstv (v := 0) dX9_knockedBy_2 (by decide) ?_
  refine Wr_istore_n dX9_knockedBy_3 rfl (by decide) rfl ?_
  refine zsub [0, 1, 2, 3] rfl ?_
  obtain ⟨n9, h⟩ := h
  exact wX9_knockedBy_4 n9 _ _ _ _ h
theorem cX9_knockedBy_ {d : Nat} {x1 : Int32} {μ : zMem} {KI : Int32 → zMem → Prop} {X : Nat → zMem → Prop} (h : pX9_knockedBy d x1 μ KI X) : zcI (d + 1) mX9_knockedBy [.ref 106, .int x1] μ KI X :=
  Ex_of (w := 2) mgX9_knockedBy.2.2.2.2.2 rfl rfl rfl (by decide) (wX9_knockedBy_0 h)

def pX9_gust_21 (d : Nat) (μ : zMem) (KI : Int32 → zMem → Prop) (X : Nat → zMem → Prop) : Prop :=
  zcI d mX9_fail [.ref 106, .int 1] μ (fun u2 m1 => KI u2 m1) X
set_option maxRecDepth 20000 in
theorem wX9_gust_21 {d : Nat} {KI : Int32 → zMem → Prop} {X : Nat → zMem → Prop} {μ : zMem} (h : pX9_gust_21 d μ KI X) : Wr mX9_gust (d + 1) 0 21 [(0, .ref 106)] [] μ (kI KI X) := by
  unfold pX9_gust_21 at h
  refine Wr_aload_n dX9_gust_21 rfl 0 rfl ?_
  refine Wr_iconstv (v := 1) dX9_gust_22 (by decide) ?_
  refine Wr_cVi [.int 1] dX9_gust_23 mlX9_297 mgX9_fail rfl mvX9_fail (zrv zl106 _ rfl rfl) rfl rfl (Nat.le_of_ble_eq_true rfl) rfl (zcI.imp h (fun u2 m1 h => ?_) (fun _ _ h => ⟨rfl, h⟩))
  exact Wr_iret .int dX9_gust_26 rfl rfl ⟨rfl, h⟩
def pX9_gust (d : Nat) (x1 : Int32) (x2 : Int32) (μ : zMem) (KI : Int32 → zMem → Prop) (X : Nat → zMem → Prop) : Prop :=
  ∀ m1 : zMem, m1 = zw μ 106 3 0 → zcI d mX9_isHour [.int x1] m1 (fun u3 m2 => ((u3 = 0 → pX9_gust_21 d m2 KI X) ∧
  (¬ (u3 = 0) → ((x2 < 0 → pX9_gust_21 d m2 KI X) ∧
    (¬ (x2 < 0) → ((x2 ≤ 1 → zcI d mX9_knockedBy [.ref 106, .int x1] m2 (fun u5 m4 => zcI d mX9_allGusts [.ref 106] m4 (fun u7 m6 => zcL d mX9_common [.long u7.toInt64, .long u5.toInt64] m6 (fun u9 m8 => ((x2 = 0 → (¬ (u9.toInt32) = 0) ∧ KI (u5 / u9.toInt32) m8) ∧
        (¬ (x2 = 0) → zcI d mX9_allGusts [.ref 106] m8 (fun u11 m10 => (¬ (u9.toInt32) = 0) ∧ KI (u11 / u9.toInt32) m10) X))) X) X) X) ∧
      (¬ (x2 ≤ 1) → pX9_gust_21 d m2 KI X))))))) X
set_option maxRecDepth 20000 in
theorem wX9_gust_0 {d : Nat} {KI : Int32 → zMem → Prop} {X : Nat → zMem → Prop} {x1 : Int32} {x2 : Int32} {μ : zMem} (h : pX9_gust d x1 x2 μ KI X) : Wr mX9_gust (d + 1) 0 0 [(0, .ref 106), (1, .int x1), (2, .int x2)] [] μ (kI KI X) := by
  unfold pX9_gust at h
  refine Wr_aload_n dX9_gust_0 rfl 0 rfl ?_
  refine Wr_iconstv (v := 0) dX9_gust_1 (by decide) ?_
  obtain ⟨m1, em1⟩ : ∃ z : zMem, z = zw μ 106 3 0 := ⟨_, rfl⟩
  have h := h m1 em1
  refine Wr_putI dX9_gust_2 fpX9_155 zl106 rfl ?_
  refine Wr_mu em1 ?_
  refine Wr_iload_n dX9_gust_5 rfl 1 rfl ?_
  refine Wr_cSi [.int x1] dX9_gust_6 mlX9_389 mgX9_isHour rfl msX9_isHour  rfl rfl (Nat.le_of_ble_eq_true rfl) rfl (zcI.imp h (fun u3 m2 h => ?_) (fun _ _ h => ⟨rfl, h⟩))
  refine Wr_if_eq 21 dX9_gust_9 (by decide) (fun hc => ?_) (fun hc => ?_)
  · have h := h.1 hc
    refine zsub [0] rfl ?_
    exact wX9_gust_21 h
  · have h := h.2 hc
    refine Wr_iload_n dX9_gust_12 rfl 2 rfl ?_
    refine Wr_if_lt 21 dX9_gust_13 (by decide) (fun hc => ?_) (fun hc => ?_)
    · have h := h.1 hc
      refine zsub [0] rfl ?_
      exact wX9_gust_21 h
    · have h := h.2 hc
      refine Wr_iload_n dX9_gust_16 rfl 2 rfl ?_
      refine Wr_iconstv (v := 1) dX9_gust_17 (by decide) ?_
      refine Wr_icmp_le 27 dX9_gust_18 (by decide) (fun hc => ?_) (fun hc => ?_)
      · have h := h.1 hc
        refine Wr_aload_n dX9_gust_27 rfl 0 rfl ?_
        refine Wr_iload_n dX9_gust_28 rfl 1 rfl ?_
        refine Wr_cVi [.int x1] dX9_gust_29 mlX9_463 mgX9_knockedBy rfl mvX9_knockedBy (zrv zl106 _ rfl rfl) rfl rfl (Nat.le_of_ble_eq_true rfl) rfl (zcI.imp h (fun u5 m4 h => ?_) (fun _ _ h => ⟨rfl, h⟩))
        refine Wr_istore_n dX9_gust_32 rfl (by decide) rfl ?_
        refine Wr_aload_n dX9_gust_33 rfl 1 rfl ?_
        refine Wr_cVi [] dX9_gust_34 mlX9_466 mgX9_allGusts rfl mvX9_allGusts (zrv zl106 _ rfl rfl) rfl rfl (Nat.le_of_ble_eq_true rfl) rfl (zcI.imp h (fun u7 m6 h => ?_) (fun _ _ h => ⟨rfl, h⟩))
        refine Wr_i2l dX9_gust_37 ?_
        refine Wr_iload_n dX9_gust_38 rfl 0 rfl ?_
        refine Wr_i2l dX9_gust_39 ?_
        refine Wr_cSl [.long u7.toInt64, .long u5.toInt64] dX9_gust_40 mlX9_469 mgX9_common rfl msX9_common  rfl rfl (Nat.le_of_ble_eq_true rfl) rfl (zcL.imp h (fun u9 m8 h => ?_) (fun _ _ h => ⟨rfl, h⟩))
        refine Wr_l2i dX9_gust_43 ?_
        refine Wr_istore dX9_gust_44 (by decide) rfl ?_
        refine Wr_iload_n dX9_gust_46 rfl 4 rfl ?_
        refine Wr_if_ne 57 dX9_gust_47 (by decide) (fun hc => ?_) (fun hc => ?_)
        · have h := h.2 hc
          refine Wr_aload_n dX9_gust_57 rfl 2 rfl ?_
          refine Wr_cVi [] dX9_gust_58 mlX9_466 mgX9_allGusts rfl mvX9_allGusts (zrv zl106 _ rfl rfl) rfl rfl (Nat.le_of_ble_eq_true rfl) rfl (zcI.imp h (fun u11 m10 h => ?_) (fun _ _ h => ⟨rfl, h⟩))
          refine Wr_iload dX9_gust_61 0 rfl ?_
          obtain ⟨hi, h⟩ := h
          refine Wr_idiv dX9_gust_63 hi ?_
          exact Wr_iret .int dX9_gust_64 rfl rfl ⟨rfl, h⟩
        · have h := h.1 hc
          refine Wr_iload_n dX9_gust_50 rfl 1 rfl ?_
          refine Wr_iload dX9_gust_51 0 rfl ?_
          obtain ⟨hi, h⟩ := h
          refine Wr_idiv dX9_gust_53 hi ?_
          refine Wr_goto 64 dX9_gust_54 (by decide) ?_
          exact Wr_iret .int dX9_gust_64 rfl rfl ⟨rfl, h⟩
      · have h := h.2 hc
        refine zsub [0] rfl ?_
        exact wX9_gust_21 h
theorem cX9_gust_ {d : Nat} {x1 : Int32} {x2 : Int32} {μ : zMem} {KI : Int32 → zMem → Prop} {X : Nat → zMem → Prop} (h : pX9_gust d x1 x2 μ KI X) : zcI (d + 1) mX9_gust [.ref 106, .int x1, .int x2] μ KI X :=
  Ex_of (w := 3) mgX9_gust.2.2.2.2.2 rfl rfl rfl (by decide) (wX9_gust_0 h)

def pX9_calm_14 (d : Nat) (μ : zMem) (KL : Int64 → zMem → Prop) (X : Nat → zMem → Prop) : Prop :=
  zcI d mX9_fail [.ref 106, .int 1] μ (fun u2 m1 => KL u2.toInt64 m1) X
set_option maxRecDepth 20000 in
theorem wX9_calm_14 {d : Nat} {KL : Int64 → zMem → Prop} {X : Nat → zMem → Prop} {μ : zMem} (h : pX9_calm_14 d μ KL X) : Wr mX9_calm (d + 1) 0 14 [(0, .ref 106)] [] μ (kL KL X) := by
  unfold pX9_calm_14 at h
  refine Wr_aload_n dX9_calm_14 rfl 0 rfl ?_
  refine Wr_iconstv (v := 1) dX9_calm_15 (by decide) ?_
  refine Wr_cVi [.int 1] dX9_calm_16 mlX9_297 mgX9_fail rfl mvX9_fail (zrv zl106 _ rfl rfl) rfl rfl (Nat.le_of_ble_eq_true rfl) rfl (zcI.imp h (fun u2 m1 h => ?_) (fun _ _ h => ⟨rfl, h⟩))
  refine Wr_i2l dX9_calm_19 ?_
  exact Wr_lret dX9_calm_20 rfl ⟨rfl, h⟩
def pX9_calm_37 (d : Nat) (μ : zMem) (KL : Int64 → zMem → Prop) (X : Nat → zMem → Prop) : Prop :=
  zcI d mX9_fail [.ref 106, .int 2] μ (fun u2 m1 => KL u2.toInt64 m1) X
set_option maxRecDepth 20000 in
theorem wX9_calm_37 {d : Nat} {KL : Int64 → zMem → Prop} {X : Nat → zMem → Prop} {μ : zMem} (h : pX9_calm_37 d μ KL X) : Wr mX9_calm (d + 1) 0 37 [(0, .ref 106)] [] μ (kL KL X) := by
  unfold pX9_calm_37 at h
  refine Wr_aload_n dX9_calm_37 rfl 0 rfl ?_
  refine Wr_iconstv (v := 2) dX9_calm_38 (by decide) ?_
  refine Wr_cVi [.int 2] dX9_calm_39 mlX9_297 mgX9_fail rfl mvX9_fail (zrv zl106 _ rfl rfl) rfl rfl (Nat.le_of_ble_eq_true rfl) rfl (zcI.imp h (fun u2 m1 h => ?_) (fun _ _ h => ⟨rfl, h⟩))
  refine Wr_i2l dX9_calm_42 ?_
  exact Wr_lret dX9_calm_43 rfl ⟨rfl, h⟩
def pX9_calm_53 : Nat → Nat → Int32 → Int32 → Int64 → Int64 → Int32 → zMem → (Int64 → zMem → Prop) → (Nat → zMem → Prop) → Prop
  | 0, _, _, _, _, _, _, _, _, _ => False
  | n + 1, d, x2, x3, x4, x6, x8, μ, KL, X =>
  ((x2 < x8 → zcL d mX9_common [.long x6, .long x4] μ (fun u2 m1 => ((x3 = 0 → (¬ u2 = 0) ∧ KL (x4 / u2) m1) ∧
    (¬ (x3 = 0) → (¬ u2 = 0) ∧ KL (x6 / u2) m1))) X) ∧
  (¬ (x2 < x8) → zcI d mX9_allGusts [.ref 106] μ (fun u4 m3 => zcI d mX9_knockedBy [.ref 106, .int x8] m3 (fun u6 m5 => ∀ v7 : Int64, v7 = x4 * ((u4 - u6).toInt64) → zcI d mX9_allGusts [.ref 106] m5 (fun u9 m8 => ∀ v10 : Int64, v10 = x6 * u9.toInt64 → ∀ v11 : Int32, v11 = x8 + 1 → pX9_calm_53 n d x2 x3 v7 v10 v11 m8 KL X) X) X) X))
set_option maxRecDepth 20000 in
theorem wX9_calm_53 {d : Nat} {KL : Int64 → zMem → Prop} {X : Nat → zMem → Prop} : ∀ (n : Nat) (x2 : Int32) (x3 : Int32) (x4 : Int64) (x6 : Int64) (x8 : Int32) (μ : zMem), pX9_calm_53 n d x2 x3 x4 x6 x8 μ KL X → Wr mX9_calm (d + 1) 0 53 [(0, .ref 106), (2, .int x2), (3, .int x3), (4, .long x4), (6, .long x6), (8, .int x8)] [] μ (kL KL X) := by
  intro n
  induction n with
  | zero =>
    intro x2 x3 x4 x6 x8 μ h
    exact absurd h id
  | succ n ih =>
    intro x2 x3 x4 x6 x8 μ h
    unfold pX9_calm_53 at h
    refine Wr_iload dX9_calm_53 5 rfl ?_
    refine Wr_iload_n dX9_calm_55 rfl 1 rfl ?_
    refine Wr_icmp_gt 92 dX9_calm_56 (by decide) (fun hc => ?_) (fun hc => ?_)
    · have h := h.1 hc
      refine Wr_lload dX9_calm_92 4 rfl ?_
      refine Wr_lload dX9_calm_94 3 rfl ?_
      refine Wr_cSl [.long x6, .long x4] dX9_calm_96 mlX9_469 mgX9_common rfl msX9_common  rfl rfl (Nat.le_of_ble_eq_true rfl) rfl (zcL.imp h (fun u2 m1 h => ?_) (fun _ _ h => ⟨rfl, h⟩))
      refine Wr_lstore dX9_calm_99 (by decide) rfl ?_
      refine Wr_iload_n dX9_calm_101 rfl 3 rfl ?_
      refine Wr_if_ne 113 dX9_calm_102 (by decide) (fun hc => ?_) (fun hc => ?_)
      · have h := h.2 hc
        refine Wr_lload dX9_calm_113 5 rfl ?_
        refine Wr_lload dX9_calm_115 0 rfl ?_
        obtain ⟨hi, h⟩ := h
        refine Wr_ldiv dX9_calm_117 hi ?_
        exact Wr_lret dX9_calm_118 rfl ⟨rfl, h⟩
      · have h := h.1 hc
        refine Wr_lload dX9_calm_105 4 rfl ?_
        refine Wr_lload dX9_calm_107 0 rfl ?_
        obtain ⟨hi, h⟩ := h
        refine Wr_ldiv dX9_calm_109 hi ?_
        refine Wr_goto 118 dX9_calm_110 (by decide) ?_
        exact Wr_lret dX9_calm_118 rfl ⟨rfl, h⟩
    · have h := h.2 hc
      refine Wr_lload dX9_calm_59 3 rfl ?_
      refine Wr_aload_n dX9_calm_61 rfl 0 rfl ?_
      refine Wr_cVi [] dX9_calm_62 mlX9_466 mgX9_allGusts rfl mvX9_allGusts (zrv zl106 _ rfl rfl) rfl rfl (Nat.le_of_ble_eq_true rfl) rfl (zcI.imp h (fun u4 m3 h => ?_) (fun _ _ h => ⟨rfl, h⟩))
      refine Wr_aload_n dX9_calm_65 rfl 0 rfl ?_
      refine Wr_iload dX9_calm_66 5 rfl ?_
      refine Wr_cVi [.int x8] dX9_calm_68 mlX9_463 mgX9_knockedBy rfl mvX9_knockedBy (zrv zl106 _ rfl rfl) rfl rfl (Nat.le_of_ble_eq_true rfl) rfl (zcI.imp h (fun u6 m5 h => ?_) (fun _ _ h => ⟨rfl, h⟩))
      refine Wr_isub dX9_calm_71 ?_
      refine Wr_i2l dX9_calm_72 ?_
      refine Wr_lmul dX9_calm_73 ?_
      obtain ⟨v7, ev7⟩ : ∃ z : Int64, z = x4 * ((u4 - u6).toInt64) := ⟨_, rfl⟩
      have h := h v7 ev7
      refine Wr_topL ev7 ?_
      refine Wr_lstore dX9_calm_74 (by decide) rfl ?_
      refine Wr_lload dX9_calm_76 4 rfl ?_
      refine Wr_aload_n dX9_calm_78 rfl 1 rfl ?_
      refine Wr_cVi [] dX9_calm_79 mlX9_466 mgX9_allGusts rfl mvX9_allGusts (zrv zl106 _ rfl rfl) rfl rfl (Nat.le_of_ble_eq_true rfl) rfl (zcI.imp h (fun u9 m8 h => ?_) (fun _ _ h => ⟨rfl, h⟩))
      refine Wr_i2l dX9_calm_82 ?_
      refine Wr_lmul dX9_calm_83 ?_
      obtain ⟨v10, ev10⟩ : ∃ z : Int64, z = x6 * u9.toInt64 := ⟨_, rfl⟩
      have h := h v10 ev10
      refine Wr_topL ev10 ?_
      refine Wr_lstore dX9_calm_84 (by decide) rfl ?_
      obtain ⟨v11, ev11⟩ : ∃ z : Int32, z = x8 + 1 := ⟨_, rfl⟩
      have h := h v11 ev11
      refine Wr_iinc (v := v11) dX9_calm_86 (q := 5) rfl (by rw [ev11]; rfl) (by decide) rfl ?_
      refine Wr_goto 53 dX9_calm_89 (by decide) ?_
      refine zsub [0, 2, 3, 4, 6, 8] rfl ?_
      exact ih _ _ _ _ _ _ h
def pX9_calm (d : Nat) (x1 : Int32) (x2 : Int32) (x3 : Int32) (μ : zMem) (KL : Int64 → zMem → Prop) (X : Nat → zMem → Prop) : Prop :=
  ∀ m1 : zMem, m1 = zw μ 106 3 0 → ((x3 < 0 → pX9_calm_14 d m1 KL X) ∧
  (¬ (x3 < 0) → ((x3 ≤ 1 → zcI d mX9_isSpan [.int x1, .int x2] m1 (fun u3 m2 => ((u3 = 0 → pX9_calm_37 d m2 KL X) ∧
      (¬ (u3 = 0) → ((x2 - x1 < 8 → ∃ n2 : Nat, pX9_calm_53 n2 d x2 x3 1 1 x1 m2 KL X) ∧
        (¬ (x2 - x1 < 8) → pX9_calm_37 d m2 KL X))))) X) ∧
    (¬ (x3 ≤ 1) → pX9_calm_14 d m1 KL X))))
set_option maxRecDepth 20000 in
theorem wX9_calm_0 {d : Nat} {KL : Int64 → zMem → Prop} {X : Nat → zMem → Prop} {x1 : Int32} {x2 : Int32} {x3 : Int32} {μ : zMem} (h : pX9_calm d x1 x2 x3 μ KL X) : Wr mX9_calm (d + 1) 0 0 [(0, .ref 106), (1, .int x1), (2, .int x2), (3, .int x3)] [] μ (kL KL X) := by
  unfold pX9_calm at h
  refine Wr_aload_n dX9_calm_0 rfl 0 rfl ?_
  refine Wr_iconstv (v := 0) dX9_calm_1 (by decide) ?_
  obtain ⟨m1, em1⟩ : ∃ z : zMem, z = zw μ 106 3 0 := ⟨_, rfl⟩
  have h := h m1 em1
  refine Wr_putI dX9_calm_2 fpX9_155 zl106 rfl ?_
  refine Wr_mu em1 ?_
  refine Wr_iload_n dX9_calm_5 rfl 3 rfl ?_
  refine Wr_if_lt 14 dX9_calm_6 (by decide) (fun hc => ?_) (fun hc => ?_)
  · have h := h.1 hc
    refine zsub [0] rfl ?_
    exact wX9_calm_14 h
  · have h := h.2 hc
    refine Wr_iload_n dX9_calm_9 rfl 3 rfl ?_
    refine Wr_iconstv (v := 1) dX9_calm_10 (by decide) ?_
    refine Wr_icmp_le 21 dX9_calm_11 (by decide) (fun hc => ?_) (fun hc => ?_)
    · have h := h.1 hc
      refine Wr_iload_n dX9_calm_21 rfl 1 rfl ?_
      refine Wr_iload_n dX9_calm_22 rfl 2 rfl ?_
      refine Wr_cSi [.int x1, .int x2] dX9_calm_23 mlX9_418 mgX9_isSpan rfl msX9_isSpan  rfl rfl (Nat.le_of_ble_eq_true rfl) rfl (zcI.imp h (fun u3 m2 h => ?_) (fun _ _ h => ⟨rfl, h⟩))
      refine Wr_if_eq 37 dX9_calm_26 (by decide) (fun hc => ?_) (fun hc => ?_)
      · have h := h.1 hc
        refine zsub [0] rfl ?_
        exact wX9_calm_37 h
      · have h := h.2 hc
        refine Wr_iload_n dX9_calm_29 rfl 2 rfl ?_
        refine Wr_iload_n dX9_calm_30 rfl 1 rfl ?_
        refine Wr_isub dX9_calm_31 ?_
        refine Wr_bipush (v := 8) dX9_calm_32 (by decide) ?_
        refine Wr_icmp_lt 44 dX9_calm_34 (by decide) (fun hc => ?_) (fun hc => ?_)
        · have h := h.1 hc
          refine Wr_lconst (v := 1) dX9_calm_44 (by decide) ?_
          refine Wr_lstore dX9_calm_45 (by decide) rfl ?_
          refine Wr_lconst (v := 1) dX9_calm_47 (by decide) ?_
          refine Wr_lstore dX9_calm_48 (by decide) rfl ?_
          refine Wr_iload_n dX9_calm_50 rfl 3 rfl ?_
          refine Wr_istore dX9_calm_51 (by decide) rfl ?_
          refine zsub [0, 2, 3, 4, 6, 8] rfl ?_
          obtain ⟨n9, h⟩ := h
          exact wX9_calm_53 n9 _ _ _ _ _ _ h
        · have h := h.2 hc
          refine zsub [0] rfl ?_
          exact wX9_calm_37 h
    · have h := h.2 hc
      refine zsub [0] rfl ?_
      exact wX9_calm_14 h
theorem cX9_calm_ {d : Nat} {x1 : Int32} {x2 : Int32} {x3 : Int32} {μ : zMem} {KL : Int64 → zMem → Prop} {X : Nat → zMem → Prop} (h : pX9_calm d x1 x2 x3 μ KL X) : zcL (d + 1) mX9_calm [.ref 106, .int x1, .int x2, .int x3] μ KL X :=
  Ex_of (w := 4) mgX9_calm.2.2.2.2.2 rfl rfl rfl (by decide) (wX9_calm_0 h)

def pX9_lower_4 : Nat → Nat → Int32 → Int32 → Int32 → zMem → (Int32 → zMem → Prop) → (Nat → zMem → Prop) → Prop
  | 0, _, _, _, _, _, _, _ => False
  | n + 1, d, x1, x2, x3, μ, KI, X =>
  ((μ 110 0 ≤ x3 → KI x2 μ) ∧
  (¬ (μ 110 0 ≤ x3) → (vp_in x3 6) ∧ (vp_in x1 6) ∧ ∀ v1 : Int32, v1 = x2 + (if μ 122 x1.toNatClampNeg ≤ μ 122 x3.toNatClampNeg then 0 else 1) → ∀ v2 : Int32, v2 = x3 + 1 → pX9_lower_4 n d x1 v1 v2 μ KI X))
set_option maxRecDepth 20000 in
theorem wX9_lower_4 {d : Nat} {KI : Int32 → zMem → Prop} {X : Nat → zMem → Prop} : ∀ (n : Nat) (x1 : Int32) (x2 : Int32) (x3 : Int32) (μ : zMem), pX9_lower_4 n d x1 x2 x3 μ KI X → Wr mX9_lower (d + 1) 0 4 [(0, .ref 106), (1, .int x1), (2, .int x2), (3, .int x3)] [] μ (kI KI X) := by
  intro n
  induction n with
  | zero =>
    intro x1 x2 x3 μ h
    exact absurd h id
  | succ n ih =>
    intro x1 x2 x3 μ h
    unfold pX9_lower_4 at h
    refine Wr_iload_n dX9_lower_4 rfl 3 rfl ?_
    refine Wr_aload_n dX9_lower_5 rfl 0 rfl ?_
    refine Wr_getR 4 dX9_lower_6 flX9_51 zl106 rfl (by decide) ?_
    refine Wr_iconstv (v := 0) dX9_lower_9 (by decide) ?_
    refine Wr_iald dX9_lower_10 zl110 (by unfold vp_in; decide) ?_
    refine Wr_icmp_ge 43 dX9_lower_11 (by decide) (fun hc => ?_) (fun hc => ?_)
    · have h := h.1 hc
      refine Wr_iload_n dX9_lower_43 rfl 2 rfl ?_
      exact Wr_iret .int dX9_lower_44 rfl rfl ⟨rfl, h⟩
    · have h := h.2 hc
      refine Wr_iload_n dX9_lower_14 rfl 2 rfl ?_
      refine Wr_aload_n dX9_lower_15 rfl 0 rfl ?_
      refine Wr_getR 16 dX9_lower_16 flX9_92 zl106 rfl (by decide) ?_
      refine Wr_iload_n dX9_lower_19 rfl 3 rfl ?_
      obtain ⟨hi, h⟩ := h
      refine Wr_iald dX9_lower_20 zl122 hi ?_
      refine Wr_aload_n dX9_lower_21 rfl 0 rfl ?_
      refine Wr_getR 16 dX9_lower_22 flX9_92 zl106 rfl (by decide) ?_
      refine Wr_iload_n dX9_lower_25 rfl 1 rfl ?_
      obtain ⟨hi, h⟩ := h
      refine Wr_iald dX9_lower_26 zl122 hi ?_
      have hj1 : Wr mX9_lower (d + 1) 0 35 [(0, .ref 106), (1, .int x1), (2, .int x2), (3, .int x3)] [.int (if μ 122 x1.toNatClampNeg ≤ μ 122 x3.toNatClampNeg then 0 else 1), .int x2] μ (kI KI X) := by
        refine Wr_iadd dX9_lower_35 ?_
        obtain ⟨v1, ev1⟩ : ∃ z : Int32, z = x2 + (if μ 122 x1.toNatClampNeg ≤ μ 122 x3.toNatClampNeg then 0 else 1) := ⟨_, rfl⟩
        have h := h v1 ev1
        refine Wr_top ev1 ?_
        refine Wr_istore_n dX9_lower_36 rfl (by decide) rfl ?_
        obtain ⟨v2, ev2⟩ : ∃ z : Int32, z = x3 + 1 := ⟨_, rfl⟩
        have h := h v2 ev2
        refine Wr_iinc (v := v2) dX9_lower_37 (q := 3) rfl (by rw [ev2]; rfl) (by decide) rfl ?_
        refine Wr_goto 4 dX9_lower_40 (by decide) ?_
        refine zsub [0, 1, 2, 3] rfl ?_
        exact ih _ _ _ _ h
      refine Wr_icmp_ge 34 dX9_lower_27 (by decide) (fun hc0 => ?_) (fun hc0 => ?_)
      · skip
        refine Wr_iconstv (v := 0) dX9_lower_34 (by decide) ?_
        exact Wr_top (if_pos hc0) hj1
      · skip
        refine Wr_iconstv (v := 1) dX9_lower_30 (by decide) ?_
        refine Wr_goto 35 dX9_lower_31 (by decide) ?_
        exact Wr_top (if_neg hc0) hj1
def pX9_lower (d : Nat) (x1 : Int32) (μ : zMem) (KI : Int32 → zMem → Prop) (X : Nat → zMem → Prop) : Prop :=
  ∃ n2 : Nat, pX9_lower_4 n2 d x1 0 0 μ KI X
set_option maxRecDepth 20000 in
theorem wX9_lower_0 {d : Nat} {KI : Int32 → zMem → Prop} {X : Nat → zMem → Prop} {x1 : Int32} {μ : zMem} (h : pX9_lower d x1 μ KI X) : Wr mX9_lower (d + 1) 0 0 [(0, .ref 106), (1, .int x1)] [] μ (kI KI X) := by
  unfold pX9_lower at h
  refine Wr_iconstv (v := 0) dX9_lower_0 (by decide) ?_
  refine Wr_istore_n dX9_lower_1 rfl (by decide) rfl ?_
  refine Wr_iconstv (v := 0) dX9_lower_2 (by decide) ?_
  refine Wr_istore_n dX9_lower_3 rfl (by decide) rfl ?_
  refine zsub [0, 1, 2, 3] rfl ?_
  obtain ⟨n9, h⟩ := h
  exact wX9_lower_4 n9 _ _ _ _ h
theorem cX9_lower_ {d : Nat} {x1 : Int32} {μ : zMem} {KI : Int32 → zMem → Prop} {X : Nat → zMem → Prop} (h : pX9_lower d x1 μ KI X) : zcI (d + 1) mX9_lower [.ref 106, .int x1] μ KI X :=
  Ex_of (w := 2) mgX9_lower.2.2.2.2.2 rfl rfl rfl (by decide) (wX9_lower_0 h)

def pX9_view_32 (d : Nat) (μ : zMem) (KI : Int32 → zMem → Prop) (X : Nat → zMem → Prop) : Prop :=
  zcI d mX9_fail [.ref 106, .int 1] μ (fun u2 m1 => KI u2 m1) X
set_option maxRecDepth 20000 in
theorem wX9_view_32 {d : Nat} {KI : Int32 → zMem → Prop} {X : Nat → zMem → Prop} {μ : zMem} (h : pX9_view_32 d μ KI X) : Wr mX9_view (d + 1) 0 32 [(0, .ref 106)] [] μ (kI KI X) := by
  unfold pX9_view_32 at h
  refine Wr_aload_n dX9_view_32 rfl 0 rfl ?_
  refine Wr_iconstv (v := 1) dX9_view_33 (by decide) ?_
  refine Wr_cVi [.int 1] dX9_view_34 mlX9_297 mgX9_fail rfl mvX9_fail (zrv zl106 _ rfl rfl) rfl rfl (Nat.le_of_ble_eq_true rfl) rfl (zcI.imp h (fun u2 m1 h => ?_) (fun _ _ h => ⟨rfl, h⟩))
  exact Wr_iret .int dX9_view_37 rfl rfl ⟨rfl, h⟩
def pX9_view_74 (d : Nat) (x1 : Int32) (x2 : Int32) (x3 : Int32) (x4 : Int32) (x5 : Int32) (x6 : Int32) (x7 : Int32) (μ : zMem) (KI : Int32 → zMem → Prop) (X : Nat → zMem → Prop) (C55 : Int32 → Int32 → Int32 → Int32 → Int32 → Int32 → Int32 → zMem → Prop) : Prop :=
  zcV d mX9_set [.ref 106, .int x1, .int 3, .int (x4 + x7)] μ (fun m1 => zcV d mX9_tellHour [.ref 106, .int x2, .int 0] m1 (fun m2 => zcI d mX9_lower [.ref 106, .int x1] m2 (fun u4 m3 => ((x6 < u4 → zcI d mX9_lower [.ref 106, .int x1] m3 (fun u6 m5 => ∀ v7 : Int32, v7 = x7 + 1 → C55 x1 x2 x3 x4 x7 u6 v7 m5) X) ∧
  (¬ (x6 < u4) → ∀ v8 : Int32, v8 = x7 + 1 → C55 x1 x2 x3 x4 x5 x6 v8 m3))) X) X) X
set_option maxRecDepth 20000 in
theorem wX9_view_74 {d : Nat} {KI : Int32 → zMem → Prop} {X : Nat → zMem → Prop} {C55 : Int32 → Int32 → Int32 → Int32 → Int32 → Int32 → Int32 → zMem → Prop} {x1 : Int32} {x2 : Int32} {x3 : Int32} {x4 : Int32} {x5 : Int32} {x6 : Int32} {x7 : Int32} {μ : zMem} (hC55 : ∀ (x1 : Int32) (x2 : Int32) (x3 : Int32) (x4 : Int32) (x5 : Int32) (x6 : Int32) (x7 : Int32) (μ : zMem), C55 x1 x2 x3 x4 x5 x6 x7 μ → Wr mX9_view (d + 1) 0 55 [(0, .ref 106), (1, .int x1), (2, .int x2), (3, .int x3), (4, .int x4), (5, .int x5), (6, .int x6), (7, .int x7)] [] μ (kI KI X)) (h : pX9_view_74 d x1 x2 x3 x4 x5 x6 x7 μ KI X C55) : Wr mX9_view (d + 1) 0 74 [(0, .ref 106), (1, .int x1), (2, .int x2), (3, .int x3), (4, .int x4), (5, .int x5), (6, .int x6), (7, .int x7)] [] μ (kI KI X) := by
  unfold pX9_view_74 at h
  refine Wr_aload_n dX9_view_74 rfl 0 rfl ?_
  refine Wr_iload_n dX9_view_75 rfl 1 rfl ?_
  refine Wr_iconstv (v := 3) dX9_view_76 (by decide) ?_
  refine Wr_iload dX9_view_77 4 rfl ?_
  refine Wr_iload dX9_view_79 7 rfl ?_
  refine Wr_iadd dX9_view_81 ?_
  refine Wr_cVv [.int x1, .int 3, .int (x4 + x7)] dX9_view_82 mlX9_415 mgX9_set rfl mvX9_set (zrv zl106 _ rfl rfl) rfl rfl (Nat.le_of_ble_eq_true rfl) rfl (zcV.imp h (fun m1 h => ?_) (fun _ _ h => ⟨rfl, h⟩))
  refine Wr_aload_n dX9_view_85 rfl 0 rfl ?_
  refine Wr_iload_n dX9_view_86 rfl 2 rfl ?_
  refine Wr_iconstv (v := 0) dX9_view_87 (by decide) ?_
  refine Wr_cVv [.int x2, .int 0] dX9_view_88 mlX9_392 mgX9_tellHour rfl mvX9_tellHour (zrv zl106 _ rfl rfl) rfl rfl (Nat.le_of_ble_eq_true rfl) rfl (zcV.imp h (fun m2 h => ?_) (fun _ _ h => ⟨rfl, h⟩))
  refine Wr_aload_n dX9_view_91 rfl 0 rfl ?_
  refine Wr_iload_n dX9_view_92 rfl 1 rfl ?_
  refine Wr_cVi [.int x1] dX9_view_93 mlX9_475 mgX9_lower rfl mvX9_lower (zrv zl106 _ rfl rfl) rfl rfl (Nat.le_of_ble_eq_true rfl) rfl (zcI.imp h (fun u4 m3 h => ?_) (fun _ _ h => ⟨rfl, h⟩))
  refine Wr_iload dX9_view_96 6 rfl ?_
  refine Wr_icmp_gt 104 dX9_view_98 (by decide) (fun hc => ?_) (fun hc => ?_)
  · have h := h.1 hc
    refine Wr_iload dX9_view_104 7 rfl ?_
    refine Wr_istore dX9_view_106 (by decide) rfl ?_
    refine Wr_aload_n dX9_view_108 rfl 1 rfl ?_
    refine Wr_iload_n dX9_view_109 rfl 2 rfl ?_
    refine Wr_cVi [.int x1] dX9_view_110 mlX9_475 mgX9_lower rfl mvX9_lower (zrv zl106 _ rfl rfl) rfl rfl (Nat.le_of_ble_eq_true rfl) rfl (zcI.imp h (fun u6 m5 h => ?_) (fun _ _ h => ⟨rfl, h⟩))
    refine Wr_istore dX9_view_113 (by decide) rfl ?_
    obtain ⟨v7, ev7⟩ : ∃ z : Int32, z = x7 + 1 := ⟨_, rfl⟩
    have h := h v7 ev7
    refine Wr_iinc (v := v7) dX9_view_115 (q := 7) rfl (by rw [ev7]; rfl) (by decide) rfl ?_
    refine Wr_goto 55 dX9_view_118 (by decide) ?_
    refine zsub [0, 1, 2, 3, 4, 5, 6, 7] rfl ?_
    exact hC55 _ _ _ _ _ _ _ _ h
  · have h := h.2 hc
    refine Wr_goto 115 dX9_view_101 (by decide) ?_
    obtain ⟨v8, ev8⟩ : ∃ z : Int32, z = x7 + 1 := ⟨_, rfl⟩
    have h := h v8 ev8
    refine Wr_iinc (v := v8) dX9_view_115 (q := 7) rfl (by rw [ev8]; rfl) (by decide) rfl ?_
    refine Wr_goto 55 dX9_view_118 (by decide) ?_
    refine zsub [0, 1, 2, 3, 4, 5, 6, 7] rfl ?_
    exact hC55 _ _ _ _ _ _ _ _ h
def pX9_view_121 (d : Nat) (x1 : Int32) (x3 : Int32) (x4 : Int32) (x5 : Int32) (x6 : Int32) (μ : zMem) (KI : Int32 → zMem → Prop) (X : Nat → zMem → Prop) : Prop :=
  zcV d mX9_set [.ref 106, .int x1, .int 3, .int x4] μ (fun m1 => KI (if x3 = 1 then x5 else x6) m1) X
set_option maxRecDepth 20000 in
theorem wX9_view_121 {d : Nat} {KI : Int32 → zMem → Prop} {X : Nat → zMem → Prop} {x1 : Int32} {x3 : Int32} {x4 : Int32} {x5 : Int32} {x6 : Int32} {μ : zMem} (h : pX9_view_121 d x1 x3 x4 x5 x6 μ KI X) : Wr mX9_view (d + 1) 0 121 [(0, .ref 106), (1, .int x1), (3, .int x3), (4, .int x4), (5, .int x5), (6, .int x6)] [] μ (kI KI X) := by
  unfold pX9_view_121 at h
  refine Wr_aload_n dX9_view_121 rfl 0 rfl ?_
  refine Wr_iload_n dX9_view_122 rfl 1 rfl ?_
  refine Wr_iconstv (v := 3) dX9_view_123 (by decide) ?_
  refine Wr_iload dX9_view_124 3 rfl ?_
  refine Wr_cVv [.int x1, .int 3, .int x4] dX9_view_126 mlX9_415 mgX9_set rfl mvX9_set (zrv zl106 _ rfl rfl) rfl rfl (Nat.le_of_ble_eq_true rfl) rfl (zcV.imp h (fun m1 h => ?_) (fun _ _ h => ⟨rfl, h⟩))
  refine Wr_iload_n dX9_view_129 rfl 2 rfl ?_
  refine Wr_iconstv (v := 1) dX9_view_130 (by decide) ?_
  have hj1 : Wr mX9_view (d + 1) 0 141 [(0, .ref 106), (1, .int x1), (3, .int x3), (4, .int x4), (5, .int x5), (6, .int x6)] [.int (if x3 = 1 then x5 else x6)] m1 (kI KI X) := by
    exact Wr_iret .int dX9_view_141 rfl rfl ⟨rfl, h⟩
  refine Wr_icmp_ne 139 dX9_view_131 (by decide) (fun hc0 => ?_) (fun hc0 => ?_)
  · skip
    refine Wr_iload dX9_view_139 5 rfl ?_
    exact Wr_top (if_neg hc0) hj1
  · skip
    refine Wr_iload dX9_view_134 4 rfl ?_
    refine Wr_goto 141 dX9_view_136 (by decide) ?_
    exact Wr_top (if_pos hc0) hj1
def pX9_view_55 : Nat → Nat → Int32 → Int32 → Int32 → Int32 → Int32 → Int32 → Int32 → zMem → (Int32 → zMem → Prop) → (Nat → zMem → Prop) → Prop
  | 0, _, _, _, _, _, _, _, _, _, _, _ => False
  | n + 1, d, x1, x2, x3, x4, x5, x6, x7, μ, KI, X =>
  ((60 < x4 + x7 → pX9_view_121 d x1 x3 x4 x5 x6 μ KI X) ∧
  (¬ (60 < x4 + x7) → ((0 < x3 → pX9_view_74 d x1 x2 x3 x4 x5 x6 x7 μ KI X (fun z0 z1 z2 z3 z4 z5 z6 m => pX9_view_55 n d z0 z1 z2 z3 z4 z5 z6 m KI X)) ∧
    (¬ (0 < x3) → ((x7 = 0 → pX9_view_74 d x1 x2 x3 x4 x5 x6 x7 μ KI X (fun z0 z1 z2 z3 z4 z5 z6 m => pX9_view_55 n d z0 z1 z2 z3 z4 z5 z6 m KI X)) ∧
      (¬ (x7 = 0) → pX9_view_121 d x1 x3 x4 x5 x6 μ KI X))))))
set_option maxRecDepth 20000 in
theorem wX9_view_55 {d : Nat} {KI : Int32 → zMem → Prop} {X : Nat → zMem → Prop} : ∀ (n : Nat) (x1 : Int32) (x2 : Int32) (x3 : Int32) (x4 : Int32) (x5 : Int32) (x6 : Int32) (x7 : Int32) (μ : zMem), pX9_view_55 n d x1 x2 x3 x4 x5 x6 x7 μ KI X → Wr mX9_view (d + 1) 0 55 [(0, .ref 106), (1, .int x1), (2, .int x2), (3, .int x3), (4, .int x4), (5, .int x5), (6, .int x6), (7, .int x7)] [] μ (kI KI X) := by
  intro n
  induction n with
  | zero =>
    intro x1 x2 x3 x4 x5 x6 x7 μ h
    exact absurd h id
  | succ n ih =>
    intro x1 x2 x3 x4 x5 x6 x7 μ h
    unfold pX9_view_55 at h
    refine Wr_iload dX9_view_55 4 rfl ?_
    refine Wr_iload dX9_view_57 7 rfl ?_
    refine Wr_iadd dX9_view_59 ?_
    refine Wr_bipush (v := 60) dX9_view_60 (by decide) ?_
    refine Wr_icmp_gt 121 dX9_view_62 (by decide) (fun hc => ?_) (fun hc => ?_)
    · have h := h.1 hc
      refine zsub [0, 1, 3, 4, 5, 6] rfl ?_
      exact wX9_view_121 h
    · have h := h.2 hc
      refine Wr_iload_n dX9_view_65 rfl 3 rfl ?_
      refine Wr_if_gt 74 dX9_view_66 (by decide) (fun hc => ?_) (fun hc => ?_)
      · have h := h.1 hc
        refine zsub [0, 1, 2, 3, 4, 5, 6, 7] rfl ?_
        exact wX9_view_74 (fun z0 z1 z2 z3 z4 z5 z6 m h => ih z0 z1 z2 z3 z4 z5 z6 m h) h
      · have h := h.2 hc
        refine Wr_iload dX9_view_69 7 rfl ?_
        refine Wr_if_ne 121 dX9_view_71 (by decide) (fun hc => ?_) (fun hc => ?_)
        · have h := h.2 hc
          refine zsub [0, 1, 3, 4, 5, 6] rfl ?_
          exact wX9_view_121 h
        · have h := h.1 hc
          refine zsub [0, 1, 2, 3, 4, 5, 6, 7] rfl ?_
          exact wX9_view_74 (fun z0 z1 z2 z3 z4 z5 z6 m h => ih z0 z1 z2 z3 z4 z5 z6 m h) h
def pX9_view (d : Nat) (x1 : Int32) (x2 : Int32) (x3 : Int32) (μ : zMem) (KI : Int32 → zMem → Prop) (X : Nat → zMem → Prop) : Prop :=
  ∀ m1 : zMem, m1 = zw μ 106 3 0 → zcI d mX9_isIsle [.ref 106, .int x1] m1 (fun u3 m2 => ((u3 = 0 → pX9_view_32 d m2 KI X) ∧
  (¬ (u3 = 0) → zcI d mX9_isHour [.int x2] m2 (fun u5 m4 => ((u5 = 0 → pX9_view_32 d m4 KI X) ∧
    (¬ (u5 = 0) → zcI d mX9_isIn [.long x3.toInt64, .long 0, .long 2] m4 (fun u7 m6 => ((u7 = 0 → pX9_view_32 d m6 KI X) ∧
      (¬ (u7 = 0) → zcI d mX9_of [.ref 106, .int x1, .int 3] m6 (fun u9 m8 => ∃ n2 : Nat, pX9_view_55 n2 d x1 x2 x3 u9 0 (-1) 0 m8 KI X) X))) X))) X))) X
set_option maxRecDepth 20000 in
theorem wX9_view_0 {d : Nat} {KI : Int32 → zMem → Prop} {X : Nat → zMem → Prop} {x1 : Int32} {x2 : Int32} {x3 : Int32} {μ : zMem} (h : pX9_view d x1 x2 x3 μ KI X) : Wr mX9_view (d + 1) 0 0 [(0, .ref 106), (1, .int x1), (2, .int x2), (3, .int x3)] [] μ (kI KI X) := by
  unfold pX9_view at h
  refine Wr_aload_n dX9_view_0 rfl 0 rfl ?_
  refine Wr_iconstv (v := 0) dX9_view_1 (by decide) ?_
  obtain ⟨m1, em1⟩ : ∃ z : zMem, z = zw μ 106 3 0 := ⟨_, rfl⟩
  have h := h m1 em1
  refine Wr_putI dX9_view_2 fpX9_155 zl106 rfl ?_
  refine Wr_mu em1 ?_
  refine Wr_aload_n dX9_view_5 rfl 0 rfl ?_
  refine Wr_iload_n dX9_view_6 rfl 1 rfl ?_
  refine Wr_cVi [.int x1] dX9_view_7 mlX9_384 mgX9_isIsle rfl mvX9_isIsle (zrv zl106 _ rfl rfl) rfl rfl (Nat.le_of_ble_eq_true rfl) rfl (zcI.imp h (fun u3 m2 h => ?_) (fun _ _ h => ⟨rfl, h⟩))
  refine Wr_if_eq 32 dX9_view_10 (by decide) (fun hc => ?_) (fun hc => ?_)
  · have h := h.1 hc
    refine zsub [0] rfl ?_
    exact wX9_view_32 h
  · have h := h.2 hc
    refine Wr_iload_n dX9_view_13 rfl 2 rfl ?_
    refine Wr_cSi [.int x2] dX9_view_14 mlX9_389 mgX9_isHour rfl msX9_isHour  rfl rfl (Nat.le_of_ble_eq_true rfl) rfl (zcI.imp h (fun u5 m4 h => ?_) (fun _ _ h => ⟨rfl, h⟩))
    refine Wr_if_eq 32 dX9_view_17 (by decide) (fun hc => ?_) (fun hc => ?_)
    · have h := h.1 hc
      refine zsub [0] rfl ?_
      exact wX9_view_32 h
    · have h := h.2 hc
      refine Wr_iload_n dX9_view_20 rfl 3 rfl ?_
      refine Wr_i2l dX9_view_21 ?_
      refine Wr_lconst (v := 0) dX9_view_22 (by decide) ?_
      refine Wr_ldc2 dX9_view_23 lcX9_473 ?_
      refine Wr_cSi [.long x3.toInt64, .long 0, .long 2] dX9_view_26 mlX9_158 mgX9_isIn rfl msX9_isIn  rfl rfl (Nat.le_of_ble_eq_true rfl) rfl (zcI.imp h (fun u7 m6 h => ?_) (fun _ _ h => ⟨rfl, h⟩))
      refine Wr_if_ne 38 dX9_view_29 (by decide) (fun hc => ?_) (fun hc => ?_)
      · have h := h.2 hc
        refine Wr_aload_n dX9_view_38 rfl 0 rfl ?_
        refine Wr_iload_n dX9_view_39 rfl 1 rfl ?_
        refine Wr_iconstv (v := 3) dX9_view_40 (by decide) ?_
        refine Wr_cVi [.int x1, .int 3] dX9_view_41 mlX9_330 mgX9_of rfl mvX9_of (zrv zl106 _ rfl rfl) rfl rfl (Nat.le_of_ble_eq_true rfl) rfl (zcI.imp h (fun u9 m8 h => ?_) (fun _ _ h => ⟨rfl, h⟩))
        refine Wr_istore dX9_view_44 (by decide) rfl ?_
        refine Wr_iconstv (v := 0) dX9_view_46 (by decide) ?_
        refine Wr_istore dX9_view_47 (by decide) rfl ?_
        refine Wr_iconstv (v := (-1)) dX9_view_49 (by decide) ?_
        refine Wr_istore dX9_view_50 (by decide) rfl ?_
        refine Wr_iconstv (v := 0) dX9_view_52 (by decide) ?_
        refine Wr_istore dX9_view_53 (by decide) rfl ?_
        refine zsub [0, 1, 2, 3, 4, 5, 6, 7] rfl ?_
        obtain ⟨n9, h⟩ := h
        exact wX9_view_55 n9 _ _ _ _ _ _ _ _ h
      · have h := h.1 hc
        refine zsub [0] rfl ?_
        exact wX9_view_32 h
theorem cX9_view_ {d : Nat} {x1 : Int32} {x2 : Int32} {x3 : Int32} {μ : zMem} {KI : Int32 → zMem → Prop} {X : Nat → zMem → Prop} (h : pX9_view d x1 x2 x3 μ KI X) : zcI (d + 1) mX9_view [.ref 106, .int x1, .int x2, .int x3] μ KI X :=
  Ex_of (w := 4) mgX9_view.2.2.2.2.2 rfl rfl rfl (by decide) (wX9_view_0 h)

def pX9_tellDebts_40 : Nat → Nat → Int32 → Int32 → Int32 → zMem → (zMem → Prop) → (Nat → zMem → Prop) → (Int32 → Int32 → zMem → Prop) → Prop
  | 0, _, _, _, _, _, _, _, _ => False
  | n + 1, d, x2, x3, x4, μ, KV, X, C26 =>
  ((μ 110 0 ≤ x4 → ∀ v1 : Int32, v1 = x3 + 1 → C26 x2 v1 μ) ∧
  (¬ (μ 110 0 ≤ x4) → zcI d mX9_rainOf [.ref 106, .int x4] μ (fun u3 m2 => ((u3 = (-1) → ∀ v4 : Int32, v4 = x4 + 1 → pX9_tellDebts_40 n d x2 x3 v4 m2 KV X C26) ∧
    (¬ (u3 = (-1)) → zcI d mX9_rainOf [.ref 106, .int x4] m2 (fun u6 m5 => (vp_in ((6 * x4) + u6) 36) ∧ (vp_in ((6 * x4) + u6) 36) ∧ ∀ m7 : zMem, m7 = zw m5 135 ((6 * x4) + u6).toNatClampNeg ((m5 135 ((6 * x4) + u6).toNatClampNeg) + 1) → ∀ v8 : Int32, v8 = x4 + 1 → pX9_tellDebts_40 n d x2 x3 v8 m7 KV X C26) X))) X))
set_option maxRecDepth 20000 in
theorem wX9_tellDebts_40 {d : Nat} {KV : zMem → Prop} {X : Nat → zMem → Prop} {C26 : Int32 → Int32 → zMem → Prop} (hC26 : ∀ (x2 : Int32) (x3 : Int32) (μ : zMem), C26 x2 x3 μ → Wr mX9_tellDebts (d + 1) 0 26 [(0, .ref 106), (2, .int x2), (3, .int x3)] [] μ (kV KV X)) : ∀ (n : Nat) (x2 : Int32) (x3 : Int32) (x4 : Int32) (μ : zMem), pX9_tellDebts_40 n d x2 x3 x4 μ KV X C26 → Wr mX9_tellDebts (d + 1) 0 40 [(0, .ref 106), (2, .int x2), (3, .int x3), (4, .int x4)] [] μ (kV KV X) := by
  intro n
  induction n with
  | zero =>
    intro x2 x3 x4 μ h
    exact absurd h id
  | succ n ih =>
    intro x2 x3 x4 μ h
    unfold pX9_tellDebts_40 at h
    refine Wr_iload dX9_tellDebts_40 3 rfl ?_
    refine Wr_aload_n dX9_tellDebts_42 rfl 0 rfl ?_
    refine Wr_getR 4 dX9_tellDebts_43 flX9_51 zl106 rfl (by decide) ?_
    refine Wr_iconstv (v := 0) dX9_tellDebts_46 (by decide) ?_
    refine Wr_iald dX9_tellDebts_47 zl110 (by unfold vp_in; decide) ?_
    refine Wr_icmp_ge 88 dX9_tellDebts_48 (by decide) (fun hc => ?_) (fun hc => ?_)
    · have h := h.1 hc
      obtain ⟨v1, ev1⟩ : ∃ z : Int32, z = x3 + 1 := ⟨_, rfl⟩
      have h := h v1 ev1
      refine Wr_iinc (v := v1) dX9_tellDebts_88 (q := 2) rfl (by rw [ev1]; rfl) (by decide) rfl ?_
      refine Wr_goto 26 dX9_tellDebts_91 (by decide) ?_
      refine zsub [0, 2, 3] rfl ?_
      exact hC26 _ _ _ h
    · have h := h.2 hc
      refine Wr_aload_n dX9_tellDebts_51 rfl 0 rfl ?_
      refine Wr_iload dX9_tellDebts_52 3 rfl ?_
      refine Wr_cVi [.int x4] dX9_tellDebts_54 mlX9_404 mgX9_rainOf rfl mvX9_rainOf (zrv zl106 _ rfl rfl) rfl rfl (Nat.le_of_ble_eq_true rfl) rfl (zcI.imp h (fun u3 m2 h => ?_) (fun _ _ h => ⟨rfl, h⟩))
      refine Wr_iconstv (v := (-1)) dX9_tellDebts_57 (by decide) ?_
      refine Wr_icmp_eq 82 dX9_tellDebts_58 (by decide) (fun hc => ?_) (fun hc => ?_)
      · have h := h.1 hc
        obtain ⟨v4, ev4⟩ : ∃ z : Int32, z = x4 + 1 := ⟨_, rfl⟩
        have h := h v4 ev4
        refine Wr_iinc (v := v4) dX9_tellDebts_82 (q := 3) rfl (by rw [ev4]; rfl) (by decide) rfl ?_
        refine Wr_goto 40 dX9_tellDebts_85 (by decide) ?_
        refine zsub [0, 2, 3, 4] rfl ?_
        exact ih _ _ _ _ h
      · have h := h.2 hc
        refine Wr_aload_n dX9_tellDebts_61 rfl 0 rfl ?_
        refine Wr_getR 29 dX9_tellDebts_62 flX9_131 zl106 rfl (by decide) ?_
        refine Wr_bipush (v := 6) dX9_tellDebts_65 (by decide) ?_
        refine Wr_iload dX9_tellDebts_67 3 rfl ?_
        refine Wr_imul dX9_tellDebts_69 ?_
        refine Wr_aload_n dX9_tellDebts_70 rfl 0 rfl ?_
        refine Wr_iload dX9_tellDebts_71 3 rfl ?_
        refine Wr_cVi [.int x4] dX9_tellDebts_73 mlX9_404 mgX9_rainOf rfl mvX9_rainOf (zrv zl106 _ rfl rfl) rfl rfl (Nat.le_of_ble_eq_true rfl) rfl (zcI.imp h (fun u6 m5 h => ?_) (fun _ _ h => ⟨rfl, h⟩))
        refine Wr_iadd dX9_tellDebts_76 ?_
        refine Wr_dup2 dX9_tellDebts_77 rfl rfl ?_
        obtain ⟨hi, h⟩ := h
        refine Wr_iald dX9_tellDebts_78 zl135 hi ?_
        refine Wr_iconstv (v := 1) dX9_tellDebts_79 (by decide) ?_
        refine Wr_iadd dX9_tellDebts_80 ?_
        obtain ⟨him7, h⟩ := h
        obtain ⟨m7, em7⟩ : ∃ z : zMem, z = zw m5 135 ((6 * x4) + u6).toNatClampNeg ((m5 135 ((6 * x4) + u6).toNatClampNeg) + 1) := ⟨_, rfl⟩
        have h := h m7 em7
        refine Wr_iast dX9_tellDebts_81 zl135 him7 ?_
        refine Wr_mu em7 ?_
        obtain ⟨v8, ev8⟩ : ∃ z : Int32, z = x4 + 1 := ⟨_, rfl⟩
        have h := h v8 ev8
        refine Wr_iinc (v := v8) dX9_tellDebts_82 (q := 3) rfl (by rw [ev8]; rfl) (by decide) rfl ?_
        refine Wr_goto 40 dX9_tellDebts_85 (by decide) ?_
        refine zsub [0, 2, 3, 4] rfl ?_
        exact ih _ _ _ _ h
def pX9_tellDebts_26 : Nat → Nat → Int32 → Int32 → zMem → (zMem → Prop) → (Nat → zMem → Prop) → Prop
  | 0, _, _, _, _, _, _ => False
  | n + 1, d, x2, x3, μ, KV, X =>
  ((x2 < x3 → KV μ) ∧
  (¬ (x2 < x3) → zcV d mX9_tellHour [.ref 106, .int x3, .int 0] μ (fun m1 => ∃ n2 : Nat, pX9_tellDebts_40 n2 d x2 x3 0 m1 KV X (fun z0 z1 m => pX9_tellDebts_26 n d z0 z1 m KV X)) X))
set_option maxRecDepth 20000 in
theorem wX9_tellDebts_26 {d : Nat} {KV : zMem → Prop} {X : Nat → zMem → Prop} : ∀ (n : Nat) (x2 : Int32) (x3 : Int32) (μ : zMem), pX9_tellDebts_26 n d x2 x3 μ KV X → Wr mX9_tellDebts (d + 1) 0 26 [(0, .ref 106), (2, .int x2), (3, .int x3)] [] μ (kV KV X) := by
  intro n
  induction n with
  | zero =>
    intro x2 x3 μ h
    exact absurd h id
  | succ n ih =>
    intro x2 x3 μ h
    unfold pX9_tellDebts_26 at h
    refine Wr_iload_n dX9_tellDebts_26 rfl 2 rfl ?_
    refine Wr_iload_n dX9_tellDebts_27 rfl 1 rfl ?_
    refine Wr_icmp_gt 94 dX9_tellDebts_28 (by decide) (fun hc => ?_) (fun hc => ?_)
    · have h := h.1 hc
      exact Wr_vret dX9_tellDebts_94 rfl ⟨rfl, h⟩
    · have h := h.2 hc
      refine Wr_aload_n dX9_tellDebts_31 rfl 0 rfl ?_
      refine Wr_iload_n dX9_tellDebts_32 rfl 2 rfl ?_
      refine Wr_iconstv (v := 0) dX9_tellDebts_33 (by decide) ?_
      refine Wr_cVv [.int x3, .int 0] dX9_tellDebts_34 mlX9_392 mgX9_tellHour rfl mvX9_tellHour (zrv zl106 _ rfl rfl) rfl rfl (Nat.le_of_ble_eq_true rfl) rfl (zcV.imp h (fun m1 h => ?_) (fun _ _ h => ⟨rfl, h⟩))
      refine Wr_iconstv (v := 0) dX9_tellDebts_37 (by decide) ?_
      refine Wr_istore dX9_tellDebts_38 (by decide) rfl ?_
      refine zsub [0, 2, 3, 4] rfl ?_
      obtain ⟨n9, h⟩ := h
      exact wX9_tellDebts_40 (fun z0 z1 m h => ih z0 z1 m h) n9 _ _ _ _ h
def pX9_tellDebts_2 : Nat → Nat → Int32 → Int32 → Int32 → zMem → (zMem → Prop) → (Nat → zMem → Prop) → Prop
  | 0, _, _, _, _, _, _, _ => False
  | n + 1, d, x1, x2, x3, μ, KV, X =>
  ((36 ≤ x3 → ∃ n2 : Nat, pX9_tellDebts_26 n2 d x2 x1 μ KV X) ∧
  (¬ (36 ≤ x3) → (vp_in x3 36) ∧ ∀ m1 : zMem, m1 = zw μ 135 x3.toNatClampNeg 0 → ∀ v2 : Int32, v2 = x3 + 1 → pX9_tellDebts_2 n d x1 x2 v2 m1 KV X))
set_option maxRecDepth 20000 in
theorem wX9_tellDebts_2 {d : Nat} {KV : zMem → Prop} {X : Nat → zMem → Prop} : ∀ (n : Nat) (x1 : Int32) (x2 : Int32) (x3 : Int32) (μ : zMem), pX9_tellDebts_2 n d x1 x2 x3 μ KV X → Wr mX9_tellDebts (d + 1) 0 2 [(0, .ref 106), (1, .int x1), (2, .int x2), (3, .int x3)] [] μ (kV KV X) := by
  intro n
  induction n with
  | zero =>
    intro x1 x2 x3 μ h
    exact absurd h id
  | succ n ih =>
    intro x1 x2 x3 μ h
    unfold pX9_tellDebts_2 at h
    refine Wr_iload_n dX9_tellDebts_2 rfl 3 rfl ?_
    refine Wr_aload_n dX9_tellDebts_3 rfl 0 rfl ?_
    refine Wr_getR 29 dX9_tellDebts_4 flX9_131 zl106 rfl (by decide) ?_
    refine Wr_alen dX9_tellDebts_7 zl135 (by decide) ?_
    refine Wr_icmp_ge 24 dX9_tellDebts_8 (by decide) (fun hc => ?_) (fun hc => ?_)
    · have h := h.1 hc
      refine Wr_iload_n dX9_tellDebts_24 rfl 1 rfl ?_
      refine Wr_istore_n dX9_tellDebts_25 rfl (by decide) rfl ?_
      refine zsub [0, 2, 3] rfl ?_
      obtain ⟨n9, h⟩ := h
      exact wX9_tellDebts_26 n9 _ _ _ h
    · have h := h.2 hc
      refine Wr_aload_n dX9_tellDebts_11 rfl 0 rfl ?_
      refine Wr_getR 29 dX9_tellDebts_12 flX9_131 zl106 rfl (by decide) ?_
      refine Wr_iload_n dX9_tellDebts_15 rfl 3 rfl ?_
      refine Wr_iconstv (v := 0) dX9_tellDebts_16 (by decide) ?_
      obtain ⟨him1, h⟩ := h
      obtain ⟨m1, em1⟩ : ∃ z : zMem, z = zw μ 135 x3.toNatClampNeg 0 := ⟨_, rfl⟩
      have h := h m1 em1
      refine Wr_iast dX9_tellDebts_17 zl135 him1 ?_
      refine Wr_mu em1 ?_
      obtain ⟨v2, ev2⟩ : ∃ z : Int32, z = x3 + 1 := ⟨_, rfl⟩
      have h := h v2 ev2
      refine Wr_iinc (v := v2) dX9_tellDebts_18 (q := 3) rfl (by rw [ev2]; rfl) (by decide) rfl ?_
      refine Wr_goto 2 dX9_tellDebts_21 (by decide) ?_
      refine zsub [0, 1, 2, 3] rfl ?_
      exact ih _ _ _ _ h
def pX9_tellDebts (d : Nat) (x1 : Int32) (x2 : Int32) (μ : zMem) (KV : zMem → Prop) (X : Nat → zMem → Prop) : Prop :=
  ∃ n2 : Nat, pX9_tellDebts_2 n2 d x1 x2 0 μ KV X
set_option maxRecDepth 20000 in
theorem wX9_tellDebts_0 {d : Nat} {KV : zMem → Prop} {X : Nat → zMem → Prop} {x1 : Int32} {x2 : Int32} {μ : zMem} (h : pX9_tellDebts d x1 x2 μ KV X) : Wr mX9_tellDebts (d + 1) 0 0 [(0, .ref 106), (1, .int x1), (2, .int x2)] [] μ (kV KV X) := by
  unfold pX9_tellDebts at h
  refine Wr_iconstv (v := 0) dX9_tellDebts_0 (by decide) ?_
  refine Wr_istore_n dX9_tellDebts_1 rfl (by decide) rfl ?_
  refine zsub [0, 1, 2, 3] rfl ?_
  obtain ⟨n9, h⟩ := h
  exact wX9_tellDebts_2 n9 _ _ _ _ h
theorem cX9_tellDebts_ {d : Nat} {x1 : Int32} {x2 : Int32} {μ : zMem} {KV : zMem → Prop} {X : Nat → zMem → Prop} (h : pX9_tellDebts d x1 x2 μ KV X) : zcV (d + 1) mX9_tellDebts [.ref 106, .int x1, .int x2] μ KV X :=
  Ex_of (w := 3) mgX9_tellDebts.2.2.2.2.2 rfl rfl rfl (by decide) (wX9_tellDebts_0 h)

def pX9_still (d : Nat) (x1 : Int32) (x2 : Int32) (μ : zMem) (KI : Int32 → zMem → Prop) (X : Nat → zMem → Prop) : Prop :=
  (vp_in ((6 * x1) + x2) 36) ∧ (vp_in ((6 * x2) + x1) 36) ∧ KI (zmax 0 ((μ 135 ((6 * x1) + x2).toNatClampNeg) - (μ 135 ((6 * x2) + x1).toNatClampNeg))) μ
set_option maxRecDepth 20000 in
theorem wX9_still_0 {d : Nat} {KI : Int32 → zMem → Prop} {X : Nat → zMem → Prop} {x1 : Int32} {x2 : Int32} {μ : zMem} (h : pX9_still d x1 x2 μ KI X) : Wr mX9_still (d + 1) 0 0 [(0, .ref 106), (1, .int x1), (2, .int x2)] [] μ (kI KI X) := by
  unfold pX9_still at h
  refine Wr_iconstv (v := 0) dX9_still_0 (by decide) ?_
  refine Wr_aload_n dX9_still_1 rfl 0 rfl ?_
  refine Wr_getR 29 dX9_still_2 flX9_131 zl106 rfl (by decide) ?_
  refine Wr_bipush (v := 6) dX9_still_5 (by decide) ?_
  refine Wr_iload_n dX9_still_7 rfl 1 rfl ?_
  refine Wr_imul dX9_still_8 ?_
  refine Wr_iload_n dX9_still_9 rfl 2 rfl ?_
  refine Wr_iadd dX9_still_10 ?_
  obtain ⟨hi, h⟩ := h
  refine Wr_iald dX9_still_11 zl135 hi ?_
  refine Wr_aload_n dX9_still_12 rfl 0 rfl ?_
  refine Wr_getR 29 dX9_still_13 flX9_131 zl106 rfl (by decide) ?_
  refine Wr_bipush (v := 6) dX9_still_16 (by decide) ?_
  refine Wr_iload_n dX9_still_18 rfl 2 rfl ?_
  refine Wr_imul dX9_still_19 ?_
  refine Wr_iload_n dX9_still_20 rfl 1 rfl ?_
  refine Wr_iadd dX9_still_21 ?_
  obtain ⟨hi, h⟩ := h
  refine Wr_iald dX9_still_22 zl135 hi ?_
  refine Wr_isub dX9_still_23 ?_
  refine Wr_mmax dX9_still_24 mlX9_333 (Nat.le_of_ble_eq_true rfl) ?_
  exact Wr_iret .int dX9_still_27 rfl rfl ⟨rfl, h⟩
theorem cX9_still_ {d : Nat} {x1 : Int32} {x2 : Int32} {μ : zMem} {KI : Int32 → zMem → Prop} {X : Nat → zMem → Prop} (h : pX9_still d x1 x2 μ KI X) : zcI (d + 1) mX9_still [.ref 106, .int x1, .int x2] μ KI X :=
  Ex_of (w := 3) mgX9_still.2.2.2.2.2 rfl rfl rfl (by decide) (wX9_still_0 h)

def pX9_debt_21 (d : Nat) (μ : zMem) (KI : Int32 → zMem → Prop) (X : Nat → zMem → Prop) : Prop :=
  zcI d mX9_fail [.ref 106, .int 1] μ (fun u2 m1 => KI u2 m1) X
set_option maxRecDepth 20000 in
theorem wX9_debt_21 {d : Nat} {KI : Int32 → zMem → Prop} {X : Nat → zMem → Prop} {μ : zMem} (h : pX9_debt_21 d μ KI X) : Wr mX9_debt (d + 1) 0 21 [(0, .ref 106)] [] μ (kI KI X) := by
  unfold pX9_debt_21 at h
  refine Wr_aload_n dX9_debt_21 rfl 0 rfl ?_
  refine Wr_iconstv (v := 1) dX9_debt_22 (by decide) ?_
  refine Wr_cVi [.int 1] dX9_debt_23 mlX9_297 mgX9_fail rfl mvX9_fail (zrv zl106 _ rfl rfl) rfl rfl (Nat.le_of_ble_eq_true rfl) rfl (zcI.imp h (fun u2 m1 h => ?_) (fun _ _ h => ⟨rfl, h⟩))
  exact Wr_iret .int dX9_debt_26 rfl rfl ⟨rfl, h⟩
def pX9_debt_41 (d : Nat) (μ : zMem) (KI : Int32 → zMem → Prop) (X : Nat → zMem → Prop) : Prop :=
  zcI d mX9_fail [.ref 106, .int 2] μ (fun u2 m1 => KI u2 m1) X
set_option maxRecDepth 20000 in
theorem wX9_debt_41 {d : Nat} {KI : Int32 → zMem → Prop} {X : Nat → zMem → Prop} {μ : zMem} (h : pX9_debt_41 d μ KI X) : Wr mX9_debt (d + 1) 0 41 [(0, .ref 106)] [] μ (kI KI X) := by
  unfold pX9_debt_41 at h
  refine Wr_aload_n dX9_debt_41 rfl 0 rfl ?_
  refine Wr_iconstv (v := 2) dX9_debt_42 (by decide) ?_
  refine Wr_cVi [.int 2] dX9_debt_43 mlX9_297 mgX9_fail rfl mvX9_fail (zrv zl106 _ rfl rfl) rfl rfl (Nat.le_of_ble_eq_true rfl) rfl (zcI.imp h (fun u2 m1 h => ?_) (fun _ _ h => ⟨rfl, h⟩))
  exact Wr_iret .int dX9_debt_46 rfl rfl ⟨rfl, h⟩
def pX9_debt (d : Nat) (x1 : Int32) (x2 : Int32) (x3 : Int32) (x4 : Int32) (μ : zMem) (KI : Int32 → zMem → Prop) (X : Nat → zMem → Prop) : Prop :=
  ∀ m1 : zMem, m1 = zw μ 106 3 0 → zcI d mX9_isIsle [.ref 106, .int x1] m1 (fun u3 m2 => ((u3 = 0 → pX9_debt_21 d m2 KI X) ∧
  (¬ (u3 = 0) → zcI d mX9_isIsle [.ref 106, .int x2] m2 (fun u5 m4 => ((u5 = 0 → pX9_debt_21 d m4 KI X) ∧
    (¬ (u5 = 0) → zcI d mX9_isSpan [.int x3, .int x4] m4 (fun u7 m6 => ((u7 = 0 → pX9_debt_41 d m6 KI X) ∧
      (¬ (u7 = 0) → ((x1 = x2 → pX9_debt_41 d m6 KI X) ∧
        (¬ (x1 = x2) → zcV d mX9_tellDebts [.ref 106, .int x3, .int x4] m6 (fun m8 => zcI d mX9_still [.ref 106, .int x1, .int x2] m8 (fun u10 m9 => KI u10 m9) X) X))))) X))) X))) X
set_option maxRecDepth 20000 in
theorem wX9_debt_0 {d : Nat} {KI : Int32 → zMem → Prop} {X : Nat → zMem → Prop} {x1 : Int32} {x2 : Int32} {x3 : Int32} {x4 : Int32} {μ : zMem} (h : pX9_debt d x1 x2 x3 x4 μ KI X) : Wr mX9_debt (d + 1) 0 0 [(0, .ref 106), (1, .int x1), (2, .int x2), (3, .int x3), (4, .int x4)] [] μ (kI KI X) := by
  unfold pX9_debt at h
  refine Wr_aload_n dX9_debt_0 rfl 0 rfl ?_
  refine Wr_iconstv (v := 0) dX9_debt_1 (by decide) ?_
  obtain ⟨m1, em1⟩ : ∃ z : zMem, z = zw μ 106 3 0 := ⟨_, rfl⟩
  have h := h m1 em1
  refine Wr_putI dX9_debt_2 fpX9_155 zl106 rfl ?_
  refine Wr_mu em1 ?_
  refine Wr_aload_n dX9_debt_5 rfl 0 rfl ?_
  refine Wr_iload_n dX9_debt_6 rfl 1 rfl ?_
  refine Wr_cVi [.int x1] dX9_debt_7 mlX9_384 mgX9_isIsle rfl mvX9_isIsle (zrv zl106 _ rfl rfl) rfl rfl (Nat.le_of_ble_eq_true rfl) rfl (zcI.imp h (fun u3 m2 h => ?_) (fun _ _ h => ⟨rfl, h⟩))
  refine Wr_if_eq 21 dX9_debt_10 (by decide) (fun hc => ?_) (fun hc => ?_)
  · have h := h.1 hc
    refine zsub [0] rfl ?_
    exact wX9_debt_21 h
  · have h := h.2 hc
    refine Wr_aload_n dX9_debt_13 rfl 0 rfl ?_
    refine Wr_iload_n dX9_debt_14 rfl 2 rfl ?_
    refine Wr_cVi [.int x2] dX9_debt_15 mlX9_384 mgX9_isIsle rfl mvX9_isIsle (zrv zl106 _ rfl rfl) rfl rfl (Nat.le_of_ble_eq_true rfl) rfl (zcI.imp h (fun u5 m4 h => ?_) (fun _ _ h => ⟨rfl, h⟩))
    refine Wr_if_ne 27 dX9_debt_18 (by decide) (fun hc => ?_) (fun hc => ?_)
    · have h := h.2 hc
      refine Wr_iload_n dX9_debt_27 rfl 3 rfl ?_
      refine Wr_iload dX9_debt_28 4 rfl ?_
      refine Wr_cSi [.int x3, .int x4] dX9_debt_30 mlX9_418 mgX9_isSpan rfl msX9_isSpan  rfl rfl (Nat.le_of_ble_eq_true rfl) rfl (zcI.imp h (fun u7 m6 h => ?_) (fun _ _ h => ⟨rfl, h⟩))
      refine Wr_if_eq 41 dX9_debt_33 (by decide) (fun hc => ?_) (fun hc => ?_)
      · have h := h.1 hc
        refine zsub [0] rfl ?_
        exact wX9_debt_41 h
      · have h := h.2 hc
        refine Wr_iload_n dX9_debt_36 rfl 1 rfl ?_
        refine Wr_iload_n dX9_debt_37 rfl 2 rfl ?_
        refine Wr_icmp_ne 47 dX9_debt_38 (by decide) (fun hc => ?_) (fun hc => ?_)
        · have h := h.2 hc
          refine Wr_aload_n dX9_debt_47 rfl 0 rfl ?_
          refine Wr_iload_n dX9_debt_48 rfl 3 rfl ?_
          refine Wr_iload dX9_debt_49 4 rfl ?_
          refine Wr_cVv [.int x3, .int x4] dX9_debt_51 mlX9_478 mgX9_tellDebts rfl mvX9_tellDebts (zrv zl106 _ rfl rfl) rfl rfl (Nat.le_of_ble_eq_true rfl) rfl (zcV.imp h (fun m8 h => ?_) (fun _ _ h => ⟨rfl, h⟩))
          refine Wr_aload_n dX9_debt_54 rfl 0 rfl ?_
          refine Wr_iload_n dX9_debt_55 rfl 1 rfl ?_
          refine Wr_iload_n dX9_debt_56 rfl 2 rfl ?_
          refine Wr_cVi [.int x1, .int x2] dX9_debt_57 mlX9_481 mgX9_still rfl mvX9_still (zrv zl106 _ rfl rfl) rfl rfl (Nat.le_of_ble_eq_true rfl) rfl (zcI.imp h (fun u10 m9 h => ?_) (fun _ _ h => ⟨rfl, h⟩))
          exact Wr_iret .int dX9_debt_60 rfl rfl ⟨rfl, h⟩
        · have h := h.1 hc
          refine zsub [0] rfl ?_
          exact wX9_debt_41 h
    · have h := h.1 hc
      refine zsub [0] rfl ?_
      exact wX9_debt_21 h
theorem cX9_debt_ {d : Nat} {x1 : Int32} {x2 : Int32} {x3 : Int32} {x4 : Int32} {μ : zMem} {KI : Int32 → zMem → Prop} {X : Nat → zMem → Prop} (h : pX9_debt d x1 x2 x3 x4 μ KI X) : zcI (d + 1) mX9_debt [.ref 106, .int x1, .int x2, .int x3, .int x4] μ KI X :=
  Ex_of (w := 5) mgX9_debt.2.2.2.2.2 rfl rfl rfl (by decide) (wX9_debt_0 h)

def pX9_rich_50 : Nat → Nat → Int32 → Int32 → Int32 → Int32 → Int32 → zMem → (Int32 → zMem → Prop) → (Nat → zMem → Prop) → (Int32 → Int32 → Int32 → zMem → Prop) → Prop
  | 0, _, _, _, _, _, _, _, _, _, _ => False
  | n + 1, d, x3, x4, x5, x6, x7, μ, KI, X, C33 =>
  ((μ 110 0 ≤ x7 → ((x4 < x6 → ∀ v1 : Int32, v1 = x5 + 1 → C33 x5 x6 v1 μ) ∧
    (¬ (x4 < x6) → ∀ v2 : Int32, v2 = x5 + 1 → C33 x3 x4 v2 μ))) ∧
  (¬ (μ 110 0 ≤ x7) → zcI d mX9_still [.ref 106, .int x7, .int x5] μ (fun u4 m3 => ∀ v5 : Int32, v5 = x7 + 1 → pX9_rich_50 n d x3 x4 x5 (x6 + u4) v5 m3 KI X C33) X))
set_option maxRecDepth 20000 in
theorem wX9_rich_50 {d : Nat} {KI : Int32 → zMem → Prop} {X : Nat → zMem → Prop} {C33 : Int32 → Int32 → Int32 → zMem → Prop} (hC33 : ∀ (x3 : Int32) (x4 : Int32) (x5 : Int32) (μ : zMem), C33 x3 x4 x5 μ → Wr mX9_rich (d + 1) 0 33 [(0, .ref 106), (3, .int x3), (4, .int x4), (5, .int x5)] [] μ (kI KI X)) : ∀ (n : Nat) (x3 : Int32) (x4 : Int32) (x5 : Int32) (x6 : Int32) (x7 : Int32) (μ : zMem), pX9_rich_50 n d x3 x4 x5 x6 x7 μ KI X C33 → Wr mX9_rich (d + 1) 0 50 [(0, .ref 106), (3, .int x3), (4, .int x4), (5, .int x5), (6, .int x6), (7, .int x7)] [] μ (kI KI X) := by
  intro n
  induction n with
  | zero =>
    intro x3 x4 x5 x6 x7 μ h
    exact absurd h id
  | succ n ih =>
    intro x3 x4 x5 x6 x7 μ h
    unfold pX9_rich_50 at h
    refine Wr_iload dX9_rich_50 5 rfl ?_
    refine Wr_aload_n dX9_rich_52 rfl 0 rfl ?_
    refine Wr_getR 4 dX9_rich_53 flX9_51 zl106 rfl (by decide) ?_
    refine Wr_iconstv (v := 0) dX9_rich_56 (by decide) ?_
    refine Wr_iald dX9_rich_57 zl110 (by unfold vp_in; decide) ?_
    refine Wr_icmp_ge 80 dX9_rich_58 (by decide) (fun hc => ?_) (fun hc => ?_)
    · have h := h.1 hc
      refine Wr_iload dX9_rich_80 4 rfl ?_
      refine Wr_iload dX9_rich_82 2 rfl ?_
      refine Wr_icmp_gt 90 dX9_rich_84 (by decide) (fun hc => ?_) (fun hc => ?_)
      · have h := h.1 hc
        refine Wr_iload dX9_rich_90 3 rfl ?_
        refine Wr_istore_n dX9_rich_92 rfl (by decide) rfl ?_
        refine Wr_iload dX9_rich_93 4 rfl ?_
        refine Wr_istore dX9_rich_95 (by decide) rfl ?_
        obtain ⟨v1, ev1⟩ : ∃ z : Int32, z = x5 + 1 := ⟨_, rfl⟩
        have h := h v1 ev1
        refine Wr_iinc (v := v1) dX9_rich_97 (q := 3) rfl (by rw [ev1]; rfl) (by decide) rfl ?_
        refine Wr_goto 33 dX9_rich_100 (by decide) ?_
        refine zsub [0, 3, 4, 5] rfl ?_
        exact hC33 _ _ _ _ h
      · have h := h.2 hc
        refine Wr_goto 97 dX9_rich_87 (by decide) ?_
        obtain ⟨v2, ev2⟩ : ∃ z : Int32, z = x5 + 1 := ⟨_, rfl⟩
        have h := h v2 ev2
        refine Wr_iinc (v := v2) dX9_rich_97 (q := 3) rfl (by rw [ev2]; rfl) (by decide) rfl ?_
        refine Wr_goto 33 dX9_rich_100 (by decide) ?_
        refine zsub [0, 3, 4, 5] rfl ?_
        exact hC33 _ _ _ _ h
    · have h := h.2 hc
      refine Wr_iload dX9_rich_61 4 rfl ?_
      refine Wr_aload_n dX9_rich_63 rfl 0 rfl ?_
      refine Wr_iload dX9_rich_64 5 rfl ?_
      refine Wr_iload dX9_rich_66 3 rfl ?_
      refine Wr_cVi [.int x7, .int x5] dX9_rich_68 mlX9_481 mgX9_still rfl mvX9_still (zrv zl106 _ rfl rfl) rfl rfl (Nat.le_of_ble_eq_true rfl) rfl (zcI.imp h (fun u4 m3 h => ?_) (fun _ _ h => ⟨rfl, h⟩))
      refine Wr_iadd dX9_rich_71 ?_
      refine Wr_istore dX9_rich_72 (by decide) rfl ?_
      obtain ⟨v5, ev5⟩ : ∃ z : Int32, z = x7 + 1 := ⟨_, rfl⟩
      have h := h v5 ev5
      refine Wr_iinc (v := v5) dX9_rich_74 (q := 5) rfl (by rw [ev5]; rfl) (by decide) rfl ?_
      refine Wr_goto 50 dX9_rich_77 (by decide) ?_
      refine zsub [0, 3, 4, 5, 6, 7] rfl ?_
      exact ih _ _ _ _ _ _ h
def pX9_rich_33 : Nat → Nat → Int32 → Int32 → Int32 → zMem → (Int32 → zMem → Prop) → (Nat → zMem → Prop) → Prop
  | 0, _, _, _, _, _, _, _ => False
  | n + 1, d, x3, x4, x5, μ, KI, X =>
  ((μ 110 0 ≤ x5 → KI x3 μ) ∧
  (¬ (μ 110 0 ≤ x5) → ∃ n2 : Nat, pX9_rich_50 n2 d x3 x4 x5 0 0 μ KI X (fun z0 z1 z2 m => pX9_rich_33 n d z0 z1 z2 m KI X)))
set_option maxRecDepth 20000 in
theorem wX9_rich_33 {d : Nat} {KI : Int32 → zMem → Prop} {X : Nat → zMem → Prop} : ∀ (n : Nat) (x3 : Int32) (x4 : Int32) (x5 : Int32) (μ : zMem), pX9_rich_33 n d x3 x4 x5 μ KI X → Wr mX9_rich (d + 1) 0 33 [(0, .ref 106), (3, .int x3), (4, .int x4), (5, .int x5)] [] μ (kI KI X) := by
  intro n
  induction n with
  | zero =>
    intro x3 x4 x5 μ h
    exact absurd h id
  | succ n ih =>
    intro x3 x4 x5 μ h
    unfold pX9_rich_33 at h
    refine Wr_iload dX9_rich_33 3 rfl ?_
    refine Wr_aload_n dX9_rich_35 rfl 0 rfl ?_
    refine Wr_getR 4 dX9_rich_36 flX9_51 zl106 rfl (by decide) ?_
    refine Wr_iconstv (v := 0) dX9_rich_39 (by decide) ?_
    refine Wr_iald dX9_rich_40 zl110 (by unfold vp_in; decide) ?_
    refine Wr_icmp_ge 103 dX9_rich_41 (by decide) (fun hc => ?_) (fun hc => ?_)
    · have h := h.1 hc
      refine Wr_iload_n dX9_rich_103 rfl 1 rfl ?_
      exact Wr_iret .int dX9_rich_104 rfl rfl ⟨rfl, h⟩
    · have h := h.2 hc
      refine Wr_iconstv (v := 0) dX9_rich_44 (by decide) ?_
      refine Wr_istore dX9_rich_45 (by decide) rfl ?_
      refine Wr_iconstv (v := 0) dX9_rich_47 (by decide) ?_
      refine Wr_istore dX9_rich_48 (by decide) rfl ?_
      refine zsub [0, 3, 4, 5, 6, 7] rfl ?_
      obtain ⟨n9, h⟩ := h
      exact wX9_rich_50 (fun z0 z1 z2 m h => ih z0 z1 z2 m h) n9 _ _ _ _ _ _ h
def pX9_rich (d : Nat) (x1 : Int32) (x2 : Int32) (μ : zMem) (KI : Int32 → zMem → Prop) (X : Nat → zMem → Prop) : Prop :=
  ∀ m1 : zMem, m1 = zw μ 106 3 0 → zcI d mX9_isSpan [.int x1, .int x2] m1 (fun u3 m2 => ((u3 = 0 → zcI d mX9_fail [.ref 106, .int 1] m2 (fun u6 m5 => KI u6 m5) X) ∧
  (¬ (u3 = 0) → zcV d mX9_tellDebts [.ref 106, .int x1, .int x2] m2 (fun m4 => ∃ n2 : Nat, pX9_rich_33 n2 d (-1) 0 0 m4 KI X) X))) X
set_option maxRecDepth 20000 in
theorem wX9_rich_0 {d : Nat} {KI : Int32 → zMem → Prop} {X : Nat → zMem → Prop} {x1 : Int32} {x2 : Int32} {μ : zMem} (h : pX9_rich d x1 x2 μ KI X) : Wr mX9_rich (d + 1) 0 0 [(0, .ref 106), (1, .int x1), (2, .int x2)] [] μ (kI KI X) := by
  unfold pX9_rich at h
  refine Wr_aload_n dX9_rich_0 rfl 0 rfl ?_
  refine Wr_iconstv (v := 0) dX9_rich_1 (by decide) ?_
  obtain ⟨m1, em1⟩ : ∃ z : zMem, z = zw μ 106 3 0 := ⟨_, rfl⟩
  have h := h m1 em1
  refine Wr_putI dX9_rich_2 fpX9_155 zl106 rfl ?_
  refine Wr_mu em1 ?_
  refine Wr_iload_n dX9_rich_5 rfl 1 rfl ?_
  refine Wr_iload_n dX9_rich_6 rfl 2 rfl ?_
  refine Wr_cSi [.int x1, .int x2] dX9_rich_7 mlX9_418 mgX9_isSpan rfl msX9_isSpan  rfl rfl (Nat.le_of_ble_eq_true rfl) rfl (zcI.imp h (fun u3 m2 h => ?_) (fun _ _ h => ⟨rfl, h⟩))
  refine Wr_if_ne 19 dX9_rich_10 (by decide) (fun hc => ?_) (fun hc => ?_)
  · have h := h.2 hc
    refine Wr_aload_n dX9_rich_19 rfl 0 rfl ?_
    refine Wr_iload_n dX9_rich_20 rfl 1 rfl ?_
    refine Wr_iload_n dX9_rich_21 rfl 2 rfl ?_
    refine Wr_cVv [.int x1, .int x2] dX9_rich_22 mlX9_478 mgX9_tellDebts rfl mvX9_tellDebts (zrv zl106 _ rfl rfl) rfl rfl (Nat.le_of_ble_eq_true rfl) rfl (zcV.imp h (fun m4 h => ?_) (fun _ _ h => ⟨rfl, h⟩))
    refine Wr_iconstv (v := (-1)) dX9_rich_25 (by decide) ?_
    refine Wr_istore_n dX9_rich_26 rfl (by decide) rfl ?_
    refine Wr_iconstv (v := 0) dX9_rich_27 (by decide) ?_
    refine Wr_istore dX9_rich_28 (by decide) rfl ?_
    refine Wr_iconstv (v := 0) dX9_rich_30 (by decide) ?_
    refine Wr_istore dX9_rich_31 (by decide) rfl ?_
    refine zsub [0, 3, 4, 5] rfl ?_
    obtain ⟨n9, h⟩ := h
    exact wX9_rich_33 n9 _ _ _ _ h
  · have h := h.1 hc
    refine Wr_aload_n dX9_rich_13 rfl 0 rfl ?_
    refine Wr_iconstv (v := 1) dX9_rich_14 (by decide) ?_
    refine Wr_cVi [.int 1] dX9_rich_15 mlX9_297 mgX9_fail rfl mvX9_fail (zrv zl106 _ rfl rfl) rfl rfl (Nat.le_of_ble_eq_true rfl) rfl (zcI.imp h (fun u6 m5 h => ?_) (fun _ _ h => ⟨rfl, h⟩))
    exact Wr_iret .int dX9_rich_18 rfl rfl ⟨rfl, h⟩
theorem cX9_rich_ {d : Nat} {x1 : Int32} {x2 : Int32} {μ : zMem} {KI : Int32 → zMem → Prop} {X : Nat → zMem → Prop} (h : pX9_rich d x1 x2 μ KI X) : zcI (d + 1) mX9_rich [.ref 106, .int x1, .int x2] μ KI X :=
  Ex_of (w := 3) mgX9_rich.2.2.2.2.2 rfl rfl rfl (by decide) (wX9_rich_0 h)

def pX9_drawOf (d : Nat) (x1 : Int32) (μ : zMem) (KI : Int32 → zMem → Prop) (X : Nat → zMem → Prop) : Prop :=
  ∀ m1 : zMem, m1 = zw μ 106 52 (((μ 106 52) * 1103515245) + 12345) → (¬ x1 = 0) ∧ KI ((((m1 106 52) >>> (16 &&& (31 : Int32))) &&& 32767) - (((m1 106 52) >>> (16 &&& (31 : Int32))) &&& 32767) / x1 * x1) m1
set_option maxRecDepth 20000 in
theorem wX9_drawOf_0 {d : Nat} {KI : Int32 → zMem → Prop} {X : Nat → zMem → Prop} {x1 : Int32} {μ : zMem} (h : pX9_drawOf d x1 μ KI X) : Wr mX9_drawOf (d + 1) 0 0 [(0, .ref 106), (1, .int x1)] [] μ (kI KI X) := by
  unfold pX9_drawOf at h
  refine Wr_aload_n dX9_drawOf_0 rfl 0 rfl ?_
  refine Wr_aload_n dX9_drawOf_1 rfl 0 rfl ?_
  refine Wr_getI dX9_drawOf_2 flX9_484 zl106 rfl ?_
  refine Wr_ldcw dX9_drawOf_5 lcX9_487 ?_
  refine Wr_imul dX9_drawOf_8 ?_
  refine Wr_sipush (v := 12345) dX9_drawOf_9 (by decide) ?_
  refine Wr_iadd dX9_drawOf_12 ?_
  obtain ⟨m1, em1⟩ : ∃ z : zMem, z = zw μ 106 52 (((μ 106 52) * 1103515245) + 12345) := ⟨_, rfl⟩
  have h := h m1 em1
  refine Wr_putI dX9_drawOf_13 fpX9_484 zl106 rfl ?_
  refine Wr_mu em1 ?_
  refine Wr_aload_n dX9_drawOf_16 rfl 0 rfl ?_
  refine Wr_getI dX9_drawOf_17 flX9_484 zl106 rfl ?_
  refine Wr_bipush (v := 16) dX9_drawOf_20 (by decide) ?_
  refine Wr_ishr dX9_drawOf_22 ?_
  refine Wr_sipush (v := 32767) dX9_drawOf_23 (by decide) ?_
  refine Wr_iand dX9_drawOf_26 ?_
  refine Wr_iload_n dX9_drawOf_27 rfl 1 rfl ?_
  obtain ⟨hi, h⟩ := h
  refine Wr_irem dX9_drawOf_28 hi ?_
  exact Wr_iret .int dX9_drawOf_29 rfl rfl ⟨rfl, h⟩
theorem cX9_drawOf_ {d : Nat} {x1 : Int32} {μ : zMem} {KI : Int32 → zMem → Prop} {X : Nat → zMem → Prop} (h : pX9_drawOf d x1 μ KI X) : zcI (d + 1) mX9_drawOf [.ref 106, .int x1] μ KI X :=
  Ex_of (w := 2) mgX9_drawOf.2.2.2.2.2 rfl rfl rfl (by decide) (wX9_drawOf_0 h)

def pX9_week_136 (d : Nat) (x2 : Int32) (x3 : Int32) (x4 : Int32) (μ : zMem) (KI : Int32 → zMem → Prop) (X : Nat → zMem → Prop) (C71 : Int32 → Int32 → Int32 → zMem → Prop) : Prop :=
  zcV d mX9_tellHour [.ref 106, .int x4, .int 0] μ (fun m1 => zcI d mX9_knocked [.ref 106] m1 (fun u3 m2 => ∀ v4 : Int32, v4 = x3 + (if u3 = (-1) then 0 else 1) → ∀ v5 : Int32, v5 = x4 + 1 → C71 x2 v4 v5 m2) X) X
set_option maxRecDepth 20000 in
theorem wX9_week_136 {d : Nat} {KI : Int32 → zMem → Prop} {X : Nat → zMem → Prop} {C71 : Int32 → Int32 → Int32 → zMem → Prop} {x2 : Int32} {x3 : Int32} {x4 : Int32} {μ : zMem} (hC71 : ∀ (x2 : Int32) (x3 : Int32) (x4 : Int32) (μ : zMem), C71 x2 x3 x4 μ → Wr mX9_week (d + 1) 0 71 [(0, .ref 106), (2, .int x2), (3, .int x3), (4, .int x4)] [] μ (kI KI X)) (h : pX9_week_136 d x2 x3 x4 μ KI X C71) : Wr mX9_week (d + 1) 0 136 [(0, .ref 106), (2, .int x2), (3, .int x3), (4, .int x4)] [] μ (kI KI X) := by
  unfold pX9_week_136 at h
  refine Wr_aload_n dX9_week_136 rfl 0 rfl ?_
  refine Wr_iload dX9_week_137 3 rfl ?_
  refine Wr_iconstv (v := 0) dX9_week_139 (by decide) ?_
  refine Wr_cVv [.int x4, .int 0] dX9_week_140 mlX9_392 mgX9_tellHour rfl mvX9_tellHour (zrv zl106 _ rfl rfl) rfl rfl (Nat.le_of_ble_eq_true rfl) rfl (zcV.imp h (fun m1 h => ?_) (fun _ _ h => ⟨rfl, h⟩))
  refine Wr_iload_n dX9_week_143 rfl 2 rfl ?_
  refine Wr_aload_n dX9_week_144 rfl 0 rfl ?_
  refine Wr_cVi [] dX9_week_145 mlX9_421 mgX9_knocked rfl mvX9_knocked (zrv zl106 _ rfl rfl) rfl rfl (Nat.le_of_ble_eq_true rfl) rfl (zcI.imp h (fun u3 m2 h => ?_) (fun _ _ h => ⟨rfl, h⟩))
  refine Wr_iconstv (v := (-1)) dX9_week_148 (by decide) ?_
  have hj1 : Wr mX9_week (d + 1) 0 157 [(0, .ref 106), (2, .int x2), (3, .int x3), (4, .int x4)] [.int (if u3 = (-1) then 0 else 1), .int x3] m2 (kI KI X) := by
    refine Wr_iadd dX9_week_157 ?_
    obtain ⟨v4, ev4⟩ : ∃ z : Int32, z = x3 + (if u3 = (-1) then 0 else 1) := ⟨_, rfl⟩
    have h := h v4 ev4
    refine Wr_top ev4 ?_
    refine Wr_istore_n dX9_week_158 rfl (by decide) rfl ?_
    obtain ⟨v5, ev5⟩ : ∃ z : Int32, z = x4 + 1 := ⟨_, rfl⟩
    have h := h v5 ev5
    refine Wr_iinc (v := v5) dX9_week_159 (q := 3) rfl (by rw [ev5]; rfl) (by decide) rfl ?_
    refine Wr_goto 71 dX9_week_162 (by decide) ?_
    refine zsub [0, 2, 3, 4] rfl ?_
    exact hC71 _ _ _ _ h
  refine Wr_icmp_ne 156 dX9_week_149 (by decide) (fun hc0 => ?_) (fun hc0 => ?_)
  · skip
    refine Wr_iconstv (v := 1) dX9_week_156 (by decide) ?_
    exact Wr_top (if_neg hc0) hj1
  · skip
    refine Wr_iconstv (v := 0) dX9_week_152 (by decide) ?_
    refine Wr_goto 157 dX9_week_153 (by decide) ?_
    exact Wr_top (if_pos hc0) hj1
def pX9_week_185 : Nat → Nat → Int32 → Int32 → zMem → (Int32 → zMem → Prop) → (Nat → zMem → Prop) → Prop
  | 0, _, _, _, _, _, _ => False
  | n + 1, d, x4, x5, μ, KI, X =>
  ((μ 110 0 ≤ x5 → KI x4 μ) ∧
  (¬ (μ 110 0 ≤ x5) → (vp_in x5 6) ∧ zcV d mX9_set [.ref 106, .int x5, .int 3, .int (μ 124 x5.toNatClampNeg)] μ (fun m1 => ∀ v2 : Int32, v2 = x5 + 1 → pX9_week_185 n d x4 v2 m1 KI X) X))
set_option maxRecDepth 20000 in
theorem wX9_week_185 {d : Nat} {KI : Int32 → zMem → Prop} {X : Nat → zMem → Prop} : ∀ (n : Nat) (x4 : Int32) (x5 : Int32) (μ : zMem), pX9_week_185 n d x4 x5 μ KI X → Wr mX9_week (d + 1) 0 185 [(0, .ref 106), (4, .int x4), (5, .int x5)] [] μ (kI KI X) := by
  intro n
  induction n with
  | zero =>
    intro x4 x5 μ h
    exact absurd h id
  | succ n ih =>
    intro x4 x5 μ h
    unfold pX9_week_185 at h
    refine Wr_iload dX9_week_185 2 rfl ?_
    refine Wr_aload_n dX9_week_187 rfl 0 rfl ?_
    refine Wr_getR 4 dX9_week_188 flX9_51 zl106 rfl (by decide) ?_
    refine Wr_iconstv (v := 0) dX9_week_191 (by decide) ?_
    refine Wr_iald dX9_week_192 zl110 (by unfold vp_in; decide) ?_
    refine Wr_icmp_ge 216 dX9_week_193 (by decide) (fun hc => ?_) (fun hc => ?_)
    · have h := h.1 hc
      refine Wr_iload dX9_week_216 1 rfl ?_
      exact Wr_iret .int dX9_week_218 rfl rfl ⟨rfl, h⟩
    · have h := h.2 hc
      refine Wr_aload_n dX9_week_196 rfl 0 rfl ?_
      refine Wr_iload dX9_week_197 2 rfl ?_
      refine Wr_iconstv (v := 3) dX9_week_199 (by decide) ?_
      refine Wr_aload_n dX9_week_200 rfl 0 rfl ?_
      refine Wr_getR 18 dX9_week_201 flX9_98 zl106 rfl (by decide) ?_
      refine Wr_iload dX9_week_204 2 rfl ?_
      obtain ⟨hi, h⟩ := h
      refine Wr_iald dX9_week_206 zl124 hi ?_
      refine Wr_cVv [.int x5, .int 3, .int (μ 124 x5.toNatClampNeg)] dX9_week_207 mlX9_415 mgX9_set rfl mvX9_set (zrv zl106 _ rfl rfl) rfl rfl (Nat.le_of_ble_eq_true rfl) rfl (zcV.imp h (fun m1 h => ?_) (fun _ _ h => ⟨rfl, h⟩))
      obtain ⟨v2, ev2⟩ : ∃ z : Int32, z = x5 + 1 := ⟨_, rfl⟩
      have h := h v2 ev2
      refine Wr_iinc (v := v2) dX9_week_210 (q := 2) rfl (by rw [ev2]; rfl) (by decide) rfl ?_
      refine Wr_goto 185 dX9_week_213 (by decide) ?_
      refine zsub [0, 4, 5] rfl ?_
      exact ih _ _ _ h
def pX9_week_165 (d : Nat) (x2 : Int32) (x3 : Int32) (μ : zMem) (KI : Int32 → zMem → Prop) (X : Nat → zMem → Prop) : Prop :=
  ((x2 = (-1) → ∃ n2 : Nat, pX9_week_185 n2 d x3 0 μ KI X) ∧
  (¬ (x2 = (-1)) → zcI d mX9_of [.ref 106, .int x2, .int 3] μ (fun u2 m1 => ∃ n2 : Nat, pX9_week_185 n2 d u2 0 m1 KI X) X))
set_option maxRecDepth 20000 in
theorem wX9_week_165 {d : Nat} {KI : Int32 → zMem → Prop} {X : Nat → zMem → Prop} {x2 : Int32} {x3 : Int32} {μ : zMem} (h : pX9_week_165 d x2 x3 μ KI X) : Wr mX9_week (d + 1) 0 165 [(0, .ref 106), (2, .int x2), (3, .int x3)] [] μ (kI KI X) := by
  unfold pX9_week_165 at h
  refine Wr_iload_n dX9_week_165 rfl 1 rfl ?_
  refine Wr_iconstv (v := (-1)) dX9_week_166 (by decide) ?_
  refine Wr_icmp_ne 174 dX9_week_167 (by decide) (fun hc => ?_) (fun hc => ?_)
  · have h := h.2 hc
    refine Wr_aload_n dX9_week_174 rfl 0 rfl ?_
    refine Wr_iload_n dX9_week_175 rfl 1 rfl ?_
    refine Wr_iconstv (v := 3) dX9_week_176 (by decide) ?_
    refine Wr_cVi [.int x2, .int 3] dX9_week_177 mlX9_330 mgX9_of rfl mvX9_of (zrv zl106 _ rfl rfl) rfl rfl (Nat.le_of_ble_eq_true rfl) rfl (zcI.imp h (fun u2 m1 h => ?_) (fun _ _ h => ⟨rfl, h⟩))
    refine Wr_istore dX9_week_180 (by decide) rfl ?_
    refine Wr_iconstv (v := 0) dX9_week_182 (by decide) ?_
    refine Wr_istore dX9_week_183 (by decide) rfl ?_
    refine zsub [0, 4, 5] rfl ?_
    obtain ⟨n9, h⟩ := h
    exact wX9_week_185 n9 _ _ _ h
  · have h := h.1 hc
    refine Wr_iload_n dX9_week_170 rfl 2 rfl ?_
    refine Wr_goto 180 dX9_week_171 (by decide) ?_
    refine Wr_istore dX9_week_180 (by decide) rfl ?_
    refine Wr_iconstv (v := 0) dX9_week_182 (by decide) ?_
    refine Wr_istore dX9_week_183 (by decide) rfl ?_
    refine zsub [0, 4, 5] rfl ?_
    obtain ⟨n9, h⟩ := h
    exact wX9_week_185 n9 _ _ _ h
def pX9_week_71 : Nat → Nat → Int32 → Int32 → Int32 → zMem → (Int32 → zMem → Prop) → (Nat → zMem → Prop) → Prop
  | 0, _, _, _, _, _, _, _ => False
  | n + 1, d, x2, x3, x4, μ, KI, X =>
  ((168 ≤ x4 → pX9_week_165 d x2 x3 μ KI X) ∧
  (¬ (168 ≤ x4) → ((μ 110 0 ≤ 0 → pX9_week_165 d x2 x3 μ KI X) ∧
    (¬ (μ 110 0 ≤ 0) → ((x4 - x4 / 24 * 24 = 0 → zcI d mX9_drawOf [.ref 106, .int (μ 110 0)] μ (fun u2 m1 => zcI d mX9_of [.ref 106, .int u2, .int 3] m1 (fun u4 m3 => zcI d mX9_drawOf [.ref 106, .int 9] m3 (fun u6 m5 => zcV d mX9_set [.ref 106, .int u2, .int 3, .int (zmin 60 ((u4 + 1) + u6))] m5 (fun m7 => pX9_week_136 d x2 x3 x4 m7 KI X (fun z0 z1 z2 m => pX9_week_71 n d z0 z1 z2 m KI X)) X) X) X) X) ∧
      (¬ (x4 - x4 / 24 * 24 = 0) → pX9_week_136 d x2 x3 x4 μ KI X (fun z0 z1 z2 m => pX9_week_71 n d z0 z1 z2 m KI X)))))))
set_option maxRecDepth 20000 in
theorem wX9_week_71 {d : Nat} {KI : Int32 → zMem → Prop} {X : Nat → zMem → Prop} : ∀ (n : Nat) (x2 : Int32) (x3 : Int32) (x4 : Int32) (μ : zMem), pX9_week_71 n d x2 x3 x4 μ KI X → Wr mX9_week (d + 1) 0 71 [(0, .ref 106), (2, .int x2), (3, .int x3), (4, .int x4)] [] μ (kI KI X) := by
  intro n
  induction n with
  | zero =>
    intro x2 x3 x4 μ h
    exact absurd h id
  | succ n ih =>
    intro x2 x3 x4 μ h
    unfold pX9_week_71 at h
    refine Wr_iload dX9_week_71 3 rfl ?_
    refine Wr_sipush (v := 168) dX9_week_73 (by decide) ?_
    refine Wr_icmp_ge 165 dX9_week_76 (by decide) (fun hc => ?_) (fun hc => ?_)
    · have h := h.1 hc
      refine zsub [0, 2, 3] rfl ?_
      exact wX9_week_165 h
    · have h := h.2 hc
      refine Wr_aload_n dX9_week_79 rfl 0 rfl ?_
      refine Wr_getR 4 dX9_week_80 flX9_51 zl106 rfl (by decide) ?_
      refine Wr_iconstv (v := 0) dX9_week_83 (by decide) ?_
      refine Wr_iald dX9_week_84 zl110 (by unfold vp_in; decide) ?_
      refine Wr_if_le 165 dX9_week_85 (by decide) (fun hc => ?_) (fun hc => ?_)
      · have h := h.1 hc
        refine zsub [0, 2, 3] rfl ?_
        exact wX9_week_165 h
      · have h := h.2 hc
        refine Wr_iload dX9_week_88 3 rfl ?_
        refine Wr_bipush (v := 24) dX9_week_90 (by decide) ?_
        refine Wr_irem dX9_week_92 (by decide) ?_
        refine Wr_if_ne 136 dX9_week_93 (by decide) (fun hc => ?_) (fun hc => ?_)
        · have h := h.2 hc
          refine zsub [0, 2, 3, 4] rfl ?_
          exact wX9_week_136 (fun z0 z1 z2 m h => ih z0 z1 z2 m h) h
        · have h := h.1 hc
          refine Wr_aload_n dX9_week_96 rfl 0 rfl ?_
          refine Wr_aload_n dX9_week_97 rfl 0 rfl ?_
          refine Wr_getR 4 dX9_week_98 flX9_51 zl106 rfl (by decide) ?_
          refine Wr_iconstv (v := 0) dX9_week_101 (by decide) ?_
          refine Wr_iald dX9_week_102 zl110 (by unfold vp_in; decide) ?_
          refine Wr_cVi [.int (μ 110 0)] dX9_week_103 mlX9_488 mgX9_drawOf rfl mvX9_drawOf (zrv zl106 _ rfl rfl) rfl rfl (Nat.le_of_ble_eq_true rfl) rfl (zcI.imp h (fun u2 m1 h => ?_) (fun _ _ h => ⟨rfl, h⟩))
          refine Wr_istore dX9_week_106 (by decide) rfl ?_
          refine Wr_aload_n dX9_week_108 rfl 1 rfl ?_
          refine Wr_iload dX9_week_109 0 rfl ?_
          refine Wr_iconstv (v := 3) dX9_week_111 (by decide) ?_
          refine Wr_bipush (v := 60) dX9_week_112 (by decide) ?_
          refine Wr_aload_n dX9_week_114 rfl 1 rfl ?_
          refine Wr_iload dX9_week_115 0 rfl ?_
          refine Wr_iconstv (v := 3) dX9_week_117 (by decide) ?_
          refine Wr_cVi [.int u2, .int 3] dX9_week_118 mlX9_330 mgX9_of rfl mvX9_of (zrv zl106 _ rfl rfl) rfl rfl (Nat.le_of_ble_eq_true rfl) rfl (zcI.imp h (fun u4 m3 h => ?_) (fun _ _ h => ⟨rfl, h⟩))
          refine Wr_iconstv (v := 1) dX9_week_121 (by decide) ?_
          refine Wr_iadd dX9_week_122 ?_
          refine Wr_aload_n dX9_week_123 rfl 1 rfl ?_
          refine Wr_bipush (v := 9) dX9_week_124 (by decide) ?_
          refine Wr_cVi [.int 9] dX9_week_126 mlX9_488 mgX9_drawOf rfl mvX9_drawOf (zrv zl106 _ rfl rfl) rfl rfl (Nat.le_of_ble_eq_true rfl) rfl (zcI.imp h (fun u6 m5 h => ?_) (fun _ _ h => ⟨rfl, h⟩))
          refine Wr_iadd dX9_week_129 ?_
          refine Wr_mmin dX9_week_130 mlX9_193 (Nat.le_of_ble_eq_true rfl) ?_
          refine Wr_cVv [.int u2, .int 3, .int (zmin 60 ((u4 + 1) + u6))] dX9_week_133 mlX9_415 mgX9_set rfl mvX9_set (zrv zl106 _ rfl rfl) rfl rfl (Nat.le_of_ble_eq_true rfl) rfl (zcV.imp h (fun m7 h => ?_) (fun _ _ h => ⟨rfl, h⟩))
          refine zsub [0, 2, 3, 4] rfl ?_
          exact wX9_week_136 (fun z0 z1 z2 m h => ih z0 z1 z2 m h) h
def pX9_week_33 : Nat → Nat → Int32 → Int32 → Int32 → zMem → (Int32 → zMem → Prop) → (Nat → zMem → Prop) → Prop
  | 0, _, _, _, _, _, _, _ => False
  | n + 1, d, x1, x2, x3, μ, KI, X =>
  ((μ 110 0 ≤ x3 → ∀ m1 : zMem, m1 = zw μ 106 52 x1 → ∃ n2 : Nat, pX9_week_71 n2 d x2 0 0 m1 KI X) ∧
  (¬ (μ 110 0 ≤ x3) → zcI d mX9_of [.ref 106, .int x3, .int 3] μ (fun u3 m2 => (vp_in x3 6) ∧ ∀ m4 : zMem, m4 = zw m2 124 x3.toNatClampNeg u3 → ∀ v5 : Int32, v5 = x3 + 1 → pX9_week_33 n d x1 x2 v5 m4 KI X) X))
set_option maxRecDepth 20000 in
theorem wX9_week_33 {d : Nat} {KI : Int32 → zMem → Prop} {X : Nat → zMem → Prop} : ∀ (n : Nat) (x1 : Int32) (x2 : Int32) (x3 : Int32) (μ : zMem), pX9_week_33 n d x1 x2 x3 μ KI X → Wr mX9_week (d + 1) 0 33 [(0, .ref 106), (1, .int x1), (2, .int x2), (3, .int x3)] [] μ (kI KI X) := by
  intro n
  induction n with
  | zero =>
    intro x1 x2 x3 μ h
    exact absurd h id
  | succ n ih =>
    intro x1 x2 x3 μ h
    unfold pX9_week_33 at h
    refine Wr_iload_n dX9_week_33 rfl 3 rfl ?_
    refine Wr_aload_n dX9_week_34 rfl 0 rfl ?_
    refine Wr_getR 4 dX9_week_35 flX9_51 zl106 rfl (by decide) ?_
    refine Wr_iconstv (v := 0) dX9_week_38 (by decide) ?_
    refine Wr_iald dX9_week_39 zl110 (by unfold vp_in; decide) ?_
    refine Wr_icmp_ge 61 dX9_week_40 (by decide) (fun hc => ?_) (fun hc => ?_)
    · have h := h.1 hc
      refine Wr_aload_n dX9_week_61 rfl 0 rfl ?_
      refine Wr_iload_n dX9_week_62 rfl 1 rfl ?_
      obtain ⟨m1, em1⟩ : ∃ z : zMem, z = zw μ 106 52 x1 := ⟨_, rfl⟩
      have h := h m1 em1
      refine Wr_putI dX9_week_63 fpX9_484 zl106 rfl ?_
      refine Wr_mu em1 ?_
      refine Wr_iconstv (v := 0) dX9_week_66 (by decide) ?_
      refine Wr_istore_n dX9_week_67 rfl (by decide) rfl ?_
      refine Wr_iconstv (v := 0) dX9_week_68 (by decide) ?_
      refine Wr_istore dX9_week_69 (by decide) rfl ?_
      refine zsub [0, 2, 3, 4] rfl ?_
      obtain ⟨n9, h⟩ := h
      exact wX9_week_71 n9 _ _ _ _ h
    · have h := h.2 hc
      refine Wr_aload_n dX9_week_43 rfl 0 rfl ?_
      refine Wr_getR 18 dX9_week_44 flX9_98 zl106 rfl (by decide) ?_
      refine Wr_iload_n dX9_week_47 rfl 3 rfl ?_
      refine Wr_aload_n dX9_week_48 rfl 0 rfl ?_
      refine Wr_iload_n dX9_week_49 rfl 3 rfl ?_
      refine Wr_iconstv (v := 3) dX9_week_50 (by decide) ?_
      refine Wr_cVi [.int x3, .int 3] dX9_week_51 mlX9_330 mgX9_of rfl mvX9_of (zrv zl106 _ rfl rfl) rfl rfl (Nat.le_of_ble_eq_true rfl) rfl (zcI.imp h (fun u3 m2 h => ?_) (fun _ _ h => ⟨rfl, h⟩))
      obtain ⟨him4, h⟩ := h
      obtain ⟨m4, em4⟩ : ∃ z : zMem, z = zw m2 124 x3.toNatClampNeg u3 := ⟨_, rfl⟩
      have h := h m4 em4
      refine Wr_iast dX9_week_54 zl124 him4 ?_
      refine Wr_mu em4 ?_
      obtain ⟨v5, ev5⟩ : ∃ z : Int32, z = x3 + 1 := ⟨_, rfl⟩
      have h := h v5 ev5
      refine Wr_iinc (v := v5) dX9_week_55 (q := 3) rfl (by rw [ev5]; rfl) (by decide) rfl ?_
      refine Wr_goto 33 dX9_week_58 (by decide) ?_
      refine zsub [0, 1, 2, 3] rfl ?_
      exact ih _ _ _ _ h
def pX9_week (d : Nat) (x1 : Int32) (x2 : Int32) (μ : zMem) (KI : Int32 → zMem → Prop) (X : Nat → zMem → Prop) : Prop :=
  ∀ m1 : zMem, m1 = zw μ 106 3 0 → zcI d mX9_isIn [.long x2.toInt64, .long (-1), .long (((m1 110 0) - 1).toInt64)] m1 (fun u3 m2 => ((u3 = 0 → zcI d mX9_fail [.ref 106, .int 1] m2 (fun u5 m4 => KI u5 m4) X) ∧
  (¬ (u3 = 0) → ∃ n2 : Nat, pX9_week_33 n2 d x1 x2 0 m2 KI X))) X
set_option maxRecDepth 20000 in
theorem wX9_week_0 {d : Nat} {KI : Int32 → zMem → Prop} {X : Nat → zMem → Prop} {x1 : Int32} {x2 : Int32} {μ : zMem} (h : pX9_week d x1 x2 μ KI X) : Wr mX9_week (d + 1) 0 0 [(0, .ref 106), (1, .int x1), (2, .int x2)] [] μ (kI KI X) := by
  unfold pX9_week at h
  refine Wr_aload_n dX9_week_0 rfl 0 rfl ?_
  refine Wr_iconstv (v := 0) dX9_week_1 (by decide) ?_
  obtain ⟨m1, em1⟩ : ∃ z : zMem, z = zw μ 106 3 0 := ⟨_, rfl⟩
  have h := h m1 em1
  refine Wr_putI dX9_week_2 fpX9_155 zl106 rfl ?_
  refine Wr_mu em1 ?_
  refine Wr_iload_n dX9_week_5 rfl 2 rfl ?_
  refine Wr_i2l dX9_week_6 ?_
  refine Wr_ldc2 dX9_week_7 lcX9_455 ?_
  refine Wr_aload_n dX9_week_10 rfl 0 rfl ?_
  refine Wr_getR 4 dX9_week_11 flX9_51 zl106 rfl (by decide) ?_
  refine Wr_iconstv (v := 0) dX9_week_14 (by decide) ?_
  refine Wr_iald dX9_week_15 zl110 (by unfold vp_in; decide) ?_
  refine Wr_iconstv (v := 1) dX9_week_16 (by decide) ?_
  refine Wr_isub dX9_week_17 ?_
  refine Wr_i2l dX9_week_18 ?_
  refine Wr_cSi [.long x2.toInt64, .long (-1), .long (((m1 110 0) - 1).toInt64)] dX9_week_19 mlX9_158 mgX9_isIn rfl msX9_isIn  rfl rfl (Nat.le_of_ble_eq_true rfl) rfl (zcI.imp h (fun u3 m2 h => ?_) (fun _ _ h => ⟨rfl, h⟩))
  refine Wr_if_ne 31 dX9_week_22 (by decide) (fun hc => ?_) (fun hc => ?_)
  · have h := h.2 hc
    refine Wr_iconstv (v := 0) dX9_week_31 (by decide) ?_
    refine Wr_istore_n dX9_week_32 rfl (by decide) rfl ?_
    refine zsub [0, 1, 2, 3] rfl ?_
    obtain ⟨n9, h⟩ := h
    exact wX9_week_33 n9 _ _ _ _ h
  · have h := h.1 hc
    refine Wr_aload_n dX9_week_25 rfl 0 rfl ?_
    refine Wr_iconstv (v := 1) dX9_week_26 (by decide) ?_
    refine Wr_cVi [.int 1] dX9_week_27 mlX9_297 mgX9_fail rfl mvX9_fail (zrv zl106 _ rfl rfl) rfl rfl (Nat.le_of_ble_eq_true rfl) rfl (zcI.imp h (fun u5 m4 h => ?_) (fun _ _ h => ⟨rfl, h⟩))
    exact Wr_iret .int dX9_week_30 rfl rfl ⟨rfl, h⟩
theorem cX9_week_ {d : Nat} {x1 : Int32} {x2 : Int32} {μ : zMem} {KI : Int32 → zMem → Prop} {X : Nat → zMem → Prop} (h : pX9_week d x1 x2 μ KI X) : zcI (d + 1) mX9_week [.ref 106, .int x1, .int x2] μ KI X :=
  Ex_of (w := 3) mgX9_week.2.2.2.2.2 rfl rfl rfl (by decide) (wX9_week_0 h)

def pX9_be_2 : Nat → Nat → Nat → Nat → Nat → Nat → Int32 → zMem → (zMem → Prop) → (Nat → zMem → Prop) → Prop
  | 0, _, _, _, _, _, _, _, _, _ => False
  | n + 1, d, a0, n0, a1, n1, x2, μ, KV, X =>
  ((Int32.ofNat n0 ≤ x2 → KV μ) ∧
  (¬ (Int32.ofNat n0 ≤ x2) → (vp_in x2 n1) ∧ (vp_in x2 n0) ∧ ∀ m1 : zMem, m1 = zw μ a0 x2.toNatClampNeg (μ a1 x2.toNatClampNeg) → ∀ v2 : Int32, v2 = x2 + 1 → pX9_be_2 n d a0 n0 a1 n1 v2 m1 KV X))
set_option maxRecDepth 20000 in
theorem wX9_be_2 {d : Nat} {a0 : Nat} {n0 : Nat} {a1 : Nat} {n1 : Nat} {KV : zMem → Prop} {X : Nat → zMem → Prop} (ha0 : zsh a0 = .inl (0, n0)) (ha1 : zsh a1 = .inl (0, n1)) : ∀ (n : Nat) (x2 : Int32) (μ : zMem), pX9_be_2 n d a0 n0 a1 n1 x2 μ KV X → Wr mX9_be (d + 1) 0 2 [(0, .ref a0), (1, .ref a1), (2, .int x2)] [] μ (kV KV X) := by
  intro n
  induction n with
  | zero =>
    intro x2 μ h
    exact absurd h id
  | succ n ih =>
    intro x2 μ h
    unfold pX9_be_2 at h
    refine Wr_iload_n dX9_be_2 rfl 2 rfl ?_
    refine Wr_aload_n dX9_be_3 rfl 0 rfl ?_
    refine Wr_alen dX9_be_4 ha0 (by decide) ?_
    refine Wr_icmp_ge 20 dX9_be_5 (by decide) (fun hc => ?_) (fun hc => ?_)
    · have h := h.1 hc
      exact Wr_vret dX9_be_20 rfl ⟨rfl, h⟩
    · have h := h.2 hc
      refine Wr_aload_n dX9_be_8 rfl 0 rfl ?_
      refine Wr_iload_n dX9_be_9 rfl 2 rfl ?_
      refine Wr_aload_n dX9_be_10 rfl 1 rfl ?_
      refine Wr_iload_n dX9_be_11 rfl 2 rfl ?_
      obtain ⟨hi, h⟩ := h
      refine Wr_iald dX9_be_12 ha1 hi ?_
      obtain ⟨him1, h⟩ := h
      obtain ⟨m1, em1⟩ : ∃ z : zMem, z = zw μ a0 x2.toNatClampNeg (μ a1 x2.toNatClampNeg) := ⟨_, rfl⟩
      have h := h m1 em1
      refine Wr_iast dX9_be_13 ha0 him1 ?_
      refine Wr_mu em1 ?_
      obtain ⟨v2, ev2⟩ : ∃ z : Int32, z = x2 + 1 := ⟨_, rfl⟩
      have h := h v2 ev2
      refine Wr_iinc (v := v2) dX9_be_14 (q := 2) rfl (by rw [ev2]; rfl) (by decide) rfl ?_
      refine Wr_goto 2 dX9_be_17 (by decide) ?_
      refine zsub [0, 1, 2] rfl ?_
      exact ih _ _ h
def pX9_be (d : Nat) (a0 : Nat) (n0 : Nat) (a1 : Nat) (n1 : Nat) (μ : zMem) (KV : zMem → Prop) (X : Nat → zMem → Prop) : Prop :=
  ∃ n2 : Nat, pX9_be_2 n2 d a0 n0 a1 n1 0 μ KV X
set_option maxRecDepth 20000 in
theorem wX9_be_0 {d : Nat} {a0 : Nat} {n0 : Nat} {a1 : Nat} {n1 : Nat} {KV : zMem → Prop} {X : Nat → zMem → Prop} {μ : zMem} (ha0 : zsh a0 = .inl (0, n0)) (ha1 : zsh a1 = .inl (0, n1)) (h : pX9_be d a0 n0 a1 n1 μ KV X) : Wr mX9_be (d + 1) 0 0 [(0, .ref a0), (1, .ref a1)] [] μ (kV KV X) := by
  unfold pX9_be at h
  refine Wr_iconstv (v := 0) dX9_be_0 (by decide) ?_
  refine Wr_istore_n dX9_be_1 rfl (by decide) rfl ?_
  refine zsub [0, 1, 2] rfl ?_
  obtain ⟨n9, h⟩ := h
  exact wX9_be_2 ha0 ha1 n9 _ _ h
theorem cX9_be_ {d : Nat} {a0 : Nat} {n0 : Nat} {a1 : Nat} {n1 : Nat} {μ : zMem} {KV : zMem → Prop} {X : Nat → zMem → Prop} (ha0 : zsh a0 = .inl (0, n0)) (ha1 : zsh a1 = .inl (0, n1)) (h : pX9_be d a0 n0 a1 n1 μ KV X) : zcV (d + 1) mX9_be [.ref a0, .ref a1] μ KV X :=
  Ex_of (w := 2) mgX9_be.2.2.2.2.2 rfl rfl rfl (by decide) (wX9_be_0 ha0 ha1 h)

def pX9_image (d : Nat) (μ : zMem) (KV : zMem → Prop) (X : Nat → zMem → Prop) : Prop :=
  ∀ m1 : zMem, m1 = zw μ 106 3 0 → ∀ m2 : zMem, m2 = zw m1 106 53 1 → ∀ m3 : zMem, m3 = zw m2 106 54 (m2 106 27) → ∀ m4 : zMem, m4 = zw m3 106 55 (m3 106 28) → ∀ m5 : zMem, m5 = zw m4 106 56 (m4 106 29) → zcV d mX9_be [.ref 136, .ref 111] m5 (fun m6 => zcV d mX9_be [.ref 137, .ref 123] m6 (fun m7 => zcV d mX9_be [.ref 138, .ref 129] m7 (fun m8 => zcV d mX9_be [.ref 139, .ref 132] m8 (fun m9 => zcV d mX9_be [.ref 140, .ref 133] m9 (fun m10 => zcV d mX9_be [.ref 141, .ref 134] m10 (fun m11 => zcV d mX9_be [.ref 142, .ref 116] m11 (fun m12 => KV m12) X) X) X) X) X) X) X
set_option maxRecDepth 20000 in
theorem wX9_image_0 {d : Nat} {KV : zMem → Prop} {X : Nat → zMem → Prop} {μ : zMem} (h : pX9_image d μ KV X) : Wr mX9_image (d + 1) 0 0 [(0, .ref 106)] [] μ (kV KV X) := by
  unfold pX9_image at h
  refine Wr_aload_n dX9_image_0 rfl 0 rfl ?_
  refine Wr_iconstv (v := 0) dX9_image_1 (by decide) ?_
  obtain ⟨m1, em1⟩ : ∃ z : zMem, z = zw μ 106 3 0 := ⟨_, rfl⟩
  have h := h m1 em1
  refine Wr_putI dX9_image_2 fpX9_155 zl106 rfl ?_
  refine Wr_mu em1 ?_
  refine Wr_aload_n dX9_image_5 rfl 0 rfl ?_
  refine Wr_iconstv (v := 1) dX9_image_6 (by decide) ?_
  obtain ⟨m2, em2⟩ : ∃ z : zMem, z = zw m1 106 53 1 := ⟨_, rfl⟩
  have h := h m2 em2
  refine Wr_putZ dX9_image_7 fpX9_323 zl106 rfl (by decide) ?_
  refine Wr_mu em2 ?_
  refine Wr_aload_n dX9_image_10 rfl 0 rfl ?_
  refine Wr_aload_n dX9_image_11 rfl 0 rfl ?_
  refine Wr_getI dX9_image_12 flX9_310 zl106 rfl ?_
  obtain ⟨m3, em3⟩ : ∃ z : zMem, z = zw m2 106 54 (m2 106 27) := ⟨_, rfl⟩
  have h := h m3 em3
  refine Wr_putI dX9_image_15 fpX9_491 zl106 rfl ?_
  refine Wr_mu em3 ?_
  refine Wr_aload_n dX9_image_18 rfl 0 rfl ?_
  refine Wr_aload_n dX9_image_19 rfl 0 rfl ?_
  refine Wr_getI dX9_image_20 flX9_313 zl106 rfl ?_
  obtain ⟨m4, em4⟩ : ∃ z : zMem, z = zw m3 106 55 (m3 106 28) := ⟨_, rfl⟩
  have h := h m4 em4
  refine Wr_putI dX9_image_23 fpX9_494 zl106 rfl ?_
  refine Wr_mu em4 ?_
  refine Wr_aload_n dX9_image_26 rfl 0 rfl ?_
  refine Wr_aload_n dX9_image_27 rfl 0 rfl ?_
  refine Wr_getI dX9_image_28 flX9_316 zl106 rfl ?_
  obtain ⟨m5, em5⟩ : ∃ z : zMem, z = zw m4 106 56 (m4 106 29) := ⟨_, rfl⟩
  have h := h m5 em5
  refine Wr_putI dX9_image_31 fpX9_497 zl106 rfl ?_
  refine Wr_mu em5 ?_
  refine Wr_aload_n dX9_image_34 rfl 0 rfl ?_
  refine Wr_getR 30 dX9_image_35 flX9_134 zl106 rfl (by decide) ?_
  refine Wr_aload_n dX9_image_38 rfl 0 rfl ?_
  refine Wr_getR 5 dX9_image_39 flX9_55 zl106 rfl (by decide) ?_
  refine Wr_cSv [.ref 136, .ref 111] dX9_image_42 mlX9_500 mgX9_be rfl msX9_be  rfl rfl (Nat.le_of_ble_eq_true rfl) rfl (zcV.imp h (fun m6 h => ?_) (fun _ _ h => ⟨rfl, h⟩))
  refine Wr_aload_n dX9_image_45 rfl 0 rfl ?_
  refine Wr_getR 31 dX9_image_46 flX9_137 zl106 rfl (by decide) ?_
  refine Wr_aload_n dX9_image_49 rfl 0 rfl ?_
  refine Wr_getR 17 dX9_image_50 flX9_95 zl106 rfl (by decide) ?_
  refine Wr_cSv [.ref 137, .ref 123] dX9_image_53 mlX9_500 mgX9_be rfl msX9_be  rfl rfl (Nat.le_of_ble_eq_true rfl) rfl (zcV.imp h (fun m7 h => ?_) (fun _ _ h => ⟨rfl, h⟩))
  refine Wr_aload_n dX9_image_56 rfl 0 rfl ?_
  refine Wr_getR 32 dX9_image_57 flX9_140 zl106 rfl (by decide) ?_
  refine Wr_aload_n dX9_image_60 rfl 0 rfl ?_
  refine Wr_getR 23 dX9_image_61 flX9_113 zl106 rfl (by decide) ?_
  refine Wr_cSv [.ref 138, .ref 129] dX9_image_64 mlX9_500 mgX9_be rfl msX9_be  rfl rfl (Nat.le_of_ble_eq_true rfl) rfl (zcV.imp h (fun m8 h => ?_) (fun _ _ h => ⟨rfl, h⟩))
  refine Wr_aload_n dX9_image_67 rfl 0 rfl ?_
  refine Wr_getR 33 dX9_image_68 flX9_143 zl106 rfl (by decide) ?_
  refine Wr_aload_n dX9_image_71 rfl 0 rfl ?_
  refine Wr_getR 26 dX9_image_72 flX9_122 zl106 rfl (by decide) ?_
  refine Wr_cSv [.ref 139, .ref 132] dX9_image_75 mlX9_500 mgX9_be rfl msX9_be  rfl rfl (Nat.le_of_ble_eq_true rfl) rfl (zcV.imp h (fun m9 h => ?_) (fun _ _ h => ⟨rfl, h⟩))
  refine Wr_aload_n dX9_image_78 rfl 0 rfl ?_
  refine Wr_getR 34 dX9_image_79 flX9_146 zl106 rfl (by decide) ?_
  refine Wr_aload_n dX9_image_82 rfl 0 rfl ?_
  refine Wr_getR 27 dX9_image_83 flX9_125 zl106 rfl (by decide) ?_
  refine Wr_cSv [.ref 140, .ref 133] dX9_image_86 mlX9_500 mgX9_be rfl msX9_be  rfl rfl (Nat.le_of_ble_eq_true rfl) rfl (zcV.imp h (fun m10 h => ?_) (fun _ _ h => ⟨rfl, h⟩))
  refine Wr_aload_n dX9_image_89 rfl 0 rfl ?_
  refine Wr_getR 35 dX9_image_90 flX9_149 zl106 rfl (by decide) ?_
  refine Wr_aload_n dX9_image_93 rfl 0 rfl ?_
  refine Wr_getR 28 dX9_image_94 flX9_128 zl106 rfl (by decide) ?_
  refine Wr_cSv [.ref 141, .ref 134] dX9_image_97 mlX9_500 mgX9_be rfl msX9_be  rfl rfl (Nat.le_of_ble_eq_true rfl) rfl (zcV.imp h (fun m11 h => ?_) (fun _ _ h => ⟨rfl, h⟩))
  refine Wr_aload_n dX9_image_100 rfl 0 rfl ?_
  refine Wr_getR 36 dX9_image_101 flX9_152 zl106 rfl (by decide) ?_
  refine Wr_aload_n dX9_image_104 rfl 0 rfl ?_
  refine Wr_getR 10 dX9_image_105 flX9_70 zl106 rfl (by decide) ?_
  refine Wr_cSv [.ref 142, .ref 116] dX9_image_108 mlX9_500 mgX9_be rfl msX9_be  rfl rfl (Nat.le_of_ble_eq_true rfl) rfl (zcV.imp h (fun m12 h => ?_) (fun _ _ h => ⟨rfl, h⟩))
  exact Wr_vret dX9_image_111 rfl ⟨rfl, h⟩
theorem cX9_image_ {d : Nat} {μ : zMem} {KV : zMem → Prop} {X : Nat → zMem → Prop} (h : pX9_image d μ KV X) : zcV (d + 1) mX9_image [.ref 106] μ KV X :=
  Ex_of (w := 1) mgX9_image.2.2.2.2.2 rfl rfl rfl (by decide) (wX9_image_0 h)

def pX9_restore (d : Nat) (μ : zMem) (KI : Int32 → zMem → Prop) (X : Nat → zMem → Prop) : Prop :=
  ∀ m1 : zMem, m1 = zw μ 106 3 0 → ((m1 106 53 = 0 → KI 0 m1) ∧
  (¬ (m1 106 53 = 0) → ∀ m2 : zMem, m2 = zw m1 106 27 (m1 106 54) → ∀ m3 : zMem, m3 = zw m2 106 28 (m2 106 55) → ∀ m4 : zMem, m4 = zw m3 106 29 (m3 106 56) → zcV d mX9_be [.ref 111, .ref 136] m4 (fun m5 => zcV d mX9_be [.ref 123, .ref 137] m5 (fun m6 => zcV d mX9_be [.ref 129, .ref 138] m6 (fun m7 => zcV d mX9_be [.ref 132, .ref 139] m7 (fun m8 => zcV d mX9_be [.ref 133, .ref 140] m8 (fun m9 => zcV d mX9_be [.ref 134, .ref 141] m9 (fun m10 => zcV d mX9_be [.ref 116, .ref 142] m10 (fun m11 => KI 1 m11) X) X) X) X) X) X) X))
set_option maxRecDepth 20000 in
theorem wX9_restore_0 {d : Nat} {KI : Int32 → zMem → Prop} {X : Nat → zMem → Prop} {μ : zMem} (h : pX9_restore d μ KI X) : Wr mX9_restore (d + 1) 0 0 [(0, .ref 106)] [] μ (kI KI X) := by
  unfold pX9_restore at h
  refine Wr_aload_n dX9_restore_0 rfl 0 rfl ?_
  refine Wr_iconstv (v := 0) dX9_restore_1 (by decide) ?_
  obtain ⟨m1, em1⟩ : ∃ z : zMem, z = zw μ 106 3 0 := ⟨_, rfl⟩
  have h := h m1 em1
  refine Wr_putI dX9_restore_2 fpX9_155 zl106 rfl ?_
  refine Wr_mu em1 ?_
  refine Wr_aload_n dX9_restore_5 rfl 0 rfl ?_
  refine Wr_getI dX9_restore_6 flX9_323 zl106 rfl ?_
  refine Wr_if_ne 14 dX9_restore_9 (by decide) (fun hc => ?_) (fun hc => ?_)
  · have h := h.2 hc
    refine Wr_aload_n dX9_restore_14 rfl 0 rfl ?_
    refine Wr_aload_n dX9_restore_15 rfl 0 rfl ?_
    refine Wr_getI dX9_restore_16 flX9_491 zl106 rfl ?_
    obtain ⟨m2, em2⟩ : ∃ z : zMem, z = zw m1 106 27 (m1 106 54) := ⟨_, rfl⟩
    have h := h m2 em2
    refine Wr_putI dX9_restore_19 fpX9_310 zl106 rfl ?_
    refine Wr_mu em2 ?_
    refine Wr_aload_n dX9_restore_22 rfl 0 rfl ?_
    refine Wr_aload_n dX9_restore_23 rfl 0 rfl ?_
    refine Wr_getI dX9_restore_24 flX9_494 zl106 rfl ?_
    obtain ⟨m3, em3⟩ : ∃ z : zMem, z = zw m2 106 28 (m2 106 55) := ⟨_, rfl⟩
    have h := h m3 em3
    refine Wr_putI dX9_restore_27 fpX9_313 zl106 rfl ?_
    refine Wr_mu em3 ?_
    refine Wr_aload_n dX9_restore_30 rfl 0 rfl ?_
    refine Wr_aload_n dX9_restore_31 rfl 0 rfl ?_
    refine Wr_getI dX9_restore_32 flX9_497 zl106 rfl ?_
    obtain ⟨m4, em4⟩ : ∃ z : zMem, z = zw m3 106 29 (m3 106 56) := ⟨_, rfl⟩
    have h := h m4 em4
    refine Wr_putI dX9_restore_35 fpX9_316 zl106 rfl ?_
    refine Wr_mu em4 ?_
    refine Wr_aload_n dX9_restore_38 rfl 0 rfl ?_
    refine Wr_getR 5 dX9_restore_39 flX9_55 zl106 rfl (by decide) ?_
    refine Wr_aload_n dX9_restore_42 rfl 0 rfl ?_
    refine Wr_getR 30 dX9_restore_43 flX9_134 zl106 rfl (by decide) ?_
    refine Wr_cSv [.ref 111, .ref 136] dX9_restore_46 mlX9_500 mgX9_be rfl msX9_be  rfl rfl (Nat.le_of_ble_eq_true rfl) rfl (zcV.imp h (fun m5 h => ?_) (fun _ _ h => ⟨rfl, h⟩))
    refine Wr_aload_n dX9_restore_49 rfl 0 rfl ?_
    refine Wr_getR 17 dX9_restore_50 flX9_95 zl106 rfl (by decide) ?_
    refine Wr_aload_n dX9_restore_53 rfl 0 rfl ?_
    refine Wr_getR 31 dX9_restore_54 flX9_137 zl106 rfl (by decide) ?_
    refine Wr_cSv [.ref 123, .ref 137] dX9_restore_57 mlX9_500 mgX9_be rfl msX9_be  rfl rfl (Nat.le_of_ble_eq_true rfl) rfl (zcV.imp h (fun m6 h => ?_) (fun _ _ h => ⟨rfl, h⟩))
    refine Wr_aload_n dX9_restore_60 rfl 0 rfl ?_
    refine Wr_getR 23 dX9_restore_61 flX9_113 zl106 rfl (by decide) ?_
    refine Wr_aload_n dX9_restore_64 rfl 0 rfl ?_
    refine Wr_getR 32 dX9_restore_65 flX9_140 zl106 rfl (by decide) ?_
    refine Wr_cSv [.ref 129, .ref 138] dX9_restore_68 mlX9_500 mgX9_be rfl msX9_be  rfl rfl (Nat.le_of_ble_eq_true rfl) rfl (zcV.imp h (fun m7 h => ?_) (fun _ _ h => ⟨rfl, h⟩))
    refine Wr_aload_n dX9_restore_71 rfl 0 rfl ?_
    refine Wr_getR 26 dX9_restore_72 flX9_122 zl106 rfl (by decide) ?_
    refine Wr_aload_n dX9_restore_75 rfl 0 rfl ?_
    refine Wr_getR 33 dX9_restore_76 flX9_143 zl106 rfl (by decide) ?_
    refine Wr_cSv [.ref 132, .ref 139] dX9_restore_79 mlX9_500 mgX9_be rfl msX9_be  rfl rfl (Nat.le_of_ble_eq_true rfl) rfl (zcV.imp h (fun m8 h => ?_) (fun _ _ h => ⟨rfl, h⟩))
    refine Wr_aload_n dX9_restore_82 rfl 0 rfl ?_
    refine Wr_getR 27 dX9_restore_83 flX9_125 zl106 rfl (by decide) ?_
    refine Wr_aload_n dX9_restore_86 rfl 0 rfl ?_
    refine Wr_getR 34 dX9_restore_87 flX9_146 zl106 rfl (by decide) ?_
    refine Wr_cSv [.ref 133, .ref 140] dX9_restore_90 mlX9_500 mgX9_be rfl msX9_be  rfl rfl (Nat.le_of_ble_eq_true rfl) rfl (zcV.imp h (fun m9 h => ?_) (fun _ _ h => ⟨rfl, h⟩))
    refine Wr_aload_n dX9_restore_93 rfl 0 rfl ?_
    refine Wr_getR 28 dX9_restore_94 flX9_128 zl106 rfl (by decide) ?_
    refine Wr_aload_n dX9_restore_97 rfl 0 rfl ?_
    refine Wr_getR 35 dX9_restore_98 flX9_149 zl106 rfl (by decide) ?_
    refine Wr_cSv [.ref 134, .ref 141] dX9_restore_101 mlX9_500 mgX9_be rfl msX9_be  rfl rfl (Nat.le_of_ble_eq_true rfl) rfl (zcV.imp h (fun m10 h => ?_) (fun _ _ h => ⟨rfl, h⟩))
    refine Wr_aload_n dX9_restore_104 rfl 0 rfl ?_
    refine Wr_getR 10 dX9_restore_105 flX9_70 zl106 rfl (by decide) ?_
    refine Wr_aload_n dX9_restore_108 rfl 0 rfl ?_
    refine Wr_getR 36 dX9_restore_109 flX9_152 zl106 rfl (by decide) ?_
    refine Wr_cSv [.ref 116, .ref 142] dX9_restore_112 mlX9_500 mgX9_be rfl msX9_be  rfl rfl (Nat.le_of_ble_eq_true rfl) rfl (zcV.imp h (fun m11 h => ?_) (fun _ _ h => ⟨rfl, h⟩))
    refine Wr_iconstv (v := 1) dX9_restore_115 (by decide) ?_
    exact Wr_iret .boolean dX9_restore_116 rfl rfl ⟨rfl, h⟩
  · have h := h.1 hc
    refine Wr_iconstv (v := 0) dX9_restore_12 (by decide) ?_
    exact Wr_iret .boolean dX9_restore_13 rfl rfl ⟨rfl, h⟩
theorem cX9_restore_ {d : Nat} {μ : zMem} {KI : Int32 → zMem → Prop} {X : Nat → zMem → Prop} (h : pX9_restore d μ KI X) : zcI (d + 1) mX9_restore [.ref 106] μ KI X :=
  Ex_of (w := 1) mgX9_restore.2.2.2.2.2 rfl rfl rfl (by decide) (wX9_restore_0 h)
