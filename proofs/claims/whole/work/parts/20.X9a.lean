def pX9_thrown (d : Nat) (μ : zMem) (KI : Int32 → zMem → Prop) (X : Nat → zMem → Prop) : Prop :=
  KI (μ 106 3) μ
set_option maxRecDepth 20000 in
theorem wX9_thrown_0 {d : Nat} {KI : Int32 → zMem → Prop} {X : Nat → zMem → Prop} {μ : zMem} (h : pX9_thrown d μ KI X) : Wr mX9_thrown (d + 1) 0 0 [(0, .ref 106)] [] μ (kI KI X) := by
  unfold pX9_thrown at h
  refine Wr_aload_n dX9_thrown_0 rfl 0 rfl ?_
  refine Wr_getI dX9_thrown_1 flX9_155 zl106 rfl ?_
  exact Wr_iret .int dX9_thrown_4 rfl rfl ⟨rfl, h⟩
theorem cX9_thrown_ {d : Nat} {μ : zMem} {KI : Int32 → zMem → Prop} {X : Nat → zMem → Prop} (h : pX9_thrown d μ KI X) : zcI (d + 1) mX9_thrown [.ref 106] μ KI X :=
  Ex_of (w := 1) mgX9_thrown.2.2.2.2.2 rfl rfl rfl (by decide) (wX9_thrown_0 h)

def pX9_fail (d : Nat) (x1 : Int32) (μ : zMem) (KI : Int32 → zMem → Prop) (X : Nat → zMem → Prop) : Prop :=
  ∀ m1 : zMem, m1 = zw μ 106 3 x1 → KI 0 m1
set_option maxRecDepth 20000 in
theorem wX9_fail_0 {d : Nat} {KI : Int32 → zMem → Prop} {X : Nat → zMem → Prop} {x1 : Int32} {μ : zMem} (h : pX9_fail d x1 μ KI X) : Wr mX9_fail (d + 1) 0 0 [(0, .ref 106), (1, .int x1)] [] μ (kI KI X) := by
  unfold pX9_fail at h
  refine Wr_aload_n dX9_fail_0 rfl 0 rfl ?_
  refine Wr_iload_n dX9_fail_1 rfl 1 rfl ?_
  obtain ⟨m1, em1⟩ : ∃ z : zMem, z = zw μ 106 3 x1 := ⟨_, rfl⟩
  have h := h m1 em1
  refine Wr_putI dX9_fail_2 fpX9_155 zl106 rfl ?_
  refine Wr_mu em1 ?_
  refine Wr_iconstv (v := 0) dX9_fail_5 (by decide) ?_
  exact Wr_iret .int dX9_fail_6 rfl rfl ⟨rfl, h⟩
theorem cX9_fail_ {d : Nat} {x1 : Int32} {μ : zMem} {KI : Int32 → zMem → Prop} {X : Nat → zMem → Prop} (h : pX9_fail d x1 μ KI X) : zcI (d + 1) mX9_fail [.ref 106, .int x1] μ KI X :=
  Ex_of (w := 2) mgX9_fail.2.2.2.2.2 rfl rfl rfl (by decide) (wX9_fail_0 h)

def pX9_isIn (d : Nat) (x0 : Int64) (x2 : Int64) (x4 : Int64) (μ : zMem) (KI : Int32 → zMem → Prop) (X : Nat → zMem → Prop) : Prop :=
  ((x0 < x2 → KI 0 μ) ∧
  (¬ (x0 < x2) → ((x4 < x0 → KI 0 μ) ∧
    (¬ (x4 < x0) → KI 1 μ))))
set_option maxRecDepth 20000 in
theorem wX9_isIn_0 {d : Nat} {KI : Int32 → zMem → Prop} {X : Nat → zMem → Prop} {x0 : Int64} {x2 : Int64} {x4 : Int64} {μ : zMem} (h : pX9_isIn d x0 x2 x4 μ KI X) : Wr mX9_isIn (d + 1) 0 0 [(0, .long x0), (2, .long x2), (4, .long x4)] [] μ (kI KI X) := by
  unfold pX9_isIn at h
  refine Wr_lload_n dX9_isIn_0 rfl 0 rfl ?_
  refine Wr_lload_n dX9_isIn_1 rfl 1 rfl ?_
  refine Wr_lc_lt 17 dX9_isIn_2 dX9_isIn_3 (by decide) (fun hc => ?_) (fun hc => ?_)
  · have h := h.1 hc
    refine Wr_iconstv (v := 0) dX9_isIn_17 (by decide) ?_
    exact Wr_iret .boolean dX9_isIn_18 rfl rfl ⟨rfl, h⟩
  · have h := h.2 hc
    refine Wr_lload_n dX9_isIn_6 rfl 0 rfl ?_
    refine Wr_lload dX9_isIn_7 2 rfl ?_
    refine Wr_lc_gt 17 dX9_isIn_9 dX9_isIn_10 (by decide) (fun hc => ?_) (fun hc => ?_)
    · have h := h.1 hc
      refine Wr_iconstv (v := 0) dX9_isIn_17 (by decide) ?_
      exact Wr_iret .boolean dX9_isIn_18 rfl rfl ⟨rfl, h⟩
    · have h := h.2 hc
      refine Wr_iconstv (v := 1) dX9_isIn_13 (by decide) ?_
      refine Wr_goto 18 dX9_isIn_14 (by decide) ?_
      exact Wr_iret .boolean dX9_isIn_18 rfl rfl ⟨rfl, h⟩
theorem cX9_isIn_ {d : Nat} {x0 : Int64} {x2 : Int64} {x4 : Int64} {μ : zMem} {KI : Int32 → zMem → Prop} {X : Nat → zMem → Prop} (h : pX9_isIn d x0 x2 x4 μ KI X) : zcI (d + 1) mX9_isIn [.long x0, .long x2, .long x4] μ KI X :=
  Ex_of (w := 6) mgX9_isIn.2.2.2.2.2 rfl rfl rfl (by decide) (wX9_isIn_0 h)

def pX9_isIsle (d : Nat) (x1 : Int32) (μ : zMem) (KI : Int32 → zMem → Prop) (X : Nat → zMem → Prop) : Prop :=
  zcI d mX9_isIn [.long x1.toInt64, .long 0, .long (((μ 110 0) - 1).toInt64)] μ (fun u2 m1 => (u2 = 0 ∨ u2 = 1) ∧ KI u2 m1) X
set_option maxRecDepth 20000 in
theorem wX9_isIsle_0 {d : Nat} {KI : Int32 → zMem → Prop} {X : Nat → zMem → Prop} {x1 : Int32} {μ : zMem} (h : pX9_isIsle d x1 μ KI X) : Wr mX9_isIsle (d + 1) 0 0 [(0, .ref 106), (1, .int x1)] [] μ (kI KI X) := by
  unfold pX9_isIsle at h
  refine Wr_iload_n dX9_isIsle_0 rfl 1 rfl ?_
  refine Wr_i2l dX9_isIsle_1 ?_
  refine Wr_lconst (v := 0) dX9_isIsle_2 (by decide) ?_
  refine Wr_aload_n dX9_isIsle_3 rfl 0 rfl ?_
  refine Wr_getR 4 dX9_isIsle_4 flX9_51 zl106 rfl (by decide) ?_
  refine Wr_iconstv (v := 0) dX9_isIsle_7 (by decide) ?_
  refine Wr_iald dX9_isIsle_8 zl110 (by unfold vp_in; decide) ?_
  refine Wr_iconstv (v := 1) dX9_isIsle_9 (by decide) ?_
  refine Wr_isub dX9_isIsle_10 ?_
  refine Wr_i2l dX9_isIsle_11 ?_
  refine Wr_cSi [.long x1.toInt64, .long 0, .long (((μ 110 0) - 1).toInt64)] dX9_isIsle_12 mlX9_158 mgX9_isIn rfl msX9_isIn  rfl rfl (Nat.le_of_ble_eq_true rfl) rfl (zcI.imp h (fun u2 m1 h => ?_) (fun _ _ h => ⟨rfl, h⟩))
  exact Wr_iret .boolean dX9_isIsle_15 rfl (znar h.1) ⟨rfl, h.2⟩
theorem cX9_isIsle_ {d : Nat} {x1 : Int32} {μ : zMem} {KI : Int32 → zMem → Prop} {X : Nat → zMem → Prop} (h : pX9_isIsle d x1 μ KI X) : zcI (d + 1) mX9_isIsle [.ref 106, .int x1] μ KI X :=
  Ex_of (w := 2) mgX9_isIsle.2.2.2.2.2 rfl rfl rfl (by decide) (wX9_isIsle_0 h)

def pX9_isHour (d : Nat) (x0 : Int32) (μ : zMem) (KI : Int32 → zMem → Prop) (X : Nat → zMem → Prop) : Prop :=
  zcI d mX9_isIn [.long x0.toInt64, .long 0, .long 167] μ (fun u2 m1 => (u2 = 0 ∨ u2 = 1) ∧ KI u2 m1) X
set_option maxRecDepth 20000 in
theorem wX9_isHour_0 {d : Nat} {KI : Int32 → zMem → Prop} {X : Nat → zMem → Prop} {x0 : Int32} {μ : zMem} (h : pX9_isHour d x0 μ KI X) : Wr mX9_isHour (d + 1) 0 0 [(0, .int x0)] [] μ (kI KI X) := by
  unfold pX9_isHour at h
  refine Wr_iload_n dX9_isHour_0 rfl 0 rfl ?_
  refine Wr_i2l dX9_isHour_1 ?_
  refine Wr_lconst (v := 0) dX9_isHour_2 (by decide) ?_
  refine Wr_ldc2 dX9_isHour_3 lcX9_162 ?_
  refine Wr_cSi [.long x0.toInt64, .long 0, .long 167] dX9_isHour_6 mlX9_158 mgX9_isIn rfl msX9_isIn  rfl rfl (Nat.le_of_ble_eq_true rfl) rfl (zcI.imp h (fun u2 m1 h => ?_) (fun _ _ h => ⟨rfl, h⟩))
  exact Wr_iret .boolean dX9_isHour_9 rfl (znar h.1) ⟨rfl, h.2⟩
theorem cX9_isHour_ {d : Nat} {x0 : Int32} {μ : zMem} {KI : Int32 → zMem → Prop} {X : Nat → zMem → Prop} (h : pX9_isHour d x0 μ KI X) : zcI (d + 1) mX9_isHour [.int x0] μ KI X :=
  Ex_of (w := 1) mgX9_isHour.2.2.2.2.2 rfl rfl rfl (by decide) (wX9_isHour_0 h)

def pX9_isSpan (d : Nat) (x0 : Int32) (x1 : Int32) (μ : zMem) (KI : Int32 → zMem → Prop) (X : Nat → zMem → Prop) : Prop :=
  KI (if x0 < 0 then 0 else (if x1 < x0 then 0 else (if 168 ≤ x1 then 0 else 1))) μ
set_option maxRecDepth 20000 in
theorem wX9_isSpan_0 {d : Nat} {KI : Int32 → zMem → Prop} {X : Nat → zMem → Prop} {x0 : Int32} {x1 : Int32} {μ : zMem} (h : pX9_isSpan d x0 x1 μ KI X) : Wr mX9_isSpan (d + 1) 0 0 [(0, .int x0), (1, .int x1)] [] μ (kI KI X) := by
  unfold pX9_isSpan at h
  refine Wr_iload_n dX9_isSpan_0 rfl 0 rfl ?_
  have hj1 : Wr mX9_isSpan (d + 1) 0 21 [(0, .int x0), (1, .int x1)] [.int (if x0 < 0 then 0 else (if x1 < x0 then 0 else (if 168 ≤ x1 then 0 else 1)))] μ (kI KI X) := by
    exact Wr_iret .boolean dX9_isSpan_21 rfl (znar (by (repeat' split) <;> simp)) ⟨rfl, h⟩
  refine Wr_if_lt 20 dX9_isSpan_1 (by decide) (fun hc0 => ?_) (fun hc0 => ?_)
  · skip
    refine Wr_iconstv (v := 0) dX9_isSpan_20 (by decide) ?_
    exact Wr_top (if_pos hc0) hj1
  · skip
    refine Wr_iload_n dX9_isSpan_4 rfl 0 rfl ?_
    refine Wr_iload_n dX9_isSpan_5 rfl 1 rfl ?_
    refine Wr_icmp_gt 20 dX9_isSpan_6 (by decide) (fun hc1 => ?_) (fun hc1 => ?_)
    · skip
      refine Wr_iconstv (v := 0) dX9_isSpan_20 (by decide) ?_
      exact Wr_top ((if_neg hc0).trans (if_pos hc1)) hj1
    · skip
      refine Wr_iload_n dX9_isSpan_9 rfl 1 rfl ?_
      refine Wr_sipush (v := 168) dX9_isSpan_10 (by decide) ?_
      refine Wr_icmp_ge 20 dX9_isSpan_13 (by decide) (fun hc2 => ?_) (fun hc2 => ?_)
      · skip
        refine Wr_iconstv (v := 0) dX9_isSpan_20 (by decide) ?_
        exact Wr_top ((if_neg hc0).trans ((if_neg hc1).trans (if_pos hc2))) hj1
      · skip
        refine Wr_iconstv (v := 1) dX9_isSpan_16 (by decide) ?_
        refine Wr_goto 21 dX9_isSpan_17 (by decide) ?_
        exact Wr_top ((if_neg hc0).trans ((if_neg hc1).trans (if_neg hc2))) hj1
theorem cX9_isSpan_ {d : Nat} {x0 : Int32} {x1 : Int32} {μ : zMem} {KI : Int32 → zMem → Prop} {X : Nat → zMem → Prop} (h : pX9_isSpan d x0 x1 μ KI X) : zcI (d + 1) mX9_isSpan [.int x0, .int x1] μ KI X :=
  Ex_of (w := 2) mgX9_isSpan.2.2.2.2.2 rfl rfl rfl (by decide) (wX9_isSpan_0 h)

def pX9_of (d : Nat) (x1 : Int32) (x2 : Int32) (μ : zMem) (KI : Int32 → zMem → Prop) (X : Nat → zMem → Prop) : Prop :=
  (vp_in ((14 * x1) + x2) 168) ∧ KI (μ 111 ((14 * x1) + x2).toNatClampNeg) μ
set_option maxRecDepth 20000 in
theorem wX9_of_0 {d : Nat} {KI : Int32 → zMem → Prop} {X : Nat → zMem → Prop} {x1 : Int32} {x2 : Int32} {μ : zMem} (h : pX9_of d x1 x2 μ KI X) : Wr mX9_of (d + 1) 0 0 [(0, .ref 106), (1, .int x1), (2, .int x2)] [] μ (kI KI X) := by
  unfold pX9_of at h
  refine Wr_aload_n dX9_of_0 rfl 0 rfl ?_
  refine Wr_getR 5 dX9_of_1 flX9_55 zl106 rfl (by decide) ?_
  refine Wr_bipush (v := 14) dX9_of_4 (by decide) ?_
  refine Wr_iload_n dX9_of_6 rfl 1 rfl ?_
  refine Wr_imul dX9_of_7 ?_
  refine Wr_iload_n dX9_of_8 rfl 2 rfl ?_
  refine Wr_iadd dX9_of_9 ?_
  obtain ⟨hi, h⟩ := h
  refine Wr_iald dX9_of_10 zl111 hi ?_
  exact Wr_iret .int dX9_of_11 rfl rfl ⟨rfl, h⟩
theorem cX9_of_ {d : Nat} {x1 : Int32} {x2 : Int32} {μ : zMem} {KI : Int32 → zMem → Prop} {X : Nat → zMem → Prop} (h : pX9_of d x1 x2 μ KI X) : zcI (d + 1) mX9_of [.ref 106, .int x1, .int x2] μ KI X :=
  Ex_of (w := 3) mgX9_of.2.2.2.2.2 rfl rfl rfl (by decide) (wX9_of_0 h)

def pX9_feed_23 : Nat → Nat → Int32 → Int32 → Int32 → Int32 → Int32 → Int32 → zMem → (Int32 → zMem → Prop) → (Nat → zMem → Prop) → Prop
  | 0, _, _, _, _, _, _, _, _, _, _ => False
  | n + 1, d, x1, x2, x3, x4, x5, x6, μ, KI, X =>
  ((20 ≤ x6 → KI (μ 106 12) μ) ∧
  (¬ (20 ≤ x6) → ∀ v1 : Int32, v1 = (if 4 ≤ x6 then (if 8 ≤ x6 then (if 12 ≤ x6 then (if 16 ≤ x6 then x5 else x4) else x3) else x2) else x1) → (vp_in (μ 106 12) 700) ∧ ∀ m2 : zMem, m2 = zw μ 117 (μ 106 12).toNatClampNeg ((v1 >>> ((24 - (8 * (x6 - x6 / 4 * 4))) &&& (31 : Int32))) &&& 255) → ∀ m3 : zMem, m3 = zw m2 106 12 ((m2 106 12) + 1) → ∀ v4 : Int32, v4 = x6 + 1 → pX9_feed_23 n d x1 x2 x3 x4 x5 v4 m3 KI X))
set_option maxRecDepth 20000 in
theorem wX9_feed_23 {d : Nat} {KI : Int32 → zMem → Prop} {X : Nat → zMem → Prop} : ∀ (n : Nat) (x1 : Int32) (x2 : Int32) (x3 : Int32) (x4 : Int32) (x5 : Int32) (x6 : Int32) (μ : zMem), pX9_feed_23 n d x1 x2 x3 x4 x5 x6 μ KI X → Wr mX9_feed (d + 1) 0 23 [(0, .ref 106), (1, .int x1), (2, .int x2), (3, .int x3), (4, .int x4), (5, .int x5), (6, .int x6)] [] μ (kI KI X) := by
  intro n
  induction n with
  | zero =>
    intro x1 x2 x3 x4 x5 x6 μ h
    exact absurd h id
  | succ n ih =>
    intro x1 x2 x3 x4 x5 x6 μ h
    unfold pX9_feed_23 at h
    refine Wr_iload dX9_feed_23 6 rfl ?_
    refine Wr_bipush (v := 20) dX9_feed_25 (by decide) ?_
    refine Wr_icmp_ge 120 dX9_feed_27 (by decide) (fun hc => ?_) (fun hc => ?_)
    · have h := h.1 hc
      refine Wr_aload_n dX9_feed_120 rfl 0 rfl ?_
      refine Wr_getI dX9_feed_121 flX9_164 zl106 rfl ?_
      exact Wr_iret .int dX9_feed_124 rfl rfl ⟨rfl, h⟩
    · have h := h.2 hc
      refine Wr_iload dX9_feed_30 6 rfl ?_
      refine Wr_iconstv (v := 4) dX9_feed_32 (by decide) ?_
      have hj1 : Wr mX9_feed (d + 1) 0 76 [(0, .ref 106), (1, .int x1), (2, .int x2), (3, .int x3), (4, .int x4), (5, .int x5), (6, .int x6)] [.int (if 4 ≤ x6 then (if 8 ≤ x6 then (if 12 ≤ x6 then (if 16 ≤ x6 then x5 else x4) else x3) else x2) else x1)] μ (kI KI X) := by
        obtain ⟨v1, ev1⟩ : ∃ z : Int32, z = (if 4 ≤ x6 then (if 8 ≤ x6 then (if 12 ≤ x6 then (if 16 ≤ x6 then x5 else x4) else x3) else x2) else x1) := ⟨_, rfl⟩
        have h := h v1 ev1
        refine Wr_top ev1 ?_
        refine Wr_istore dX9_feed_76 (by decide) rfl ?_
        refine Wr_aload_n dX9_feed_78 rfl 1 rfl ?_
        refine Wr_getR 11 dX9_feed_79 flX9_73 zl106 rfl (by decide) ?_
        refine Wr_aload_n dX9_feed_82 rfl 1 rfl ?_
        refine Wr_getI dX9_feed_83 flX9_164 zl106 rfl ?_
        refine Wr_iload dX9_feed_86 0 rfl ?_
        refine Wr_bipush (v := 24) dX9_feed_88 (by decide) ?_
        refine Wr_bipush (v := 8) dX9_feed_90 (by decide) ?_
        refine Wr_iload dX9_feed_92 7 rfl ?_
        refine Wr_iconstv (v := 4) dX9_feed_94 (by decide) ?_
        refine Wr_irem dX9_feed_95 (by decide) ?_
        refine Wr_imul dX9_feed_96 ?_
        refine Wr_isub dX9_feed_97 ?_
        refine Wr_ishr dX9_feed_98 ?_
        refine Wr_sipush (v := 255) dX9_feed_99 (by decide) ?_
        refine Wr_iand dX9_feed_102 ?_
        obtain ⟨him2, h⟩ := h
        obtain ⟨m2, em2⟩ : ∃ z : zMem, z = zw μ 117 (μ 106 12).toNatClampNeg ((v1 >>> ((24 - (8 * (x6 - x6 / 4 * 4))) &&& (31 : Int32))) &&& 255) := ⟨_, rfl⟩
        have h := h m2 em2
        refine Wr_iast dX9_feed_103 zl117 him2 ?_
        refine Wr_mu em2 ?_
        refine Wr_aload_n dX9_feed_104 rfl 1 rfl ?_
        refine Wr_dup dX9_feed_105 rfl ?_
        refine Wr_getI dX9_feed_106 flX9_164 zl106 rfl ?_
        refine Wr_iconstv (v := 1) dX9_feed_109 (by decide) ?_
        refine Wr_iadd dX9_feed_110 ?_
        obtain ⟨m3, em3⟩ : ∃ z : zMem, z = zw m2 106 12 ((m2 106 12) + 1) := ⟨_, rfl⟩
        have h := h m3 em3
        refine Wr_putI dX9_feed_111 fpX9_164 zl106 rfl ?_
        refine Wr_mu em3 ?_
        obtain ⟨v4, ev4⟩ : ∃ z : Int32, z = x6 + 1 := ⟨_, rfl⟩
        have h := h v4 ev4
        refine Wr_iinc (v := v4) dX9_feed_114 (q := 7) rfl (by rw [ev4]; rfl) (by decide) rfl ?_
        refine Wr_goto 23 dX9_feed_117 (by decide) ?_
        refine zsub [0, 1, 2, 3, 4, 5, 6] rfl ?_
        exact ih _ _ _ _ _ _ _ h
      refine Wr_icmp_ge 40 dX9_feed_33 (by decide) (fun hc0 => ?_) (fun hc0 => ?_)
      · skip
        refine Wr_iload dX9_feed_40 6 rfl ?_
        refine Wr_bipush (v := 8) dX9_feed_42 (by decide) ?_
        refine Wr_icmp_ge 51 dX9_feed_44 (by decide) (fun hc1 => ?_) (fun hc1 => ?_)
        · skip
          refine Wr_iload dX9_feed_51 6 rfl ?_
          refine Wr_bipush (v := 12) dX9_feed_53 (by decide) ?_
          refine Wr_icmp_ge 62 dX9_feed_55 (by decide) (fun hc2 => ?_) (fun hc2 => ?_)
          · skip
            refine Wr_iload dX9_feed_62 6 rfl ?_
            refine Wr_bipush (v := 16) dX9_feed_64 (by decide) ?_
            refine Wr_icmp_ge 74 dX9_feed_66 (by decide) (fun hc3 => ?_) (fun hc3 => ?_)
            · skip
              refine Wr_iload dX9_feed_74 5 rfl ?_
              exact Wr_top ((if_pos hc0).trans ((if_pos hc1).trans ((if_pos hc2).trans (if_pos hc3)))) hj1
            · skip
              refine Wr_iload dX9_feed_69 4 rfl ?_
              refine Wr_goto 76 dX9_feed_71 (by decide) ?_
              exact Wr_top ((if_pos hc0).trans ((if_pos hc1).trans ((if_pos hc2).trans (if_neg hc3)))) hj1
          · skip
            refine Wr_iload_n dX9_feed_58 rfl 3 rfl ?_
            refine Wr_goto 76 dX9_feed_59 (by decide) ?_
            exact Wr_top ((if_pos hc0).trans ((if_pos hc1).trans (if_neg hc2))) hj1
        · skip
          refine Wr_iload_n dX9_feed_47 rfl 2 rfl ?_
          refine Wr_goto 76 dX9_feed_48 (by decide) ?_
          exact Wr_top ((if_pos hc0).trans (if_neg hc1)) hj1
      · skip
        refine Wr_iload_n dX9_feed_36 rfl 1 rfl ?_
        refine Wr_goto 76 dX9_feed_37 (by decide) ?_
        exact Wr_top (if_neg hc0) hj1
def pX9_feed (d : Nat) (x1 : Int32) (x2 : Int32) (x3 : Int32) (x4 : Int32) (x5 : Int32) (μ : zMem) (KI : Int32 → zMem → Prop) (X : Nat → zMem → Prop) : Prop :=
  ∀ m1 : zMem, m1 = zw μ 106 3 0 → (((m1 106 12) + 20 ≤ 700 → ∃ n2 : Nat, pX9_feed_23 n2 d x1 x2 x3 x4 x5 0 m1 KI X) ∧
  (¬ ((m1 106 12) + 20 ≤ 700) → KI (-1) m1))
set_option maxRecDepth 20000 in
theorem wX9_feed_0 {d : Nat} {KI : Int32 → zMem → Prop} {X : Nat → zMem → Prop} {x1 : Int32} {x2 : Int32} {x3 : Int32} {x4 : Int32} {x5 : Int32} {μ : zMem} (h : pX9_feed d x1 x2 x3 x4 x5 μ KI X) : Wr mX9_feed (d + 1) 0 0 [(0, .ref 106), (1, .int x1), (2, .int x2), (3, .int x3), (4, .int x4), (5, .int x5)] [] μ (kI KI X) := by
  unfold pX9_feed at h
  refine Wr_aload_n dX9_feed_0 rfl 0 rfl ?_
  refine Wr_iconstv (v := 0) dX9_feed_1 (by decide) ?_
  obtain ⟨m1, em1⟩ : ∃ z : zMem, z = zw μ 106 3 0 := ⟨_, rfl⟩
  have h := h m1 em1
  refine Wr_putI dX9_feed_2 fpX9_155 zl106 rfl ?_
  refine Wr_mu em1 ?_
  refine Wr_aload_n dX9_feed_5 rfl 0 rfl ?_
  refine Wr_getI dX9_feed_6 flX9_164 zl106 rfl ?_
  refine Wr_bipush (v := 20) dX9_feed_9 (by decide) ?_
  refine Wr_iadd dX9_feed_11 ?_
  refine Wr_sipush (v := 700) dX9_feed_12 (by decide) ?_
  refine Wr_icmp_le 20 dX9_feed_15 (by decide) (fun hc => ?_) (fun hc => ?_)
  · have h := h.1 hc
    refine Wr_iconstv (v := 0) dX9_feed_20 (by decide) ?_
    refine Wr_istore dX9_feed_21 (by decide) rfl ?_
    refine zsub [0, 1, 2, 3, 4, 5, 6] rfl ?_
    obtain ⟨n9, h⟩ := h
    exact wX9_feed_23 n9 _ _ _ _ _ _ _ h
  · have h := h.2 hc
    refine Wr_iconstv (v := (-1)) dX9_feed_18 (by decide) ?_
    exact Wr_iret .int dX9_feed_19 rfl rfl ⟨rfl, h⟩
theorem cX9_feed_ {d : Nat} {x1 : Int32} {x2 : Int32} {x3 : Int32} {x4 : Int32} {x5 : Int32} {μ : zMem} {KI : Int32 → zMem → Prop} {X : Nat → zMem → Prop} (h : pX9_feed d x1 x2 x3 x4 x5 μ KI X) : zcI (d + 1) mX9_feed [.ref 106, .int x1, .int x2, .int x3, .int x4, .int x5] μ KI X :=
  Ex_of (w := 6) mgX9_feed.2.2.2.2.2 rfl rfl rfl (by decide) (wX9_feed_0 h)

def pX9_byteAt (d : Nat) (x1 : Int32) (μ : zMem) (KI : Int32 → zMem → Prop) (X : Nat → zMem → Prop) : Prop :=
  ((μ 106 14 ≤ x1 → KI (-1) μ) ∧
  (¬ (μ 106 14 ≤ x1) → (vp_in x1 700) ∧ KI (μ 117 x1.toNatClampNeg) μ))
set_option maxRecDepth 20000 in
theorem wX9_byteAt_0 {d : Nat} {KI : Int32 → zMem → Prop} {X : Nat → zMem → Prop} {x1 : Int32} {μ : zMem} (h : pX9_byteAt d x1 μ KI X) : Wr mX9_byteAt (d + 1) 0 0 [(0, .ref 106), (1, .int x1)] [] μ (kI KI X) := by
  unfold pX9_byteAt at h
  refine Wr_iload_n dX9_byteAt_0 rfl 1 rfl ?_
  refine Wr_aload_n dX9_byteAt_1 rfl 0 rfl ?_
  refine Wr_getI dX9_byteAt_2 flX9_167 zl106 rfl ?_
  refine Wr_icmp_ge 17 dX9_byteAt_5 (by decide) (fun hc => ?_) (fun hc => ?_)
  · have h := h.1 hc
    refine Wr_iconstv (v := (-1)) dX9_byteAt_17 (by decide) ?_
    exact Wr_iret .int dX9_byteAt_18 rfl rfl ⟨rfl, h⟩
  · have h := h.2 hc
    refine Wr_aload_n dX9_byteAt_8 rfl 0 rfl ?_
    refine Wr_getR 11 dX9_byteAt_9 flX9_73 zl106 rfl (by decide) ?_
    refine Wr_iload_n dX9_byteAt_12 rfl 1 rfl ?_
    obtain ⟨hi, h⟩ := h
    refine Wr_iald dX9_byteAt_13 zl117 hi ?_
    refine Wr_goto 18 dX9_byteAt_14 (by decide) ?_
    exact Wr_iret .int dX9_byteAt_18 rfl rfl ⟨rfl, h⟩
theorem cX9_byteAt_ {d : Nat} {x1 : Int32} {μ : zMem} {KI : Int32 → zMem → Prop} {X : Nat → zMem → Prop} (h : pX9_byteAt d x1 μ KI X) : zcI (d + 1) mX9_byteAt [.ref 106, .int x1] μ KI X :=
  Ex_of (w := 2) mgX9_byteAt.2.2.2.2.2 rfl rfl rfl (by decide) (wX9_byteAt_0 h)

def pX9_isLetter (d : Nat) (x0 : Int32) (μ : zMem) (KI : Int32 → zMem → Prop) (X : Nat → zMem → Prop) : Prop :=
  KI (if x0 < 97 then 0 else (if 122 < x0 then 0 else 1)) μ
set_option maxRecDepth 20000 in
theorem wX9_isLetter_0 {d : Nat} {KI : Int32 → zMem → Prop} {X : Nat → zMem → Prop} {x0 : Int32} {μ : zMem} (h : pX9_isLetter d x0 μ KI X) : Wr mX9_isLetter (d + 1) 0 0 [(0, .int x0)] [] μ (kI KI X) := by
  unfold pX9_isLetter at h
  refine Wr_iload_n dX9_isLetter_0 rfl 0 rfl ?_
  refine Wr_bipush (v := 97) dX9_isLetter_1 (by decide) ?_
  have hj1 : Wr mX9_isLetter (d + 1) 0 17 [(0, .int x0)] [.int (if x0 < 97 then 0 else (if 122 < x0 then 0 else 1))] μ (kI KI X) := by
    exact Wr_iret .boolean dX9_isLetter_17 rfl (znar (by (repeat' split) <;> simp)) ⟨rfl, h⟩
  refine Wr_icmp_lt 16 dX9_isLetter_3 (by decide) (fun hc0 => ?_) (fun hc0 => ?_)
  · skip
    refine Wr_iconstv (v := 0) dX9_isLetter_16 (by decide) ?_
    exact Wr_top (if_pos hc0) hj1
  · skip
    refine Wr_iload_n dX9_isLetter_6 rfl 0 rfl ?_
    refine Wr_bipush (v := 122) dX9_isLetter_7 (by decide) ?_
    refine Wr_icmp_gt 16 dX9_isLetter_9 (by decide) (fun hc1 => ?_) (fun hc1 => ?_)
    · skip
      refine Wr_iconstv (v := 0) dX9_isLetter_16 (by decide) ?_
      exact Wr_top ((if_neg hc0).trans (if_pos hc1)) hj1
    · skip
      refine Wr_iconstv (v := 1) dX9_isLetter_12 (by decide) ?_
      refine Wr_goto 17 dX9_isLetter_13 (by decide) ?_
      exact Wr_top ((if_neg hc0).trans (if_neg hc1)) hj1
theorem cX9_isLetter_ {d : Nat} {x0 : Int32} {μ : zMem} {KI : Int32 → zMem → Prop} {X : Nat → zMem → Prop} (h : pX9_isLetter d x0 μ KI X) : zcI (d + 1) mX9_isLetter [.int x0] μ KI X :=
  Ex_of (w := 1) mgX9_isLetter.2.2.2.2.2 rfl rfl rfl (by decide) (wX9_isLetter_0 h)

def pX9_isDigit (d : Nat) (x0 : Int32) (μ : zMem) (KI : Int32 → zMem → Prop) (X : Nat → zMem → Prop) : Prop :=
  KI (if x0 < 48 then 0 else (if 57 < x0 then 0 else 1)) μ
set_option maxRecDepth 20000 in
theorem wX9_isDigit_0 {d : Nat} {KI : Int32 → zMem → Prop} {X : Nat → zMem → Prop} {x0 : Int32} {μ : zMem} (h : pX9_isDigit d x0 μ KI X) : Wr mX9_isDigit (d + 1) 0 0 [(0, .int x0)] [] μ (kI KI X) := by
  unfold pX9_isDigit at h
  refine Wr_iload_n dX9_isDigit_0 rfl 0 rfl ?_
  refine Wr_bipush (v := 48) dX9_isDigit_1 (by decide) ?_
  have hj1 : Wr mX9_isDigit (d + 1) 0 17 [(0, .int x0)] [.int (if x0 < 48 then 0 else (if 57 < x0 then 0 else 1))] μ (kI KI X) := by
    exact Wr_iret .boolean dX9_isDigit_17 rfl (znar (by (repeat' split) <;> simp)) ⟨rfl, h⟩
  refine Wr_icmp_lt 16 dX9_isDigit_3 (by decide) (fun hc0 => ?_) (fun hc0 => ?_)
  · skip
    refine Wr_iconstv (v := 0) dX9_isDigit_16 (by decide) ?_
    exact Wr_top (if_pos hc0) hj1
  · skip
    refine Wr_iload_n dX9_isDigit_6 rfl 0 rfl ?_
    refine Wr_bipush (v := 57) dX9_isDigit_7 (by decide) ?_
    refine Wr_icmp_gt 16 dX9_isDigit_9 (by decide) (fun hc1 => ?_) (fun hc1 => ?_)
    · skip
      refine Wr_iconstv (v := 0) dX9_isDigit_16 (by decide) ?_
      exact Wr_top ((if_neg hc0).trans (if_pos hc1)) hj1
    · skip
      refine Wr_iconstv (v := 1) dX9_isDigit_12 (by decide) ?_
      refine Wr_goto 17 dX9_isDigit_13 (by decide) ?_
      exact Wr_top ((if_neg hc0).trans (if_neg hc1)) hj1
theorem cX9_isDigit_ {d : Nat} {x0 : Int32} {μ : zMem} {KI : Int32 → zMem → Prop} {X : Nat → zMem → Prop} (h : pX9_isDigit d x0 μ KI X) : zcI (d + 1) mX9_isDigit [.int x0] μ KI X :=
  Ex_of (w := 1) mgX9_isDigit.2.2.2.2.2 rfl rfl rfl (by decide) (wX9_isDigit_0 h)

def pX9_isMark (d : Nat) (x0 : Int32) (μ : zMem) (KI : Int32 → zMem → Prop) (X : Nat → zMem → Prop) : Prop :=
  KI (if x0 = 59 then 1 else (if x0 = 40 then 1 else (if x0 = 41 then 1 else (if x0 = 43 then 1 else (if x0 = 45 then 1 else (if x0 = 42 then 1 else (if x0 = 47 then 1 else (if x0 = 60 then 1 else (if x0 = 61 then 1 else 0))))))))) μ
set_option maxRecDepth 20000 in
theorem wX9_isMark_0 {d : Nat} {KI : Int32 → zMem → Prop} {X : Nat → zMem → Prop} {x0 : Int32} {μ : zMem} (h : pX9_isMark d x0 μ KI X) : Wr mX9_isMark (d + 1) 0 0 [(0, .int x0)] [] μ (kI KI X) := by
  unfold pX9_isMark at h
  refine Wr_iload_n dX9_isMark_0 rfl 0 rfl ?_
  refine Wr_bipush (v := 59) dX9_isMark_1 (by decide) ?_
  have hj1 : Wr mX9_isMark (d + 1) 0 59 [(0, .int x0)] [.int (if x0 = 59 then 1 else (if x0 = 40 then 1 else (if x0 = 41 then 1 else (if x0 = 43 then 1 else (if x0 = 45 then 1 else (if x0 = 42 then 1 else (if x0 = 47 then 1 else (if x0 = 60 then 1 else (if x0 = 61 then 1 else 0)))))))))] μ (kI KI X) := by
    exact Wr_iret .boolean dX9_isMark_59 rfl (znar (by (repeat' split) <;> simp)) ⟨rfl, h⟩
  refine Wr_icmp_eq 54 dX9_isMark_3 (by decide) (fun hc0 => ?_) (fun hc0 => ?_)
  · skip
    refine Wr_iconstv (v := 1) dX9_isMark_54 (by decide) ?_
    refine Wr_goto 59 dX9_isMark_55 (by decide) ?_
    exact Wr_top (if_pos hc0) hj1
  · skip
    refine Wr_iload_n dX9_isMark_6 rfl 0 rfl ?_
    refine Wr_bipush (v := 40) dX9_isMark_7 (by decide) ?_
    refine Wr_icmp_eq 54 dX9_isMark_9 (by decide) (fun hc1 => ?_) (fun hc1 => ?_)
    · skip
      refine Wr_iconstv (v := 1) dX9_isMark_54 (by decide) ?_
      refine Wr_goto 59 dX9_isMark_55 (by decide) ?_
      exact Wr_top ((if_neg hc0).trans (if_pos hc1)) hj1
    · skip
      refine Wr_iload_n dX9_isMark_12 rfl 0 rfl ?_
      refine Wr_bipush (v := 41) dX9_isMark_13 (by decide) ?_
      refine Wr_icmp_eq 54 dX9_isMark_15 (by decide) (fun hc2 => ?_) (fun hc2 => ?_)
      · skip
        refine Wr_iconstv (v := 1) dX9_isMark_54 (by decide) ?_
        refine Wr_goto 59 dX9_isMark_55 (by decide) ?_
        exact Wr_top ((if_neg hc0).trans ((if_neg hc1).trans (if_pos hc2))) hj1
      · skip
        refine Wr_iload_n dX9_isMark_18 rfl 0 rfl ?_
        refine Wr_bipush (v := 43) dX9_isMark_19 (by decide) ?_
        refine Wr_icmp_eq 54 dX9_isMark_21 (by decide) (fun hc3 => ?_) (fun hc3 => ?_)
        · skip
          refine Wr_iconstv (v := 1) dX9_isMark_54 (by decide) ?_
          refine Wr_goto 59 dX9_isMark_55 (by decide) ?_
          exact Wr_top ((if_neg hc0).trans ((if_neg hc1).trans ((if_neg hc2).trans (if_pos hc3)))) hj1
        · skip
          refine Wr_iload_n dX9_isMark_24 rfl 0 rfl ?_
          refine Wr_bipush (v := 45) dX9_isMark_25 (by decide) ?_
          refine Wr_icmp_eq 54 dX9_isMark_27 (by decide) (fun hc4 => ?_) (fun hc4 => ?_)
          · skip
            refine Wr_iconstv (v := 1) dX9_isMark_54 (by decide) ?_
            refine Wr_goto 59 dX9_isMark_55 (by decide) ?_
            exact Wr_top ((if_neg hc0).trans ((if_neg hc1).trans ((if_neg hc2).trans ((if_neg hc3).trans (if_pos hc4))))) hj1
          · skip
            refine Wr_iload_n dX9_isMark_30 rfl 0 rfl ?_
            refine Wr_bipush (v := 42) dX9_isMark_31 (by decide) ?_
            refine Wr_icmp_eq 54 dX9_isMark_33 (by decide) (fun hc5 => ?_) (fun hc5 => ?_)
            · skip
              refine Wr_iconstv (v := 1) dX9_isMark_54 (by decide) ?_
              refine Wr_goto 59 dX9_isMark_55 (by decide) ?_
              exact Wr_top ((if_neg hc0).trans ((if_neg hc1).trans ((if_neg hc2).trans ((if_neg hc3).trans ((if_neg hc4).trans (if_pos hc5)))))) hj1
            · skip
              refine Wr_iload_n dX9_isMark_36 rfl 0 rfl ?_
              refine Wr_bipush (v := 47) dX9_isMark_37 (by decide) ?_
              refine Wr_icmp_eq 54 dX9_isMark_39 (by decide) (fun hc6 => ?_) (fun hc6 => ?_)
              · skip
                refine Wr_iconstv (v := 1) dX9_isMark_54 (by decide) ?_
                refine Wr_goto 59 dX9_isMark_55 (by decide) ?_
                exact Wr_top ((if_neg hc0).trans ((if_neg hc1).trans ((if_neg hc2).trans ((if_neg hc3).trans ((if_neg hc4).trans ((if_neg hc5).trans (if_pos hc6))))))) hj1
              · skip
                refine Wr_iload_n dX9_isMark_42 rfl 0 rfl ?_
                refine Wr_bipush (v := 60) dX9_isMark_43 (by decide) ?_
                refine Wr_icmp_eq 54 dX9_isMark_45 (by decide) (fun hc7 => ?_) (fun hc7 => ?_)
                · skip
                  refine Wr_iconstv (v := 1) dX9_isMark_54 (by decide) ?_
                  refine Wr_goto 59 dX9_isMark_55 (by decide) ?_
                  exact Wr_top ((if_neg hc0).trans ((if_neg hc1).trans ((if_neg hc2).trans ((if_neg hc3).trans ((if_neg hc4).trans ((if_neg hc5).trans ((if_neg hc6).trans (if_pos hc7)))))))) hj1
                · skip
                  refine Wr_iload_n dX9_isMark_48 rfl 0 rfl ?_
                  refine Wr_bipush (v := 61) dX9_isMark_49 (by decide) ?_
                  refine Wr_icmp_ne 58 dX9_isMark_51 (by decide) (fun hc8 => ?_) (fun hc8 => ?_)
                  · skip
                    refine Wr_iconstv (v := 0) dX9_isMark_58 (by decide) ?_
                    exact Wr_top ((if_neg hc0).trans ((if_neg hc1).trans ((if_neg hc2).trans ((if_neg hc3).trans ((if_neg hc4).trans ((if_neg hc5).trans ((if_neg hc6).trans ((if_neg hc7).trans (if_neg hc8))))))))) hj1
                  · skip
                    refine Wr_iconstv (v := 1) dX9_isMark_54 (by decide) ?_
                    refine Wr_goto 59 dX9_isMark_55 (by decide) ?_
                    exact Wr_top ((if_neg hc0).trans ((if_neg hc1).trans ((if_neg hc2).trans ((if_neg hc3).trans ((if_neg hc4).trans ((if_neg hc5).trans ((if_neg hc6).trans ((if_neg hc7).trans (if_pos hc8))))))))) hj1
theorem cX9_isMark_ {d : Nat} {x0 : Int32} {μ : zMem} {KI : Int32 → zMem → Prop} {X : Nat → zMem → Prop} (h : pX9_isMark d x0 μ KI X) : zcI (d + 1) mX9_isMark [.int x0] μ KI X :=
  Ex_of (w := 1) mgX9_isMark.2.2.2.2.2 rfl rfl rfl (by decide) (wX9_isMark_0 h)

def pX9_stepOn_26 (d : Nat) (μ : zMem) (KV : zMem → Prop) (X : Nat → zMem → Prop) (C0 : zMem → Prop) : Prop :=
  ∀ m1 : zMem, m1 = zw μ 106 13 ((μ 106 13) + 1) → C0 m1
set_option maxRecDepth 20000 in
theorem wX9_stepOn_26 {d : Nat} {KV : zMem → Prop} {X : Nat → zMem → Prop} {C0 : zMem → Prop} {μ : zMem} (hC0 : ∀ (μ : zMem), C0 μ → Wr mX9_stepOn (d + 1) 0 0 [(0, .ref 106)] [] μ (kV KV X)) (h : pX9_stepOn_26 d μ KV X C0) : Wr mX9_stepOn (d + 1) 0 26 [(0, .ref 106)] [] μ (kV KV X) := by
  unfold pX9_stepOn_26 at h
  refine Wr_aload_n dX9_stepOn_26 rfl 0 rfl ?_
  refine Wr_dup dX9_stepOn_27 rfl ?_
  refine Wr_getI dX9_stepOn_28 flX9_169 zl106 rfl ?_
  refine Wr_iconstv (v := 1) dX9_stepOn_31 (by decide) ?_
  refine Wr_iadd dX9_stepOn_32 ?_
  obtain ⟨m1, em1⟩ : ∃ z : zMem, z = zw μ 106 13 ((μ 106 13) + 1) := ⟨_, rfl⟩
  have h := h m1 em1
  refine Wr_putI dX9_stepOn_33 fpX9_169 zl106 rfl ?_
  refine Wr_mu em1 ?_
  refine Wr_goto 0 dX9_stepOn_36 (by decide) ?_
  refine zsub [0] rfl ?_
  exact hC0 _ h
def pX9_stepOn_212 (d : Nat) (μ : zMem) (KV : zMem → Prop) (X : Nat → zMem → Prop) : Prop :=
  ∀ m1 : zMem, m1 = zw μ 106 18 (μ 106 13) → KV m1
set_option maxRecDepth 20000 in
theorem wX9_stepOn_212 {d : Nat} {KV : zMem → Prop} {X : Nat → zMem → Prop} {μ : zMem} (h : pX9_stepOn_212 d μ KV X) : Wr mX9_stepOn (d + 1) 0 212 [(0, .ref 106)] [] μ (kV KV X) := by
  unfold pX9_stepOn_212 at h
  refine Wr_aload_n dX9_stepOn_212 rfl 0 rfl ?_
  refine Wr_aload_n dX9_stepOn_213 rfl 0 rfl ?_
  refine Wr_getI dX9_stepOn_214 flX9_169 zl106 rfl ?_
  obtain ⟨m1, em1⟩ : ∃ z : zMem, z = zw μ 106 18 (μ 106 13) := ⟨_, rfl⟩
  have h := h m1 em1
  refine Wr_putI dX9_stepOn_217 fpX9_202 zl106 rfl ?_
  refine Wr_mu em1 ?_
  exact Wr_vret dX9_stepOn_220 rfl ⟨rfl, h⟩
def pX9_stepOn_76 : Nat → Nat → zMem → (zMem → Prop) → (Nat → zMem → Prop) → Prop
  | 0, _, _, _, _ => False
  | n + 1, d, μ, KV, X =>
  zcI d mX9_byteAt [.ref 106, .int (μ 106 13)] μ (fun u2 m1 => zcI d mX9_isLetter [.int u2] m1 (fun u4 m3 => ((u4 = 0 → ∀ m5 : zMem, m5 = zw m3 106 15 1 → pX9_stepOn_212 d m5 KV X) ∧
  (¬ (u4 = 0) → ∀ m6 : zMem, m6 = zw m3 106 13 ((m3 106 13) + 1) → pX9_stepOn_76 n d m6 KV X))) X) X
set_option maxRecDepth 20000 in
theorem wX9_stepOn_76 {d : Nat} {KV : zMem → Prop} {X : Nat → zMem → Prop} : ∀ (n : Nat) (μ : zMem), pX9_stepOn_76 n d μ KV X → Wr mX9_stepOn (d + 1) 0 76 [(0, .ref 106)] [] μ (kV KV X) := by
  intro n
  induction n with
  | zero =>
    intro μ h
    exact absurd h id
  | succ n ih =>
    intro μ h
    unfold pX9_stepOn_76 at h
    refine Wr_aload_n dX9_stepOn_76 rfl 0 rfl ?_
    refine Wr_aload_n dX9_stepOn_77 rfl 0 rfl ?_
    refine Wr_getI dX9_stepOn_78 flX9_169 zl106 rfl ?_
    refine Wr_cVi [.int (μ 106 13)] dX9_stepOn_81 mlX9_172 mgX9_byteAt rfl mvX9_byteAt (zrv zl106 _ rfl rfl) rfl rfl (Nat.le_of_ble_eq_true rfl) rfl (zcI.imp h (fun u2 m1 h => ?_) (fun _ _ h => ⟨rfl, h⟩))
    refine Wr_cSi [.int u2] dX9_stepOn_84 mlX9_182 mgX9_isLetter rfl msX9_isLetter  rfl rfl (Nat.le_of_ble_eq_true rfl) rfl (zcI.imp h (fun u4 m3 h => ?_) (fun _ _ h => ⟨rfl, h⟩))
    refine Wr_if_eq 103 dX9_stepOn_87 (by decide) (fun hc => ?_) (fun hc => ?_)
    · have h := h.1 hc
      refine Wr_aload_n dX9_stepOn_103 rfl 0 rfl ?_
      refine Wr_iconstv (v := 1) dX9_stepOn_104 (by decide) ?_
      obtain ⟨m5, em5⟩ : ∃ z : zMem, z = zw m3 106 15 1 := ⟨_, rfl⟩
      have h := h m5 em5
      refine Wr_putI dX9_stepOn_105 fpX9_179 zl106 rfl ?_
      refine Wr_mu em5 ?_
      refine Wr_goto 212 dX9_stepOn_108 (by decide) ?_
      refine zsub [0] rfl ?_
      exact wX9_stepOn_212 h
    · have h := h.2 hc
      refine Wr_aload_n dX9_stepOn_90 rfl 0 rfl ?_
      refine Wr_dup dX9_stepOn_91 rfl ?_
      refine Wr_getI dX9_stepOn_92 flX9_169 zl106 rfl ?_
      refine Wr_iconstv (v := 1) dX9_stepOn_95 (by decide) ?_
      refine Wr_iadd dX9_stepOn_96 ?_
      obtain ⟨m6, em6⟩ : ∃ z : zMem, z = zw m3 106 13 ((m3 106 13) + 1) := ⟨_, rfl⟩
      have h := h m6 em6
      refine Wr_putI dX9_stepOn_97 fpX9_169 zl106 rfl ?_
      refine Wr_mu em6 ?_
      refine Wr_goto 76 dX9_stepOn_100 (by decide) ?_
      refine zsub [0] rfl ?_
      exact ih _ h
def pX9_stepOn_123 : Nat → Nat → zMem → (zMem → Prop) → (Nat → zMem → Prop) → Prop
  | 0, _, _, _, _ => False
  | n + 1, d, μ, KV, X =>
  zcI d mX9_byteAt [.ref 106, .int (μ 106 13)] μ (fun u2 m1 => zcI d mX9_isDigit [.int u2] m1 (fun u4 m3 => ((u4 = 0 → ∀ m5 : zMem, m5 = zw m3 106 15 2 → pX9_stepOn_212 d m5 KV X) ∧
  (¬ (u4 = 0) → zcI d mX9_byteAt [.ref 106, .int (m3 106 13)] m3 (fun u7 m6 => ∀ m8 : zMem, m8 = zw m6 106 16 (zmin 100000 (((10 * (m3 106 16)) + u7) - 48)) → ∀ m9 : zMem, m9 = zw m8 106 13 ((m8 106 13) + 1) → pX9_stepOn_123 n d m9 KV X) X))) X) X
set_option maxRecDepth 20000 in
theorem wX9_stepOn_123 {d : Nat} {KV : zMem → Prop} {X : Nat → zMem → Prop} : ∀ (n : Nat) (μ : zMem), pX9_stepOn_123 n d μ KV X → Wr mX9_stepOn (d + 1) 0 123 [(0, .ref 106)] [] μ (kV KV X) := by
  intro n
  induction n with
  | zero =>
    intro μ h
    exact absurd h id
  | succ n ih =>
    intro μ h
    unfold pX9_stepOn_123 at h
    refine Wr_aload_n dX9_stepOn_123 rfl 0 rfl ?_
    refine Wr_aload_n dX9_stepOn_124 rfl 0 rfl ?_
    refine Wr_getI dX9_stepOn_125 flX9_169 zl106 rfl ?_
    refine Wr_cVi [.int (μ 106 13)] dX9_stepOn_128 mlX9_172 mgX9_byteAt rfl mvX9_byteAt (zrv zl106 _ rfl rfl) rfl rfl (Nat.le_of_ble_eq_true rfl) rfl (zcI.imp h (fun u2 m1 h => ?_) (fun _ _ h => ⟨rfl, h⟩))
    refine Wr_cSi [.int u2] dX9_stepOn_131 mlX9_186 mgX9_isDigit rfl msX9_isDigit  rfl rfl (Nat.le_of_ble_eq_true rfl) rfl (zcI.imp h (fun u4 m3 h => ?_) (fun _ _ h => ⟨rfl, h⟩))
    refine Wr_if_eq 178 dX9_stepOn_134 (by decide) (fun hc => ?_) (fun hc => ?_)
    · have h := h.1 hc
      refine Wr_aload_n dX9_stepOn_178 rfl 0 rfl ?_
      refine Wr_iconstv (v := 2) dX9_stepOn_179 (by decide) ?_
      obtain ⟨m5, em5⟩ : ∃ z : zMem, z = zw m3 106 15 2 := ⟨_, rfl⟩
      have h := h m5 em5
      refine Wr_putI dX9_stepOn_180 fpX9_179 zl106 rfl ?_
      refine Wr_mu em5 ?_
      refine Wr_goto 212 dX9_stepOn_183 (by decide) ?_
      refine zsub [0] rfl ?_
      exact wX9_stepOn_212 h
    · have h := h.2 hc
      refine Wr_aload_n dX9_stepOn_137 rfl 0 rfl ?_
      refine Wr_ldc dX9_stepOn_138 lcX9_192 ?_
      refine Wr_bipush (v := 10) dX9_stepOn_140 (by decide) ?_
      refine Wr_aload_n dX9_stepOn_142 rfl 0 rfl ?_
      refine Wr_getI dX9_stepOn_143 flX9_189 zl106 rfl ?_
      refine Wr_imul dX9_stepOn_146 ?_
      refine Wr_aload_n dX9_stepOn_147 rfl 0 rfl ?_
      refine Wr_aload_n dX9_stepOn_148 rfl 0 rfl ?_
      refine Wr_getI dX9_stepOn_149 flX9_169 zl106 rfl ?_
      refine Wr_cVi [.int (m3 106 13)] dX9_stepOn_152 mlX9_172 mgX9_byteAt rfl mvX9_byteAt (zrv zl106 _ rfl rfl) rfl rfl (Nat.le_of_ble_eq_true rfl) rfl (zcI.imp h (fun u7 m6 h => ?_) (fun _ _ h => ⟨rfl, h⟩))
      refine Wr_iadd dX9_stepOn_155 ?_
      refine Wr_bipush (v := 48) dX9_stepOn_156 (by decide) ?_
      refine Wr_isub dX9_stepOn_158 ?_
      refine Wr_mmin dX9_stepOn_159 mlX9_193 (Nat.le_of_ble_eq_true rfl) ?_
      obtain ⟨m8, em8⟩ : ∃ z : zMem, z = zw m6 106 16 (zmin 100000 (((10 * (m3 106 16)) + u7) - 48)) := ⟨_, rfl⟩
      have h := h m8 em8
      refine Wr_putI dX9_stepOn_162 fpX9_189 zl106 rfl ?_
      refine Wr_mu em8 ?_
      refine Wr_aload_n dX9_stepOn_165 rfl 0 rfl ?_
      refine Wr_dup dX9_stepOn_166 rfl ?_
      refine Wr_getI dX9_stepOn_167 flX9_169 zl106 rfl ?_
      refine Wr_iconstv (v := 1) dX9_stepOn_170 (by decide) ?_
      refine Wr_iadd dX9_stepOn_171 ?_
      obtain ⟨m9, em9⟩ : ∃ z : zMem, z = zw m8 106 13 ((m8 106 13) + 1) := ⟨_, rfl⟩
      have h := h m9 em9
      refine Wr_putI dX9_stepOn_172 fpX9_169 zl106 rfl ?_
      refine Wr_mu em9 ?_
      refine Wr_goto 123 dX9_stepOn_175 (by decide) ?_
      refine zsub [0] rfl ?_
      exact ih _ h
def pX9_stepOn : Nat → Nat → zMem → (zMem → Prop) → (Nat → zMem → Prop) → Prop
  | 0, _, _, _, _ => False
  | n + 1, d, μ, KV, X =>
  zcI d mX9_byteAt [.ref 106, .int (μ 106 13)] μ (fun u2 m1 => ((u2 = 32 → pX9_stepOn_26 d m1 KV X (fun m => pX9_stepOn n d m KV X)) ∧
  (¬ (u2 = 32) → zcI d mX9_byteAt [.ref 106, .int (m1 106 13)] m1 (fun u4 m3 => ((u4 = 10 → pX9_stepOn_26 d m3 KV X (fun m => pX9_stepOn n d m KV X)) ∧
    (¬ (u4 = 10) → ∀ m5 : zMem, m5 = zw m3 106 17 (m3 106 13) → zcI d mX9_byteAt [.ref 106, .int (m5 106 13)] m5 (fun u7 m6 => ((u7 = (-1) → ∀ m17 : zMem, m17 = zw m6 106 15 0 → pX9_stepOn_212 d m17 KV X) ∧
      (¬ (u7 = (-1)) → zcI d mX9_isLetter [.int u7] m6 (fun u9 m8 => ((u9 = 0 → zcI d mX9_isDigit [.int u7] m8 (fun u11 m10 => ((u11 = 0 → ∀ m12 : zMem, m12 = zw m10 106 13 ((m10 106 13) + 1) → zcI d mX9_isMark [.int u7] m12 (fun u14 m13 => ∀ m15 : zMem, m15 = zw m13 106 15 (if u14 = 0 then 4 else 3) → pX9_stepOn_212 d m15 KV X) X) ∧
          (¬ (u11 = 0) → ∀ m16 : zMem, m16 = zw m10 106 16 0 → ∃ n2 : Nat, pX9_stepOn_123 n2 d m16 KV X))) X) ∧
        (¬ (u9 = 0) → ∃ n2 : Nat, pX9_stepOn_76 n2 d m8 KV X))) X))) X))) X))) X
set_option maxRecDepth 20000 in
theorem wX9_stepOn_0 {d : Nat} {KV : zMem → Prop} {X : Nat → zMem → Prop} : ∀ (n : Nat) (μ : zMem), pX9_stepOn n d μ KV X → Wr mX9_stepOn (d + 1) 0 0 [(0, .ref 106)] [] μ (kV KV X) := by
  intro n
  induction n with
  | zero =>
    intro μ h
    exact absurd h id
  | succ n ih =>
    intro μ h
    unfold pX9_stepOn at h
    refine Wr_aload_n dX9_stepOn_0 rfl 0 rfl ?_
    refine Wr_aload_n dX9_stepOn_1 rfl 0 rfl ?_
    refine Wr_getI dX9_stepOn_2 flX9_169 zl106 rfl ?_
    refine Wr_cVi [.int (μ 106 13)] dX9_stepOn_5 mlX9_172 mgX9_byteAt rfl mvX9_byteAt (zrv zl106 _ rfl rfl) rfl rfl (Nat.le_of_ble_eq_true rfl) rfl (zcI.imp h (fun u2 m1 h => ?_) (fun _ _ h => ⟨rfl, h⟩))
    refine Wr_bipush (v := 32) dX9_stepOn_8 (by decide) ?_
    refine Wr_icmp_eq 26 dX9_stepOn_10 (by decide) (fun hc => ?_) (fun hc => ?_)
    · have h := h.1 hc
      refine zsub [0] rfl ?_
      exact wX9_stepOn_26 (fun m h => ih m h) h
    · have h := h.2 hc
      refine Wr_aload_n dX9_stepOn_13 rfl 0 rfl ?_
      refine Wr_aload_n dX9_stepOn_14 rfl 0 rfl ?_
      refine Wr_getI dX9_stepOn_15 flX9_169 zl106 rfl ?_
      refine Wr_cVi [.int (m1 106 13)] dX9_stepOn_18 mlX9_172 mgX9_byteAt rfl mvX9_byteAt (zrv zl106 _ rfl rfl) rfl rfl (Nat.le_of_ble_eq_true rfl) rfl (zcI.imp h (fun u4 m3 h => ?_) (fun _ _ h => ⟨rfl, h⟩))
      refine Wr_bipush (v := 10) dX9_stepOn_21 (by decide) ?_
      refine Wr_icmp_ne 39 dX9_stepOn_23 (by decide) (fun hc => ?_) (fun hc => ?_)
      · have h := h.2 hc
        refine Wr_aload_n dX9_stepOn_39 rfl 0 rfl ?_
        refine Wr_aload_n dX9_stepOn_40 rfl 0 rfl ?_
        refine Wr_getI dX9_stepOn_41 flX9_169 zl106 rfl ?_
        obtain ⟨m5, em5⟩ : ∃ z : zMem, z = zw m3 106 17 (m3 106 13) := ⟨_, rfl⟩
        have h := h m5 em5
        refine Wr_putI dX9_stepOn_44 fpX9_176 zl106 rfl ?_
        refine Wr_mu em5 ?_
        refine Wr_aload_n dX9_stepOn_47 rfl 0 rfl ?_
        refine Wr_aload_n dX9_stepOn_48 rfl 0 rfl ?_
        refine Wr_getI dX9_stepOn_49 flX9_169 zl106 rfl ?_
        refine Wr_cVi [.int (m5 106 13)] dX9_stepOn_52 mlX9_172 mgX9_byteAt rfl mvX9_byteAt (zrv zl106 _ rfl rfl) rfl rfl (Nat.le_of_ble_eq_true rfl) rfl (zcI.imp h (fun u7 m6 h => ?_) (fun _ _ h => ⟨rfl, h⟩))
        refine Wr_istore_n dX9_stepOn_55 rfl (by decide) rfl ?_
        refine Wr_iload_n dX9_stepOn_56 rfl 0 rfl ?_
        refine Wr_iconstv (v := (-1)) dX9_stepOn_57 (by decide) ?_
        refine Wr_icmp_ne 69 dX9_stepOn_58 (by decide) (fun hc => ?_) (fun hc => ?_)
        · have h := h.2 hc
          refine Wr_iload_n dX9_stepOn_69 rfl 0 rfl ?_
          refine Wr_cSi [.int u7] dX9_stepOn_70 mlX9_182 mgX9_isLetter rfl msX9_isLetter  rfl rfl (Nat.le_of_ble_eq_true rfl) rfl (zcI.imp h (fun u9 m8 h => ?_) (fun _ _ h => ⟨rfl, h⟩))
          refine Wr_if_eq 111 dX9_stepOn_73 (by decide) (fun hc => ?_) (fun hc => ?_)
          · have h := h.1 hc
            refine Wr_iload_n dX9_stepOn_111 rfl 0 rfl ?_
            refine Wr_cSi [.int u7] dX9_stepOn_112 mlX9_186 mgX9_isDigit rfl msX9_isDigit  rfl rfl (Nat.le_of_ble_eq_true rfl) rfl (zcI.imp h (fun u11 m10 h => ?_) (fun _ _ h => ⟨rfl, h⟩))
            refine Wr_if_eq 186 dX9_stepOn_115 (by decide) (fun hc => ?_) (fun hc => ?_)
            · have h := h.1 hc
              refine Wr_aload_n dX9_stepOn_186 rfl 1 rfl ?_
              refine Wr_dup dX9_stepOn_187 rfl ?_
              refine Wr_getI dX9_stepOn_188 flX9_169 zl106 rfl ?_
              refine Wr_iconstv (v := 1) dX9_stepOn_191 (by decide) ?_
              refine Wr_iadd dX9_stepOn_192 ?_
              obtain ⟨m12, em12⟩ : ∃ z : zMem, z = zw m10 106 13 ((m10 106 13) + 1) := ⟨_, rfl⟩
              have h := h m12 em12
              refine Wr_putI dX9_stepOn_193 fpX9_169 zl106 rfl ?_
              refine Wr_mu em12 ?_
              refine Wr_aload_n dX9_stepOn_196 rfl 1 rfl ?_
              refine Wr_iload_n dX9_stepOn_197 rfl 0 rfl ?_
              refine Wr_cSi [.int u7] dX9_stepOn_198 mlX9_199 mgX9_isMark rfl msX9_isMark  rfl rfl (Nat.le_of_ble_eq_true rfl) rfl (zcI.imp h (fun u14 m13 h => ?_) (fun _ _ h => ⟨rfl, h⟩))
              have hj1 : Wr mX9_stepOn (d + 1) 0 209 [(1, .int u7), (0, .ref 106)] [.int (if u14 = 0 then 4 else 3), .ref 106] m13 (kV KV X) := by
                obtain ⟨m15, em15⟩ : ∃ z : zMem, z = zw m13 106 15 (if u14 = 0 then 4 else 3) := ⟨_, rfl⟩
                have h := h m15 em15
                refine Wr_putI dX9_stepOn_209 fpX9_179 zl106 rfl ?_
                refine Wr_mu em15 ?_
                refine zsub [0] rfl ?_
                exact wX9_stepOn_212 h
              refine Wr_if_eq 208 dX9_stepOn_201 (by decide) (fun hc0 => ?_) (fun hc0 => ?_)
              · skip
                refine Wr_iconstv (v := 4) dX9_stepOn_208 (by decide) ?_
                exact Wr_top (if_pos hc0) hj1
              · skip
                refine Wr_iconstv (v := 3) dX9_stepOn_204 (by decide) ?_
                refine Wr_goto 209 dX9_stepOn_205 (by decide) ?_
                exact Wr_top (if_neg hc0) hj1
            · have h := h.2 hc
              refine Wr_aload_n dX9_stepOn_118 rfl 1 rfl ?_
              refine Wr_iconstv (v := 0) dX9_stepOn_119 (by decide) ?_
              obtain ⟨m16, em16⟩ : ∃ z : zMem, z = zw m10 106 16 0 := ⟨_, rfl⟩
              have h := h m16 em16
              refine Wr_putI dX9_stepOn_120 fpX9_189 zl106 rfl ?_
              refine Wr_mu em16 ?_
              refine zsub [0] rfl ?_
              obtain ⟨n9, h⟩ := h
              exact wX9_stepOn_123 n9 _ h
          · have h := h.2 hc
            refine zsub [0] rfl ?_
            obtain ⟨n9, h⟩ := h
            exact wX9_stepOn_76 n9 _ h
        · have h := h.1 hc
          refine Wr_aload_n dX9_stepOn_61 rfl 1 rfl ?_
          refine Wr_iconstv (v := 0) dX9_stepOn_62 (by decide) ?_
          obtain ⟨m17, em17⟩ : ∃ z : zMem, z = zw m6 106 15 0 := ⟨_, rfl⟩
          have h := h m17 em17
          refine Wr_putI dX9_stepOn_63 fpX9_179 zl106 rfl ?_
          refine Wr_mu em17 ?_
          refine Wr_goto 212 dX9_stepOn_66 (by decide) ?_
          refine zsub [0] rfl ?_
          exact wX9_stepOn_212 h
      · have h := h.1 hc
        refine zsub [0] rfl ?_
        exact wX9_stepOn_26 (fun m h => ih m h) h
theorem cX9_stepOn_ {d : Nat} {μ : zMem} {KV : zMem → Prop} {X : Nat → zMem → Prop} (h : ∃ n : Nat, pX9_stepOn n d μ KV X) : zcV (d + 1) mX9_stepOn [.ref 106] μ KV X :=
  Ex_of (w := 1) mgX9_stepOn.2.2.2.2.2 rfl rfl rfl (by decide) (h.elim fun n h => wX9_stepOn_0 n _ h)

def pX9_wrong (d : Nat) (x1 : Int32) (μ : zMem) (KV : zMem → Prop) (X : Nat → zMem → Prop) : Prop :=
  ((μ 106 19 = 0 → ∀ m1 : zMem, m1 = zw μ 106 19 x1 → ∀ m2 : zMem, m2 = zw m1 106 20 (m1 106 17) → KV m2) ∧
  (¬ (μ 106 19 = 0) → KV μ))
set_option maxRecDepth 20000 in
theorem wX9_wrong_0 {d : Nat} {KV : zMem → Prop} {X : Nat → zMem → Prop} {x1 : Int32} {μ : zMem} (h : pX9_wrong d x1 μ KV X) : Wr mX9_wrong (d + 1) 0 0 [(0, .ref 106), (1, .int x1)] [] μ (kV KV X) := by
  unfold pX9_wrong at h
  refine Wr_aload_n dX9_wrong_0 rfl 0 rfl ?_
  refine Wr_getI dX9_wrong_1 flX9_205 zl106 rfl ?_
  refine Wr_if_eq 8 dX9_wrong_4 (by decide) (fun hc => ?_) (fun hc => ?_)
  · have h := h.1 hc
    refine Wr_aload_n dX9_wrong_8 rfl 0 rfl ?_
    refine Wr_iload_n dX9_wrong_9 rfl 1 rfl ?_
    obtain ⟨m1, em1⟩ : ∃ z : zMem, z = zw μ 106 19 x1 := ⟨_, rfl⟩
    have h := h m1 em1
    refine Wr_putI dX9_wrong_10 fpX9_205 zl106 rfl ?_
    refine Wr_mu em1 ?_
    refine Wr_aload_n dX9_wrong_13 rfl 0 rfl ?_
    refine Wr_aload_n dX9_wrong_14 rfl 0 rfl ?_
    refine Wr_getI dX9_wrong_15 flX9_176 zl106 rfl ?_
    obtain ⟨m2, em2⟩ : ∃ z : zMem, z = zw m1 106 20 (m1 106 17) := ⟨_, rfl⟩
    have h := h m2 em2
    refine Wr_putI dX9_wrong_18 fpX9_208 zl106 rfl ?_
    refine Wr_mu em2 ?_
    exact Wr_vret dX9_wrong_21 rfl ⟨rfl, h⟩
  · have h := h.2 hc
    exact Wr_vret dX9_wrong_7 rfl ⟨rfl, h⟩
theorem cX9_wrong_ {d : Nat} {x1 : Int32} {μ : zMem} {KV : zMem → Prop} {X : Nat → zMem → Prop} (h : pX9_wrong d x1 μ KV X) : zcV (d + 1) mX9_wrong [.ref 106, .int x1] μ KV X :=
  Ex_of (w := 2) mgX9_wrong.2.2.2.2.2 rfl rfl rfl (by decide) (wX9_wrong_0 h)

def pX9_is_39 : Nat → Nat → Nat → Int32 → Int32 → zMem → (Int32 → zMem → Prop) → (Nat → zMem → Prop) → Prop
  | 0, _, _, _, _, _, _, _ => False
  | n + 1, d, s1, x2, x3, μ, KI, X =>
  ((x2 = 0 → (x2 = 0 ∨ x2 = 1) ∧ KI x2 μ) ∧
  (¬ (x2 = 0) → zcI d mJ0_length_8abf5 [.ref (1000 + s1)] μ (fun u2 m1 => ((u2 ≤ x3 → (x2 = 0 ∨ x2 = 1) ∧ KI x2 m1) ∧
    (¬ (u2 ≤ x3) → zcI d mJ0_charAt_5068e [.ref (1000 + s1), .int x3] m1 (fun u4 m3 => (vp_in ((m3 106 17) + x3) 700) ∧ ∀ v5 : Int32, v5 = (if u4 = m3 117 ((m3 106 17) + x3).toNatClampNeg then 1 else 0) → ∀ v6 : Int32, v6 = x3 + 1 → pX9_is_39 n d s1 v5 v6 m3 KI X) X))) X))
set_option maxRecDepth 20000 in
theorem wX9_is_39 {d : Nat} {s1 : Nat} {KI : Int32 → zMem → Prop} {X : Nat → zMem → Prop} (hs1 : s1 < zNS) : ∀ (n : Nat) (x2 : Int32) (x3 : Int32) (μ : zMem), pX9_is_39 n d s1 x2 x3 μ KI X → Wr mX9_is (d + 1) 0 39 [(0, .ref 106), (1, .ref (1000 + s1)), (2, .int x2), (3, .int x3)] [] μ (kI KI X) := by
  intro n
  induction n with
  | zero =>
    intro x2 x3 μ h
    exact absurd h id
  | succ n ih =>
    intro x2 x3 μ h
    unfold pX9_is_39 at h
    refine Wr_iload_n dX9_is_39 rfl 2 rfl ?_
    refine Wr_if_eq 82 dX9_is_40 (by decide) (fun hc => ?_) (fun hc => ?_)
    · have h := h.1 hc
      refine Wr_iload_n dX9_is_82 rfl 2 rfl ?_
      exact Wr_iret .boolean dX9_is_83 rfl (znar h.1) ⟨rfl, h.2⟩
    · have h := h.2 hc
      refine Wr_iload_n dX9_is_43 rfl 3 rfl ?_
      refine Wr_aload_n dX9_is_44 rfl 1 rfl ?_
      refine Wr_cVi [] dX9_is_45 mlX9_211 mgJ0_length_8abf5 rfl mvJ0_length_8abf5 (zrs hs1 rfl) rfl rfl (Nat.le_of_ble_eq_true rfl) rfl (zcI.imp h (fun u2 m1 h => ?_) (fun _ _ h => ⟨rfl, h⟩))
      refine Wr_icmp_ge 82 dX9_is_48 (by decide) (fun hc => ?_) (fun hc => ?_)
      · have h := h.1 hc
        refine Wr_iload_n dX9_is_82 rfl 2 rfl ?_
        exact Wr_iret .boolean dX9_is_83 rfl (znar h.1) ⟨rfl, h.2⟩
      · have h := h.2 hc
        refine Wr_aload_n dX9_is_51 rfl 1 rfl ?_
        refine Wr_iload_n dX9_is_52 rfl 3 rfl ?_
        refine Wr_cVi [.int x3] dX9_is_53 mlX9_215 mgJ0_charAt_5068e rfl mvJ0_charAt_5068e (zrs hs1 rfl) rfl rfl (Nat.le_of_ble_eq_true rfl) rfl (zcI.imp h (fun u4 m3 h => ?_) (fun _ _ h => ⟨rfl, h⟩))
        refine Wr_aload_n dX9_is_56 rfl 0 rfl ?_
        refine Wr_getR 11 dX9_is_57 flX9_73 zl106 rfl (by decide) ?_
        refine Wr_aload_n dX9_is_60 rfl 0 rfl ?_
        refine Wr_getI dX9_is_61 flX9_176 zl106 rfl ?_
        refine Wr_iload_n dX9_is_64 rfl 3 rfl ?_
        refine Wr_iadd dX9_is_65 ?_
        obtain ⟨hi, h⟩ := h
        refine Wr_iald dX9_is_66 zl117 hi ?_
        have hj2 : Wr mX9_is (d + 1) 0 75 [(0, .ref 106), (1, .ref (1000 + s1)), (2, .int x2), (3, .int x3)] [.int (if u4 = m3 117 ((m3 106 17) + x3).toNatClampNeg then 1 else 0)] m3 (kI KI X) := by
          obtain ⟨v5, ev5⟩ : ∃ z : Int32, z = (if u4 = m3 117 ((m3 106 17) + x3).toNatClampNeg then 1 else 0) := ⟨_, rfl⟩
          have h := h v5 ev5
          refine Wr_top ev5 ?_
          refine Wr_istore_n dX9_is_75 rfl (by decide) rfl ?_
          obtain ⟨v6, ev6⟩ : ∃ z : Int32, z = x3 + 1 := ⟨_, rfl⟩
          have h := h v6 ev6
          refine Wr_iinc (v := v6) dX9_is_76 (q := 3) rfl (by rw [ev6]; rfl) (by decide) rfl ?_
          refine Wr_goto 39 dX9_is_79 (by decide) ?_
          refine zsub [0, 1, 2, 3] rfl ?_
          exact ih _ _ _ h
        refine Wr_icmp_ne 74 dX9_is_67 (by decide) (fun hc0 => ?_) (fun hc0 => ?_)
        · skip
          refine Wr_iconstv (v := 0) dX9_is_74 (by decide) ?_
          exact Wr_top (if_neg hc0) hj2
        · skip
          refine Wr_iconstv (v := 1) dX9_is_70 (by decide) ?_
          refine Wr_goto 75 dX9_is_71 (by decide) ?_
          exact Wr_top (if_pos hc0) hj2
def pX9_is (d : Nat) (s1 : Nat) (μ : zMem) (KI : Int32 → zMem → Prop) (X : Nat → zMem → Prop) : Prop :=
  ((μ 106 19 = 0 → ((μ 106 15 = 1 → zcI d mJ0_length_8abf5 [.ref (1000 + s1)] μ (fun u2 m1 => ∀ v3 : Int32, v3 = (if u2 = (m1 106 18) - (m1 106 17) then 1 else 0) → ∃ n2 : Nat, pX9_is_39 n2 d s1 v3 0 m1 KI X) X) ∧
    (¬ (μ 106 15 = 1) → ∃ n2 : Nat, pX9_is_39 n2 d s1 0 0 μ KI X))) ∧
  (¬ (μ 106 19 = 0) → ∃ n2 : Nat, pX9_is_39 n2 d s1 0 0 μ KI X))
set_option maxRecDepth 20000 in
theorem wX9_is_0 {d : Nat} {s1 : Nat} {KI : Int32 → zMem → Prop} {X : Nat → zMem → Prop} {μ : zMem} (hs1 : s1 < zNS) (h : pX9_is d s1 μ KI X) : Wr mX9_is (d + 1) 0 0 [(0, .ref 106), (1, .ref (1000 + s1))] [] μ (kI KI X) := by
  unfold pX9_is at h
  refine Wr_aload_n dX9_is_0 rfl 0 rfl ?_
  refine Wr_getI dX9_is_1 flX9_205 zl106 rfl ?_
  refine Wr_if_ne 35 dX9_is_4 (by decide) (fun hc => ?_) (fun hc => ?_)
  · have h := h.2 hc
    refine Wr_iconstv (v := 0) dX9_is_35 (by decide) ?_
    refine Wr_istore_n dX9_is_36 rfl (by decide) rfl ?_
    refine Wr_iconstv (v := 0) dX9_is_37 (by decide) ?_
    refine Wr_istore_n dX9_is_38 rfl (by decide) rfl ?_
    refine zsub [0, 1, 2, 3] rfl ?_
    obtain ⟨n9, h⟩ := h
    exact wX9_is_39 hs1 n9 _ _ _ h
  · have h := h.1 hc
    refine Wr_aload_n dX9_is_7 rfl 0 rfl ?_
    refine Wr_getI dX9_is_8 flX9_179 zl106 rfl ?_
    refine Wr_iconstv (v := 1) dX9_is_11 (by decide) ?_
    refine Wr_icmp_ne 35 dX9_is_12 (by decide) (fun hc => ?_) (fun hc => ?_)
    · have h := h.2 hc
      refine Wr_iconstv (v := 0) dX9_is_35 (by decide) ?_
      refine Wr_istore_n dX9_is_36 rfl (by decide) rfl ?_
      refine Wr_iconstv (v := 0) dX9_is_37 (by decide) ?_
      refine Wr_istore_n dX9_is_38 rfl (by decide) rfl ?_
      refine zsub [0, 1, 2, 3] rfl ?_
      obtain ⟨n9, h⟩ := h
      exact wX9_is_39 hs1 n9 _ _ _ h
    · have h := h.1 hc
      refine Wr_aload_n dX9_is_15 rfl 1 rfl ?_
      refine Wr_cVi [] dX9_is_16 mlX9_211 mgJ0_length_8abf5 rfl mvJ0_length_8abf5 (zrs hs1 rfl) rfl rfl (Nat.le_of_ble_eq_true rfl) rfl (zcI.imp h (fun u2 m1 h => ?_) (fun _ _ h => ⟨rfl, h⟩))
      refine Wr_aload_n dX9_is_19 rfl 0 rfl ?_
      refine Wr_getI dX9_is_20 flX9_202 zl106 rfl ?_
      refine Wr_aload_n dX9_is_23 rfl 0 rfl ?_
      refine Wr_getI dX9_is_24 flX9_176 zl106 rfl ?_
      refine Wr_isub dX9_is_27 ?_
      have hj1 : Wr mX9_is (d + 1) 0 36 [(0, .ref 106), (1, .ref (1000 + s1))] [.int (if u2 = (m1 106 18) - (m1 106 17) then 1 else 0)] m1 (kI KI X) := by
        obtain ⟨v3, ev3⟩ : ∃ z : Int32, z = (if u2 = (m1 106 18) - (m1 106 17) then 1 else 0) := ⟨_, rfl⟩
        have h := h v3 ev3
        refine Wr_top ev3 ?_
        refine Wr_istore_n dX9_is_36 rfl (by decide) rfl ?_
        refine Wr_iconstv (v := 0) dX9_is_37 (by decide) ?_
        refine Wr_istore_n dX9_is_38 rfl (by decide) rfl ?_
        refine zsub [0, 1, 2, 3] rfl ?_
        obtain ⟨n9, h⟩ := h
        exact wX9_is_39 hs1 n9 _ _ _ h
      refine Wr_icmp_ne 35 dX9_is_28 (by decide) (fun hc0 => ?_) (fun hc0 => ?_)
      · skip
        refine Wr_iconstv (v := 0) dX9_is_35 (by decide) ?_
        exact Wr_top (if_neg hc0) hj1
      · skip
        refine Wr_iconstv (v := 1) dX9_is_31 (by decide) ?_
        refine Wr_goto 36 dX9_is_32 (by decide) ?_
        exact Wr_top (if_pos hc0) hj1
theorem cX9_is_ {d : Nat} {s1 : Nat} {μ : zMem} {KI : Int32 → zMem → Prop} {X : Nat → zMem → Prop} (hs1 : s1 < zNS) (h : pX9_is d s1 μ KI X) : zcI (d + 1) mX9_is [.ref 106, .ref (1000 + s1)] μ KI X :=
  Ex_of (w := 2) mgX9_is.2.2.2.2.2 rfl rfl rfl (by decide) (wX9_is_0 hs1 h)

def pX9_which_2 : Nat → Nat → Nat → Nat → Int32 → zMem → (Int32 → zMem → Prop) → (Nat → zMem → Prop) → Prop
  | 0, _, _, _, _, _, _, _ => False
  | n + 1, d, a1, n1, x2, μ, KI, X =>
  ((Int32.ofNat n1 ≤ x2 → KI (-1) μ) ∧
  (¬ (Int32.ofNat n1 ≤ x2) → (vp_in x2 n1) ∧ zcI d mX9_is [.ref 106, .ref (zstr a1 x2.toNatClampNeg)] μ (fun u2 m1 => ((u2 = 0 → ∀ v3 : Int32, v3 = x2 + 1 → pX9_which_2 n d a1 n1 v3 m1 KI X) ∧
    (¬ (u2 = 0) → KI x2 m1))) X))
set_option maxRecDepth 20000 in
theorem wX9_which_2 {d : Nat} {a1 : Nat} {n1 : Nat} {KI : Int32 → zMem → Prop} {X : Nat → zMem → Prop} (ha1 : zsh a1 = .inl (4, n1)) : ∀ (n : Nat) (x2 : Int32) (μ : zMem), pX9_which_2 n d a1 n1 x2 μ KI X → Wr mX9_which (d + 1) 0 2 [(0, .ref 106), (1, .ref a1), (2, .int x2)] [] μ (kI KI X) := by
  intro n
  induction n with
  | zero =>
    intro x2 μ h
    exact absurd h id
  | succ n ih =>
    intro x2 μ h
    unfold pX9_which_2 at h
    refine Wr_iload_n dX9_which_2 rfl 2 rfl ?_
    refine Wr_aload_n dX9_which_3 rfl 1 rfl ?_
    refine Wr_alen dX9_which_4 ha1 (by decide) ?_
    refine Wr_icmp_ge 26 dX9_which_5 (by decide) (fun hc => ?_) (fun hc => ?_)
    · have h := h.1 hc
      refine Wr_iconstv (v := (-1)) dX9_which_26 (by decide) ?_
      exact Wr_iret .int dX9_which_27 rfl rfl ⟨rfl, h⟩
    · have h := h.2 hc
      refine Wr_aload_n dX9_which_8 rfl 0 rfl ?_
      refine Wr_aload_n dX9_which_9 rfl 1 rfl ?_
      refine Wr_iload_n dX9_which_10 rfl 2 rfl ?_
      obtain ⟨hi, h⟩ := h
      refine Wr_aald dX9_which_11 ha1 hi ?_
      refine Wr_cVi [.ref (zstr a1 x2.toNatClampNeg)] dX9_which_12 mlX9_219 mgX9_is rfl mvX9_is (zrv zl106 _ rfl rfl) rfl rfl (Nat.le_of_ble_eq_true rfl) rfl (zcI.imp h (fun u2 m1 h => ?_) (fun _ _ h => ⟨rfl, h⟩))
      refine Wr_if_eq 20 dX9_which_15 (by decide) (fun hc => ?_) (fun hc => ?_)
      · have h := h.1 hc
        obtain ⟨v3, ev3⟩ : ∃ z : Int32, z = x2 + 1 := ⟨_, rfl⟩
        have h := h v3 ev3
        refine Wr_iinc (v := v3) dX9_which_20 (q := 2) rfl (by rw [ev3]; rfl) (by decide) rfl ?_
        refine Wr_goto 2 dX9_which_23 (by decide) ?_
        refine zsub [0, 1, 2] rfl ?_
        exact ih _ _ h
      · have h := h.2 hc
        refine Wr_iload_n dX9_which_18 rfl 2 rfl ?_
        exact Wr_iret .int dX9_which_19 rfl rfl ⟨rfl, h⟩
def pX9_which (d : Nat) (a1 : Nat) (n1 : Nat) (μ : zMem) (KI : Int32 → zMem → Prop) (X : Nat → zMem → Prop) : Prop :=
  ∃ n2 : Nat, pX9_which_2 n2 d a1 n1 0 μ KI X
set_option maxRecDepth 20000 in
theorem wX9_which_0 {d : Nat} {a1 : Nat} {n1 : Nat} {KI : Int32 → zMem → Prop} {X : Nat → zMem → Prop} {μ : zMem} (ha1 : zsh a1 = .inl (4, n1)) (h : pX9_which d a1 n1 μ KI X) : Wr mX9_which (d + 1) 0 0 [(0, .ref 106), (1, .ref a1)] [] μ (kI KI X) := by
  unfold pX9_which at h
  refine Wr_iconstv (v := 0) dX9_which_0 (by decide) ?_
  refine Wr_istore_n dX9_which_1 rfl (by decide) rfl ?_
  refine zsub [0, 1, 2] rfl ?_
  obtain ⟨n9, h⟩ := h
  exact wX9_which_2 ha1 n9 _ _ h
theorem cX9_which_ {d : Nat} {a1 : Nat} {n1 : Nat} {μ : zMem} {KI : Int32 → zMem → Prop} {X : Nat → zMem → Prop} (ha1 : zsh a1 = .inl (4, n1)) (h : pX9_which d a1 n1 μ KI X) : zcI (d + 1) mX9_which [.ref 106, .ref a1] μ KI X :=
  Ex_of (w := 2) mgX9_which.2.2.2.2.2 rfl rfl rfl (by decide) (wX9_which_0 ha1 h)

def pX9_isMarked (d : Nat) (x1 : Int32) (μ : zMem) (KI : Int32 → zMem → Prop) (X : Nat → zMem → Prop) : Prop :=
  ((μ 106 19 = 0 → ((μ 106 15 = 3 → (vp_in (μ 106 17) 700) ∧ KI (if μ 117 (μ 106 17).toNatClampNeg = x1 then 1 else 0) μ) ∧
    (¬ (μ 106 15 = 3) → KI 0 μ))) ∧
  (¬ (μ 106 19 = 0) → KI 0 μ))
set_option maxRecDepth 20000 in
theorem wX9_isMarked_0 {d : Nat} {KI : Int32 → zMem → Prop} {X : Nat → zMem → Prop} {x1 : Int32} {μ : zMem} (h : pX9_isMarked d x1 μ KI X) : Wr mX9_isMarked (d + 1) 0 0 [(0, .ref 106), (1, .int x1)] [] μ (kI KI X) := by
  unfold pX9_isMarked at h
  refine Wr_aload_n dX9_isMarked_0 rfl 0 rfl ?_
  refine Wr_getI dX9_isMarked_1 flX9_205 zl106 rfl ?_
  refine Wr_if_ne 32 dX9_isMarked_4 (by decide) (fun hc => ?_) (fun hc => ?_)
  · have h := h.2 hc
    refine Wr_iconstv (v := 0) dX9_isMarked_32 (by decide) ?_
    exact Wr_iret .boolean dX9_isMarked_33 rfl rfl ⟨rfl, h⟩
  · have h := h.1 hc
    refine Wr_aload_n dX9_isMarked_7 rfl 0 rfl ?_
    refine Wr_getI dX9_isMarked_8 flX9_179 zl106 rfl ?_
    refine Wr_iconstv (v := 3) dX9_isMarked_11 (by decide) ?_
    refine Wr_icmp_ne 32 dX9_isMarked_12 (by decide) (fun hc => ?_) (fun hc => ?_)
    · have h := h.2 hc
      refine Wr_iconstv (v := 0) dX9_isMarked_32 (by decide) ?_
      exact Wr_iret .boolean dX9_isMarked_33 rfl rfl ⟨rfl, h⟩
    · have h := h.1 hc
      refine Wr_aload_n dX9_isMarked_15 rfl 0 rfl ?_
      refine Wr_getR 11 dX9_isMarked_16 flX9_73 zl106 rfl (by decide) ?_
      refine Wr_aload_n dX9_isMarked_19 rfl 0 rfl ?_
      refine Wr_getI dX9_isMarked_20 flX9_176 zl106 rfl ?_
      obtain ⟨hi, h⟩ := h
      refine Wr_iald dX9_isMarked_23 zl117 hi ?_
      refine Wr_iload_n dX9_isMarked_24 rfl 1 rfl ?_
      have hj1 : Wr mX9_isMarked (d + 1) 0 33 [(0, .ref 106), (1, .int x1)] [.int (if μ 117 (μ 106 17).toNatClampNeg = x1 then 1 else 0)] μ (kI KI X) := by
        exact Wr_iret .boolean dX9_isMarked_33 rfl (znar (by (repeat' split) <;> simp)) ⟨rfl, h⟩
      refine Wr_icmp_ne 32 dX9_isMarked_25 (by decide) (fun hc0 => ?_) (fun hc0 => ?_)
      · skip
        refine Wr_iconstv (v := 0) dX9_isMarked_32 (by decide) ?_
        exact Wr_top (if_neg hc0) hj1
      · skip
        refine Wr_iconstv (v := 1) dX9_isMarked_28 (by decide) ?_
        refine Wr_goto 33 dX9_isMarked_29 (by decide) ?_
        exact Wr_top (if_pos hc0) hj1
theorem cX9_isMarked_ {d : Nat} {x1 : Int32} {μ : zMem} {KI : Int32 → zMem → Prop} {X : Nat → zMem → Prop} (h : pX9_isMarked d x1 μ KI X) : zcI (d + 1) mX9_isMarked [.ref 106, .int x1] μ KI X :=
  Ex_of (w := 2) mgX9_isMarked.2.2.2.2.2 rfl rfl rfl (by decide) (wX9_isMarked_0 h)

def pX9_mark_20 (d : Nat) (μ : zMem) (KV : zMem → Prop) (X : Nat → zMem → Prop) : Prop :=
  ((μ 106 19 = 0 → zcV d mX9_stepOn [.ref 106] μ (fun m1 => KV m1) X) ∧
  (¬ (μ 106 19 = 0) → KV μ))
set_option maxRecDepth 20000 in
theorem wX9_mark_20 {d : Nat} {KV : zMem → Prop} {X : Nat → zMem → Prop} {μ : zMem} (h : pX9_mark_20 d μ KV X) : Wr mX9_mark (d + 1) 0 20 [(0, .ref 106)] [] μ (kV KV X) := by
  unfold pX9_mark_20 at h
  refine Wr_aload_n dX9_mark_20 rfl 0 rfl ?_
  refine Wr_getI dX9_mark_21 flX9_205 zl106 rfl ?_
  refine Wr_if_ne 31 dX9_mark_24 (by decide) (fun hc => ?_) (fun hc => ?_)
  · have h := h.2 hc
    exact Wr_vret dX9_mark_31 rfl ⟨rfl, h⟩
  · have h := h.1 hc
    refine Wr_aload_n dX9_mark_27 rfl 0 rfl ?_
    refine Wr_cVv [] dX9_mark_28 mlX9_230 mgX9_stepOn rfl mvX9_stepOn (zrv zl106 _ rfl rfl) rfl rfl (Nat.le_of_ble_eq_true rfl) rfl (zcV.imp h (fun m1 h => ?_) (fun _ _ h => ⟨rfl, h⟩))
    exact Wr_vret dX9_mark_31 rfl ⟨rfl, h⟩
def pX9_mark (d : Nat) (x1 : Int32) (μ : zMem) (KV : zMem → Prop) (X : Nat → zMem → Prop) : Prop :=
  ((μ 106 19 = 0 → zcI d mX9_isMarked [.ref 106, .int x1] μ (fun u2 m1 => ((u2 = 0 → zcV d mX9_wrong [.ref 106, .int 1] m1 (fun m3 => pX9_mark_20 d m3 KV X) X) ∧
    (¬ (u2 = 0) → pX9_mark_20 d m1 KV X))) X) ∧
  (¬ (μ 106 19 = 0) → pX9_mark_20 d μ KV X))
set_option maxRecDepth 20000 in
theorem wX9_mark_0 {d : Nat} {KV : zMem → Prop} {X : Nat → zMem → Prop} {x1 : Int32} {μ : zMem} (h : pX9_mark d x1 μ KV X) : Wr mX9_mark (d + 1) 0 0 [(0, .ref 106), (1, .int x1)] [] μ (kV KV X) := by
  unfold pX9_mark at h
  refine Wr_aload_n dX9_mark_0 rfl 0 rfl ?_
  refine Wr_getI dX9_mark_1 flX9_205 zl106 rfl ?_
  refine Wr_if_ne 20 dX9_mark_4 (by decide) (fun hc => ?_) (fun hc => ?_)
  · have h := h.2 hc
    refine zsub [0] rfl ?_
    exact wX9_mark_20 h
  · have h := h.1 hc
    refine Wr_aload_n dX9_mark_7 rfl 0 rfl ?_
    refine Wr_iload_n dX9_mark_8 rfl 1 rfl ?_
    refine Wr_cVi [.int x1] dX9_mark_9 mlX9_223 mgX9_isMarked rfl mvX9_isMarked (zrv zl106 _ rfl rfl) rfl rfl (Nat.le_of_ble_eq_true rfl) rfl (zcI.imp h (fun u2 m1 h => ?_) (fun _ _ h => ⟨rfl, h⟩))
    refine Wr_if_ne 20 dX9_mark_12 (by decide) (fun hc => ?_) (fun hc => ?_)
    · have h := h.2 hc
      refine zsub [0] rfl ?_
      exact wX9_mark_20 h
    · have h := h.1 hc
      refine Wr_aload_n dX9_mark_15 rfl 0 rfl ?_
      refine Wr_iconstv (v := 1) dX9_mark_16 (by decide) ?_
      refine Wr_cVv [.int 1] dX9_mark_17 mlX9_226 mgX9_wrong rfl mvX9_wrong (zrv zl106 _ rfl rfl) rfl rfl (Nat.le_of_ble_eq_true rfl) rfl (zcV.imp h (fun m3 h => ?_) (fun _ _ h => ⟨rfl, h⟩))
      refine zsub [0] rfl ?_
      exact wX9_mark_20 h
theorem cX9_mark_ {d : Nat} {x1 : Int32} {μ : zMem} {KV : zMem → Prop} {X : Nat → zMem → Prop} (h : pX9_mark d x1 μ KV X) : zcV (d + 1) mX9_mark [.ref 106, .int x1] μ KV X :=
  Ex_of (w := 2) mgX9_mark.2.2.2.2.2 rfl rfl rfl (by decide) (wX9_mark_0 h)

def pX9_numberNow_59 (d : Nat) (μ : zMem) (KI : Int32 → zMem → Prop) (X : Nat → zMem → Prop) : Prop :=
  KI (if μ 106 19 = 0 then μ 106 16 else 0) μ
set_option maxRecDepth 20000 in
theorem wX9_numberNow_59 {d : Nat} {KI : Int32 → zMem → Prop} {X : Nat → zMem → Prop} {μ : zMem} (h : pX9_numberNow_59 d μ KI X) : Wr mX9_numberNow (d + 1) 0 59 [(0, .ref 106)] [] μ (kI KI X) := by
  unfold pX9_numberNow_59 at h
  refine Wr_aload_n dX9_numberNow_59 rfl 0 rfl ?_
  refine Wr_getI dX9_numberNow_60 flX9_205 zl106 rfl ?_
  have hj1 : Wr mX9_numberNow (d + 1) 0 74 [(0, .ref 106)] [.int (if μ 106 19 = 0 then μ 106 16 else 0)] μ (kI KI X) := by
    exact Wr_iret .int dX9_numberNow_74 rfl rfl ⟨rfl, h⟩
  refine Wr_if_ne 73 dX9_numberNow_63 (by decide) (fun hc0 => ?_) (fun hc0 => ?_)
  · skip
    refine Wr_iconstv (v := 0) dX9_numberNow_73 (by decide) ?_
    exact Wr_top (if_neg hc0) hj1
  · skip
    refine Wr_aload_n dX9_numberNow_66 rfl 0 rfl ?_
    refine Wr_getI dX9_numberNow_67 flX9_189 zl106 rfl ?_
    refine Wr_goto 74 dX9_numberNow_70 (by decide) ?_
    exact Wr_top (if_pos hc0) hj1
def pX9_numberNow (d : Nat) (x1 : Int32) (x2 : Int32) (μ : zMem) (KI : Int32 → zMem → Prop) (X : Nat → zMem → Prop) : Prop :=
  ((μ 106 19 = 0 → ((μ 106 15 = 2 → ((4 < (μ 106 18) - (μ 106 17) → zcV d mX9_wrong [.ref 106, .int 2] μ (fun m1 => pX9_numberNow_59 d m1 KI X) X) ∧
      (¬ (4 < (μ 106 18) - (μ 106 17)) → ((μ 106 16 < x1 → zcV d mX9_wrong [.ref 106, .int 2] μ (fun m2 => pX9_numberNow_59 d m2 KI X) X) ∧
        (¬ (μ 106 16 < x1) → ((μ 106 16 ≤ x2 → pX9_numberNow_59 d μ KI X) ∧
          (¬ (μ 106 16 ≤ x2) → zcV d mX9_wrong [.ref 106, .int 2] μ (fun m3 => pX9_numberNow_59 d m3 KI X) X))))))) ∧
    (¬ (μ 106 15 = 2) → zcV d mX9_wrong [.ref 106, .int 1] μ (fun m4 => pX9_numberNow_59 d m4 KI X) X))) ∧
  (¬ (μ 106 19 = 0) → KI 0 μ))
set_option maxRecDepth 20000 in
theorem wX9_numberNow_0 {d : Nat} {KI : Int32 → zMem → Prop} {X : Nat → zMem → Prop} {x1 : Int32} {x2 : Int32} {μ : zMem} (h : pX9_numberNow d x1 x2 μ KI X) : Wr mX9_numberNow (d + 1) 0 0 [(0, .ref 106), (1, .int x1), (2, .int x2)] [] μ (kI KI X) := by
  unfold pX9_numberNow at h
  refine Wr_aload_n dX9_numberNow_0 rfl 0 rfl ?_
  refine Wr_getI dX9_numberNow_1 flX9_205 zl106 rfl ?_
  refine Wr_if_eq 9 dX9_numberNow_4 (by decide) (fun hc => ?_) (fun hc => ?_)
  · have h := h.1 hc
    refine Wr_aload_n dX9_numberNow_9 rfl 0 rfl ?_
    refine Wr_getI dX9_numberNow_10 flX9_179 zl106 rfl ?_
    refine Wr_iconstv (v := 2) dX9_numberNow_13 (by decide) ?_
    refine Wr_icmp_eq 25 dX9_numberNow_14 (by decide) (fun hc => ?_) (fun hc => ?_)
    · have h := h.1 hc
      refine Wr_aload_n dX9_numberNow_25 rfl 0 rfl ?_
      refine Wr_getI dX9_numberNow_26 flX9_202 zl106 rfl ?_
      refine Wr_aload_n dX9_numberNow_29 rfl 0 rfl ?_
      refine Wr_getI dX9_numberNow_30 flX9_176 zl106 rfl ?_
      refine Wr_isub dX9_numberNow_33 ?_
      refine Wr_iconstv (v := 4) dX9_numberNow_34 (by decide) ?_
      refine Wr_icmp_gt 54 dX9_numberNow_35 (by decide) (fun hc => ?_) (fun hc => ?_)
      · have h := h.1 hc
        refine Wr_aload_n dX9_numberNow_54 rfl 0 rfl ?_
        refine Wr_iconstv (v := 2) dX9_numberNow_55 (by decide) ?_
        refine Wr_cVv [.int 2] dX9_numberNow_56 mlX9_226 mgX9_wrong rfl mvX9_wrong (zrv zl106 _ rfl rfl) rfl rfl (Nat.le_of_ble_eq_true rfl) rfl (zcV.imp h (fun m1 h => ?_) (fun _ _ h => ⟨rfl, h⟩))
        refine zsub [0] rfl ?_
        exact wX9_numberNow_59 h
      · have h := h.2 hc
        refine Wr_aload_n dX9_numberNow_38 rfl 0 rfl ?_
        refine Wr_getI dX9_numberNow_39 flX9_189 zl106 rfl ?_
        refine Wr_iload_n dX9_numberNow_42 rfl 1 rfl ?_
        refine Wr_icmp_lt 54 dX9_numberNow_43 (by decide) (fun hc => ?_) (fun hc => ?_)
        · have h := h.1 hc
          refine Wr_aload_n dX9_numberNow_54 rfl 0 rfl ?_
          refine Wr_iconstv (v := 2) dX9_numberNow_55 (by decide) ?_
          refine Wr_cVv [.int 2] dX9_numberNow_56 mlX9_226 mgX9_wrong rfl mvX9_wrong (zrv zl106 _ rfl rfl) rfl rfl (Nat.le_of_ble_eq_true rfl) rfl (zcV.imp h (fun m2 h => ?_) (fun _ _ h => ⟨rfl, h⟩))
          refine zsub [0] rfl ?_
          exact wX9_numberNow_59 h
        · have h := h.2 hc
          refine Wr_aload_n dX9_numberNow_46 rfl 0 rfl ?_
          refine Wr_getI dX9_numberNow_47 flX9_189 zl106 rfl ?_
          refine Wr_iload_n dX9_numberNow_50 rfl 2 rfl ?_
          refine Wr_icmp_le 59 dX9_numberNow_51 (by decide) (fun hc => ?_) (fun hc => ?_)
          · have h := h.1 hc
            refine zsub [0] rfl ?_
            exact wX9_numberNow_59 h
          · have h := h.2 hc
            refine Wr_aload_n dX9_numberNow_54 rfl 0 rfl ?_
            refine Wr_iconstv (v := 2) dX9_numberNow_55 (by decide) ?_
            refine Wr_cVv [.int 2] dX9_numberNow_56 mlX9_226 mgX9_wrong rfl mvX9_wrong (zrv zl106 _ rfl rfl) rfl rfl (Nat.le_of_ble_eq_true rfl) rfl (zcV.imp h (fun m3 h => ?_) (fun _ _ h => ⟨rfl, h⟩))
            refine zsub [0] rfl ?_
            exact wX9_numberNow_59 h
    · have h := h.2 hc
      refine Wr_aload_n dX9_numberNow_17 rfl 0 rfl ?_
      refine Wr_iconstv (v := 1) dX9_numberNow_18 (by decide) ?_
      refine Wr_cVv [.int 1] dX9_numberNow_19 mlX9_226 mgX9_wrong rfl mvX9_wrong (zrv zl106 _ rfl rfl) rfl rfl (Nat.le_of_ble_eq_true rfl) rfl (zcV.imp h (fun m4 h => ?_) (fun _ _ h => ⟨rfl, h⟩))
      refine Wr_goto 59 dX9_numberNow_22 (by decide) ?_
      refine zsub [0] rfl ?_
      exact wX9_numberNow_59 h
  · have h := h.2 hc
    refine Wr_iconstv (v := 0) dX9_numberNow_7 (by decide) ?_
    exact Wr_iret .int dX9_numberNow_8 rfl rfl ⟨rfl, h⟩
theorem cX9_numberNow_ {d : Nat} {x1 : Int32} {x2 : Int32} {μ : zMem} {KI : Int32 → zMem → Prop} {X : Nat → zMem → Prop} (h : pX9_numberNow d x1 x2 μ KI X) : zcI (d + 1) mX9_numberNow [.ref 106, .int x1, .int x2] μ KI X :=
  Ex_of (w := 3) mgX9_numberNow.2.2.2.2.2 rfl rfl rfl (by decide) (wX9_numberNow_0 h)

def pX9_readNumber (d : Nat) (x1 : Int32) (x2 : Int32) (μ : zMem) (KI : Int32 → zMem → Prop) (X : Nat → zMem → Prop) : Prop :=
  zcI d mX9_numberNow [.ref 106, .int x1, .int x2] μ (fun u2 m1 => ((m1 106 19 = 0 → zcV d mX9_stepOn [.ref 106] m1 (fun m3 => KI u2 m3) X) ∧
  (¬ (m1 106 19 = 0) → KI u2 m1))) X
set_option maxRecDepth 20000 in
theorem wX9_readNumber_0 {d : Nat} {KI : Int32 → zMem → Prop} {X : Nat → zMem → Prop} {x1 : Int32} {x2 : Int32} {μ : zMem} (h : pX9_readNumber d x1 x2 μ KI X) : Wr mX9_readNumber (d + 1) 0 0 [(0, .ref 106), (1, .int x1), (2, .int x2)] [] μ (kI KI X) := by
  unfold pX9_readNumber at h
  refine Wr_aload_n dX9_readNumber_0 rfl 0 rfl ?_
  refine Wr_iload_n dX9_readNumber_1 rfl 1 rfl ?_
  refine Wr_iload_n dX9_readNumber_2 rfl 2 rfl ?_
  refine Wr_cVi [.int x1, .int x2] dX9_readNumber_3 mlX9_233 mgX9_numberNow rfl mvX9_numberNow (zrv zl106 _ rfl rfl) rfl rfl (Nat.le_of_ble_eq_true rfl) rfl (zcI.imp h (fun u2 m1 h => ?_) (fun _ _ h => ⟨rfl, h⟩))
  refine Wr_istore_n dX9_readNumber_6 rfl (by decide) rfl ?_
  refine Wr_aload_n dX9_readNumber_7 rfl 1 rfl ?_
  refine Wr_getI dX9_readNumber_8 flX9_205 zl106 rfl ?_
  refine Wr_if_ne 18 dX9_readNumber_11 (by decide) (fun hc => ?_) (fun hc => ?_)
  · have h := h.2 hc
    refine Wr_iload_n dX9_readNumber_18 rfl 0 rfl ?_
    exact Wr_iret .int dX9_readNumber_19 rfl rfl ⟨rfl, h⟩
  · have h := h.1 hc
    refine Wr_aload_n dX9_readNumber_14 rfl 1 rfl ?_
    refine Wr_cVv [] dX9_readNumber_15 mlX9_230 mgX9_stepOn rfl mvX9_stepOn (zrv zl106 _ rfl rfl) rfl rfl (Nat.le_of_ble_eq_true rfl) rfl (zcV.imp h (fun m3 h => ?_) (fun _ _ h => ⟨rfl, h⟩))
    refine Wr_iload_n dX9_readNumber_18 rfl 0 rfl ?_
    exact Wr_iret .int dX9_readNumber_19 rfl rfl ⟨rfl, h⟩
theorem cX9_readNumber_ {d : Nat} {x1 : Int32} {x2 : Int32} {μ : zMem} {KI : Int32 → zMem → Prop} {X : Nat → zMem → Prop} (h : pX9_readNumber d x1 x2 μ KI X) : zcI (d + 1) mX9_readNumber [.ref 106, .int x1, .int x2] μ KI X :=
  Ex_of (w := 3) mgX9_readNumber.2.2.2.2.2 rfl rfl rfl (by decide) (wX9_readNumber_0 h)

def pX9_readSigned_15 (d : Nat) (x1 : Int32) (x2 : Int32) (μ : zMem) (KI : Int32 → zMem → Prop) (X : Nat → zMem → Prop) : Prop :=
  zcI d mX9_readNumber [.ref 106, .int 0, .int x1] μ (fun u2 m1 => KI (if x2 = 0 then u2 else -u2) m1) X
set_option maxRecDepth 20000 in
theorem wX9_readSigned_15 {d : Nat} {KI : Int32 → zMem → Prop} {X : Nat → zMem → Prop} {x1 : Int32} {x2 : Int32} {μ : zMem} (h : pX9_readSigned_15 d x1 x2 μ KI X) : Wr mX9_readSigned (d + 1) 0 15 [(0, .ref 106), (1, .int x1), (2, .int x2)] [] μ (kI KI X) := by
  unfold pX9_readSigned_15 at h
  refine Wr_aload_n dX9_readSigned_15 rfl 0 rfl ?_
  refine Wr_iconstv (v := 0) dX9_readSigned_16 (by decide) ?_
  refine Wr_iload_n dX9_readSigned_17 rfl 1 rfl ?_
  refine Wr_cVi [.int 0, .int x1] dX9_readSigned_18 mlX9_236 mgX9_readNumber rfl mvX9_readNumber (zrv zl106 _ rfl rfl) rfl rfl (Nat.le_of_ble_eq_true rfl) rfl (zcI.imp h (fun u2 m1 h => ?_) (fun _ _ h => ⟨rfl, h⟩))
  refine Wr_istore_n dX9_readSigned_21 rfl (by decide) rfl ?_
  refine Wr_iload_n dX9_readSigned_22 rfl 3 rfl ?_
  have hj1 : Wr mX9_readSigned (d + 1) 0 32 [(3, .int u2), (0, .ref 106), (1, .int x1), (2, .int x2)] [.int (if x2 = 0 then u2 else -u2)] m1 (kI KI X) := by
    exact Wr_iret .int dX9_readSigned_32 rfl rfl ⟨rfl, h⟩
  refine Wr_if_eq 31 dX9_readSigned_23 (by decide) (fun hc0 => ?_) (fun hc0 => ?_)
  · skip
    refine Wr_iload_n dX9_readSigned_31 rfl 0 rfl ?_
    exact Wr_top (if_pos hc0) hj1
  · skip
    refine Wr_iload_n dX9_readSigned_26 rfl 0 rfl ?_
    refine Wr_ineg dX9_readSigned_27 ?_
    refine Wr_goto 32 dX9_readSigned_28 (by decide) ?_
    exact Wr_top (if_neg hc0) hj1
def pX9_readSigned (d : Nat) (x1 : Int32) (μ : zMem) (KI : Int32 → zMem → Prop) (X : Nat → zMem → Prop) : Prop :=
  zcI d mX9_isMarked [.ref 106, .int 45] μ (fun u2 m1 => ((u2 = 0 → pX9_readSigned_15 d x1 u2 m1 KI X) ∧
  (¬ (u2 = 0) → zcV d mX9_stepOn [.ref 106] m1 (fun m3 => pX9_readSigned_15 d x1 u2 m3 KI X) X))) X
set_option maxRecDepth 20000 in
theorem wX9_readSigned_0 {d : Nat} {KI : Int32 → zMem → Prop} {X : Nat → zMem → Prop} {x1 : Int32} {μ : zMem} (h : pX9_readSigned d x1 μ KI X) : Wr mX9_readSigned (d + 1) 0 0 [(0, .ref 106), (1, .int x1)] [] μ (kI KI X) := by
  unfold pX9_readSigned at h
  refine Wr_aload_n dX9_readSigned_0 rfl 0 rfl ?_
  refine Wr_bipush (v := 45) dX9_readSigned_1 (by decide) ?_
  refine Wr_cVi [.int 45] dX9_readSigned_3 mlX9_223 mgX9_isMarked rfl mvX9_isMarked (zrv zl106 _ rfl rfl) rfl rfl (Nat.le_of_ble_eq_true rfl) rfl (zcI.imp h (fun u2 m1 h => ?_) (fun _ _ h => ⟨rfl, h⟩))
  refine Wr_istore_n dX9_readSigned_6 rfl (by decide) rfl ?_
  refine Wr_iload_n dX9_readSigned_7 rfl 0 rfl ?_
  refine Wr_if_eq 15 dX9_readSigned_8 (by decide) (fun hc => ?_) (fun hc => ?_)
  · have h := h.1 hc
    refine zsub [0, 1, 2] rfl ?_
    exact wX9_readSigned_15 h
  · have h := h.2 hc
    refine Wr_aload_n dX9_readSigned_11 rfl 1 rfl ?_
    refine Wr_cVv [] dX9_readSigned_12 mlX9_230 mgX9_stepOn rfl mvX9_stepOn (zrv zl106 _ rfl rfl) rfl rfl (Nat.le_of_ble_eq_true rfl) rfl (zcV.imp h (fun m3 h => ?_) (fun _ _ h => ⟨rfl, h⟩))
    refine zsub [0, 1, 2] rfl ?_
    exact wX9_readSigned_15 h
theorem cX9_readSigned_ {d : Nat} {x1 : Int32} {μ : zMem} {KI : Int32 → zMem → Prop} {X : Nat → zMem → Prop} (h : pX9_readSigned d x1 μ KI X) : zcI (d + 1) mX9_readSigned [.ref 106, .int x1] μ KI X :=
  Ex_of (w := 2) mgX9_readSigned.2.2.2.2.2 rfl rfl rfl (by decide) (wX9_readSigned_0 h)

def pX9_lay (d : Nat) (x1 : Int32) (μ : zMem) (KV : zMem → Prop) (X : Nat → zMem → Prop) : Prop :=
  ((μ 106 19 = 0 → (vp_in (700 + (μ 110 19)) 1400) ∧ ∀ m1 : zMem, m1 = zw μ 115 (700 + (μ 110 19)).toNatClampNeg x1 → ∀ m2 : zMem, m2 = zw m1 110 19 ((m1 110 19) + 1) → KV m2) ∧
  (¬ (μ 106 19 = 0) → KV μ))
set_option maxRecDepth 20000 in
theorem wX9_lay_0 {d : Nat} {KV : zMem → Prop} {X : Nat → zMem → Prop} {x1 : Int32} {μ : zMem} (h : pX9_lay d x1 μ KV X) : Wr mX9_lay (d + 1) 0 0 [(0, .ref 106), (1, .int x1)] [] μ (kV KV X) := by
  unfold pX9_lay at h
  refine Wr_aload_n dX9_lay_0 rfl 0 rfl ?_
  refine Wr_getI dX9_lay_1 flX9_205 zl106 rfl ?_
  refine Wr_if_eq 8 dX9_lay_4 (by decide) (fun hc => ?_) (fun hc => ?_)
  · have h := h.1 hc
    refine Wr_aload_n dX9_lay_8 rfl 0 rfl ?_
    refine Wr_getR 9 dX9_lay_9 flX9_67 zl106 rfl (by decide) ?_
    refine Wr_sipush (v := 700) dX9_lay_12 (by decide) ?_
    refine Wr_aload_n dX9_lay_15 rfl 0 rfl ?_
    refine Wr_getR 4 dX9_lay_16 flX9_51 zl106 rfl (by decide) ?_
    refine Wr_bipush (v := 19) dX9_lay_19 (by decide) ?_
    refine Wr_iald dX9_lay_21 zl110 (by unfold vp_in; decide) ?_
    refine Wr_iadd dX9_lay_22 ?_
    refine Wr_iload_n dX9_lay_23 rfl 1 rfl ?_
    obtain ⟨him1, h⟩ := h
    obtain ⟨m1, em1⟩ : ∃ z : zMem, z = zw μ 115 (700 + (μ 110 19)).toNatClampNeg x1 := ⟨_, rfl⟩
    have h := h m1 em1
    refine Wr_iast dX9_lay_24 zl115 him1 ?_
    refine Wr_mu em1 ?_
    refine Wr_aload_n dX9_lay_25 rfl 0 rfl ?_
    refine Wr_getR 4 dX9_lay_26 flX9_51 zl106 rfl (by decide) ?_
    refine Wr_bipush (v := 19) dX9_lay_29 (by decide) ?_
    refine Wr_dup2 dX9_lay_31 rfl rfl ?_
    refine Wr_iald dX9_lay_32 zl110 (by unfold vp_in; decide) ?_
    refine Wr_iconstv (v := 1) dX9_lay_33 (by decide) ?_
    refine Wr_iadd dX9_lay_34 ?_
    obtain ⟨m2, em2⟩ : ∃ z : zMem, z = zw m1 110 19 ((m1 110 19) + 1) := ⟨_, rfl⟩
    have h := h m2 em2
    refine Wr_iast dX9_lay_35 zl110 (by unfold vp_in; decide) ?_
    refine Wr_mu em2 ?_
    exact Wr_vret dX9_lay_36 rfl ⟨rfl, h⟩
  · have h := h.2 hc
    exact Wr_vret dX9_lay_7 rfl ⟨rfl, h⟩
theorem cX9_lay_ {d : Nat} {x1 : Int32} {μ : zMem} {KV : zMem → Prop} {X : Nat → zMem → Prop} (h : pX9_lay d x1 μ KV X) : zcV (d + 1) mX9_lay [.ref 106, .int x1] μ KV X :=
  Ex_of (w := 2) mgX9_lay.2.2.2.2.2 rfl rfl rfl (by decide) (wX9_lay_0 h)

def pX9_readPart_56 (d : Nat) (x2 : Int32) (μ : zMem) (KV : zMem → Prop) (X : Nat → zMem → Prop) : Prop :=
  zcV d mX9_lay [.ref 106, .int ((-1) - x2)] μ (fun m1 => ((m1 106 19 = 0 → zcV d mX9_stepOn [.ref 106] m1 (fun m2 => KV m2) X) ∧
  (¬ (m1 106 19 = 0) → KV m1))) X
set_option maxRecDepth 20000 in
theorem wX9_readPart_56 {d : Nat} {KV : zMem → Prop} {X : Nat → zMem → Prop} {x2 : Int32} {μ : zMem} (h : pX9_readPart_56 d x2 μ KV X) : Wr mX9_readPart (d + 1) 0 56 [(0, .ref 106), (2, .int x2)] [] μ (kV KV X) := by
  unfold pX9_readPart_56 at h
  refine Wr_aload_n dX9_readPart_56 rfl 0 rfl ?_
  refine Wr_iconstv (v := (-1)) dX9_readPart_57 (by decide) ?_
  refine Wr_iload_n dX9_readPart_58 rfl 1 rfl ?_
  refine Wr_isub dX9_readPart_59 ?_
  refine Wr_cVv [.int ((-1) - x2)] dX9_readPart_60 mlX9_239 mgX9_lay rfl mvX9_lay (zrv zl106 _ rfl rfl) rfl rfl (Nat.le_of_ble_eq_true rfl) rfl (zcV.imp h (fun m1 h => ?_) (fun _ _ h => ⟨rfl, h⟩))
  refine Wr_aload_n dX9_readPart_63 rfl 0 rfl ?_
  refine Wr_getI dX9_readPart_64 flX9_205 zl106 rfl ?_
  refine Wr_if_ne 74 dX9_readPart_67 (by decide) (fun hc => ?_) (fun hc => ?_)
  · have h := h.2 hc
    exact Wr_vret dX9_readPart_74 rfl ⟨rfl, h⟩
  · have h := h.1 hc
    refine Wr_aload_n dX9_readPart_70 rfl 0 rfl ?_
    refine Wr_cVv [] dX9_readPart_71 mlX9_230 mgX9_stepOn rfl mvX9_stepOn (zrv zl106 _ rfl rfl) rfl rfl (Nat.le_of_ble_eq_true rfl) rfl (zcV.imp h (fun m2 h => ?_) (fun _ _ h => ⟨rfl, h⟩))
    exact Wr_vret dX9_readPart_74 rfl ⟨rfl, h⟩
def pX9_readPart (d : Nat) (x1 : Int32) (μ : zMem) (KV : zMem → Prop) (X : Nat → zMem → Prop) : Prop :=
  ((μ 106 19 = 0 → ((μ 106 15 = 2 → zcI d mX9_readNumber [.ref 106, .int 0, .int 9999] μ (fun u8 m7 => zcV d mX9_lay [.ref 106, .int u8] m7 (fun m9 => KV m9) X) X) ∧
    (¬ (μ 106 15 = 2) → ((μ 106 15 = 1 → zcI d mX9_which [.ref 106, .ref 109] μ (fun u5 m4 => ((u5 = (-1) → zcV d mX9_wrong [.ref 106, .int 3] m4 (fun m6 => pX9_readPart_56 d u5 m6 KV X) X) ∧
        (¬ (u5 = (-1)) → pX9_readPart_56 d u5 m4 KV X))) X) ∧
      (¬ (μ 106 15 = 1) → zcV d mX9_mark [.ref 106, .int 40] μ (fun m1 => zcV d mX9_readExpression [.ref 106, .int (x1 + 1)] m1 (fun m2 => zcV d mX9_mark [.ref 106, .int 41] m2 (fun m3 => KV m3) X) X) X))))) ∧
  (¬ (μ 106 19 = 0) → KV μ))
set_option maxRecDepth 20000 in
theorem wX9_readPart_0 {d : Nat} {KV : zMem → Prop} {X : Nat → zMem → Prop} {x1 : Int32} {μ : zMem} (h : pX9_readPart d x1 μ KV X) : Wr mX9_readPart (d + 1) 0 0 [(0, .ref 106), (1, .int x1)] [] μ (kV KV X) := by
  unfold pX9_readPart at h
  refine Wr_aload_n dX9_readPart_0 rfl 0 rfl ?_
  refine Wr_getI dX9_readPart_1 flX9_205 zl106 rfl ?_
  refine Wr_if_eq 8 dX9_readPart_4 (by decide) (fun hc => ?_) (fun hc => ?_)
  · have h := h.1 hc
    refine Wr_aload_n dX9_readPart_8 rfl 0 rfl ?_
    refine Wr_getI dX9_readPart_9 flX9_179 zl106 rfl ?_
    refine Wr_iconstv (v := 2) dX9_readPart_12 (by decide) ?_
    refine Wr_icmp_ne 29 dX9_readPart_13 (by decide) (fun hc => ?_) (fun hc => ?_)
    · have h := h.2 hc
      refine Wr_aload_n dX9_readPart_29 rfl 0 rfl ?_
      refine Wr_getI dX9_readPart_30 flX9_179 zl106 rfl ?_
      refine Wr_iconstv (v := 1) dX9_readPart_33 (by decide) ?_
      refine Wr_icmp_ne 75 dX9_readPart_34 (by decide) (fun hc => ?_) (fun hc => ?_)
      · have h := h.2 hc
        refine Wr_aload_n dX9_readPart_75 rfl 0 rfl ?_
        refine Wr_bipush (v := 40) dX9_readPart_76 (by decide) ?_
        refine Wr_cVv [.int 40] dX9_readPart_78 mlX9_246 mgX9_mark rfl mvX9_mark (zrv zl106 _ rfl rfl) rfl rfl (Nat.le_of_ble_eq_true rfl) rfl (zcV.imp h (fun m1 h => ?_) (fun _ _ h => ⟨rfl, h⟩))
        refine Wr_aload_n dX9_readPart_81 rfl 0 rfl ?_
        refine Wr_iload_n dX9_readPart_82 rfl 1 rfl ?_
        refine Wr_iconstv (v := 1) dX9_readPart_83 (by decide) ?_
        refine Wr_iadd dX9_readPart_84 ?_
        refine Wr_cVv [.int (x1 + 1)] dX9_readPart_85 mlX9_249 mgX9_readExpression rfl mvX9_readExpression (zrv zl106 _ rfl rfl) rfl rfl (Nat.le_of_ble_eq_true rfl) rfl (zcV.imp h (fun m2 h => ?_) (fun _ _ h => ⟨rfl, h⟩))
        refine Wr_aload_n dX9_readPart_88 rfl 0 rfl ?_
        refine Wr_bipush (v := 41) dX9_readPart_89 (by decide) ?_
        refine Wr_cVv [.int 41] dX9_readPart_91 mlX9_246 mgX9_mark rfl mvX9_mark (zrv zl106 _ rfl rfl) rfl rfl (Nat.le_of_ble_eq_true rfl) rfl (zcV.imp h (fun m3 h => ?_) (fun _ _ h => ⟨rfl, h⟩))
        exact Wr_vret dX9_readPart_94 rfl ⟨rfl, h⟩
      · have h := h.1 hc
        refine Wr_aload_n dX9_readPart_37 rfl 0 rfl ?_
        refine Wr_aload_n dX9_readPart_38 rfl 0 rfl ?_
        refine Wr_getR 3 dX9_readPart_39 flX9_48 zl106 rfl (by decide) ?_
        refine Wr_cVi [.ref 109] dX9_readPart_42 mlX9_242 mgX9_which rfl mvX9_which (zrv zl106 _ rfl rfl) rfl rfl (Nat.le_of_ble_eq_true rfl) rfl (zcI.imp h (fun u5 m4 h => ?_) (fun _ _ h => ⟨rfl, h⟩))
        refine Wr_istore_n dX9_readPart_45 rfl (by decide) rfl ?_
        refine Wr_iload_n dX9_readPart_46 rfl 0 rfl ?_
        refine Wr_iconstv (v := (-1)) dX9_readPart_47 (by decide) ?_
        refine Wr_icmp_ne 56 dX9_readPart_48 (by decide) (fun hc => ?_) (fun hc => ?_)
        · have h := h.2 hc
          refine zsub [0, 2] rfl ?_
          exact wX9_readPart_56 h
        · have h := h.1 hc
          refine Wr_aload_n dX9_readPart_51 rfl 1 rfl ?_
          refine Wr_iconstv (v := 3) dX9_readPart_52 (by decide) ?_
          refine Wr_cVv [.int 3] dX9_readPart_53 mlX9_226 mgX9_wrong rfl mvX9_wrong (zrv zl106 _ rfl rfl) rfl rfl (Nat.le_of_ble_eq_true rfl) rfl (zcV.imp h (fun m6 h => ?_) (fun _ _ h => ⟨rfl, h⟩))
          refine zsub [0, 2] rfl ?_
          exact wX9_readPart_56 h
    · have h := h.1 hc
      refine Wr_aload_n dX9_readPart_16 rfl 0 rfl ?_
      refine Wr_aload_n dX9_readPart_17 rfl 0 rfl ?_
      refine Wr_iconstv (v := 0) dX9_readPart_18 (by decide) ?_
      refine Wr_sipush (v := 9999) dX9_readPart_19 (by decide) ?_
      refine Wr_cVi [.int 0, .int 9999] dX9_readPart_22 mlX9_236 mgX9_readNumber rfl mvX9_readNumber (zrv zl106 _ rfl rfl) rfl rfl (Nat.le_of_ble_eq_true rfl) rfl (zcI.imp h (fun u8 m7 h => ?_) (fun _ _ h => ⟨rfl, h⟩))
      refine Wr_cVv [.int u8] dX9_readPart_25 mlX9_239 mgX9_lay rfl mvX9_lay (zrv zl106 _ rfl rfl) rfl rfl (Nat.le_of_ble_eq_true rfl) rfl (zcV.imp h (fun m9 h => ?_) (fun _ _ h => ⟨rfl, h⟩))
      exact Wr_vret dX9_readPart_28 rfl ⟨rfl, h⟩
  · have h := h.2 hc
    exact Wr_vret dX9_readPart_7 rfl ⟨rfl, h⟩
theorem cX9_readPart_ {d : Nat} {x1 : Int32} {μ : zMem} {KV : zMem → Prop} {X : Nat → zMem → Prop} (h : pX9_readPart d x1 μ KV X) : zcV (d + 1) mX9_readPart [.ref 106, .int x1] μ KV X :=
  Ex_of (w := 2) mgX9_readPart.2.2.2.2.2 rfl rfl rfl (by decide) (wX9_readPart_0 h)

def pX9_readProduct_23 (d : Nat) (x1 : Int32) (μ : zMem) (KV : zMem → Prop) (X : Nat → zMem → Prop) (C5 : Int32 → zMem → Prop) : Prop :=
  zcI d mX9_isMarked [.ref 106, .int 42] μ (fun u2 m1 => ∀ v3 : Int32, v3 = (if u2 = 0 then (-23) else (-22)) → zcV d mX9_stepOn [.ref 106] m1 (fun m4 => zcV d mX9_readPart [.ref 106, .int x1] m4 (fun m5 => zcV d mX9_lay [.ref 106, .int v3] m5 (fun m6 => C5 x1 m6) X) X) X) X
set_option maxRecDepth 20000 in
theorem wX9_readProduct_23 {d : Nat} {KV : zMem → Prop} {X : Nat → zMem → Prop} {C5 : Int32 → zMem → Prop} {x1 : Int32} {μ : zMem} (hC5 : ∀ (x1 : Int32) (μ : zMem), C5 x1 μ → Wr mX9_readProduct (d + 1) 0 5 [(0, .ref 106), (1, .int x1)] [] μ (kV KV X)) (h : pX9_readProduct_23 d x1 μ KV X C5) : Wr mX9_readProduct (d + 1) 0 23 [(0, .ref 106), (1, .int x1)] [] μ (kV KV X) := by
  unfold pX9_readProduct_23 at h
  refine Wr_aload_n dX9_readProduct_23 rfl 0 rfl ?_
  refine Wr_bipush (v := 42) dX9_readProduct_24 (by decide) ?_
  refine Wr_cVi [.int 42] dX9_readProduct_26 mlX9_223 mgX9_isMarked rfl mvX9_isMarked (zrv zl106 _ rfl rfl) rfl rfl (Nat.le_of_ble_eq_true rfl) rfl (zcI.imp h (fun u2 m1 h => ?_) (fun _ _ h => ⟨rfl, h⟩))
  have hj1 : Wr mX9_readProduct (d + 1) 0 39 [(0, .ref 106), (1, .int x1)] [.int (if u2 = 0 then (-23) else (-22))] m1 (kV KV X) := by
    obtain ⟨v3, ev3⟩ : ∃ z : Int32, z = (if u2 = 0 then (-23) else (-22)) := ⟨_, rfl⟩
    have h := h v3 ev3
    refine Wr_top ev3 ?_
    refine Wr_istore_n dX9_readProduct_39 rfl (by decide) rfl ?_
    refine Wr_aload_n dX9_readProduct_40 rfl 1 rfl ?_
    refine Wr_cVv [] dX9_readProduct_41 mlX9_230 mgX9_stepOn rfl mvX9_stepOn (zrv zl106 _ rfl rfl) rfl rfl (Nat.le_of_ble_eq_true rfl) rfl (zcV.imp h (fun m4 h => ?_) (fun _ _ h => ⟨rfl, h⟩))
    refine Wr_aload_n dX9_readProduct_44 rfl 1 rfl ?_
    refine Wr_iload_n dX9_readProduct_45 rfl 2 rfl ?_
    refine Wr_cVv [.int x1] dX9_readProduct_46 mlX9_252 mgX9_readPart rfl mvX9_readPart (zrv zl106 _ rfl rfl) rfl rfl (Nat.le_of_ble_eq_true rfl) rfl (zcV.imp h (fun m5 h => ?_) (fun _ _ h => ⟨rfl, h⟩))
    refine Wr_aload_n dX9_readProduct_49 rfl 1 rfl ?_
    refine Wr_iload_n dX9_readProduct_50 rfl 0 rfl ?_
    refine Wr_cVv [.int v3] dX9_readProduct_51 mlX9_239 mgX9_lay rfl mvX9_lay (zrv zl106 _ rfl rfl) rfl rfl (Nat.le_of_ble_eq_true rfl) rfl (zcV.imp h (fun m6 h => ?_) (fun _ _ h => ⟨rfl, h⟩))
    refine Wr_goto 5 dX9_readProduct_54 (by decide) ?_
    refine zsub [0, 1] rfl ?_
    exact hC5 _ _ h
  refine Wr_if_eq 37 dX9_readProduct_29 (by decide) (fun hc0 => ?_) (fun hc0 => ?_)
  · skip
    refine Wr_bipush (v := (-23)) dX9_readProduct_37 (by decide) ?_
    exact Wr_top (if_pos hc0) hj1
  · skip
    refine Wr_bipush (v := (-22)) dX9_readProduct_32 (by decide) ?_
    refine Wr_goto 39 dX9_readProduct_34 (by decide) ?_
    exact Wr_top (if_neg hc0) hj1
def pX9_readProduct_5 : Nat → Nat → Int32 → zMem → (zMem → Prop) → (Nat → zMem → Prop) → Prop
  | 0, _, _, _, _, _ => False
  | n + 1, d, x1, μ, KV, X =>
  zcI d mX9_isMarked [.ref 106, .int 42] μ (fun u2 m1 => ((u2 = 0 → zcI d mX9_isMarked [.ref 106, .int 47] m1 (fun u4 m3 => ((u4 = 0 → KV m3) ∧
    (¬ (u4 = 0) → pX9_readProduct_23 d x1 m3 KV X (fun z0 m => pX9_readProduct_5 n d z0 m KV X)))) X) ∧
  (¬ (u2 = 0) → pX9_readProduct_23 d x1 m1 KV X (fun z0 m => pX9_readProduct_5 n d z0 m KV X)))) X
set_option maxRecDepth 20000 in
theorem wX9_readProduct_5 {d : Nat} {KV : zMem → Prop} {X : Nat → zMem → Prop} : ∀ (n : Nat) (x1 : Int32) (μ : zMem), pX9_readProduct_5 n d x1 μ KV X → Wr mX9_readProduct (d + 1) 0 5 [(0, .ref 106), (1, .int x1)] [] μ (kV KV X) := by
  intro n
  induction n with
  | zero =>
    intro x1 μ h
    exact absurd h id
  | succ n ih =>
    intro x1 μ h
    unfold pX9_readProduct_5 at h
    refine Wr_aload_n dX9_readProduct_5 rfl 0 rfl ?_
    refine Wr_bipush (v := 42) dX9_readProduct_6 (by decide) ?_
    refine Wr_cVi [.int 42] dX9_readProduct_8 mlX9_223 mgX9_isMarked rfl mvX9_isMarked (zrv zl106 _ rfl rfl) rfl rfl (Nat.le_of_ble_eq_true rfl) rfl (zcI.imp h (fun u2 m1 h => ?_) (fun _ _ h => ⟨rfl, h⟩))
    refine Wr_if_ne 23 dX9_readProduct_11 (by decide) (fun hc => ?_) (fun hc => ?_)
    · have h := h.2 hc
      refine zsub [0, 1] rfl ?_
      exact wX9_readProduct_23 (fun z0 m h => ih z0 m h) h
    · have h := h.1 hc
      refine Wr_aload_n dX9_readProduct_14 rfl 0 rfl ?_
      refine Wr_bipush (v := 47) dX9_readProduct_15 (by decide) ?_
      refine Wr_cVi [.int 47] dX9_readProduct_17 mlX9_223 mgX9_isMarked rfl mvX9_isMarked (zrv zl106 _ rfl rfl) rfl rfl (Nat.le_of_ble_eq_true rfl) rfl (zcI.imp h (fun u4 m3 h => ?_) (fun _ _ h => ⟨rfl, h⟩))
      refine Wr_if_eq 57 dX9_readProduct_20 (by decide) (fun hc => ?_) (fun hc => ?_)
      · have h := h.1 hc
        exact Wr_vret dX9_readProduct_57 rfl ⟨rfl, h⟩
      · have h := h.2 hc
        refine zsub [0, 1] rfl ?_
        exact wX9_readProduct_23 (fun z0 m h => ih z0 m h) h
def pX9_readProduct (d : Nat) (x1 : Int32) (μ : zMem) (KV : zMem → Prop) (X : Nat → zMem → Prop) : Prop :=
  zcV d mX9_readPart [.ref 106, .int x1] μ (fun m1 => ∃ n2 : Nat, pX9_readProduct_5 n2 d x1 m1 KV X) X
set_option maxRecDepth 20000 in
theorem wX9_readProduct_0 {d : Nat} {KV : zMem → Prop} {X : Nat → zMem → Prop} {x1 : Int32} {μ : zMem} (h : pX9_readProduct d x1 μ KV X) : Wr mX9_readProduct (d + 1) 0 0 [(0, .ref 106), (1, .int x1)] [] μ (kV KV X) := by
  unfold pX9_readProduct at h
  refine Wr_aload_n dX9_readProduct_0 rfl 0 rfl ?_
  refine Wr_iload_n dX9_readProduct_1 rfl 1 rfl ?_
  refine Wr_cVv [.int x1] dX9_readProduct_2 mlX9_252 mgX9_readPart rfl mvX9_readPart (zrv zl106 _ rfl rfl) rfl rfl (Nat.le_of_ble_eq_true rfl) rfl (zcV.imp h (fun m1 h => ?_) (fun _ _ h => ⟨rfl, h⟩))
  refine zsub [0, 1] rfl ?_
  obtain ⟨n9, h⟩ := h
  exact wX9_readProduct_5 n9 _ _ h
theorem cX9_readProduct_ {d : Nat} {x1 : Int32} {μ : zMem} {KV : zMem → Prop} {X : Nat → zMem → Prop} (h : pX9_readProduct d x1 μ KV X) : zcV (d + 1) mX9_readProduct [.ref 106, .int x1] μ KV X :=
  Ex_of (w := 2) mgX9_readProduct.2.2.2.2.2 rfl rfl rfl (by decide) (wX9_readProduct_0 h)

def pX9_readSum_23 (d : Nat) (x1 : Int32) (μ : zMem) (KV : zMem → Prop) (X : Nat → zMem → Prop) (C5 : Int32 → zMem → Prop) : Prop :=
  zcI d mX9_isMarked [.ref 106, .int 43] μ (fun u2 m1 => ∀ v3 : Int32, v3 = (if u2 = 0 then (-21) else (-20)) → zcV d mX9_stepOn [.ref 106] m1 (fun m4 => zcV d mX9_readProduct [.ref 106, .int x1] m4 (fun m5 => zcV d mX9_lay [.ref 106, .int v3] m5 (fun m6 => C5 x1 m6) X) X) X) X
set_option maxRecDepth 20000 in
theorem wX9_readSum_23 {d : Nat} {KV : zMem → Prop} {X : Nat → zMem → Prop} {C5 : Int32 → zMem → Prop} {x1 : Int32} {μ : zMem} (hC5 : ∀ (x1 : Int32) (μ : zMem), C5 x1 μ → Wr mX9_readSum (d + 1) 0 5 [(0, .ref 106), (1, .int x1)] [] μ (kV KV X)) (h : pX9_readSum_23 d x1 μ KV X C5) : Wr mX9_readSum (d + 1) 0 23 [(0, .ref 106), (1, .int x1)] [] μ (kV KV X) := by
  unfold pX9_readSum_23 at h
  refine Wr_aload_n dX9_readSum_23 rfl 0 rfl ?_
  refine Wr_bipush (v := 43) dX9_readSum_24 (by decide) ?_
  refine Wr_cVi [.int 43] dX9_readSum_26 mlX9_223 mgX9_isMarked rfl mvX9_isMarked (zrv zl106 _ rfl rfl) rfl rfl (Nat.le_of_ble_eq_true rfl) rfl (zcI.imp h (fun u2 m1 h => ?_) (fun _ _ h => ⟨rfl, h⟩))
  have hj1 : Wr mX9_readSum (d + 1) 0 39 [(0, .ref 106), (1, .int x1)] [.int (if u2 = 0 then (-21) else (-20))] m1 (kV KV X) := by
    obtain ⟨v3, ev3⟩ : ∃ z : Int32, z = (if u2 = 0 then (-21) else (-20)) := ⟨_, rfl⟩
    have h := h v3 ev3
    refine Wr_top ev3 ?_
    refine Wr_istore_n dX9_readSum_39 rfl (by decide) rfl ?_
    refine Wr_aload_n dX9_readSum_40 rfl 1 rfl ?_
    refine Wr_cVv [] dX9_readSum_41 mlX9_230 mgX9_stepOn rfl mvX9_stepOn (zrv zl106 _ rfl rfl) rfl rfl (Nat.le_of_ble_eq_true rfl) rfl (zcV.imp h (fun m4 h => ?_) (fun _ _ h => ⟨rfl, h⟩))
    refine Wr_aload_n dX9_readSum_44 rfl 1 rfl ?_
    refine Wr_iload_n dX9_readSum_45 rfl 2 rfl ?_
    refine Wr_cVv [.int x1] dX9_readSum_46 mlX9_255 mgX9_readProduct rfl mvX9_readProduct (zrv zl106 _ rfl rfl) rfl rfl (Nat.le_of_ble_eq_true rfl) rfl (zcV.imp h (fun m5 h => ?_) (fun _ _ h => ⟨rfl, h⟩))
    refine Wr_aload_n dX9_readSum_49 rfl 1 rfl ?_
    refine Wr_iload_n dX9_readSum_50 rfl 0 rfl ?_
    refine Wr_cVv [.int v3] dX9_readSum_51 mlX9_239 mgX9_lay rfl mvX9_lay (zrv zl106 _ rfl rfl) rfl rfl (Nat.le_of_ble_eq_true rfl) rfl (zcV.imp h (fun m6 h => ?_) (fun _ _ h => ⟨rfl, h⟩))
    refine Wr_goto 5 dX9_readSum_54 (by decide) ?_
    refine zsub [0, 1] rfl ?_
    exact hC5 _ _ h
  refine Wr_if_eq 37 dX9_readSum_29 (by decide) (fun hc0 => ?_) (fun hc0 => ?_)
  · skip
    refine Wr_bipush (v := (-21)) dX9_readSum_37 (by decide) ?_
    exact Wr_top (if_pos hc0) hj1
  · skip
    refine Wr_bipush (v := (-20)) dX9_readSum_32 (by decide) ?_
    refine Wr_goto 39 dX9_readSum_34 (by decide) ?_
    exact Wr_top (if_neg hc0) hj1
def pX9_readSum_5 : Nat → Nat → Int32 → zMem → (zMem → Prop) → (Nat → zMem → Prop) → Prop
  | 0, _, _, _, _, _ => False
  | n + 1, d, x1, μ, KV, X =>
  zcI d mX9_isMarked [.ref 106, .int 43] μ (fun u2 m1 => ((u2 = 0 → zcI d mX9_isMarked [.ref 106, .int 45] m1 (fun u4 m3 => ((u4 = 0 → KV m3) ∧
    (¬ (u4 = 0) → pX9_readSum_23 d x1 m3 KV X (fun z0 m => pX9_readSum_5 n d z0 m KV X)))) X) ∧
  (¬ (u2 = 0) → pX9_readSum_23 d x1 m1 KV X (fun z0 m => pX9_readSum_5 n d z0 m KV X)))) X
set_option maxRecDepth 20000 in
theorem wX9_readSum_5 {d : Nat} {KV : zMem → Prop} {X : Nat → zMem → Prop} : ∀ (n : Nat) (x1 : Int32) (μ : zMem), pX9_readSum_5 n d x1 μ KV X → Wr mX9_readSum (d + 1) 0 5 [(0, .ref 106), (1, .int x1)] [] μ (kV KV X) := by
  intro n
  induction n with
  | zero =>
    intro x1 μ h
    exact absurd h id
  | succ n ih =>
    intro x1 μ h
    unfold pX9_readSum_5 at h
    refine Wr_aload_n dX9_readSum_5 rfl 0 rfl ?_
    refine Wr_bipush (v := 43) dX9_readSum_6 (by decide) ?_
    refine Wr_cVi [.int 43] dX9_readSum_8 mlX9_223 mgX9_isMarked rfl mvX9_isMarked (zrv zl106 _ rfl rfl) rfl rfl (Nat.le_of_ble_eq_true rfl) rfl (zcI.imp h (fun u2 m1 h => ?_) (fun _ _ h => ⟨rfl, h⟩))
    refine Wr_if_ne 23 dX9_readSum_11 (by decide) (fun hc => ?_) (fun hc => ?_)
    · have h := h.2 hc
      refine zsub [0, 1] rfl ?_
      exact wX9_readSum_23 (fun z0 m h => ih z0 m h) h
    · have h := h.1 hc
      refine Wr_aload_n dX9_readSum_14 rfl 0 rfl ?_
      refine Wr_bipush (v := 45) dX9_readSum_15 (by decide) ?_
      refine Wr_cVi [.int 45] dX9_readSum_17 mlX9_223 mgX9_isMarked rfl mvX9_isMarked (zrv zl106 _ rfl rfl) rfl rfl (Nat.le_of_ble_eq_true rfl) rfl (zcI.imp h (fun u4 m3 h => ?_) (fun _ _ h => ⟨rfl, h⟩))
      refine Wr_if_eq 57 dX9_readSum_20 (by decide) (fun hc => ?_) (fun hc => ?_)
      · have h := h.1 hc
        exact Wr_vret dX9_readSum_57 rfl ⟨rfl, h⟩
      · have h := h.2 hc
        refine zsub [0, 1] rfl ?_
        exact wX9_readSum_23 (fun z0 m h => ih z0 m h) h
def pX9_readSum (d : Nat) (x1 : Int32) (μ : zMem) (KV : zMem → Prop) (X : Nat → zMem → Prop) : Prop :=
  zcV d mX9_readProduct [.ref 106, .int x1] μ (fun m1 => ∃ n2 : Nat, pX9_readSum_5 n2 d x1 m1 KV X) X
set_option maxRecDepth 20000 in
theorem wX9_readSum_0 {d : Nat} {KV : zMem → Prop} {X : Nat → zMem → Prop} {x1 : Int32} {μ : zMem} (h : pX9_readSum d x1 μ KV X) : Wr mX9_readSum (d + 1) 0 0 [(0, .ref 106), (1, .int x1)] [] μ (kV KV X) := by
  unfold pX9_readSum at h
  refine Wr_aload_n dX9_readSum_0 rfl 0 rfl ?_
  refine Wr_iload_n dX9_readSum_1 rfl 1 rfl ?_
  refine Wr_cVv [.int x1] dX9_readSum_2 mlX9_255 mgX9_readProduct rfl mvX9_readProduct (zrv zl106 _ rfl rfl) rfl rfl (Nat.le_of_ble_eq_true rfl) rfl (zcV.imp h (fun m1 h => ?_) (fun _ _ h => ⟨rfl, h⟩))
  refine zsub [0, 1] rfl ?_
  obtain ⟨n9, h⟩ := h
  exact wX9_readSum_5 n9 _ _ h
theorem cX9_readSum_ {d : Nat} {x1 : Int32} {μ : zMem} {KV : zMem → Prop} {X : Nat → zMem → Prop} (h : pX9_readSum d x1 μ KV X) : zcV (d + 1) mX9_readSum [.ref 106, .int x1] μ KV X :=
  Ex_of (w := 2) mgX9_readSum.2.2.2.2.2 rfl rfl rfl (by decide) (wX9_readSum_0 h)

def pX9_readNot_23 (d : Nat) (x1 : Int32) (x2 : Int32) (μ : zMem) (KV : zMem → Prop) (X : Nat → zMem → Prop) (C2 : Int32 → Int32 → zMem → Prop) : Prop :=
  ∀ v1 : Int32, v1 = x2 + 1 → ((μ 106 19 = 0 → zcV d mX9_stepOn [.ref 106] μ (fun m2 => C2 x1 v1 m2) X) ∧
  (¬ (μ 106 19 = 0) → C2 x1 v1 μ))
set_option maxRecDepth 20000 in
theorem wX9_readNot_23 {d : Nat} {KV : zMem → Prop} {X : Nat → zMem → Prop} {C2 : Int32 → Int32 → zMem → Prop} {x1 : Int32} {x2 : Int32} {μ : zMem} (hC2 : ∀ (x1 : Int32) (x2 : Int32) (μ : zMem), C2 x1 x2 μ → Wr mX9_readNot (d + 1) 0 2 [(0, .ref 106), (1, .int x1), (2, .int x2)] [] μ (kV KV X)) (h : pX9_readNot_23 d x1 x2 μ KV X C2) : Wr mX9_readNot (d + 1) 0 23 [(0, .ref 106), (1, .int x1), (2, .int x2)] [] μ (kV KV X) := by
  unfold pX9_readNot_23 at h
  obtain ⟨v1, ev1⟩ : ∃ z : Int32, z = x2 + 1 := ⟨_, rfl⟩
  have h := h v1 ev1
  refine Wr_iinc (v := v1) dX9_readNot_23 (q := 2) rfl (by rw [ev1]; rfl) (by decide) rfl ?_
  refine Wr_aload_n dX9_readNot_26 rfl 1 rfl ?_
  refine Wr_getI dX9_readNot_27 flX9_205 zl106 rfl ?_
  refine Wr_if_ne 2 dX9_readNot_30 (by decide) (fun hc => ?_) (fun hc => ?_)
  · have h := h.2 hc
    refine zsub [0, 1, 2] rfl ?_
    exact hC2 _ _ _ h
  · have h := h.1 hc
    refine Wr_aload_n dX9_readNot_33 rfl 1 rfl ?_
    refine Wr_cVv [] dX9_readNot_34 mlX9_230 mgX9_stepOn rfl mvX9_stepOn (zrv zl106 _ rfl rfl) rfl rfl (Nat.le_of_ble_eq_true rfl) rfl (zcV.imp h (fun m2 h => ?_) (fun _ _ h => ⟨rfl, h⟩))
    refine Wr_goto 2 dX9_readNot_37 (by decide) ?_
    refine zsub [0, 1, 2] rfl ?_
    exact hC2 _ _ _ h
def pX9_readNot_96 : Nat → Nat → Int32 → Int32 → zMem → (zMem → Prop) → (Nat → zMem → Prop) → Prop
  | 0, _, _, _, _, _, _ => False
  | n + 1, d, x2, x3, μ, KV, X =>
  ((x2 ≤ x3 → KV μ) ∧
  (¬ (x2 ≤ x3) → zcV d mX9_lay [.ref 106, .int (-28)] μ (fun m1 => ∀ v2 : Int32, v2 = x3 + 1 → pX9_readNot_96 n d x2 v2 m1 KV X) X))
set_option maxRecDepth 20000 in
theorem wX9_readNot_96 {d : Nat} {KV : zMem → Prop} {X : Nat → zMem → Prop} : ∀ (n : Nat) (x2 : Int32) (x3 : Int32) (μ : zMem), pX9_readNot_96 n d x2 x3 μ KV X → Wr mX9_readNot (d + 1) 0 96 [(0, .ref 106), (2, .int x2), (3, .int x3)] [] μ (kV KV X) := by
  intro n
  induction n with
  | zero =>
    intro x2 x3 μ h
    exact absurd h id
  | succ n ih =>
    intro x2 x3 μ h
    unfold pX9_readNot_96 at h
    refine Wr_iload_n dX9_readNot_96 rfl 2 rfl ?_
    refine Wr_iload_n dX9_readNot_97 rfl 1 rfl ?_
    refine Wr_icmp_ge 113 dX9_readNot_98 (by decide) (fun hc => ?_) (fun hc => ?_)
    · have h := h.1 hc
      exact Wr_vret dX9_readNot_113 rfl ⟨rfl, h⟩
    · have h := h.2 hc
      refine Wr_aload_n dX9_readNot_101 rfl 0 rfl ?_
      refine Wr_bipush (v := (-28)) dX9_readNot_102 (by decide) ?_
      refine Wr_cVv [.int (-28)] dX9_readNot_104 mlX9_239 mgX9_lay rfl mvX9_lay (zrv zl106 _ rfl rfl) rfl rfl (Nat.le_of_ble_eq_true rfl) rfl (zcV.imp h (fun m1 h => ?_) (fun _ _ h => ⟨rfl, h⟩))
      obtain ⟨v2, ev2⟩ : ∃ z : Int32, z = x3 + 1 := ⟨_, rfl⟩
      have h := h v2 ev2
      refine Wr_iinc (v := v2) dX9_readNot_107 (q := 2) rfl (by rw [ev2]; rfl) (by decide) rfl ?_
      refine Wr_goto 96 dX9_readNot_110 (by decide) ?_
      refine zsub [0, 2, 3] rfl ?_
      exact ih _ _ _ h
def pX9_readNot_63 (d : Nat) (x1 : Int32) (x2 : Int32) (μ : zMem) (KV : zMem → Prop) (X : Nat → zMem → Prop) : Prop :=
  zcI d mX9_isMarked [.ref 106, .int 60] μ (fun u2 m1 => ∀ v3 : Int32, v3 = (if u2 = 0 then (-25) else (-24)) → zcV d mX9_stepOn [.ref 106] m1 (fun m4 => zcV d mX9_readSum [.ref 106, .int x1] m4 (fun m5 => zcV d mX9_lay [.ref 106, .int v3] m5 (fun m6 => ∃ n2 : Nat, pX9_readNot_96 n2 d x2 0 m6 KV X) X) X) X) X
set_option maxRecDepth 20000 in
theorem wX9_readNot_63 {d : Nat} {KV : zMem → Prop} {X : Nat → zMem → Prop} {x1 : Int32} {x2 : Int32} {μ : zMem} (h : pX9_readNot_63 d x1 x2 μ KV X) : Wr mX9_readNot (d + 1) 0 63 [(0, .ref 106), (1, .int x1), (2, .int x2)] [] μ (kV KV X) := by
  unfold pX9_readNot_63 at h
  refine Wr_aload_n dX9_readNot_63 rfl 0 rfl ?_
  refine Wr_bipush (v := 60) dX9_readNot_64 (by decide) ?_
  refine Wr_cVi [.int 60] dX9_readNot_66 mlX9_223 mgX9_isMarked rfl mvX9_isMarked (zrv zl106 _ rfl rfl) rfl rfl (Nat.le_of_ble_eq_true rfl) rfl (zcI.imp h (fun u2 m1 h => ?_) (fun _ _ h => ⟨rfl, h⟩))
  have hj1 : Wr mX9_readNot (d + 1) 0 79 [(0, .ref 106), (1, .int x1), (2, .int x2)] [.int (if u2 = 0 then (-25) else (-24))] m1 (kV KV X) := by
    obtain ⟨v3, ev3⟩ : ∃ z : Int32, z = (if u2 = 0 then (-25) else (-24)) := ⟨_, rfl⟩
    have h := h v3 ev3
    refine Wr_top ev3 ?_
    refine Wr_istore_n dX9_readNot_79 rfl (by decide) rfl ?_
    refine Wr_aload_n dX9_readNot_80 rfl 1 rfl ?_
    refine Wr_cVv [] dX9_readNot_81 mlX9_230 mgX9_stepOn rfl mvX9_stepOn (zrv zl106 _ rfl rfl) rfl rfl (Nat.le_of_ble_eq_true rfl) rfl (zcV.imp h (fun m4 h => ?_) (fun _ _ h => ⟨rfl, h⟩))
    refine Wr_aload_n dX9_readNot_84 rfl 1 rfl ?_
    refine Wr_iload_n dX9_readNot_85 rfl 2 rfl ?_
    refine Wr_cVv [.int x1] dX9_readNot_86 mlX9_260 mgX9_readSum rfl mvX9_readSum (zrv zl106 _ rfl rfl) rfl rfl (Nat.le_of_ble_eq_true rfl) rfl (zcV.imp h (fun m5 h => ?_) (fun _ _ h => ⟨rfl, h⟩))
    refine Wr_aload_n dX9_readNot_89 rfl 1 rfl ?_
    refine Wr_iload_n dX9_readNot_90 rfl 0 rfl ?_
    refine Wr_cVv [.int v3] dX9_readNot_91 mlX9_239 mgX9_lay rfl mvX9_lay (zrv zl106 _ rfl rfl) rfl rfl (Nat.le_of_ble_eq_true rfl) rfl (zcV.imp h (fun m6 h => ?_) (fun _ _ h => ⟨rfl, h⟩))
    refine Wr_iconstv (v := 0) dX9_readNot_94 (by decide) ?_
    refine Wr_istore_n dX9_readNot_95 rfl (by decide) rfl ?_
    refine zsub [0, 2, 3] rfl ?_
    obtain ⟨n9, h⟩ := h
    exact wX9_readNot_96 n9 _ _ _ h
  refine Wr_if_eq 77 dX9_readNot_69 (by decide) (fun hc0 => ?_) (fun hc0 => ?_)
  · skip
    refine Wr_bipush (v := (-25)) dX9_readNot_77 (by decide) ?_
    exact Wr_top (if_pos hc0) hj1
  · skip
    refine Wr_bipush (v := (-24)) dX9_readNot_72 (by decide) ?_
    refine Wr_goto 79 dX9_readNot_74 (by decide) ?_
    exact Wr_top (if_neg hc0) hj1
def pX9_readNot_2 : Nat → Nat → Int32 → Int32 → zMem → (zMem → Prop) → (Nat → zMem → Prop) → Prop
  | 0, _, _, _, _, _, _ => False
  | n + 1, d, x1, x2, μ, KV, X =>
  zcI d mX9_is [.ref 106, .ref (1000 + 22)] μ (fun u2 m1 => ((u2 = 0 → zcV d mX9_readSum [.ref 106, .int x1] m1 (fun m3 => zcI d mX9_isMarked [.ref 106, .int 60] m3 (fun u5 m4 => ((u5 = 0 → zcI d mX9_isMarked [.ref 106, .int 61] m4 (fun u7 m6 => ((u7 = 0 → ∃ n2 : Nat, pX9_readNot_96 n2 d x2 0 m6 KV X) ∧
      (¬ (u7 = 0) → pX9_readNot_63 d x1 x2 m6 KV X))) X) ∧
    (¬ (u5 = 0) → pX9_readNot_63 d x1 x2 m4 KV X))) X) X) ∧
  (¬ (u2 = 0) → ((x2 = 6 → zcV d mX9_wrong [.ref 106, .int 2] m1 (fun m8 => pX9_readNot_23 d x1 x2 m8 KV X (fun z0 z1 m => pX9_readNot_2 n d z0 z1 m KV X)) X) ∧
    (¬ (x2 = 6) → pX9_readNot_23 d x1 x2 m1 KV X (fun z0 z1 m => pX9_readNot_2 n d z0 z1 m KV X)))))) X
set_option maxRecDepth 20000 in
theorem wX9_readNot_2 {d : Nat} {KV : zMem → Prop} {X : Nat → zMem → Prop} : ∀ (n : Nat) (x1 : Int32) (x2 : Int32) (μ : zMem), pX9_readNot_2 n d x1 x2 μ KV X → Wr mX9_readNot (d + 1) 0 2 [(0, .ref 106), (1, .int x1), (2, .int x2)] [] μ (kV KV X) := by
  intro n
  induction n with
  | zero =>
    intro x1 x2 μ h
    exact absurd h id
  | succ n ih =>
    intro x1 x2 μ h
    unfold pX9_readNot_2 at h
    refine Wr_aload_n dX9_readNot_2 rfl 0 rfl ?_
    refine Wr_ldcSw (sn := 22) (tx := "not") dX9_readNot_3 (zst 22 (by decide +kernel)) ?_
    refine Wr_cVi [.ref (1000 + 22)] dX9_readNot_6 mlX9_219 mgX9_is rfl mvX9_is (zrv zl106 _ rfl rfl) rfl rfl (Nat.le_of_ble_eq_true rfl) rfl (zcI.imp h (fun u2 m1 h => ?_) (fun _ _ h => ⟨rfl, h⟩))
    refine Wr_if_eq 40 dX9_readNot_9 (by decide) (fun hc => ?_) (fun hc => ?_)
    · have h := h.1 hc
      refine Wr_aload_n dX9_readNot_40 rfl 0 rfl ?_
      refine Wr_iload_n dX9_readNot_41 rfl 1 rfl ?_
      refine Wr_cVv [.int x1] dX9_readNot_42 mlX9_260 mgX9_readSum rfl mvX9_readSum (zrv zl106 _ rfl rfl) rfl rfl (Nat.le_of_ble_eq_true rfl) rfl (zcV.imp h (fun m3 h => ?_) (fun _ _ h => ⟨rfl, h⟩))
      refine Wr_aload_n dX9_readNot_45 rfl 0 rfl ?_
      refine Wr_bipush (v := 60) dX9_readNot_46 (by decide) ?_
      refine Wr_cVi [.int 60] dX9_readNot_48 mlX9_223 mgX9_isMarked rfl mvX9_isMarked (zrv zl106 _ rfl rfl) rfl rfl (Nat.le_of_ble_eq_true rfl) rfl (zcI.imp h (fun u5 m4 h => ?_) (fun _ _ h => ⟨rfl, h⟩))
      refine Wr_if_ne 63 dX9_readNot_51 (by decide) (fun hc => ?_) (fun hc => ?_)
      · have h := h.2 hc
        refine zsub [0, 1, 2] rfl ?_
        exact wX9_readNot_63 h
      · have h := h.1 hc
        refine Wr_aload_n dX9_readNot_54 rfl 0 rfl ?_
        refine Wr_bipush (v := 61) dX9_readNot_55 (by decide) ?_
        refine Wr_cVi [.int 61] dX9_readNot_57 mlX9_223 mgX9_isMarked rfl mvX9_isMarked (zrv zl106 _ rfl rfl) rfl rfl (Nat.le_of_ble_eq_true rfl) rfl (zcI.imp h (fun u7 m6 h => ?_) (fun _ _ h => ⟨rfl, h⟩))
        refine Wr_if_eq 94 dX9_readNot_60 (by decide) (fun hc => ?_) (fun hc => ?_)
        · have h := h.1 hc
          refine Wr_iconstv (v := 0) dX9_readNot_94 (by decide) ?_
          refine Wr_istore_n dX9_readNot_95 rfl (by decide) rfl ?_
          refine zsub [0, 2, 3] rfl ?_
          obtain ⟨n9, h⟩ := h
          exact wX9_readNot_96 n9 _ _ _ h
        · have h := h.2 hc
          refine zsub [0, 1, 2] rfl ?_
          exact wX9_readNot_63 h
    · have h := h.2 hc
      refine Wr_iload_n dX9_readNot_12 rfl 2 rfl ?_
      refine Wr_bipush (v := 6) dX9_readNot_13 (by decide) ?_
      refine Wr_icmp_ne 23 dX9_readNot_15 (by decide) (fun hc => ?_) (fun hc => ?_)
      · have h := h.2 hc
        refine zsub [0, 1, 2] rfl ?_
        exact wX9_readNot_23 (fun z0 z1 m h => ih z0 z1 m h) h
      · have h := h.1 hc
        refine Wr_aload_n dX9_readNot_18 rfl 0 rfl ?_
        refine Wr_iconstv (v := 2) dX9_readNot_19 (by decide) ?_
        refine Wr_cVv [.int 2] dX9_readNot_20 mlX9_226 mgX9_wrong rfl mvX9_wrong (zrv zl106 _ rfl rfl) rfl rfl (Nat.le_of_ble_eq_true rfl) rfl (zcV.imp h (fun m8 h => ?_) (fun _ _ h => ⟨rfl, h⟩))
        refine zsub [0, 1, 2] rfl ?_
        exact wX9_readNot_23 (fun z0 z1 m h => ih z0 z1 m h) h
def pX9_readNot (d : Nat) (x1 : Int32) (μ : zMem) (KV : zMem → Prop) (X : Nat → zMem → Prop) : Prop :=
  ∃ n2 : Nat, pX9_readNot_2 n2 d x1 0 μ KV X
set_option maxRecDepth 20000 in
theorem wX9_readNot_0 {d : Nat} {KV : zMem → Prop} {X : Nat → zMem → Prop} {x1 : Int32} {μ : zMem} (h : pX9_readNot d x1 μ KV X) : Wr mX9_readNot (d + 1) 0 0 [(0, .ref 106), (1, .int x1)] [] μ (kV KV X) := by
  unfold pX9_readNot at h
  refine Wr_iconstv (v := 0) dX9_readNot_0 (by decide) ?_
  refine Wr_istore_n dX9_readNot_1 rfl (by decide) rfl ?_
  refine zsub [0, 1, 2] rfl ?_
  obtain ⟨n9, h⟩ := h
  exact wX9_readNot_2 n9 _ _ _ h
theorem cX9_readNot_ {d : Nat} {x1 : Int32} {μ : zMem} {KV : zMem → Prop} {X : Nat → zMem → Prop} (h : pX9_readNot d x1 μ KV X) : zcV (d + 1) mX9_readNot [.ref 106, .int x1] μ KV X :=
  Ex_of (w := 2) mgX9_readNot.2.2.2.2.2 rfl rfl rfl (by decide) (wX9_readNot_0 h)
