def pX8_uncross (d : Nat) (μ : zMem) (KI : Int32 → zMem → Prop) (X : Nat → zMem → Prop) : Prop :=
  ((μ 46 4 = 0 → KI (-1) μ) ∧
  (¬ (μ 46 4 = 0) → ∀ m1 : zMem, m1 = zw μ 46 4 ((μ 46 4) - 1) → KI (m1 46 4) m1))
set_option maxRecDepth 20000 in
theorem wX8_uncross_0 {d : Nat} {KI : Int32 → zMem → Prop} {X : Nat → zMem → Prop} {μ : zMem} (h : pX8_uncross d μ KI X) : Wr mX8_uncross (d + 1) 0 0 [(0, .ref 0)] [] μ (kI KI X) := by
  unfold pX8_uncross at h
  refine Wr_aload_n dX8_uncross_0 rfl 0 rfl ?_
  refine Wr_getR 46 dX8_uncross_1 flX8_40 zl0 rfl (by decide) ?_
  refine Wr_getI dX8_uncross_4 flX8_135 zl46 rfl ?_
  refine Wr_if_ne 12 dX8_uncross_7 (by decide) (fun hc => ?_) (fun hc => ?_)
  · have h := h.2 hc
    refine Wr_aload_n dX8_uncross_12 rfl 0 rfl ?_
    refine Wr_getR 46 dX8_uncross_13 flX8_40 zl0 rfl (by decide) ?_
    refine Wr_dup dX8_uncross_16 rfl ?_
    refine Wr_getI dX8_uncross_17 flX8_135 zl46 rfl ?_
    refine Wr_iconstv (v := 1) dX8_uncross_20 (by decide) ?_
    refine Wr_isub dX8_uncross_21 ?_
    obtain ⟨m1, em1⟩ : ∃ z : zMem, z = zw μ 46 4 ((μ 46 4) - 1) := ⟨_, rfl⟩
    have h := h m1 em1
    refine Wr_putI dX8_uncross_22 fpX8_135 zl46 rfl ?_
    refine Wr_mu em1 ?_
    refine Wr_aload_n dX8_uncross_25 rfl 0 rfl ?_
    refine Wr_getR 46 dX8_uncross_26 flX8_40 zl0 rfl (by decide) ?_
    refine Wr_getI dX8_uncross_29 flX8_135 zl46 rfl ?_
    exact Wr_iret .int dX8_uncross_32 rfl rfl ⟨rfl, h⟩
  · have h := h.1 hc
    refine Wr_iconstv (v := (-1)) dX8_uncross_10 (by decide) ?_
    exact Wr_iret .int dX8_uncross_11 rfl rfl ⟨rfl, h⟩
theorem cX8_uncross_ {d : Nat} {μ : zMem} {KI : Int32 → zMem → Prop} {X : Nat → zMem → Prop} (h : pX8_uncross d μ KI X) : zcI (d + 1) mX8_uncross [.ref 0] μ KI X :=
  Ex_of (w := 1) mgX8_uncross.2.2.2.2.2 rfl rfl rfl (by decide) (wX8_uncross_0 h)

def pX8_freed (d : Nat) (x1 : Int32) (μ : zMem) (KI : Int32 → zMem → Prop) (X : Nat → zMem → Prop) : Prop :=
  zcI d mX8_freeCrossings [.ref 0] μ (fun u2 m1 => ((x1 = (-1) → KI u2 m1) ∧
  (¬ (x1 = (-1)) → ((x1 < 0 → X 0 m1) ∧
    (¬ (x1 < 0) → ((x1 < u2 → (vp_in x1 40) ∧ KI (m1 105 x1.toNatClampNeg) m1) ∧
      (¬ (x1 < u2) → X 0 m1))))))) X
set_option maxRecDepth 20000 in
theorem wX8_freed_0 {d : Nat} {KI : Int32 → zMem → Prop} {X : Nat → zMem → Prop} {x1 : Int32} {μ : zMem} (h : pX8_freed d x1 μ KI X) : Wr mX8_freed (d + 1) 0 0 [(0, .ref 0), (1, .int x1)] [] μ (kI KI X) := by
  unfold pX8_freed at h
  refine Wr_aload_n dX8_freed_0 rfl 0 rfl ?_
  refine Wr_cVi [] dX8_freed_1 mlX8_319 mgX8_freeCrossings rfl mvX8_freeCrossings (zrv zl0 _ rfl rfl) rfl rfl (Nat.le_of_ble_eq_true rfl) rfl (zcI.imp h (fun u2 m1 h => ?_) (fun _ _ h => ⟨rfl, h⟩))
  refine Wr_istore_n dX8_freed_4 rfl (by decide) rfl ?_
  refine Wr_iload_n dX8_freed_5 rfl 2 rfl ?_
  refine Wr_iconstv (v := (-1)) dX8_freed_6 (by decide) ?_
  refine Wr_icmp_ne 12 dX8_freed_7 (by decide) (fun hc => ?_) (fun hc => ?_)
  · have h := h.2 hc
    refine Wr_iload_n dX8_freed_12 rfl 2 rfl ?_
    refine Wr_if_lt 21 dX8_freed_13 (by decide) (fun hc => ?_) (fun hc => ?_)
    · have h := h.1 hc
      exact Wr_throw 28 (E := 0) (tx := "no such crossing is left") (sn := 36) ⟨wGm 890 (by decide +kernel) rfl, wGm 128 (by decide +kernel) rfl, wGm 900 (by decide +kernel) rfl, zst 36 (by decide +kernel), by decide⟩ rfl (Nat.le_of_ble_eq_true rfl) dX8_freed_21 dX8_freed_24 (Or.inr ⟨dX8_freed_25, rfl⟩) dX8_freed_28 dX8_freed_31 ⟨rfl, h⟩
    · have h := h.2 hc
      refine Wr_iload_n dX8_freed_16 rfl 2 rfl ?_
      refine Wr_iload_n dX8_freed_17 rfl 0 rfl ?_
      refine Wr_icmp_lt 32 dX8_freed_18 (by decide) (fun hc => ?_) (fun hc => ?_)
      · have h := h.1 hc
        refine Wr_aload_n dX8_freed_32 rfl 1 rfl ?_
        refine Wr_getR 105 dX8_freed_33 flX8_79 zl0 rfl (by decide) ?_
        refine Wr_iload_n dX8_freed_36 rfl 2 rfl ?_
        obtain ⟨hi, h⟩ := h
        refine Wr_iald dX8_freed_37 zl105 hi ?_
        exact Wr_iret .int dX8_freed_38 rfl rfl ⟨rfl, h⟩
      · have h := h.2 hc
        exact Wr_throw 28 (E := 0) (tx := "no such crossing is left") (sn := 36) ⟨wGm 890 (by decide +kernel) rfl, wGm 128 (by decide +kernel) rfl, wGm 900 (by decide +kernel) rfl, zst 36 (by decide +kernel), by decide⟩ rfl (Nat.le_of_ble_eq_true rfl) dX8_freed_21 dX8_freed_24 (Or.inr ⟨dX8_freed_25, rfl⟩) dX8_freed_28 dX8_freed_31 ⟨rfl, h⟩
  · have h := h.1 hc
    refine Wr_iload_n dX8_freed_10 rfl 0 rfl ?_
    exact Wr_iret .int dX8_freed_11 rfl rfl ⟨rfl, h⟩
theorem cX8_freed_ {d : Nat} {x1 : Int32} {μ : zMem} {KI : Int32 → zMem → Prop} {X : Nat → zMem → Prop} (h : pX8_freed d x1 μ KI X) : zcI (d + 1) mX8_freed [.ref 0, .int x1] μ KI X :=
  Ex_of (w := 2) mgX8_freed.2.2.2.2.2 rfl rfl rfl (by decide) (wX8_freed_0 h)

def pX8_freeCrossings_53 (d : Nat) (x1 : Int32) (x2 : Int32) (x3 : Int32) (μ : zMem) (KI : Int32 → zMem → Prop) (X : Nat → zMem → Prop) (C4 : Int32 → Int32 → zMem → Prop) : Prop :=
  (vp_in x1 40) ∧ ∀ m1 : zMem, m1 = zw μ 105 x1.toNatClampNeg x3 → ∀ v2 : Int32, v2 = x1 + 1 → ∀ v3 : Int32, v3 = x2 + 1 → C4 v2 v3 m1
set_option maxRecDepth 20000 in
theorem wX8_freeCrossings_53 {d : Nat} {KI : Int32 → zMem → Prop} {X : Nat → zMem → Prop} {C4 : Int32 → Int32 → zMem → Prop} {x1 : Int32} {x2 : Int32} {x3 : Int32} {μ : zMem} (hC4 : ∀ (x1 : Int32) (x2 : Int32) (μ : zMem), C4 x1 x2 μ → Wr mX8_freeCrossings (d + 1) 0 4 [(0, .ref 0), (1, .int x1), (2, .int x2)] [] μ (kI KI X)) (h : pX8_freeCrossings_53 d x1 x2 x3 μ KI X C4) : Wr mX8_freeCrossings (d + 1) 0 53 [(0, .ref 0), (1, .int x1), (2, .int x2), (3, .int x3)] [] μ (kI KI X) := by
  unfold pX8_freeCrossings_53 at h
  refine Wr_aload_n dX8_freeCrossings_53 rfl 0 rfl ?_
  refine Wr_getR 105 dX8_freeCrossings_54 flX8_79 zl0 rfl (by decide) ?_
  refine Wr_iload_n dX8_freeCrossings_57 rfl 1 rfl ?_
  refine Wr_iload_n dX8_freeCrossings_58 rfl 3 rfl ?_
  obtain ⟨him1, h⟩ := h
  obtain ⟨m1, em1⟩ : ∃ z : zMem, z = zw μ 105 x1.toNatClampNeg x3 := ⟨_, rfl⟩
  have h := h m1 em1
  refine Wr_iast dX8_freeCrossings_59 zl105 him1 ?_
  refine Wr_mu em1 ?_
  obtain ⟨v2, ev2⟩ : ∃ z : Int32, z = x1 + 1 := ⟨_, rfl⟩
  have h := h v2 ev2
  refine Wr_iinc (v := v2) dX8_freeCrossings_60 (q := 1) rfl (by rw [ev2]; rfl) (by decide) rfl ?_
  obtain ⟨v3, ev3⟩ : ∃ z : Int32, z = x2 + 1 := ⟨_, rfl⟩
  have h := h v3 ev3
  refine Wr_iinc (v := v3) dX8_freeCrossings_63 (q := 2) rfl (by rw [ev3]; rfl) (by decide) rfl ?_
  refine Wr_goto 4 dX8_freeCrossings_66 (by decide) ?_
  refine zsub [0, 1, 2] rfl ?_
  exact hC4 _ _ _ h
def pX8_freeCrossings_4 : Nat → Nat → Int32 → Int32 → zMem → (Int32 → zMem → Prop) → (Nat → zMem → Prop) → Prop
  | 0, _, _, _, _, _, _ => False
  | n + 1, d, x1, x2, μ, KI, X =>
  ((μ 46 4 ≤ x2 → KI x1 μ) ∧
  (¬ (μ 46 4 ≤ x2) → (vp_in x2 40) ∧ ∀ v1 : Int32, v1 = μ 60 x2.toNatClampNeg → ((x1 ≤ 0 → pX8_freeCrossings_53 d x1 x2 v1 μ KI X (fun z0 z1 m => pX8_freeCrossings_4 n d z0 z1 m KI X)) ∧
    (¬ (x1 ≤ 0) → (vp_in (x1 - 1) 40) ∧ ((zabs ((μ 105 (x1 - 1).toNatClampNeg) - v1) = 10 → ∀ v2 : Int32, v2 = x1 + (-1) → ∀ v3 : Int32, v3 = x2 + 1 → pX8_freeCrossings_4 n d v2 v3 μ KI X) ∧
      (¬ (zabs ((μ 105 (x1 - 1).toNatClampNeg) - v1) = 10) → pX8_freeCrossings_53 d x1 x2 v1 μ KI X (fun z0 z1 m => pX8_freeCrossings_4 n d z0 z1 m KI X)))))))
set_option maxRecDepth 20000 in
theorem wX8_freeCrossings_4 {d : Nat} {KI : Int32 → zMem → Prop} {X : Nat → zMem → Prop} : ∀ (n : Nat) (x1 : Int32) (x2 : Int32) (μ : zMem), pX8_freeCrossings_4 n d x1 x2 μ KI X → Wr mX8_freeCrossings (d + 1) 0 4 [(0, .ref 0), (1, .int x1), (2, .int x2)] [] μ (kI KI X) := by
  intro n
  induction n with
  | zero =>
    intro x1 x2 μ h
    exact absurd h id
  | succ n ih =>
    intro x1 x2 μ h
    unfold pX8_freeCrossings_4 at h
    refine Wr_iload_n dX8_freeCrossings_4 rfl 2 rfl ?_
    refine Wr_aload_n dX8_freeCrossings_5 rfl 0 rfl ?_
    refine Wr_getR 46 dX8_freeCrossings_6 flX8_40 zl0 rfl (by decide) ?_
    refine Wr_getI dX8_freeCrossings_9 flX8_135 zl46 rfl ?_
    refine Wr_icmp_ge 69 dX8_freeCrossings_12 (by decide) (fun hc => ?_) (fun hc => ?_)
    · have h := h.1 hc
      refine Wr_iload_n dX8_freeCrossings_69 rfl 1 rfl ?_
      exact Wr_iret .int dX8_freeCrossings_70 rfl rfl ⟨rfl, h⟩
    · have h := h.2 hc
      refine Wr_aload_n dX8_freeCrossings_15 rfl 0 rfl ?_
      refine Wr_getR 46 dX8_freeCrossings_16 flX8_40 zl0 rfl (by decide) ?_
      refine Wr_getR 14 dX8_freeCrossings_19 flX8_316 zl46 rfl (by decide) ?_
      refine Wr_iload_n dX8_freeCrossings_22 rfl 2 rfl ?_
      obtain ⟨hi, h⟩ := h
      refine Wr_iald dX8_freeCrossings_23 zl60 hi ?_
      obtain ⟨v1, ev1⟩ : ∃ z : Int32, z = μ 60 x2.toNatClampNeg := ⟨_, rfl⟩
      have h := h v1 ev1
      refine Wr_top ev1 ?_
      refine Wr_istore_n dX8_freeCrossings_24 rfl (by decide) rfl ?_
      refine Wr_iload_n dX8_freeCrossings_25 rfl 2 rfl ?_
      refine Wr_if_le 53 dX8_freeCrossings_26 (by decide) (fun hc => ?_) (fun hc => ?_)
      · have h := h.1 hc
        refine zsub [0, 1, 2, 3] rfl ?_
        exact wX8_freeCrossings_53 (fun z0 z1 m h => ih z0 z1 m h) h
      · have h := h.2 hc
        refine Wr_aload_n dX8_freeCrossings_29 rfl 1 rfl ?_
        refine Wr_getR 105 dX8_freeCrossings_30 flX8_79 zl0 rfl (by decide) ?_
        refine Wr_iload_n dX8_freeCrossings_33 rfl 2 rfl ?_
        refine Wr_iconstv (v := 1) dX8_freeCrossings_34 (by decide) ?_
        refine Wr_isub dX8_freeCrossings_35 ?_
        obtain ⟨hi, h⟩ := h
        refine Wr_iald dX8_freeCrossings_36 zl105 hi ?_
        refine Wr_iload_n dX8_freeCrossings_37 rfl 0 rfl ?_
        refine Wr_isub dX8_freeCrossings_38 ?_
        refine Wr_mabs dX8_freeCrossings_39 mlX8_324 (Nat.le_of_ble_eq_true rfl) ?_
        refine Wr_bipush (v := 10) dX8_freeCrossings_42 (by decide) ?_
        refine Wr_icmp_ne 53 dX8_freeCrossings_44 (by decide) (fun hc => ?_) (fun hc => ?_)
        · have h := h.2 hc
          refine zsub [0, 1, 2, 3] rfl ?_
          exact wX8_freeCrossings_53 (fun z0 z1 m h => ih z0 z1 m h) h
        · have h := h.1 hc
          obtain ⟨v2, ev2⟩ : ∃ z : Int32, z = x1 + (-1) := ⟨_, rfl⟩
          have h := h v2 ev2
          refine Wr_iinc (v := v2) dX8_freeCrossings_47 (q := 2) rfl (by rw [ev2]; rfl) (by decide) rfl ?_
          refine Wr_goto 63 dX8_freeCrossings_50 (by decide) ?_
          obtain ⟨v3, ev3⟩ : ∃ z : Int32, z = x2 + 1 := ⟨_, rfl⟩
          have h := h v3 ev3
          refine Wr_iinc (v := v3) dX8_freeCrossings_63 (q := 3) rfl (by rw [ev3]; rfl) (by decide) rfl ?_
          refine Wr_goto 4 dX8_freeCrossings_66 (by decide) ?_
          refine zsub [0, 1, 2] rfl ?_
          exact ih _ _ _ h
def pX8_freeCrossings (d : Nat) (μ : zMem) (KI : Int32 → zMem → Prop) (X : Nat → zMem → Prop) : Prop :=
  ∃ n2 : Nat, pX8_freeCrossings_4 n2 d 0 0 μ KI X
set_option maxRecDepth 20000 in
theorem wX8_freeCrossings_0 {d : Nat} {KI : Int32 → zMem → Prop} {X : Nat → zMem → Prop} {μ : zMem} (h : pX8_freeCrossings d μ KI X) : Wr mX8_freeCrossings (d + 1) 0 0 [(0, .ref 0)] [] μ (kI KI X) := by
  unfold pX8_freeCrossings at h
  refine Wr_iconstv (v := 0) dX8_freeCrossings_0 (by decide) ?_
  refine Wr_istore_n dX8_freeCrossings_1 rfl (by decide) rfl ?_
  refine Wr_iconstv (v := 0) dX8_freeCrossings_2 (by decide) ?_
  refine Wr_istore_n dX8_freeCrossings_3 rfl (by decide) rfl ?_
  refine zsub [0, 1, 2] rfl ?_
  obtain ⟨n9, h⟩ := h
  exact wX8_freeCrossings_4 n9 _ _ _ h
theorem cX8_freeCrossings_ {d : Nat} {μ : zMem} {KI : Int32 → zMem → Prop} {X : Nat → zMem → Prop} (h : pX8_freeCrossings d μ KI X) : zcI (d + 1) mX8_freeCrossings [.ref 0] μ KI X :=
  Ex_of (w := 1) mgX8_freeCrossings.2.2.2.2.2 rfl rfl rfl (by decide) (wX8_freeCrossings_0 h)

def pX8_tangle_22 : Nat → Nat → Int32 → zMem → (Int32 → zMem → Prop) → (Nat → zMem → Prop) → Prop
  | 0, _, _, _, _, _ => False
  | n + 1, d, x3, μ, KI, X =>
  ((μ 47 0 ≤ x3 → zcI d mX8_freeCrossings [.ref 0] μ (fun u2 m1 => KI u2 m1) X) ∧
  (¬ (μ 47 0 ≤ x3) → zcI d mX8_placeBehindCrossings [.ref 0, .int x3] μ (fun u4 m3 => ((u4 = x3 → ∀ v5 : Int32, v5 = x3 + 1 → pX8_tangle_22 n d v5 m3 KI X) ∧
    (¬ (u4 = x3) → KI 0 m3))) X))
set_option maxRecDepth 20000 in
theorem wX8_tangle_22 {d : Nat} {KI : Int32 → zMem → Prop} {X : Nat → zMem → Prop} : ∀ (n : Nat) (x3 : Int32) (μ : zMem), pX8_tangle_22 n d x3 μ KI X → Wr mX8_tangle (d + 1) 0 22 [(0, .ref 0), (3, .int x3)] [] μ (kI KI X) := by
  intro n
  induction n with
  | zero =>
    intro x3 μ h
    exact absurd h id
  | succ n ih =>
    intro x3 μ h
    unfold pX8_tangle_22 at h
    refine Wr_iload_n dX8_tangle_22 rfl 1 rfl ?_
    refine Wr_aload_n dX8_tangle_23 rfl 0 rfl ?_
    refine Wr_getR 46 dX8_tangle_24 flX8_40 zl0 rfl (by decide) ?_
    refine Wr_getR 1 dX8_tangle_27 flX8_116 zl46 rfl (by decide) ?_
    refine Wr_getI dX8_tangle_30 flX8_117 zl47 rfl ?_
    refine Wr_icmp_ge 53 dX8_tangle_33 (by decide) (fun hc => ?_) (fun hc => ?_)
    · have h := h.1 hc
      refine Wr_aload_n dX8_tangle_53 rfl 0 rfl ?_
      refine Wr_cVi [] dX8_tangle_54 mlX8_319 mgX8_freeCrossings rfl mvX8_freeCrossings (zrv zl0 _ rfl rfl) rfl rfl (Nat.le_of_ble_eq_true rfl) rfl (zcI.imp h (fun u2 m1 h => ?_) (fun _ _ h => ⟨rfl, h⟩))
      exact Wr_iret .int dX8_tangle_57 rfl rfl ⟨rfl, h⟩
    · have h := h.2 hc
      refine Wr_aload_n dX8_tangle_36 rfl 0 rfl ?_
      refine Wr_iload_n dX8_tangle_37 rfl 1 rfl ?_
      refine Wr_cVi [.int x3] dX8_tangle_38 mlX8_329 mgX8_placeBehindCrossings rfl mvX8_placeBehindCrossings (zrv zl0 _ rfl rfl) rfl rfl (Nat.le_of_ble_eq_true rfl) rfl (zcI.imp h (fun u4 m3 h => ?_) (fun _ _ h => ⟨rfl, h⟩))
      refine Wr_iload_n dX8_tangle_41 rfl 1 rfl ?_
      refine Wr_icmp_eq 47 dX8_tangle_42 (by decide) (fun hc => ?_) (fun hc => ?_)
      · have h := h.1 hc
        obtain ⟨v5, ev5⟩ : ∃ z : Int32, z = x3 + 1 := ⟨_, rfl⟩
        have h := h v5 ev5
        refine Wr_iinc (v := v5) dX8_tangle_47 (q := 1) rfl (by rw [ev5]; rfl) (by decide) rfl ?_
        refine Wr_goto 22 dX8_tangle_50 (by decide) ?_
        refine zsub [0, 3] rfl ?_
        exact ih _ _ h
      · have h := h.2 hc
        refine Wr_iconstv (v := 0) dX8_tangle_45 (by decide) ?_
        exact Wr_iret .int dX8_tangle_46 rfl rfl ⟨rfl, h⟩
def pX8_tangle (d : Nat) (x1 : Int32) (x2 : Int32) (μ : zMem) (KI : Int32 → zMem → Prop) (X : Nat → zMem → Prop) : Prop :=
  zcV d mX8_needIsle [.ref 0, .int x1] μ (fun m1 => zcV d mX8_needWhat [.int x2, .int 2] m1 (fun m2 => ((x2 = 0 → zcI d mX8_placeBehindCrossings [.ref 0, .int x1] m2 (fun u4 m3 => KI u4 m3) X) ∧
  (¬ (x2 = 0) → ∃ n2 : Nat, pX8_tangle_22 n2 d 0 m2 KI X))) X) X
set_option maxRecDepth 20000 in
theorem wX8_tangle_0 {d : Nat} {KI : Int32 → zMem → Prop} {X : Nat → zMem → Prop} {x1 : Int32} {x2 : Int32} {μ : zMem} (h : pX8_tangle d x1 x2 μ KI X) : Wr mX8_tangle (d + 1) 0 0 [(0, .ref 0), (1, .int x1), (2, .int x2)] [] μ (kI KI X) := by
  unfold pX8_tangle at h
  refine Wr_aload_n dX8_tangle_0 rfl 0 rfl ?_
  refine Wr_iload_n dX8_tangle_1 rfl 1 rfl ?_
  refine Wr_cVv [.int x1] dX8_tangle_2 mlX8_146 mgX8_needIsle rfl mvX8_needIsle (zrv zl0 _ rfl rfl) rfl rfl (Nat.le_of_ble_eq_true rfl) rfl (zcV.imp h (fun m1 h => ?_) (fun _ _ h => ⟨rfl, h⟩))
  refine Wr_iload_n dX8_tangle_5 rfl 2 rfl ?_
  refine Wr_iconstv (v := 2) dX8_tangle_6 (by decide) ?_
  refine Wr_cSv [.int x2, .int 2] dX8_tangle_7 mlX8_195 mgX8_needWhat rfl msX8_needWhat  rfl rfl (Nat.le_of_ble_eq_true rfl) rfl (zcV.imp h (fun m2 h => ?_) (fun _ _ h => ⟨rfl, h⟩))
  refine Wr_iload_n dX8_tangle_10 rfl 2 rfl ?_
  refine Wr_if_ne 20 dX8_tangle_11 (by decide) (fun hc => ?_) (fun hc => ?_)
  · have h := h.2 hc
    refine Wr_iconstv (v := 0) dX8_tangle_20 (by decide) ?_
    refine Wr_istore_n dX8_tangle_21 rfl (by decide) rfl ?_
    refine zsub [0, 3] rfl ?_
    obtain ⟨n9, h⟩ := h
    exact wX8_tangle_22 n9 _ _ h
  · have h := h.1 hc
    refine Wr_aload_n dX8_tangle_14 rfl 0 rfl ?_
    refine Wr_iload_n dX8_tangle_15 rfl 1 rfl ?_
    refine Wr_cVi [.int x1] dX8_tangle_16 mlX8_329 mgX8_placeBehindCrossings rfl mvX8_placeBehindCrossings (zrv zl0 _ rfl rfl) rfl rfl (Nat.le_of_ble_eq_true rfl) rfl (zcI.imp h (fun u4 m3 h => ?_) (fun _ _ h => ⟨rfl, h⟩))
    exact Wr_iret .int dX8_tangle_19 rfl rfl ⟨rfl, h⟩
theorem cX8_tangle_ {d : Nat} {x1 : Int32} {x2 : Int32} {μ : zMem} {KI : Int32 → zMem → Prop} {X : Nat → zMem → Prop} (h : pX8_tangle d x1 x2 μ KI X) : zcI (d + 1) mX8_tangle [.ref 0, .int x1, .int x2] μ KI X :=
  Ex_of (w := 3) mgX8_tangle.2.2.2.2.2 rfl rfl rfl (by decide) (wX8_tangle_0 h)

def pX8_placeBehindCrossings_4 : Nat → Nat → Int32 → Int32 → zMem → (Int32 → zMem → Prop) → (Nat → zMem → Prop) → Prop
  | 0, _, _, _, _, _, _ => False
  | n + 1, d, x2, x3, μ, KI, X =>
  ((μ 46 4 ≤ x3 → KI x2 μ) ∧
  (¬ (μ 46 4 ≤ x3) → (vp_in x3 40) ∧ ∀ v1 : Int32, v1 = (μ 60 x3.toNatClampNeg) - (μ 60 x3.toNatClampNeg) / 10 * 10 → ((x2 = v1 → ∀ v4 : Int32, v4 = x3 + 1 → pX8_placeBehindCrossings_4 n d (v1 + 1) v4 μ KI X) ∧
    (¬ (x2 = v1) → ((x2 = v1 + 1 → ∀ v3 : Int32, v3 = x3 + 1 → pX8_placeBehindCrossings_4 n d v1 v3 μ KI X) ∧
      (¬ (x2 = v1 + 1) → ∀ v2 : Int32, v2 = x3 + 1 → pX8_placeBehindCrossings_4 n d x2 v2 μ KI X))))))
set_option maxRecDepth 20000 in
theorem wX8_placeBehindCrossings_4 {d : Nat} {KI : Int32 → zMem → Prop} {X : Nat → zMem → Prop} : ∀ (n : Nat) (x2 : Int32) (x3 : Int32) (μ : zMem), pX8_placeBehindCrossings_4 n d x2 x3 μ KI X → Wr mX8_placeBehindCrossings (d + 1) 0 4 [(0, .ref 0), (2, .int x2), (3, .int x3)] [] μ (kI KI X) := by
  intro n
  induction n with
  | zero =>
    intro x2 x3 μ h
    exact absurd h id
  | succ n ih =>
    intro x2 x3 μ h
    unfold pX8_placeBehindCrossings_4 at h
    refine Wr_iload_n dX8_placeBehindCrossings_4 rfl 2 rfl ?_
    refine Wr_aload_n dX8_placeBehindCrossings_5 rfl 0 rfl ?_
    refine Wr_getR 46 dX8_placeBehindCrossings_6 flX8_40 zl0 rfl (by decide) ?_
    refine Wr_getI dX8_placeBehindCrossings_9 flX8_135 zl46 rfl ?_
    refine Wr_icmp_ge 60 dX8_placeBehindCrossings_12 (by decide) (fun hc => ?_) (fun hc => ?_)
    · have h := h.1 hc
      refine Wr_iload_n dX8_placeBehindCrossings_60 rfl 1 rfl ?_
      exact Wr_iret .int dX8_placeBehindCrossings_61 rfl rfl ⟨rfl, h⟩
    · have h := h.2 hc
      refine Wr_aload_n dX8_placeBehindCrossings_15 rfl 0 rfl ?_
      refine Wr_getR 46 dX8_placeBehindCrossings_16 flX8_40 zl0 rfl (by decide) ?_
      refine Wr_getR 14 dX8_placeBehindCrossings_19 flX8_316 zl46 rfl (by decide) ?_
      refine Wr_iload_n dX8_placeBehindCrossings_22 rfl 2 rfl ?_
      obtain ⟨hi, h⟩ := h
      refine Wr_iald dX8_placeBehindCrossings_23 zl60 hi ?_
      refine Wr_bipush (v := 10) dX8_placeBehindCrossings_24 (by decide) ?_
      refine Wr_irem dX8_placeBehindCrossings_26 (by decide) ?_
      obtain ⟨v1, ev1⟩ : ∃ z : Int32, z = (μ 60 x3.toNatClampNeg) - (μ 60 x3.toNatClampNeg) / 10 * 10 := ⟨_, rfl⟩
      have h := h v1 ev1
      refine Wr_top ev1 ?_
      refine Wr_istore dX8_placeBehindCrossings_27 (by decide) rfl ?_
      refine Wr_iload_n dX8_placeBehindCrossings_29 rfl 2 rfl ?_
      refine Wr_iload dX8_placeBehindCrossings_30 0 rfl ?_
      refine Wr_icmp_ne 43 dX8_placeBehindCrossings_32 (by decide) (fun hc => ?_) (fun hc => ?_)
      · have h := h.2 hc
        refine Wr_iload_n dX8_placeBehindCrossings_43 rfl 2 rfl ?_
        refine Wr_iload dX8_placeBehindCrossings_44 0 rfl ?_
        refine Wr_iconstv (v := 1) dX8_placeBehindCrossings_46 (by decide) ?_
        refine Wr_iadd dX8_placeBehindCrossings_47 ?_
        refine Wr_icmp_ne 54 dX8_placeBehindCrossings_48 (by decide) (fun hc => ?_) (fun hc => ?_)
        · have h := h.2 hc
          obtain ⟨v2, ev2⟩ : ∃ z : Int32, z = x3 + 1 := ⟨_, rfl⟩
          have h := h v2 ev2
          refine Wr_iinc (v := v2) dX8_placeBehindCrossings_54 (q := 3) rfl (by rw [ev2]; rfl) (by decide) rfl ?_
          refine Wr_goto 4 dX8_placeBehindCrossings_57 (by decide) ?_
          refine zsub [0, 2, 3] rfl ?_
          exact ih _ _ _ h
        · have h := h.1 hc
          refine Wr_iload dX8_placeBehindCrossings_51 0 rfl ?_
          refine Wr_istore_n dX8_placeBehindCrossings_53 rfl (by decide) rfl ?_
          obtain ⟨v3, ev3⟩ : ∃ z : Int32, z = x3 + 1 := ⟨_, rfl⟩
          have h := h v3 ev3
          refine Wr_iinc (v := v3) dX8_placeBehindCrossings_54 (q := 3) rfl (by rw [ev3]; rfl) (by decide) rfl ?_
          refine Wr_goto 4 dX8_placeBehindCrossings_57 (by decide) ?_
          refine zsub [0, 2, 3] rfl ?_
          exact ih _ _ _ h
      · have h := h.1 hc
        refine Wr_iload dX8_placeBehindCrossings_35 0 rfl ?_
        refine Wr_iconstv (v := 1) dX8_placeBehindCrossings_37 (by decide) ?_
        refine Wr_iadd dX8_placeBehindCrossings_38 ?_
        refine Wr_istore_n dX8_placeBehindCrossings_39 rfl (by decide) rfl ?_
        refine Wr_goto 54 dX8_placeBehindCrossings_40 (by decide) ?_
        obtain ⟨v4, ev4⟩ : ∃ z : Int32, z = x3 + 1 := ⟨_, rfl⟩
        have h := h v4 ev4
        refine Wr_iinc (v := v4) dX8_placeBehindCrossings_54 (q := 3) rfl (by rw [ev4]; rfl) (by decide) rfl ?_
        refine Wr_goto 4 dX8_placeBehindCrossings_57 (by decide) ?_
        refine zsub [0, 2, 3] rfl ?_
        exact ih _ _ _ h
def pX8_placeBehindCrossings (d : Nat) (x1 : Int32) (μ : zMem) (KI : Int32 → zMem → Prop) (X : Nat → zMem → Prop) : Prop :=
  ∃ n2 : Nat, pX8_placeBehindCrossings_4 n2 d x1 0 μ KI X
set_option maxRecDepth 20000 in
theorem wX8_placeBehindCrossings_0 {d : Nat} {KI : Int32 → zMem → Prop} {X : Nat → zMem → Prop} {x1 : Int32} {μ : zMem} (h : pX8_placeBehindCrossings d x1 μ KI X) : Wr mX8_placeBehindCrossings (d + 1) 0 0 [(0, .ref 0), (1, .int x1)] [] μ (kI KI X) := by
  unfold pX8_placeBehindCrossings at h
  refine Wr_iload_n dX8_placeBehindCrossings_0 rfl 1 rfl ?_
  refine Wr_istore_n dX8_placeBehindCrossings_1 rfl (by decide) rfl ?_
  refine Wr_iconstv (v := 0) dX8_placeBehindCrossings_2 (by decide) ?_
  refine Wr_istore_n dX8_placeBehindCrossings_3 rfl (by decide) rfl ?_
  refine zsub [0, 2, 3] rfl ?_
  obtain ⟨n9, h⟩ := h
  exact wX8_placeBehindCrossings_4 n9 _ _ _ h
theorem cX8_placeBehindCrossings_ {d : Nat} {x1 : Int32} {μ : zMem} {KI : Int32 → zMem → Prop} {X : Nat → zMem → Prop} (h : pX8_placeBehindCrossings d x1 μ KI X) : zcI (d + 1) mX8_placeBehindCrossings [.ref 0, .int x1] μ KI X :=
  Ex_of (w := 2) mgX8_placeBehindCrossings.2.2.2.2.2 rfl rfl rfl (by decide) (wX8_placeBehindCrossings_0 h)

def pX8_see_31 (d : Nat) (μ : zMem) (KI : Int32 → zMem → Prop) (X : Nat → zMem → Prop) : Prop :=
  ∀ m1 : zMem, m1 = zw μ 62 2 ((μ 62 2) + 1) → KI (-1) m1
set_option maxRecDepth 20000 in
theorem wX8_see_31 {d : Nat} {KI : Int32 → zMem → Prop} {X : Nat → zMem → Prop} {μ : zMem} (h : pX8_see_31 d μ KI X) : Wr mX8_see (d + 1) 0 31 [(0, .ref 0)] [] μ (kI KI X) := by
  unfold pX8_see_31 at h
  refine Wr_aload_n dX8_see_31 rfl 0 rfl ?_
  refine Wr_getR 46 dX8_see_32 flX8_40 zl0 rfl (by decide) ?_
  refine Wr_getR 16 dX8_see_35 flX8_100 zl46 rfl (by decide) ?_
  refine Wr_iconstv (v := 2) dX8_see_38 (by decide) ?_
  refine Wr_dup2 dX8_see_39 rfl rfl ?_
  refine Wr_iald dX8_see_40 zl62 (by unfold vp_in; decide) ?_
  refine Wr_iconstv (v := 1) dX8_see_41 (by decide) ?_
  refine Wr_iadd dX8_see_42 ?_
  obtain ⟨m1, em1⟩ : ∃ z : zMem, z = zw μ 62 2 ((μ 62 2) + 1) := ⟨_, rfl⟩
  have h := h m1 em1
  refine Wr_iast dX8_see_43 zl62 (by unfold vp_in; decide) ?_
  refine Wr_mu em1 ?_
  refine Wr_iconstv (v := (-1)) dX8_see_44 (by decide) ?_
  exact Wr_iret .int dX8_see_45 rfl rfl ⟨rfl, h⟩
def pX8_see (d : Nat) (x1 : Int32) (x2 : Int32) (x3 : Int32) (μ : zMem) (KI : Int32 → zMem → Prop) (X : Nat → zMem → Prop) : Prop :=
  zcV d mX8_needIsle [.ref 0, .int x1] μ (fun m1 => zcV d mX8_needHour [.int x2] m1 (fun m2 => ((12 ≤ m2 46 6 → pX8_see_31 d m2 KI X) ∧
  (¬ (12 ≤ m2 46 6) → ((x3 < 0 → pX8_see_31 d m2 KI X) ∧
    (¬ (x3 < 0) → ((x3 ≤ 60 → (vp_in ((m2 46 6) * 3) 36) ∧ ∀ m3 : zMem, m3 = zw m2 61 ((m2 46 6) * 3).toNatClampNeg x1 → (vp_in (((m2 46 6) * 3) + 1) 36) ∧ ∀ m4 : zMem, m4 = zw m3 61 (((m2 46 6) * 3) + 1).toNatClampNeg x2 → (vp_in (((m2 46 6) * 3) + 2) 36) ∧ ∀ m5 : zMem, m5 = zw m4 61 (((m2 46 6) * 3) + 2).toNatClampNeg x3 → ∀ m6 : zMem, m6 = zw m5 46 6 ((m5 46 6) + 1) → KI (m6 46 6) m6) ∧
      (¬ (x3 ≤ 60) → pX8_see_31 d m2 KI X))))))) X) X
set_option maxRecDepth 20000 in
theorem wX8_see_0 {d : Nat} {KI : Int32 → zMem → Prop} {X : Nat → zMem → Prop} {x1 : Int32} {x2 : Int32} {x3 : Int32} {μ : zMem} (h : pX8_see d x1 x2 x3 μ KI X) : Wr mX8_see (d + 1) 0 0 [(0, .ref 0), (1, .int x1), (2, .int x2), (3, .int x3)] [] μ (kI KI X) := by
  unfold pX8_see at h
  refine Wr_aload_n dX8_see_0 rfl 0 rfl ?_
  refine Wr_iload_n dX8_see_1 rfl 1 rfl ?_
  refine Wr_cVv [.int x1] dX8_see_2 mlX8_146 mgX8_needIsle rfl mvX8_needIsle (zrv zl0 _ rfl rfl) rfl rfl (Nat.le_of_ble_eq_true rfl) rfl (zcV.imp h (fun m1 h => ?_) (fun _ _ h => ⟨rfl, h⟩))
  refine Wr_iload_n dX8_see_5 rfl 2 rfl ?_
  refine Wr_cSv [.int x2] dX8_see_6 mlX8_192 mgX8_needHour rfl msX8_needHour  rfl rfl (Nat.le_of_ble_eq_true rfl) rfl (zcV.imp h (fun m2 h => ?_) (fun _ _ h => ⟨rfl, h⟩))
  refine Wr_aload_n dX8_see_9 rfl 0 rfl ?_
  refine Wr_getR 46 dX8_see_10 flX8_40 zl0 rfl (by decide) ?_
  refine Wr_getI dX8_see_13 flX8_138 zl46 rfl ?_
  refine Wr_bipush (v := 12) dX8_see_16 (by decide) ?_
  refine Wr_icmp_ge 31 dX8_see_18 (by decide) (fun hc => ?_) (fun hc => ?_)
  · have h := h.1 hc
    refine zsub [0] rfl ?_
    exact wX8_see_31 h
  · have h := h.2 hc
    refine Wr_iload_n dX8_see_21 rfl 3 rfl ?_
    refine Wr_if_lt 31 dX8_see_22 (by decide) (fun hc => ?_) (fun hc => ?_)
    · have h := h.1 hc
      refine zsub [0] rfl ?_
      exact wX8_see_31 h
    · have h := h.2 hc
      refine Wr_iload_n dX8_see_25 rfl 3 rfl ?_
      refine Wr_bipush (v := 60) dX8_see_26 (by decide) ?_
      refine Wr_icmp_le 46 dX8_see_28 (by decide) (fun hc => ?_) (fun hc => ?_)
      · have h := h.1 hc
        refine Wr_aload_n dX8_see_46 rfl 0 rfl ?_
        refine Wr_getR 46 dX8_see_47 flX8_40 zl0 rfl (by decide) ?_
        refine Wr_getI dX8_see_50 flX8_138 zl46 rfl ?_
        refine Wr_iconstv (v := 3) dX8_see_53 (by decide) ?_
        refine Wr_imul dX8_see_54 ?_
        refine Wr_istore dX8_see_55 (by decide) rfl ?_
        refine Wr_aload_n dX8_see_57 rfl 1 rfl ?_
        refine Wr_getR 46 dX8_see_58 flX8_40 zl0 rfl (by decide) ?_
        refine Wr_getR 15 dX8_see_61 flX8_332 zl46 rfl (by decide) ?_
        refine Wr_iload dX8_see_64 0 rfl ?_
        refine Wr_iload_n dX8_see_66 rfl 2 rfl ?_
        obtain ⟨him3, h⟩ := h
        obtain ⟨m3, em3⟩ : ∃ z : zMem, z = zw m2 61 ((m2 46 6) * 3).toNatClampNeg x1 := ⟨_, rfl⟩
        have h := h m3 em3
        refine Wr_iast dX8_see_67 zl61 him3 ?_
        refine Wr_mu em3 ?_
        refine Wr_aload_n dX8_see_68 rfl 1 rfl ?_
        refine Wr_getR 46 dX8_see_69 flX8_40 zl0 rfl (by decide) ?_
        refine Wr_getR 15 dX8_see_72 flX8_332 zl46 rfl (by decide) ?_
        refine Wr_iload dX8_see_75 0 rfl ?_
        refine Wr_iconstv (v := 1) dX8_see_77 (by decide) ?_
        refine Wr_iadd dX8_see_78 ?_
        refine Wr_iload_n dX8_see_79 rfl 3 rfl ?_
        obtain ⟨him4, h⟩ := h
        obtain ⟨m4, em4⟩ : ∃ z : zMem, z = zw m3 61 (((m2 46 6) * 3) + 1).toNatClampNeg x2 := ⟨_, rfl⟩
        have h := h m4 em4
        refine Wr_iast dX8_see_80 zl61 him4 ?_
        refine Wr_mu em4 ?_
        refine Wr_aload_n dX8_see_81 rfl 1 rfl ?_
        refine Wr_getR 46 dX8_see_82 flX8_40 zl0 rfl (by decide) ?_
        refine Wr_getR 15 dX8_see_85 flX8_332 zl46 rfl (by decide) ?_
        refine Wr_iload dX8_see_88 0 rfl ?_
        refine Wr_iconstv (v := 2) dX8_see_90 (by decide) ?_
        refine Wr_iadd dX8_see_91 ?_
        refine Wr_iload_n dX8_see_92 rfl 4 rfl ?_
        obtain ⟨him5, h⟩ := h
        obtain ⟨m5, em5⟩ : ∃ z : zMem, z = zw m4 61 (((m2 46 6) * 3) + 2).toNatClampNeg x3 := ⟨_, rfl⟩
        have h := h m5 em5
        refine Wr_iast dX8_see_93 zl61 him5 ?_
        refine Wr_mu em5 ?_
        refine Wr_aload_n dX8_see_94 rfl 1 rfl ?_
        refine Wr_getR 46 dX8_see_95 flX8_40 zl0 rfl (by decide) ?_
        refine Wr_dup dX8_see_98 rfl ?_
        refine Wr_getI dX8_see_99 flX8_138 zl46 rfl ?_
        refine Wr_iconstv (v := 1) dX8_see_102 (by decide) ?_
        refine Wr_iadd dX8_see_103 ?_
        obtain ⟨m6, em6⟩ : ∃ z : zMem, z = zw m5 46 6 ((m5 46 6) + 1) := ⟨_, rfl⟩
        have h := h m6 em6
        refine Wr_putI dX8_see_104 fpX8_138 zl46 rfl ?_
        refine Wr_mu em6 ?_
        refine Wr_aload_n dX8_see_107 rfl 1 rfl ?_
        refine Wr_getR 46 dX8_see_108 flX8_40 zl0 rfl (by decide) ?_
        refine Wr_getI dX8_see_111 flX8_138 zl46 rfl ?_
        exact Wr_iret .int dX8_see_114 rfl rfl ⟨rfl, h⟩
      · have h := h.2 hc
        refine zsub [0] rfl ?_
        exact wX8_see_31 h
theorem cX8_see_ {d : Nat} {x1 : Int32} {x2 : Int32} {x3 : Int32} {μ : zMem} {KI : Int32 → zMem → Prop} {X : Nat → zMem → Prop} (h : pX8_see d x1 x2 x3 μ KI X) : zcI (d + 1) mX8_see [.ref 0, .int x1, .int x2, .int x3] μ KI X :=
  Ex_of (w := 4) mgX8_see.2.2.2.2.2 rfl rfl rfl (by decide) (wX8_see_0 h)

def pX8_fits_121 (d : Nat) (x1 : Int32) (x2 : Int32) (x3 : Int32) (x4 : Int32) (x5 : Int32) (μ : zMem) (KI : Int32 → zMem → Prop) (X : Nat → zMem → Prop) (C26 : Int32 → Int32 → Int32 → Int32 → zMem → Prop) : Prop :=
  (vp_in x4 6) ∧ ∀ m1 : zMem, m1 = zw μ 84 x4.toNatClampNeg x5 → ∀ v2 : Int32, v2 = x4 + 1 → C26 x1 x2 x3 v2 m1
set_option maxRecDepth 20000 in
theorem wX8_fits_121 {d : Nat} {KI : Int32 → zMem → Prop} {X : Nat → zMem → Prop} {C26 : Int32 → Int32 → Int32 → Int32 → zMem → Prop} {x1 : Int32} {x2 : Int32} {x3 : Int32} {x4 : Int32} {x5 : Int32} {μ : zMem} (hC26 : ∀ (x1 : Int32) (x2 : Int32) (x3 : Int32) (x4 : Int32) (μ : zMem), C26 x1 x2 x3 x4 μ → Wr mX8_fits (d + 1) 0 26 [(0, .ref 0), (1, .int x1), (2, .int x2), (3, .int x3), (4, .int x4)] [] μ (kI KI X)) (h : pX8_fits_121 d x1 x2 x3 x4 x5 μ KI X C26) : Wr mX8_fits (d + 1) 0 121 [(0, .ref 0), (1, .int x1), (2, .int x2), (3, .int x3), (4, .int x4), (5, .int x5)] [] μ (kI KI X) := by
  unfold pX8_fits_121 at h
  refine Wr_aload_n dX8_fits_121 rfl 0 rfl ?_
  refine Wr_getR 80 dX8_fits_122 flX8_54 zl0 rfl (by decide) ?_
  refine Wr_getR 4 dX8_fits_125 flX8_161 zl80 rfl (by decide) ?_
  refine Wr_iload dX8_fits_128 4 rfl ?_
  refine Wr_iload dX8_fits_130 5 rfl ?_
  obtain ⟨him1, h⟩ := h
  obtain ⟨m1, em1⟩ : ∃ z : zMem, z = zw μ 84 x4.toNatClampNeg x5 := ⟨_, rfl⟩
  have h := h m1 em1
  refine Wr_iast dX8_fits_132 zl84 him1 ?_
  refine Wr_mu em1 ?_
  obtain ⟨v2, ev2⟩ : ∃ z : Int32, z = x4 + 1 := ⟨_, rfl⟩
  have h := h v2 ev2
  refine Wr_iinc (v := v2) dX8_fits_133 (q := 4) rfl (by rw [ev2]; rfl) (by decide) rfl ?_
  refine Wr_goto 26 dX8_fits_136 (by decide) ?_
  refine zsub [0, 1, 2, 3, 4] rfl ?_
  exact hC26 _ _ _ _ _ h
def pX8_fits_56 : Nat → Nat → Int32 → Int32 → Int32 → Int32 → Int32 → Int32 → zMem → (Int32 → zMem → Prop) → (Nat → zMem → Prop) → (Int32 → Int32 → Int32 → Int32 → zMem → Prop) → Prop
  | 0, _, _, _, _, _, _, _, _, _, _, _ => False
  | n + 1, d, x1, x2, x3, x4, x5, x6, μ, KI, X, C26 =>
  ((9 < x6 → pX8_fits_121 d x1 x2 x3 x4 x5 μ KI X C26) ∧
  (¬ (9 < x6) → ((60 < x5 + x6 → pX8_fits_121 d x1 x2 x3 x4 x5 μ KI X C26) ∧
    (¬ (60 < x5 + x6) → (vp_in x4 6) ∧ ∀ m1 : zMem, m1 = zw μ 84 x4.toNatClampNeg (x5 + x6) → zcI d mX8_isAllSeenSo [.ref 0] m1 (fun u3 m2 => ((u3 = 0 → ∀ v4 : Int32, v4 = x6 + 1 → pX8_fits_56 n d x1 x2 x3 x4 x5 v4 m2 KI X C26) ∧
      (¬ (u3 = 0) → ∀ v5 : Int32, v5 = (if x2 = 0 then (10 * x4) + x6 else x3) → ∀ v6 : Int32, v6 = x2 + 1 → ∀ v7 : Int32, v7 = x6 + 1 → pX8_fits_56 n d x1 v6 v5 x4 x5 v7 m2 KI X C26))) X))))
set_option maxRecDepth 20000 in
theorem wX8_fits_56 {d : Nat} {KI : Int32 → zMem → Prop} {X : Nat → zMem → Prop} {C26 : Int32 → Int32 → Int32 → Int32 → zMem → Prop} (hC26 : ∀ (x1 : Int32) (x2 : Int32) (x3 : Int32) (x4 : Int32) (μ : zMem), C26 x1 x2 x3 x4 μ → Wr mX8_fits (d + 1) 0 26 [(0, .ref 0), (1, .int x1), (2, .int x2), (3, .int x3), (4, .int x4)] [] μ (kI KI X)) : ∀ (n : Nat) (x1 : Int32) (x2 : Int32) (x3 : Int32) (x4 : Int32) (x5 : Int32) (x6 : Int32) (μ : zMem), pX8_fits_56 n d x1 x2 x3 x4 x5 x6 μ KI X C26 → Wr mX8_fits (d + 1) 0 56 [(0, .ref 0), (1, .int x1), (2, .int x2), (3, .int x3), (4, .int x4), (5, .int x5), (6, .int x6)] [] μ (kI KI X) := by
  intro n
  induction n with
  | zero =>
    intro x1 x2 x3 x4 x5 x6 μ h
    exact absurd h id
  | succ n ih =>
    intro x1 x2 x3 x4 x5 x6 μ h
    unfold pX8_fits_56 at h
    refine Wr_iload dX8_fits_56 6 rfl ?_
    refine Wr_bipush (v := 9) dX8_fits_58 (by decide) ?_
    refine Wr_icmp_gt 121 dX8_fits_60 (by decide) (fun hc => ?_) (fun hc => ?_)
    · have h := h.1 hc
      refine zsub [0, 1, 2, 3, 4, 5] rfl ?_
      exact wX8_fits_121 hC26 h
    · have h := h.2 hc
      refine Wr_iload dX8_fits_63 5 rfl ?_
      refine Wr_iload dX8_fits_65 6 rfl ?_
      refine Wr_iadd dX8_fits_67 ?_
      refine Wr_bipush (v := 60) dX8_fits_68 (by decide) ?_
      refine Wr_icmp_gt 121 dX8_fits_70 (by decide) (fun hc => ?_) (fun hc => ?_)
      · have h := h.1 hc
        refine zsub [0, 1, 2, 3, 4, 5] rfl ?_
        exact wX8_fits_121 hC26 h
      · have h := h.2 hc
        refine Wr_aload_n dX8_fits_73 rfl 0 rfl ?_
        refine Wr_getR 80 dX8_fits_74 flX8_54 zl0 rfl (by decide) ?_
        refine Wr_getR 4 dX8_fits_77 flX8_161 zl80 rfl (by decide) ?_
        refine Wr_iload dX8_fits_80 4 rfl ?_
        refine Wr_iload dX8_fits_82 5 rfl ?_
        refine Wr_iload dX8_fits_84 6 rfl ?_
        refine Wr_iadd dX8_fits_86 ?_
        obtain ⟨him1, h⟩ := h
        obtain ⟨m1, em1⟩ : ∃ z : zMem, z = zw μ 84 x4.toNatClampNeg (x5 + x6) := ⟨_, rfl⟩
        have h := h m1 em1
        refine Wr_iast dX8_fits_87 zl84 him1 ?_
        refine Wr_mu em1 ?_
        refine Wr_aload_n dX8_fits_88 rfl 0 rfl ?_
        refine Wr_cVi [] dX8_fits_89 mlX8_335 mgX8_isAllSeenSo rfl mvX8_isAllSeenSo (zrv zl0 _ rfl rfl) rfl rfl (Nat.le_of_ble_eq_true rfl) rfl (zcI.imp h (fun u3 m2 h => ?_) (fun _ _ h => ⟨rfl, h⟩))
        refine Wr_if_eq 115 dX8_fits_92 (by decide) (fun hc => ?_) (fun hc => ?_)
        · have h := h.1 hc
          obtain ⟨v4, ev4⟩ : ∃ z : Int32, z = x6 + 1 := ⟨_, rfl⟩
          have h := h v4 ev4
          refine Wr_iinc (v := v4) dX8_fits_115 (q := 6) rfl (by rw [ev4]; rfl) (by decide) rfl ?_
          refine Wr_goto 56 dX8_fits_118 (by decide) ?_
          refine zsub [0, 1, 2, 3, 4, 5, 6] rfl ?_
          exact ih _ _ _ _ _ _ _ h
        · have h := h.2 hc
          refine Wr_iload_n dX8_fits_95 rfl 2 rfl ?_
          have hj2 : Wr mX8_fits (d + 1) 0 111 [(0, .ref 0), (1, .int x1), (2, .int x2), (3, .int x3), (4, .int x4), (5, .int x5), (6, .int x6)] [.int (if x2 = 0 then (10 * x4) + x6 else x3)] m2 (kI KI X) := by
            obtain ⟨v5, ev5⟩ : ∃ z : Int32, z = (if x2 = 0 then (10 * x4) + x6 else x3) := ⟨_, rfl⟩
            have h := h v5 ev5
            refine Wr_top ev5 ?_
            refine Wr_istore_n dX8_fits_111 rfl (by decide) rfl ?_
            obtain ⟨v6, ev6⟩ : ∃ z : Int32, z = x2 + 1 := ⟨_, rfl⟩
            have h := h v6 ev6
            refine Wr_iinc (v := v6) dX8_fits_112 (q := 3) rfl (by rw [ev6]; rfl) (by decide) rfl ?_
            obtain ⟨v7, ev7⟩ : ∃ z : Int32, z = x6 + 1 := ⟨_, rfl⟩
            have h := h v7 ev7
            refine Wr_iinc (v := v7) dX8_fits_115 (q := 6) rfl (by rw [ev7]; rfl) (by decide) rfl ?_
            refine Wr_goto 56 dX8_fits_118 (by decide) ?_
            refine zsub [0, 1, 2, 3, 4, 5, 6] rfl ?_
            exact ih _ _ _ _ _ _ _ h
          refine Wr_if_ne 110 dX8_fits_96 (by decide) (fun hc0 => ?_) (fun hc0 => ?_)
          · skip
            refine Wr_iload_n dX8_fits_110 rfl 3 rfl ?_
            exact Wr_top (if_neg hc0) hj2
          · skip
            refine Wr_bipush (v := 10) dX8_fits_99 (by decide) ?_
            refine Wr_iload dX8_fits_101 4 rfl ?_
            refine Wr_imul dX8_fits_103 ?_
            refine Wr_iload dX8_fits_104 6 rfl ?_
            refine Wr_iadd dX8_fits_106 ?_
            refine Wr_goto 111 dX8_fits_107 (by decide) ?_
            exact Wr_top (if_pos hc0) hj2
def pX8_fits_26 : Nat → Nat → Int32 → Int32 → Int32 → Int32 → zMem → (Int32 → zMem → Prop) → (Nat → zMem → Prop) → Prop
  | 0, _, _, _, _, _, _, _, _ => False
  | n + 1, d, x1, x2, x3, x4, μ, KI, X =>
  ((μ 80 0 ≤ x4 → KI (if x1 = 0 then x2 else x3) μ) ∧
  (¬ (μ 80 0 ≤ x4) → (vp_in x4 6) ∧ ∀ v1 : Int32, v1 = μ 51 x4.toNatClampNeg → ∃ n2 : Nat, pX8_fits_56 n2 d x1 x2 x3 x4 v1 1 μ KI X (fun z0 z1 z2 z3 m => pX8_fits_26 n d z0 z1 z2 z3 m KI X)))
set_option maxRecDepth 20000 in
theorem wX8_fits_26 {d : Nat} {KI : Int32 → zMem → Prop} {X : Nat → zMem → Prop} : ∀ (n : Nat) (x1 : Int32) (x2 : Int32) (x3 : Int32) (x4 : Int32) (μ : zMem), pX8_fits_26 n d x1 x2 x3 x4 μ KI X → Wr mX8_fits (d + 1) 0 26 [(0, .ref 0), (1, .int x1), (2, .int x2), (3, .int x3), (4, .int x4)] [] μ (kI KI X) := by
  intro n
  induction n with
  | zero =>
    intro x1 x2 x3 x4 μ h
    exact absurd h id
  | succ n ih =>
    intro x1 x2 x3 x4 μ h
    unfold pX8_fits_26 at h
    refine Wr_iload dX8_fits_26 4 rfl ?_
    refine Wr_aload_n dX8_fits_28 rfl 0 rfl ?_
    refine Wr_getR 80 dX8_fits_29 flX8_54 zl0 rfl (by decide) ?_
    refine Wr_getI dX8_fits_32 flX8_117 zl80 rfl ?_
    refine Wr_icmp_ge 139 dX8_fits_35 (by decide) (fun hc => ?_) (fun hc => ?_)
    · have h := h.1 hc
      refine Wr_iload_n dX8_fits_139 rfl 1 rfl ?_
      have hj1 : Wr mX8_fits (d + 1) 0 148 [(0, .ref 0), (1, .int x1), (2, .int x2), (3, .int x3), (4, .int x4)] [.int (if x1 = 0 then x2 else x3)] μ (kI KI X) := by
        exact Wr_iret .int dX8_fits_148 rfl rfl ⟨rfl, h⟩
      refine Wr_if_ne 147 dX8_fits_140 (by decide) (fun hc0 => ?_) (fun hc0 => ?_)
      · skip
        refine Wr_iload_n dX8_fits_147 rfl 3 rfl ?_
        exact Wr_top (if_neg hc0) hj1
      · skip
        refine Wr_iload_n dX8_fits_143 rfl 2 rfl ?_
        refine Wr_goto 148 dX8_fits_144 (by decide) ?_
        exact Wr_top (if_pos hc0) hj1
    · have h := h.2 hc
      refine Wr_aload_n dX8_fits_38 rfl 0 rfl ?_
      refine Wr_getR 46 dX8_fits_39 flX8_40 zl0 rfl (by decide) ?_
      refine Wr_getR 1 dX8_fits_42 flX8_116 zl46 rfl (by decide) ?_
      refine Wr_getR 4 dX8_fits_45 flX8_161 zl47 rfl (by decide) ?_
      refine Wr_iload dX8_fits_48 4 rfl ?_
      obtain ⟨hi, h⟩ := h
      refine Wr_iald dX8_fits_50 zl51 hi ?_
      obtain ⟨v1, ev1⟩ : ∃ z : Int32, z = μ 51 x4.toNatClampNeg := ⟨_, rfl⟩
      have h := h v1 ev1
      refine Wr_top ev1 ?_
      refine Wr_istore dX8_fits_51 (by decide) rfl ?_
      refine Wr_iconstv (v := 1) dX8_fits_53 (by decide) ?_
      refine Wr_istore dX8_fits_54 (by decide) rfl ?_
      refine zsub [0, 1, 2, 3, 4, 5, 6] rfl ?_
      obtain ⟨n9, h⟩ := h
      exact wX8_fits_56 (fun z0 z1 z2 z3 m h => ih z0 z1 z2 z3 m h) n9 _ _ _ _ _ _ _ h
def pX8_fits (d : Nat) (x1 : Int32) (μ : zMem) (KI : Int32 → zMem → Prop) (X : Nat → zMem → Prop) : Prop :=
  zcV d mX8_needWhat [.int x1, .int 2] μ (fun m1 => zcV d mX1_copyFrom [.ref 80, .ref 47] m1 (fun m2 => ∃ n2 : Nat, pX8_fits_26 n2 d x1 0 (-1) 0 m2 KI X) X) X
set_option maxRecDepth 20000 in
theorem wX8_fits_0 {d : Nat} {KI : Int32 → zMem → Prop} {X : Nat → zMem → Prop} {x1 : Int32} {μ : zMem} (h : pX8_fits d x1 μ KI X) : Wr mX8_fits (d + 1) 0 0 [(0, .ref 0), (1, .int x1)] [] μ (kI KI X) := by
  unfold pX8_fits at h
  refine Wr_iload_n dX8_fits_0 rfl 1 rfl ?_
  refine Wr_iconstv (v := 2) dX8_fits_1 (by decide) ?_
  refine Wr_cSv [.int x1, .int 2] dX8_fits_2 mlX8_195 mgX8_needWhat rfl msX8_needWhat  rfl rfl (Nat.le_of_ble_eq_true rfl) rfl (zcV.imp h (fun m1 h => ?_) (fun _ _ h => ⟨rfl, h⟩))
  refine Wr_aload_n dX8_fits_5 rfl 0 rfl ?_
  refine Wr_getR 80 dX8_fits_6 flX8_54 zl0 rfl (by decide) ?_
  refine Wr_aload_n dX8_fits_9 rfl 0 rfl ?_
  refine Wr_getR 46 dX8_fits_10 flX8_40 zl0 rfl (by decide) ?_
  refine Wr_getR 1 dX8_fits_13 flX8_116 zl46 rfl (by decide) ?_
  refine Wr_cVv [.ref 47] dX8_fits_16 mlX8_282 mgX1_copyFrom rfl mvX1_copyFrom (zrv zl80 _ rfl rfl) rfl rfl (Nat.le_of_ble_eq_true rfl) rfl (zcV.imp h (fun m2 h => ?_) (fun _ _ h => ⟨rfl, h⟩))
  refine Wr_iconstv (v := 0) dX8_fits_19 (by decide) ?_
  refine Wr_istore_n dX8_fits_20 rfl (by decide) rfl ?_
  refine Wr_iconstv (v := (-1)) dX8_fits_21 (by decide) ?_
  refine Wr_istore_n dX8_fits_22 rfl (by decide) rfl ?_
  refine Wr_iconstv (v := 0) dX8_fits_23 (by decide) ?_
  refine Wr_istore dX8_fits_24 (by decide) rfl ?_
  refine zsub [0, 1, 2, 3, 4] rfl ?_
  obtain ⟨n9, h⟩ := h
  exact wX8_fits_26 n9 _ _ _ _ _ h
theorem cX8_fits_ {d : Nat} {x1 : Int32} {μ : zMem} {KI : Int32 → zMem → Prop} {X : Nat → zMem → Prop} (h : pX8_fits d x1 μ KI X) : zcI (d + 1) mX8_fits [.ref 0, .int x1] μ KI X :=
  Ex_of (w := 2) mgX8_fits.2.2.2.2.2 rfl rfl rfl (by decide) (wX8_fits_0 h)

def pX8_isAllSeenSo_2 : Nat → Nat → Int32 → zMem → (Int32 → zMem → Prop) → (Nat → zMem → Prop) → Prop
  | 0, _, _, _, _, _ => False
  | n + 1, d, x1, μ, KI, X =>
  ((μ 46 6 ≤ x1 → KI 1 μ) ∧
  (¬ (μ 46 6 ≤ x1) → (vp_in (x1 * 3) 36) ∧ (vp_in ((x1 * 3) + 1) 36) ∧ zcI d mX8_highOnTrial [.ref 0, .int (μ 61 (x1 * 3).toNatClampNeg), .int (μ 61 ((x1 * 3) + 1).toNatClampNeg)] μ (fun u2 m1 => (vp_in ((x1 * 3) + 2) 36) ∧ ((u2 = m1 61 ((x1 * 3) + 2).toNatClampNeg → ∀ v3 : Int32, v3 = x1 + 1 → pX8_isAllSeenSo_2 n d v3 m1 KI X) ∧
    (¬ (u2 = m1 61 ((x1 * 3) + 2).toNatClampNeg) → KI 0 m1))) X))
set_option maxRecDepth 20000 in
theorem wX8_isAllSeenSo_2 {d : Nat} {KI : Int32 → zMem → Prop} {X : Nat → zMem → Prop} : ∀ (n : Nat) (x1 : Int32) (μ : zMem), pX8_isAllSeenSo_2 n d x1 μ KI X → Wr mX8_isAllSeenSo (d + 1) 0 2 [(0, .ref 0), (1, .int x1)] [] μ (kI KI X) := by
  intro n
  induction n with
  | zero =>
    intro x1 μ h
    exact absurd h id
  | succ n ih =>
    intro x1 μ h
    unfold pX8_isAllSeenSo_2 at h
    refine Wr_iload_n dX8_isAllSeenSo_2 rfl 1 rfl ?_
    refine Wr_aload_n dX8_isAllSeenSo_3 rfl 0 rfl ?_
    refine Wr_getR 46 dX8_isAllSeenSo_4 flX8_40 zl0 rfl (by decide) ?_
    refine Wr_getI dX8_isAllSeenSo_7 flX8_138 zl46 rfl ?_
    refine Wr_icmp_ge 63 dX8_isAllSeenSo_10 (by decide) (fun hc => ?_) (fun hc => ?_)
    · have h := h.1 hc
      refine Wr_iconstv (v := 1) dX8_isAllSeenSo_63 (by decide) ?_
      exact Wr_iret .boolean dX8_isAllSeenSo_64 rfl rfl ⟨rfl, h⟩
    · have h := h.2 hc
      refine Wr_iload_n dX8_isAllSeenSo_13 rfl 1 rfl ?_
      refine Wr_iconstv (v := 3) dX8_isAllSeenSo_14 (by decide) ?_
      refine Wr_imul dX8_isAllSeenSo_15 ?_
      refine Wr_istore_n dX8_isAllSeenSo_16 rfl (by decide) rfl ?_
      refine Wr_aload_n dX8_isAllSeenSo_17 rfl 1 rfl ?_
      refine Wr_aload_n dX8_isAllSeenSo_18 rfl 1 rfl ?_
      refine Wr_getR 46 dX8_isAllSeenSo_19 flX8_40 zl0 rfl (by decide) ?_
      refine Wr_getR 15 dX8_isAllSeenSo_22 flX8_332 zl46 rfl (by decide) ?_
      refine Wr_iload_n dX8_isAllSeenSo_25 rfl 0 rfl ?_
      obtain ⟨hi, h⟩ := h
      refine Wr_iald dX8_isAllSeenSo_26 zl61 hi ?_
      refine Wr_aload_n dX8_isAllSeenSo_27 rfl 1 rfl ?_
      refine Wr_getR 46 dX8_isAllSeenSo_28 flX8_40 zl0 rfl (by decide) ?_
      refine Wr_getR 15 dX8_isAllSeenSo_31 flX8_332 zl46 rfl (by decide) ?_
      refine Wr_iload_n dX8_isAllSeenSo_34 rfl 0 rfl ?_
      refine Wr_iconstv (v := 1) dX8_isAllSeenSo_35 (by decide) ?_
      refine Wr_iadd dX8_isAllSeenSo_36 ?_
      obtain ⟨hi, h⟩ := h
      refine Wr_iald dX8_isAllSeenSo_37 zl61 hi ?_
      refine Wr_cVi [.int (μ 61 (x1 * 3).toNatClampNeg), .int (μ 61 ((x1 * 3) + 1).toNatClampNeg)] dX8_isAllSeenSo_38 mlX8_339 mgX8_highOnTrial rfl mvX8_highOnTrial (zrv zl0 _ rfl rfl) rfl rfl (Nat.le_of_ble_eq_true rfl) rfl (zcI.imp h (fun u2 m1 h => ?_) (fun _ _ h => ⟨rfl, h⟩))
      refine Wr_aload_n dX8_isAllSeenSo_41 rfl 1 rfl ?_
      refine Wr_getR 46 dX8_isAllSeenSo_42 flX8_40 zl0 rfl (by decide) ?_
      refine Wr_getR 15 dX8_isAllSeenSo_45 flX8_332 zl46 rfl (by decide) ?_
      refine Wr_iload_n dX8_isAllSeenSo_48 rfl 0 rfl ?_
      refine Wr_iconstv (v := 2) dX8_isAllSeenSo_49 (by decide) ?_
      refine Wr_iadd dX8_isAllSeenSo_50 ?_
      obtain ⟨hi, h⟩ := h
      refine Wr_iald dX8_isAllSeenSo_51 zl61 hi ?_
      refine Wr_icmp_eq 57 dX8_isAllSeenSo_52 (by decide) (fun hc => ?_) (fun hc => ?_)
      · have h := h.1 hc
        obtain ⟨v3, ev3⟩ : ∃ z : Int32, z = x1 + 1 := ⟨_, rfl⟩
        have h := h v3 ev3
        refine Wr_iinc (v := v3) dX8_isAllSeenSo_57 (q := 2) rfl (by rw [ev3]; rfl) (by decide) rfl ?_
        refine Wr_goto 2 dX8_isAllSeenSo_60 (by decide) ?_
        refine zsub [0, 1] rfl ?_
        exact ih _ _ h
      · have h := h.2 hc
        refine Wr_iconstv (v := 0) dX8_isAllSeenSo_55 (by decide) ?_
        exact Wr_iret .boolean dX8_isAllSeenSo_56 rfl rfl ⟨rfl, h⟩
def pX8_isAllSeenSo (d : Nat) (μ : zMem) (KI : Int32 → zMem → Prop) (X : Nat → zMem → Prop) : Prop :=
  ∃ n2 : Nat, pX8_isAllSeenSo_2 n2 d 0 μ KI X
set_option maxRecDepth 20000 in
theorem wX8_isAllSeenSo_0 {d : Nat} {KI : Int32 → zMem → Prop} {X : Nat → zMem → Prop} {μ : zMem} (h : pX8_isAllSeenSo d μ KI X) : Wr mX8_isAllSeenSo (d + 1) 0 0 [(0, .ref 0)] [] μ (kI KI X) := by
  unfold pX8_isAllSeenSo at h
  refine Wr_iconstv (v := 0) dX8_isAllSeenSo_0 (by decide) ?_
  refine Wr_istore_n dX8_isAllSeenSo_1 rfl (by decide) rfl ?_
  refine zsub [0, 1] rfl ?_
  obtain ⟨n9, h⟩ := h
  exact wX8_isAllSeenSo_2 n9 _ _ h
theorem cX8_isAllSeenSo_ {d : Nat} {μ : zMem} {KI : Int32 → zMem → Prop} {X : Nat → zMem → Prop} (h : pX8_isAllSeenSo d μ KI X) : zcI (d + 1) mX8_isAllSeenSo [.ref 0] μ KI X :=
  Ex_of (w := 1) mgX8_isAllSeenSo.2.2.2.2.2 rfl rfl rfl (by decide) (wX8_isAllSeenSo_0 h)

def pX8_highOnTrial (d : Nat) (x1 : Int32) (x2 : Int32) (μ : zMem) (KI : Int32 → zMem → Prop) (X : Nat → zMem → Prop) : Prop :=
  zcI d mX1_has [.ref 80, .int x1] μ (fun u2 m1 => ((u2 = 0 → KI (-1) m1) ∧
  (¬ (u2 = 0) → zcV d mX0_put [.ref 92, .ref (zsk m1 0 4), .ref 80, .int x1, .int x1, .int x2, .int 0] m1 (fun m3 => (vp_in x1 36) ∧ KI (m3 95 x1.toNatClampNeg) m3) X))) X
set_option maxRecDepth 20000 in
theorem wX8_highOnTrial_0 {d : Nat} {KI : Int32 → zMem → Prop} {X : Nat → zMem → Prop} {x1 : Int32} {x2 : Int32} {μ : zMem} (h : pX8_highOnTrial d x1 x2 μ KI X) : Wr mX8_highOnTrial (d + 1) 0 0 [(0, .ref 0), (1, .int x1), (2, .int x2)] [] μ (kI KI X) := by
  unfold pX8_highOnTrial at h
  refine Wr_aload_n dX8_highOnTrial_0 rfl 0 rfl ?_
  refine Wr_getR 80 dX8_highOnTrial_1 flX8_54 zl0 rfl (by decide) ?_
  refine Wr_iload_n dX8_highOnTrial_4 rfl 1 rfl ?_
  refine Wr_cVi [.int x1] dX8_highOnTrial_5 mlX8_342 mgX1_has rfl mvX1_has (zrv zl80 _ rfl rfl) rfl rfl (Nat.le_of_ble_eq_true rfl) rfl (zcI.imp h (fun u2 m1 h => ?_) (fun _ _ h => ⟨rfl, h⟩))
  refine Wr_if_ne 13 dX8_highOnTrial_8 (by decide) (fun hc => ?_) (fun hc => ?_)
  · have h := h.2 hc
    refine Wr_aload_n dX8_highOnTrial_13 rfl 0 rfl ?_
    refine Wr_getR 92 dX8_highOnTrial_14 flX8_61 zl0 rfl (by decide) ?_
    refine Wr_aload_n dX8_highOnTrial_17 rfl 0 rfl ?_
    refine Wr_getT dX8_highOnTrial_18 flX8_30 zl0 (by decide) ?_
    refine Wr_aload_n dX8_highOnTrial_21 rfl 0 rfl ?_
    refine Wr_getR 80 dX8_highOnTrial_22 flX8_54 zl0 rfl (by decide) ?_
    refine Wr_iload_n dX8_highOnTrial_25 rfl 1 rfl ?_
    refine Wr_iload_n dX8_highOnTrial_26 rfl 1 rfl ?_
    refine Wr_iload_n dX8_highOnTrial_27 rfl 2 rfl ?_
    refine Wr_iconstv (v := 0) dX8_highOnTrial_28 (by decide) ?_
    refine Wr_cVv [.ref (zsk m1 0 4), .ref 80, .int x1, .int x1, .int x2, .int 0] dX8_highOnTrial_29 mlX8_205 mgX0_put rfl mvX0_put (zrv zl92 _ rfl rfl) rfl rfl (Nat.le_of_ble_eq_true rfl) rfl (zcV.imp h (fun m3 h => ?_) (fun _ _ h => ⟨rfl, h⟩))
    refine Wr_aload_n dX8_highOnTrial_32 rfl 0 rfl ?_
    refine Wr_getR 92 dX8_highOnTrial_33 flX8_61 zl0 rfl (by decide) ?_
    refine Wr_getR 3 dX8_highOnTrial_36 flX8_215 zl92 rfl (by decide) ?_
    refine Wr_iload_n dX8_highOnTrial_39 rfl 1 rfl ?_
    obtain ⟨hi, h⟩ := h
    refine Wr_iald dX8_highOnTrial_40 zl95 hi ?_
    exact Wr_iret .int dX8_highOnTrial_41 rfl rfl ⟨rfl, h⟩
  · have h := h.1 hc
    refine Wr_iconstv (v := (-1)) dX8_highOnTrial_11 (by decide) ?_
    exact Wr_iret .int dX8_highOnTrial_12 rfl rfl ⟨rfl, h⟩
theorem cX8_highOnTrial_ {d : Nat} {x1 : Int32} {x2 : Int32} {μ : zMem} {KI : Int32 → zMem → Prop} {X : Nat → zMem → Prop} (h : pX8_highOnTrial d x1 x2 μ KI X) : zcI (d + 1) mX8_highOnTrial [.ref 0, .int x1, .int x2] μ KI X :=
  Ex_of (w := 3) mgX8_highOnTrial.2.2.2.2.2 rfl rfl rfl (by decide) (wX8_highOnTrial_0 h)

def pX8_weighed_38 : Nat → Nat → Int32 → Int32 → Int32 → Int32 → Int32 → Int32 → Int32 → zMem → (Int32 → zMem → Prop) → (Nat → zMem → Prop) → Prop
  | 0, _, _, _, _, _, _, _, _, _, _, _ => False
  | n + 1, d, x1, x2, x3, x4, x5, x6, x7, μ, KI, X =>
  ((60 < x7 → KI (if x4 = 0 then x5 else x6) μ) ∧
  (¬ (60 < x7) → (vp_in x1 6) ∧ ∀ m1 : zMem, m1 = zw μ 88 x1.toNatClampNeg x7 → zcI d mX8_highOnTrial [.ref 0, .int x1, .int x2] m1 (fun u3 m2 => ((u3 = x3 → ∀ v5 : Int32, v5 = (if x5 = 0 then x7 else x6) → ∀ v6 : Int32, v6 = x5 + 1 → ∀ v7 : Int32, v7 = x7 + 1 → pX8_weighed_38 n d x1 x2 x3 x4 v6 v5 v7 m2 KI X) ∧
    (¬ (u3 = x3) → ∀ v4 : Int32, v4 = x7 + 1 → pX8_weighed_38 n d x1 x2 x3 x4 x5 x6 v4 m2 KI X))) X))
set_option maxRecDepth 20000 in
theorem wX8_weighed_38 {d : Nat} {KI : Int32 → zMem → Prop} {X : Nat → zMem → Prop} : ∀ (n : Nat) (x1 : Int32) (x2 : Int32) (x3 : Int32) (x4 : Int32) (x5 : Int32) (x6 : Int32) (x7 : Int32) (μ : zMem), pX8_weighed_38 n d x1 x2 x3 x4 x5 x6 x7 μ KI X → Wr mX8_weighed (d + 1) 0 38 [(0, .ref 0), (1, .int x1), (2, .int x2), (3, .int x3), (4, .int x4), (5, .int x5), (6, .int x6), (7, .int x7)] [] μ (kI KI X) := by
  intro n
  induction n with
  | zero =>
    intro x1 x2 x3 x4 x5 x6 x7 μ h
    exact absurd h id
  | succ n ih =>
    intro x1 x2 x3 x4 x5 x6 x7 μ h
    unfold pX8_weighed_38 at h
    refine Wr_iload dX8_weighed_38 7 rfl ?_
    refine Wr_bipush (v := 60) dX8_weighed_40 (by decide) ?_
    refine Wr_icmp_gt 89 dX8_weighed_42 (by decide) (fun hc => ?_) (fun hc => ?_)
    · have h := h.1 hc
      refine Wr_iload dX8_weighed_89 4 rfl ?_
      have hj1 : Wr mX8_weighed (d + 1) 0 101 [(0, .ref 0), (1, .int x1), (2, .int x2), (3, .int x3), (4, .int x4), (5, .int x5), (6, .int x6), (7, .int x7)] [.int (if x4 = 0 then x5 else x6)] μ (kI KI X) := by
        exact Wr_iret .int dX8_weighed_101 rfl rfl ⟨rfl, h⟩
      refine Wr_if_ne 99 dX8_weighed_91 (by decide) (fun hc0 => ?_) (fun hc0 => ?_)
      · skip
        refine Wr_iload dX8_weighed_99 6 rfl ?_
        exact Wr_top (if_neg hc0) hj1
      · skip
        refine Wr_iload dX8_weighed_94 5 rfl ?_
        refine Wr_goto 101 dX8_weighed_96 (by decide) ?_
        exact Wr_top (if_pos hc0) hj1
    · have h := h.2 hc
      refine Wr_aload_n dX8_weighed_45 rfl 0 rfl ?_
      refine Wr_getR 80 dX8_weighed_46 flX8_54 zl0 rfl (by decide) ?_
      refine Wr_getR 8 dX8_weighed_49 flX8_173 zl80 rfl (by decide) ?_
      refine Wr_iload_n dX8_weighed_52 rfl 1 rfl ?_
      refine Wr_iload dX8_weighed_53 7 rfl ?_
      obtain ⟨him1, h⟩ := h
      obtain ⟨m1, em1⟩ : ∃ z : zMem, z = zw μ 88 x1.toNatClampNeg x7 := ⟨_, rfl⟩
      have h := h m1 em1
      refine Wr_iast dX8_weighed_55 zl88 him1 ?_
      refine Wr_mu em1 ?_
      refine Wr_aload_n dX8_weighed_56 rfl 0 rfl ?_
      refine Wr_iload_n dX8_weighed_57 rfl 1 rfl ?_
      refine Wr_iload_n dX8_weighed_58 rfl 2 rfl ?_
      refine Wr_cVi [.int x1, .int x2] dX8_weighed_59 mlX8_339 mgX8_highOnTrial rfl mvX8_highOnTrial (zrv zl0 _ rfl rfl) rfl rfl (Nat.le_of_ble_eq_true rfl) rfl (zcI.imp h (fun u3 m2 h => ?_) (fun _ _ h => ⟨rfl, h⟩))
      refine Wr_iload_n dX8_weighed_62 rfl 3 rfl ?_
      refine Wr_icmp_ne 83 dX8_weighed_63 (by decide) (fun hc => ?_) (fun hc => ?_)
      · have h := h.2 hc
        obtain ⟨v4, ev4⟩ : ∃ z : Int32, z = x7 + 1 := ⟨_, rfl⟩
        have h := h v4 ev4
        refine Wr_iinc (v := v4) dX8_weighed_83 (q := 7) rfl (by rw [ev4]; rfl) (by decide) rfl ?_
        refine Wr_goto 38 dX8_weighed_86 (by decide) ?_
        refine zsub [0, 1, 2, 3, 4, 5, 6, 7] rfl ?_
        exact ih _ _ _ _ _ _ _ _ h
      · have h := h.1 hc
        refine Wr_iload dX8_weighed_66 5 rfl ?_
        have hj2 : Wr mX8_weighed (d + 1) 0 78 [(0, .ref 0), (1, .int x1), (2, .int x2), (3, .int x3), (4, .int x4), (5, .int x5), (6, .int x6), (7, .int x7)] [.int (if x5 = 0 then x7 else x6)] m2 (kI KI X) := by
          obtain ⟨v5, ev5⟩ : ∃ z : Int32, z = (if x5 = 0 then x7 else x6) := ⟨_, rfl⟩
          have h := h v5 ev5
          refine Wr_top ev5 ?_
          refine Wr_istore dX8_weighed_78 (by decide) rfl ?_
          obtain ⟨v6, ev6⟩ : ∃ z : Int32, z = x5 + 1 := ⟨_, rfl⟩
          have h := h v6 ev6
          refine Wr_iinc (v := v6) dX8_weighed_80 (q := 6) rfl (by rw [ev6]; rfl) (by decide) rfl ?_
          obtain ⟨v7, ev7⟩ : ∃ z : Int32, z = x7 + 1 := ⟨_, rfl⟩
          have h := h v7 ev7
          refine Wr_iinc (v := v7) dX8_weighed_83 (q := 7) rfl (by rw [ev7]; rfl) (by decide) rfl ?_
          refine Wr_goto 38 dX8_weighed_86 (by decide) ?_
          refine zsub [0, 1, 2, 3, 4, 5, 6, 7] rfl ?_
          exact ih _ _ _ _ _ _ _ _ h
        refine Wr_if_ne 76 dX8_weighed_68 (by decide) (fun hc0 => ?_) (fun hc0 => ?_)
        · skip
          refine Wr_iload dX8_weighed_76 6 rfl ?_
          exact Wr_top (if_neg hc0) hj2
        · skip
          refine Wr_iload dX8_weighed_71 7 rfl ?_
          refine Wr_goto 78 dX8_weighed_73 (by decide) ?_
          exact Wr_top (if_pos hc0) hj2
def pX8_weighed (d : Nat) (x1 : Int32) (x2 : Int32) (x3 : Int32) (x4 : Int32) (μ : zMem) (KI : Int32 → zMem → Prop) (X : Nat → zMem → Prop) : Prop :=
  zcV d mX8_needIsle [.ref 0, .int x1] μ (fun m1 => zcV d mX8_needHour [.int x2] m1 (fun m2 => zcV d mX8_needWhat [.int x4, .int 2] m2 (fun m3 => zcV d mX1_copyFrom [.ref 80, .ref 47] m3 (fun m4 => ∃ n2 : Nat, pX8_weighed_38 n2 d x1 x2 x3 x4 0 (-1) 0 m4 KI X) X) X) X) X
set_option maxRecDepth 20000 in
theorem wX8_weighed_0 {d : Nat} {KI : Int32 → zMem → Prop} {X : Nat → zMem → Prop} {x1 : Int32} {x2 : Int32} {x3 : Int32} {x4 : Int32} {μ : zMem} (h : pX8_weighed d x1 x2 x3 x4 μ KI X) : Wr mX8_weighed (d + 1) 0 0 [(0, .ref 0), (1, .int x1), (2, .int x2), (3, .int x3), (4, .int x4)] [] μ (kI KI X) := by
  unfold pX8_weighed at h
  refine Wr_aload_n dX8_weighed_0 rfl 0 rfl ?_
  refine Wr_iload_n dX8_weighed_1 rfl 1 rfl ?_
  refine Wr_cVv [.int x1] dX8_weighed_2 mlX8_146 mgX8_needIsle rfl mvX8_needIsle (zrv zl0 _ rfl rfl) rfl rfl (Nat.le_of_ble_eq_true rfl) rfl (zcV.imp h (fun m1 h => ?_) (fun _ _ h => ⟨rfl, h⟩))
  refine Wr_iload_n dX8_weighed_5 rfl 2 rfl ?_
  refine Wr_cSv [.int x2] dX8_weighed_6 mlX8_192 mgX8_needHour rfl msX8_needHour  rfl rfl (Nat.le_of_ble_eq_true rfl) rfl (zcV.imp h (fun m2 h => ?_) (fun _ _ h => ⟨rfl, h⟩))
  refine Wr_iload dX8_weighed_9 4 rfl ?_
  refine Wr_iconstv (v := 2) dX8_weighed_11 (by decide) ?_
  refine Wr_cSv [.int x4, .int 2] dX8_weighed_12 mlX8_195 mgX8_needWhat rfl msX8_needWhat  rfl rfl (Nat.le_of_ble_eq_true rfl) rfl (zcV.imp h (fun m3 h => ?_) (fun _ _ h => ⟨rfl, h⟩))
  refine Wr_aload_n dX8_weighed_15 rfl 0 rfl ?_
  refine Wr_getR 80 dX8_weighed_16 flX8_54 zl0 rfl (by decide) ?_
  refine Wr_aload_n dX8_weighed_19 rfl 0 rfl ?_
  refine Wr_getR 46 dX8_weighed_20 flX8_40 zl0 rfl (by decide) ?_
  refine Wr_getR 1 dX8_weighed_23 flX8_116 zl46 rfl (by decide) ?_
  refine Wr_cVv [.ref 47] dX8_weighed_26 mlX8_282 mgX1_copyFrom rfl mvX1_copyFrom (zrv zl80 _ rfl rfl) rfl rfl (Nat.le_of_ble_eq_true rfl) rfl (zcV.imp h (fun m4 h => ?_) (fun _ _ h => ⟨rfl, h⟩))
  refine Wr_iconstv (v := 0) dX8_weighed_29 (by decide) ?_
  refine Wr_istore dX8_weighed_30 (by decide) rfl ?_
  refine Wr_iconstv (v := (-1)) dX8_weighed_32 (by decide) ?_
  refine Wr_istore dX8_weighed_33 (by decide) rfl ?_
  refine Wr_iconstv (v := 0) dX8_weighed_35 (by decide) ?_
  refine Wr_istore dX8_weighed_36 (by decide) rfl ?_
  refine zsub [0, 1, 2, 3, 4, 5, 6, 7] rfl ?_
  obtain ⟨n9, h⟩ := h
  exact wX8_weighed_38 n9 _ _ _ _ _ _ _ _ h
theorem cX8_weighed_ {d : Nat} {x1 : Int32} {x2 : Int32} {x3 : Int32} {x4 : Int32} {μ : zMem} {KI : Int32 → zMem → Prop} {X : Nat → zMem → Prop} (h : pX8_weighed d x1 x2 x3 x4 μ KI X) : zcI (d + 1) mX8_weighed [.ref 0, .int x1, .int x2, .int x3, .int x4] μ KI X :=
  Ex_of (w := 5) mgX8_weighed.2.2.2.2.2 rfl rfl rfl (by decide) (wX8_weighed_0 h)

def pX8_gust (d : Nat) (x1 : Int32) (x2 : Int32) (μ : zMem) (KI : Int32 → zMem → Prop) (X : Nat → zMem → Prop) : Prop :=
  zcV d mX8_needHour [.int x1] μ (fun m1 => zcV d mX8_needWhat [.int x2, .int 2] m1 (fun m2 => zcI d mX8_knockingWeight [.ref 0, .int x1] m2 (fun u4 m3 => zcI d mX4_allWeights [.ref (zsk m3 0 4)] m3 (fun u6 m5 => zcL d mX8_inLowestTerms [.long u4.toInt64, .long u6.toInt64, .int x2] m5 (fun u8 m7 => KI u8.toInt32 m7) X) X) X) X) X
set_option maxRecDepth 20000 in
theorem wX8_gust_0 {d : Nat} {KI : Int32 → zMem → Prop} {X : Nat → zMem → Prop} {x1 : Int32} {x2 : Int32} {μ : zMem} (h : pX8_gust d x1 x2 μ KI X) : Wr mX8_gust (d + 1) 0 0 [(0, .ref 0), (1, .int x1), (2, .int x2)] [] μ (kI KI X) := by
  unfold pX8_gust at h
  refine Wr_iload_n dX8_gust_0 rfl 1 rfl ?_
  refine Wr_cSv [.int x1] dX8_gust_1 mlX8_192 mgX8_needHour rfl msX8_needHour  rfl rfl (Nat.le_of_ble_eq_true rfl) rfl (zcV.imp h (fun m1 h => ?_) (fun _ _ h => ⟨rfl, h⟩))
  refine Wr_iload_n dX8_gust_4 rfl 2 rfl ?_
  refine Wr_iconstv (v := 2) dX8_gust_5 (by decide) ?_
  refine Wr_cSv [.int x2, .int 2] dX8_gust_6 mlX8_195 mgX8_needWhat rfl msX8_needWhat  rfl rfl (Nat.le_of_ble_eq_true rfl) rfl (zcV.imp h (fun m2 h => ?_) (fun _ _ h => ⟨rfl, h⟩))
  refine Wr_aload_n dX8_gust_9 rfl 0 rfl ?_
  refine Wr_iload_n dX8_gust_10 rfl 1 rfl ?_
  refine Wr_cVi [.int x1] dX8_gust_11 mlX8_345 mgX8_knockingWeight rfl mvX8_knockingWeight (zrv zl0 _ rfl rfl) rfl rfl (Nat.le_of_ble_eq_true rfl) rfl (zcI.imp h (fun u4 m3 h => ?_) (fun _ _ h => ⟨rfl, h⟩))
  refine Wr_i2l dX8_gust_14 ?_
  refine Wr_aload_n dX8_gust_15 rfl 0 rfl ?_
  refine Wr_getT dX8_gust_16 flX8_30 zl0 (by decide) ?_
  refine Wr_cVi [] dX8_gust_19 mlX8_348 mgX4_allWeights rfl mvX4_allWeights (zrv (zsk_sh m3 0 4) _ rfl rfl) rfl rfl (Nat.le_of_ble_eq_true rfl) rfl (zcI.imp h (fun u6 m5 h => ?_) (fun _ _ h => ⟨rfl, h⟩))
  refine Wr_i2l dX8_gust_22 ?_
  refine Wr_iload_n dX8_gust_23 rfl 2 rfl ?_
  refine Wr_cSl [.long u4.toInt64, .long u6.toInt64, .int x2] dX8_gust_24 mlX8_351 mgX8_inLowestTerms rfl msX8_inLowestTerms  rfl rfl (Nat.le_of_ble_eq_true rfl) rfl (zcL.imp h (fun u8 m7 h => ?_) (fun _ _ h => ⟨rfl, h⟩))
  refine Wr_l2i dX8_gust_27 ?_
  exact Wr_iret .int dX8_gust_28 rfl rfl ⟨rfl, h⟩
theorem cX8_gust_ {d : Nat} {x1 : Int32} {x2 : Int32} {μ : zMem} {KI : Int32 → zMem → Prop} {X : Nat → zMem → Prop} (h : pX8_gust d x1 x2 μ KI X) : zcI (d + 1) mX8_gust [.ref 0, .int x1, .int x2] μ KI X :=
  Ex_of (w := 3) mgX8_gust.2.2.2.2.2 rfl rfl rfl (by decide) (wX8_gust_0 h)

def pX8_calm_21 : Nat → Nat → Int32 → Int32 → Int64 → Int64 → Int32 → zMem → (Int64 → zMem → Prop) → (Nat → zMem → Prop) → Prop
  | 0, _, _, _, _, _, _, _, _, _ => False
  | n + 1, d, x2, x3, x4, x6, x8, μ, KL, X =>
  ((x2 < x8 → zcL d mX8_inLowestTerms [.long x4, .long x6, .int x3] μ (fun u2 m1 => KL u2 m1) X) ∧
  (¬ (x2 < x8) → zcI d mX4_allWeights [.ref (zsk μ 0 4)] μ (fun u4 m3 => zcI d mX8_knockingWeight [.ref 0, .int x8] m3 (fun u6 m5 => ∀ v7 : Int64, v7 = x4 * ((u4 - u6).toInt64) → ∀ v8 : Int64, v8 = x6 * u4.toInt64 → ∀ v9 : Int32, v9 = x8 + 1 → pX8_calm_21 n d x2 x3 v7 v8 v9 m5 KL X) X) X))
set_option maxRecDepth 20000 in
theorem wX8_calm_21 {d : Nat} {KL : Int64 → zMem → Prop} {X : Nat → zMem → Prop} : ∀ (n : Nat) (x2 : Int32) (x3 : Int32) (x4 : Int64) (x6 : Int64) (x8 : Int32) (μ : zMem), pX8_calm_21 n d x2 x3 x4 x6 x8 μ KL X → Wr mX8_calm (d + 1) 0 21 [(0, .ref 0), (2, .int x2), (3, .int x3), (4, .long x4), (6, .long x6), (8, .int x8)] [] μ (kL KL X) := by
  intro n
  induction n with
  | zero =>
    intro x2 x3 x4 x6 x8 μ h
    exact absurd h id
  | succ n ih =>
    intro x2 x3 x4 x6 x8 μ h
    unfold pX8_calm_21 at h
    refine Wr_iload dX8_calm_21 5 rfl ?_
    refine Wr_iload_n dX8_calm_23 rfl 1 rfl ?_
    refine Wr_icmp_gt 65 dX8_calm_24 (by decide) (fun hc => ?_) (fun hc => ?_)
    · have h := h.1 hc
      refine Wr_lload dX8_calm_65 3 rfl ?_
      refine Wr_lload dX8_calm_67 4 rfl ?_
      refine Wr_iload_n dX8_calm_69 rfl 2 rfl ?_
      refine Wr_cSl [.long x4, .long x6, .int x3] dX8_calm_70 mlX8_351 mgX8_inLowestTerms rfl msX8_inLowestTerms  rfl rfl (Nat.le_of_ble_eq_true rfl) rfl (zcL.imp h (fun u2 m1 h => ?_) (fun _ _ h => ⟨rfl, h⟩))
      exact Wr_lret dX8_calm_73 rfl ⟨rfl, h⟩
    · have h := h.2 hc
      refine Wr_aload_n dX8_calm_27 rfl 0 rfl ?_
      refine Wr_getT dX8_calm_28 flX8_30 zl0 (by decide) ?_
      refine Wr_cVi [] dX8_calm_31 mlX8_348 mgX4_allWeights rfl mvX4_allWeights (zrv (zsk_sh μ 0 4) _ rfl rfl) rfl rfl (Nat.le_of_ble_eq_true rfl) rfl (zcI.imp h (fun u4 m3 h => ?_) (fun _ _ h => ⟨rfl, h⟩))
      refine Wr_istore dX8_calm_34 (by decide) rfl ?_
      refine Wr_lload dX8_calm_36 4 rfl ?_
      refine Wr_iload dX8_calm_38 0 rfl ?_
      refine Wr_aload_n dX8_calm_40 rfl 1 rfl ?_
      refine Wr_iload dX8_calm_41 6 rfl ?_
      refine Wr_cVi [.int x8] dX8_calm_43 mlX8_345 mgX8_knockingWeight rfl mvX8_knockingWeight (zrv zl0 _ rfl rfl) rfl rfl (Nat.le_of_ble_eq_true rfl) rfl (zcI.imp h (fun u6 m5 h => ?_) (fun _ _ h => ⟨rfl, h⟩))
      refine Wr_isub dX8_calm_46 ?_
      refine Wr_i2l dX8_calm_47 ?_
      refine Wr_lmul dX8_calm_48 ?_
      obtain ⟨v7, ev7⟩ : ∃ z : Int64, z = x4 * ((u4 - u6).toInt64) := ⟨_, rfl⟩
      have h := h v7 ev7
      refine Wr_topL ev7 ?_
      refine Wr_lstore dX8_calm_49 (by decide) rfl ?_
      refine Wr_lload dX8_calm_51 5 rfl ?_
      refine Wr_iload dX8_calm_53 1 rfl ?_
      refine Wr_i2l dX8_calm_55 ?_
      refine Wr_lmul dX8_calm_56 ?_
      obtain ⟨v8, ev8⟩ : ∃ z : Int64, z = x6 * u4.toInt64 := ⟨_, rfl⟩
      have h := h v8 ev8
      refine Wr_topL ev8 ?_
      refine Wr_lstore dX8_calm_57 (by decide) rfl ?_
      obtain ⟨v9, ev9⟩ : ∃ z : Int32, z = x8 + 1 := ⟨_, rfl⟩
      have h := h v9 ev9
      refine Wr_iinc (v := v9) dX8_calm_59 (q := 6) rfl (by rw [ev9]; rfl) (by decide) rfl ?_
      refine Wr_goto 21 dX8_calm_62 (by decide) ?_
      refine zsub [0, 2, 3, 4, 6, 8] rfl ?_
      exact ih _ _ _ _ _ _ h
def pX8_calm (d : Nat) (x1 : Int32) (x2 : Int32) (x3 : Int32) (μ : zMem) (KL : Int64 → zMem → Prop) (X : Nat → zMem → Prop) : Prop :=
  zcV d mX8_needWhat [.int x3, .int 2] μ (fun m1 => zcV d mX8_needSpan [.int x1, .int x2, .int 8] m1 (fun m2 => ∃ n2 : Nat, pX8_calm_21 n2 d x2 x3 1 1 x1 m2 KL X) X) X
set_option maxRecDepth 20000 in
theorem wX8_calm_0 {d : Nat} {KL : Int64 → zMem → Prop} {X : Nat → zMem → Prop} {x1 : Int32} {x2 : Int32} {x3 : Int32} {μ : zMem} (h : pX8_calm d x1 x2 x3 μ KL X) : Wr mX8_calm (d + 1) 0 0 [(0, .ref 0), (1, .int x1), (2, .int x2), (3, .int x3)] [] μ (kL KL X) := by
  unfold pX8_calm at h
  refine Wr_iload_n dX8_calm_0 rfl 3 rfl ?_
  refine Wr_iconstv (v := 2) dX8_calm_1 (by decide) ?_
  refine Wr_cSv [.int x3, .int 2] dX8_calm_2 mlX8_195 mgX8_needWhat rfl msX8_needWhat  rfl rfl (Nat.le_of_ble_eq_true rfl) rfl (zcV.imp h (fun m1 h => ?_) (fun _ _ h => ⟨rfl, h⟩))
  refine Wr_iload_n dX8_calm_5 rfl 1 rfl ?_
  refine Wr_iload_n dX8_calm_6 rfl 2 rfl ?_
  refine Wr_bipush (v := 8) dX8_calm_7 (by decide) ?_
  refine Wr_cSv [.int x1, .int x2, .int 8] dX8_calm_9 mlX8_266 mgX8_needSpan rfl msX8_needSpan  rfl rfl (Nat.le_of_ble_eq_true rfl) rfl (zcV.imp h (fun m2 h => ?_) (fun _ _ h => ⟨rfl, h⟩))
  refine Wr_lconst (v := 1) dX8_calm_12 (by decide) ?_
  refine Wr_lstore dX8_calm_13 (by decide) rfl ?_
  refine Wr_lconst (v := 1) dX8_calm_15 (by decide) ?_
  refine Wr_lstore dX8_calm_16 (by decide) rfl ?_
  refine Wr_iload_n dX8_calm_18 rfl 3 rfl ?_
  refine Wr_istore dX8_calm_19 (by decide) rfl ?_
  refine zsub [0, 2, 3, 4, 6, 8] rfl ?_
  obtain ⟨n9, h⟩ := h
  exact wX8_calm_21 n9 _ _ _ _ _ _ h
theorem cX8_calm_ {d : Nat} {x1 : Int32} {x2 : Int32} {x3 : Int32} {μ : zMem} {KL : Int64 → zMem → Prop} {X : Nat → zMem → Prop} (h : pX8_calm d x1 x2 x3 μ KL X) : zcL (d + 1) mX8_calm [.ref 0, .int x1, .int x2, .int x3] μ KL X :=
  Ex_of (w := 4) mgX8_calm.2.2.2.2.2 rfl rfl rfl (by decide) (wX8_calm_0 h)

def pX8_knockingWeight_4 : Nat → Nat → Int32 → Int32 → Int32 → zMem → (Int32 → zMem → Prop) → (Nat → zMem → Prop) → Prop
  | 0, _, _, _, _, _, _, _ => False
  | n + 1, d, x1, x2, x3, μ, KI, X =>
  ((4 ≤ x3 → KI x2 μ) ∧
  (¬ (4 ≤ x3) → (vp_in x3 4) ∧ ((μ ((zsk μ 0 4) + 16) x3.toNatClampNeg ≤ 0 → ∀ v1 : Int32, v1 = x3 + 1 → pX8_knockingWeight_4 n d x1 x2 v1 μ KI X) ∧
    (¬ (μ ((zsk μ 0 4) + 16) x3.toNatClampNeg ≤ 0) → zcV d mX8_blow [.ref 0, .ref 47, .int x1, .int x3] μ (fun m2 => zcI d mX0_firstKnock [.ref 92, .int (m2 47 0)] m2 (fun u4 m3 => ((u4 = (-1) → ∀ v5 : Int32, v5 = x3 + 1 → pX8_knockingWeight_4 n d x1 x2 v5 m3 KI X) ∧
      (¬ (u4 = (-1)) → (vp_in x3 4) ∧ ∀ v6 : Int32, v6 = x2 + (m3 ((zsk m3 0 4) + 16) x3.toNatClampNeg) → ∀ v7 : Int32, v7 = x3 + 1 → pX8_knockingWeight_4 n d x1 v6 v7 m3 KI X))) X) X))))
set_option maxRecDepth 20000 in
theorem wX8_knockingWeight_4 {d : Nat} {KI : Int32 → zMem → Prop} {X : Nat → zMem → Prop} : ∀ (n : Nat) (x1 : Int32) (x2 : Int32) (x3 : Int32) (μ : zMem), pX8_knockingWeight_4 n d x1 x2 x3 μ KI X → Wr mX8_knockingWeight (d + 1) 0 4 [(0, .ref 0), (1, .int x1), (2, .int x2), (3, .int x3)] [] μ (kI KI X) := by
  intro n
  induction n with
  | zero =>
    intro x1 x2 x3 μ h
    exact absurd h id
  | succ n ih =>
    intro x1 x2 x3 μ h
    unfold pX8_knockingWeight_4 at h
    refine Wr_iload_n dX8_knockingWeight_4 rfl 3 rfl ?_
    refine Wr_iconstv (v := 4) dX8_knockingWeight_5 (by decide) ?_
    refine Wr_icmp_ge 73 dX8_knockingWeight_6 (by decide) (fun hc => ?_) (fun hc => ?_)
    · have h := h.1 hc
      refine Wr_iload_n dX8_knockingWeight_73 rfl 2 rfl ?_
      exact Wr_iret .int dX8_knockingWeight_74 rfl rfl ⟨rfl, h⟩
    · have h := h.2 hc
      refine Wr_aload_n dX8_knockingWeight_9 rfl 0 rfl ?_
      refine Wr_getT dX8_knockingWeight_10 flX8_30 zl0 (by decide) ?_
      refine Wr_getR 16 dX8_knockingWeight_13 flX8_113 (zsk_sh μ 0 4) rfl (by decide) ?_
      refine Wr_iload_n dX8_knockingWeight_16 rfl 3 rfl ?_
      obtain ⟨hi, h⟩ := h
      refine Wr_iald dX8_knockingWeight_17 (zo4_8 (zsk_sh μ 0 4)) hi ?_
      refine Wr_if_le 67 dX8_knockingWeight_18 (by decide) (fun hc => ?_) (fun hc => ?_)
      · have h := h.1 hc
        obtain ⟨v1, ev1⟩ : ∃ z : Int32, z = x3 + 1 := ⟨_, rfl⟩
        have h := h v1 ev1
        refine Wr_iinc (v := v1) dX8_knockingWeight_67 (q := 3) rfl (by rw [ev1]; rfl) (by decide) rfl ?_
        refine Wr_goto 4 dX8_knockingWeight_70 (by decide) ?_
        refine zsub [0, 1, 2, 3] rfl ?_
        exact ih _ _ _ _ h
      · have h := h.2 hc
        refine Wr_aload_n dX8_knockingWeight_21 rfl 0 rfl ?_
        refine Wr_aload_n dX8_knockingWeight_22 rfl 0 rfl ?_
        refine Wr_getR 46 dX8_knockingWeight_23 flX8_40 zl0 rfl (by decide) ?_
        refine Wr_getR 1 dX8_knockingWeight_26 flX8_116 zl46 rfl (by decide) ?_
        refine Wr_iload_n dX8_knockingWeight_29 rfl 1 rfl ?_
        refine Wr_iload_n dX8_knockingWeight_30 rfl 3 rfl ?_
        refine Wr_cVv [.ref 47, .int x1, .int x3] dX8_knockingWeight_31 mlX8_244 mgX8_blow rfl mvX8_blow (zrv zl0 _ rfl rfl) rfl rfl (Nat.le_of_ble_eq_true rfl) rfl (zcV.imp h (fun m2 h => ?_) (fun _ _ h => ⟨rfl, h⟩))
        refine Wr_aload_n dX8_knockingWeight_34 rfl 0 rfl ?_
        refine Wr_getR 92 dX8_knockingWeight_35 flX8_61 zl0 rfl (by decide) ?_
        refine Wr_aload_n dX8_knockingWeight_38 rfl 0 rfl ?_
        refine Wr_getR 46 dX8_knockingWeight_39 flX8_40 zl0 rfl (by decide) ?_
        refine Wr_getR 1 dX8_knockingWeight_42 flX8_116 zl46 rfl (by decide) ?_
        refine Wr_getI dX8_knockingWeight_45 flX8_117 zl47 rfl ?_
        refine Wr_cVi [.int (m2 47 0)] dX8_knockingWeight_48 mlX8_270 mgX0_firstKnock rfl mvX0_firstKnock (zrv zl92 _ rfl rfl) rfl rfl (Nat.le_of_ble_eq_true rfl) rfl (zcI.imp h (fun u4 m3 h => ?_) (fun _ _ h => ⟨rfl, h⟩))
        refine Wr_iconstv (v := (-1)) dX8_knockingWeight_51 (by decide) ?_
        refine Wr_icmp_eq 67 dX8_knockingWeight_52 (by decide) (fun hc => ?_) (fun hc => ?_)
        · have h := h.1 hc
          obtain ⟨v5, ev5⟩ : ∃ z : Int32, z = x3 + 1 := ⟨_, rfl⟩
          have h := h v5 ev5
          refine Wr_iinc (v := v5) dX8_knockingWeight_67 (q := 3) rfl (by rw [ev5]; rfl) (by decide) rfl ?_
          refine Wr_goto 4 dX8_knockingWeight_70 (by decide) ?_
          refine zsub [0, 1, 2, 3] rfl ?_
          exact ih _ _ _ _ h
        · have h := h.2 hc
          refine Wr_iload_n dX8_knockingWeight_55 rfl 2 rfl ?_
          refine Wr_aload_n dX8_knockingWeight_56 rfl 0 rfl ?_
          refine Wr_getT dX8_knockingWeight_57 flX8_30 zl0 (by decide) ?_
          refine Wr_getR 16 dX8_knockingWeight_60 flX8_113 (zsk_sh m3 0 4) rfl (by decide) ?_
          refine Wr_iload_n dX8_knockingWeight_63 rfl 3 rfl ?_
          obtain ⟨hi, h⟩ := h
          refine Wr_iald dX8_knockingWeight_64 (zo4_8 (zsk_sh m3 0 4)) hi ?_
          refine Wr_iadd dX8_knockingWeight_65 ?_
          obtain ⟨v6, ev6⟩ : ∃ z : Int32, z = x2 + (m3 ((zsk m3 0 4) + 16) x3.toNatClampNeg) := ⟨_, rfl⟩
          have h := h v6 ev6
          refine Wr_top ev6 ?_
          refine Wr_istore_n dX8_knockingWeight_66 rfl (by decide) rfl ?_
          obtain ⟨v7, ev7⟩ : ∃ z : Int32, z = x3 + 1 := ⟨_, rfl⟩
          have h := h v7 ev7
          refine Wr_iinc (v := v7) dX8_knockingWeight_67 (q := 3) rfl (by rw [ev7]; rfl) (by decide) rfl ?_
          refine Wr_goto 4 dX8_knockingWeight_70 (by decide) ?_
          refine zsub [0, 1, 2, 3] rfl ?_
          exact ih _ _ _ _ h
def pX8_knockingWeight (d : Nat) (x1 : Int32) (μ : zMem) (KI : Int32 → zMem → Prop) (X : Nat → zMem → Prop) : Prop :=
  ∃ n2 : Nat, pX8_knockingWeight_4 n2 d x1 0 0 μ KI X
set_option maxRecDepth 20000 in
theorem wX8_knockingWeight_0 {d : Nat} {KI : Int32 → zMem → Prop} {X : Nat → zMem → Prop} {x1 : Int32} {μ : zMem} (h : pX8_knockingWeight d x1 μ KI X) : Wr mX8_knockingWeight (d + 1) 0 0 [(0, .ref 0), (1, .int x1)] [] μ (kI KI X) := by
  unfold pX8_knockingWeight at h
  refine Wr_iconstv (v := 0) dX8_knockingWeight_0 (by decide) ?_
  refine Wr_istore_n dX8_knockingWeight_1 rfl (by decide) rfl ?_
  refine Wr_iconstv (v := 0) dX8_knockingWeight_2 (by decide) ?_
  refine Wr_istore_n dX8_knockingWeight_3 rfl (by decide) rfl ?_
  refine zsub [0, 1, 2, 3] rfl ?_
  obtain ⟨n9, h⟩ := h
  exact wX8_knockingWeight_4 n9 _ _ _ _ h
theorem cX8_knockingWeight_ {d : Nat} {x1 : Int32} {μ : zMem} {KI : Int32 → zMem → Prop} {X : Nat → zMem → Prop} (h : pX8_knockingWeight d x1 μ KI X) : zcI (d + 1) mX8_knockingWeight [.ref 0, .int x1] μ KI X :=
  Ex_of (w := 2) mgX8_knockingWeight.2.2.2.2.2 rfl rfl rfl (by decide) (wX8_knockingWeight_0 h)

def pX8_inLowestTerms_45 (d : Nat) (x0 : Int64) (x2 : Int64) (x4 : Int32) (x5 : Int64) (μ : zMem) (KL : Int64 → zMem → Prop) (X : Nat → zMem → Prop) : Prop :=
  ((x5 = 0 → KL 0 μ) ∧
  (¬ (x5 = 0) → ((x4 = 0 → (¬ x5 = 0) ∧ KL (x0 / x5) μ) ∧
    (¬ (x4 = 0) → (¬ x5 = 0) ∧ KL (x2 / x5) μ))))
set_option maxRecDepth 20000 in
theorem wX8_inLowestTerms_45 {d : Nat} {KL : Int64 → zMem → Prop} {X : Nat → zMem → Prop} {x0 : Int64} {x2 : Int64} {x4 : Int32} {x5 : Int64} {μ : zMem} (h : pX8_inLowestTerms_45 d x0 x2 x4 x5 μ KL X) : Wr mX8_inLowestTerms (d + 1) 0 45 [(0, .long x0), (2, .long x2), (4, .int x4), (5, .long x5)] [] μ (kL KL X) := by
  unfold pX8_inLowestTerms_45 at h
  refine Wr_lload dX8_inLowestTerms_45 3 rfl ?_
  refine Wr_lconst (v := 0) dX8_inLowestTerms_47 (by decide) ?_
  refine Wr_lc_ne 54 dX8_inLowestTerms_48 dX8_inLowestTerms_49 (by decide) (fun hc => ?_) (fun hc => ?_)
  · have h := h.2 hc
    refine Wr_iload dX8_inLowestTerms_54 2 rfl ?_
    refine Wr_if_ne 63 dX8_inLowestTerms_56 (by decide) (fun hc => ?_) (fun hc => ?_)
    · have h := h.2 hc
      refine Wr_lload_n dX8_inLowestTerms_63 rfl 1 rfl ?_
      refine Wr_lload dX8_inLowestTerms_64 3 rfl ?_
      obtain ⟨hi, h⟩ := h
      refine Wr_ldiv dX8_inLowestTerms_66 hi ?_
      exact Wr_lret dX8_inLowestTerms_67 rfl ⟨rfl, h⟩
    · have h := h.1 hc
      refine Wr_lload_n dX8_inLowestTerms_59 rfl 0 rfl ?_
      refine Wr_goto 64 dX8_inLowestTerms_60 (by decide) ?_
      refine Wr_lload dX8_inLowestTerms_64 3 rfl ?_
      obtain ⟨hi, h⟩ := h
      refine Wr_ldiv dX8_inLowestTerms_66 hi ?_
      exact Wr_lret dX8_inLowestTerms_67 rfl ⟨rfl, h⟩
  · have h := h.1 hc
    refine Wr_lconst (v := 0) dX8_inLowestTerms_52 (by decide) ?_
    exact Wr_lret dX8_inLowestTerms_53 rfl ⟨rfl, h⟩
def pX8_inLowestTerms_9 : Nat → Nat → Int64 → Int64 → Int32 → Int64 → Int64 → Int32 → zMem → (Int64 → zMem → Prop) → (Nat → zMem → Prop) → Prop
  | 0, _, _, _, _, _, _, _, _, _, _ => False
  | n + 1, d, x0, x2, x4, x5, x7, x9, μ, KL, X =>
  ((1000 ≤ x9 → pX8_inLowestTerms_45 d x0 x2 x4 x5 μ KL X) ∧
  (¬ (1000 ≤ x9) → ((x7 = 0 → pX8_inLowestTerms_45 d x0 x2 x4 x5 μ KL X) ∧
    (¬ (x7 = 0) → (¬ x7 = 0) ∧ ∀ v1 : Int64, v1 = x5 - x5 / x7 * x7 → ∀ v2 : Int32, v2 = x9 + 1 → pX8_inLowestTerms_9 n d x0 x2 x4 x7 v1 v2 μ KL X))))
set_option maxRecDepth 20000 in
theorem wX8_inLowestTerms_9 {d : Nat} {KL : Int64 → zMem → Prop} {X : Nat → zMem → Prop} : ∀ (n : Nat) (x0 : Int64) (x2 : Int64) (x4 : Int32) (x5 : Int64) (x7 : Int64) (x9 : Int32) (μ : zMem), pX8_inLowestTerms_9 n d x0 x2 x4 x5 x7 x9 μ KL X → Wr mX8_inLowestTerms (d + 1) 0 9 [(0, .long x0), (2, .long x2), (4, .int x4), (5, .long x5), (7, .long x7), (9, .int x9)] [] μ (kL KL X) := by
  intro n
  induction n with
  | zero =>
    intro x0 x2 x4 x5 x7 x9 μ h
    exact absurd h id
  | succ n ih =>
    intro x0 x2 x4 x5 x7 x9 μ h
    unfold pX8_inLowestTerms_9 at h
    refine Wr_iload dX8_inLowestTerms_9 5 rfl ?_
    refine Wr_sipush (v := 1000) dX8_inLowestTerms_11 (by decide) ?_
    refine Wr_icmp_ge 45 dX8_inLowestTerms_14 (by decide) (fun hc => ?_) (fun hc => ?_)
    · have h := h.1 hc
      refine zsub [0, 2, 4, 5] rfl ?_
      exact wX8_inLowestTerms_45 h
    · have h := h.2 hc
      refine Wr_lload dX8_inLowestTerms_17 4 rfl ?_
      refine Wr_lconst (v := 0) dX8_inLowestTerms_19 (by decide) ?_
      refine Wr_lc_eq 45 dX8_inLowestTerms_20 dX8_inLowestTerms_21 (by decide) (fun hc => ?_) (fun hc => ?_)
      · have h := h.1 hc
        refine zsub [0, 2, 4, 5] rfl ?_
        exact wX8_inLowestTerms_45 h
      · have h := h.2 hc
        refine Wr_lload dX8_inLowestTerms_24 3 rfl ?_
        refine Wr_lload dX8_inLowestTerms_26 4 rfl ?_
        obtain ⟨hi, h⟩ := h
        refine Wr_lrem dX8_inLowestTerms_28 hi ?_
        obtain ⟨v1, ev1⟩ : ∃ z : Int64, z = x5 - x5 / x7 * x7 := ⟨_, rfl⟩
        have h := h v1 ev1
        refine Wr_topL ev1 ?_
        refine Wr_lstore dX8_inLowestTerms_29 (by decide) rfl ?_
        refine Wr_lload dX8_inLowestTerms_31 5 rfl ?_
        refine Wr_lstore dX8_inLowestTerms_33 (by decide) rfl ?_
        refine Wr_lload dX8_inLowestTerms_35 1 rfl ?_
        refine Wr_lstore dX8_inLowestTerms_37 (by decide) rfl ?_
        obtain ⟨v2, ev2⟩ : ∃ z : Int32, z = x9 + 1 := ⟨_, rfl⟩
        have h := h v2 ev2
        refine Wr_iinc (v := v2) dX8_inLowestTerms_39 (q := 6) rfl (by rw [ev2]; rfl) (by decide) rfl ?_
        refine Wr_goto 9 dX8_inLowestTerms_42 (by decide) ?_
        refine zsub [0, 2, 4, 5, 7, 9] rfl ?_
        exact ih _ _ _ _ _ _ _ h
def pX8_inLowestTerms (d : Nat) (x0 : Int64) (x2 : Int64) (x4 : Int32) (μ : zMem) (KL : Int64 → zMem → Prop) (X : Nat → zMem → Prop) : Prop :=
  ∃ n2 : Nat, pX8_inLowestTerms_9 n2 d x0 x2 x4 x0 x2 0 μ KL X
set_option maxRecDepth 20000 in
theorem wX8_inLowestTerms_0 {d : Nat} {KL : Int64 → zMem → Prop} {X : Nat → zMem → Prop} {x0 : Int64} {x2 : Int64} {x4 : Int32} {μ : zMem} (h : pX8_inLowestTerms d x0 x2 x4 μ KL X) : Wr mX8_inLowestTerms (d + 1) 0 0 [(0, .long x0), (2, .long x2), (4, .int x4)] [] μ (kL KL X) := by
  unfold pX8_inLowestTerms at h
  refine Wr_lload_n dX8_inLowestTerms_0 rfl 0 rfl ?_
  refine Wr_lstore dX8_inLowestTerms_1 (by decide) rfl ?_
  refine Wr_lload_n dX8_inLowestTerms_3 rfl 2 rfl ?_
  refine Wr_lstore dX8_inLowestTerms_4 (by decide) rfl ?_
  refine Wr_iconstv (v := 0) dX8_inLowestTerms_6 (by decide) ?_
  refine Wr_istore dX8_inLowestTerms_7 (by decide) rfl ?_
  refine zsub [0, 2, 4, 5, 7, 9] rfl ?_
  obtain ⟨n9, h⟩ := h
  exact wX8_inLowestTerms_9 n9 _ _ _ _ _ _ _ h
theorem cX8_inLowestTerms_ {d : Nat} {x0 : Int64} {x2 : Int64} {x4 : Int32} {μ : zMem} {KL : Int64 → zMem → Prop} {X : Nat → zMem → Prop} (h : pX8_inLowestTerms d x0 x2 x4 μ KL X) : zcL (d + 1) mX8_inLowestTerms [.long x0, .long x2, .int x4] μ KL X :=
  Ex_of (w := 5) mgX8_inLowestTerms.2.2.2.2.2 rfl rfl rfl (by decide) (wX8_inLowestTerms_0 h)

def pX8_view_88 : Nat → Nat → Int32 → Int32 → Int32 → Int32 → Int32 → Int32 → Int32 → zMem → (Int32 → zMem → Prop) → (Nat → zMem → Prop) → Prop
  | 0, _, _, _, _, _, _, _, _, _, _, _ => False
  | n + 1, d, x1, x2, x3, x4, x5, x6, x7, μ, KI, X =>
  ((60 - x6 < x7 → KI (if x3 = 1 then x5 else x4) μ) ∧
  (¬ (60 - x6 < x7) → (vp_in x1 6) ∧ ∀ m1 : zMem, m1 = zw μ 84 x1.toNatClampNeg (x6 + x7) → zcV d mX0_put [.ref 92, .ref (zsk m1 0 4), .ref 80, .int x1, .int x1, .int x2, .int 0] m1 (fun m2 => zcI d mX0_lower [.ref 92, .int x1, .int (m2 80 0)] m2 (fun u4 m3 => ((u4 ≤ x4 → ∀ v5 : Int32, v5 = x7 + 1 → pX8_view_88 n d x1 x2 x3 x4 x5 x6 v5 m3 KI X) ∧
    (¬ (u4 ≤ x4) → ∀ v6 : Int32, v6 = x7 + 1 → pX8_view_88 n d x1 x2 x3 u4 x7 x6 v6 m3 KI X))) X) X))
set_option maxRecDepth 20000 in
theorem wX8_view_88 {d : Nat} {KI : Int32 → zMem → Prop} {X : Nat → zMem → Prop} : ∀ (n : Nat) (x1 : Int32) (x2 : Int32) (x3 : Int32) (x4 : Int32) (x5 : Int32) (x6 : Int32) (x7 : Int32) (μ : zMem), pX8_view_88 n d x1 x2 x3 x4 x5 x6 x7 μ KI X → Wr mX8_view (d + 1) 0 88 [(0, .ref 0), (1, .int x1), (2, .int x2), (3, .int x3), (4, .int x4), (5, .int x5), (6, .int x6), (7, .int x7)] [] μ (kI KI X) := by
  intro n
  induction n with
  | zero =>
    intro x1 x2 x3 x4 x5 x6 x7 μ h
    exact absurd h id
  | succ n ih =>
    intro x1 x2 x3 x4 x5 x6 x7 μ h
    unfold pX8_view_88 at h
    refine Wr_iload dX8_view_88 7 rfl ?_
    refine Wr_bipush (v := 60) dX8_view_90 (by decide) ?_
    refine Wr_iload dX8_view_92 6 rfl ?_
    refine Wr_isub dX8_view_94 ?_
    refine Wr_icmp_gt 169 dX8_view_95 (by decide) (fun hc => ?_) (fun hc => ?_)
    · have h := h.1 hc
      refine Wr_iload_n dX8_view_169 rfl 3 rfl ?_
      refine Wr_iconstv (v := 1) dX8_view_170 (by decide) ?_
      have hj1 : Wr mX8_view (d + 1) 0 181 [(0, .ref 0), (1, .int x1), (2, .int x2), (3, .int x3), (4, .int x4), (5, .int x5), (6, .int x6), (7, .int x7)] [.int (if x3 = 1 then x5 else x4)] μ (kI KI X) := by
        exact Wr_iret .int dX8_view_181 rfl rfl ⟨rfl, h⟩
      refine Wr_icmp_ne 179 dX8_view_171 (by decide) (fun hc0 => ?_) (fun hc0 => ?_)
      · skip
        refine Wr_iload dX8_view_179 4 rfl ?_
        exact Wr_top (if_neg hc0) hj1
      · skip
        refine Wr_iload dX8_view_174 5 rfl ?_
        refine Wr_goto 181 dX8_view_176 (by decide) ?_
        exact Wr_top (if_pos hc0) hj1
    · have h := h.2 hc
      refine Wr_aload_n dX8_view_98 rfl 0 rfl ?_
      refine Wr_getR 80 dX8_view_99 flX8_54 zl0 rfl (by decide) ?_
      refine Wr_getR 4 dX8_view_102 flX8_161 zl80 rfl (by decide) ?_
      refine Wr_iload_n dX8_view_105 rfl 1 rfl ?_
      refine Wr_iload dX8_view_106 6 rfl ?_
      refine Wr_iload dX8_view_108 7 rfl ?_
      refine Wr_iadd dX8_view_110 ?_
      obtain ⟨him1, h⟩ := h
      obtain ⟨m1, em1⟩ : ∃ z : zMem, z = zw μ 84 x1.toNatClampNeg (x6 + x7) := ⟨_, rfl⟩
      have h := h m1 em1
      refine Wr_iast dX8_view_111 zl84 him1 ?_
      refine Wr_mu em1 ?_
      refine Wr_aload_n dX8_view_112 rfl 0 rfl ?_
      refine Wr_getR 92 dX8_view_113 flX8_61 zl0 rfl (by decide) ?_
      refine Wr_aload_n dX8_view_116 rfl 0 rfl ?_
      refine Wr_getT dX8_view_117 flX8_30 zl0 (by decide) ?_
      refine Wr_aload_n dX8_view_120 rfl 0 rfl ?_
      refine Wr_getR 80 dX8_view_121 flX8_54 zl0 rfl (by decide) ?_
      refine Wr_iload_n dX8_view_124 rfl 1 rfl ?_
      refine Wr_iload_n dX8_view_125 rfl 1 rfl ?_
      refine Wr_iload_n dX8_view_126 rfl 2 rfl ?_
      refine Wr_iconstv (v := 0) dX8_view_127 (by decide) ?_
      refine Wr_cVv [.ref (zsk m1 0 4), .ref 80, .int x1, .int x1, .int x2, .int 0] dX8_view_128 mlX8_205 mgX0_put rfl mvX0_put (zrv zl92 _ rfl rfl) rfl rfl (Nat.le_of_ble_eq_true rfl) rfl (zcV.imp h (fun m2 h => ?_) (fun _ _ h => ⟨rfl, h⟩))
      refine Wr_aload_n dX8_view_131 rfl 0 rfl ?_
      refine Wr_getR 92 dX8_view_132 flX8_61 zl0 rfl (by decide) ?_
      refine Wr_iload_n dX8_view_135 rfl 1 rfl ?_
      refine Wr_aload_n dX8_view_136 rfl 0 rfl ?_
      refine Wr_getR 80 dX8_view_137 flX8_54 zl0 rfl (by decide) ?_
      refine Wr_getI dX8_view_140 flX8_117 zl80 rfl ?_
      refine Wr_cVi [.int x1, .int (m2 80 0)] dX8_view_143 mlX8_355 mgX0_lower rfl mvX0_lower (zrv zl92 _ rfl rfl) rfl rfl (Nat.le_of_ble_eq_true rfl) rfl (zcI.imp h (fun u4 m3 h => ?_) (fun _ _ h => ⟨rfl, h⟩))
      refine Wr_istore dX8_view_146 (by decide) rfl ?_
      refine Wr_iload dX8_view_148 0 rfl ?_
      refine Wr_iload dX8_view_150 5 rfl ?_
      refine Wr_icmp_le 163 dX8_view_152 (by decide) (fun hc => ?_) (fun hc => ?_)
      · have h := h.1 hc
        obtain ⟨v5, ev5⟩ : ∃ z : Int32, z = x7 + 1 := ⟨_, rfl⟩
        have h := h v5 ev5
        refine Wr_iinc (v := v5) dX8_view_163 (q := 8) rfl (by rw [ev5]; rfl) (by decide) rfl ?_
        refine Wr_goto 88 dX8_view_166 (by decide) ?_
        refine zsub [0, 1, 2, 3, 4, 5, 6, 7] rfl ?_
        exact ih _ _ _ _ _ _ _ _ h
      · have h := h.2 hc
        refine Wr_iload dX8_view_155 0 rfl ?_
        refine Wr_istore dX8_view_157 (by decide) rfl ?_
        refine Wr_iload dX8_view_159 8 rfl ?_
        refine Wr_istore dX8_view_161 (by decide) rfl ?_
        obtain ⟨v6, ev6⟩ : ∃ z : Int32, z = x7 + 1 := ⟨_, rfl⟩
        have h := h v6 ev6
        refine Wr_iinc (v := v6) dX8_view_163 (q := 8) rfl (by rw [ev6]; rfl) (by decide) rfl ?_
        refine Wr_goto 88 dX8_view_166 (by decide) ?_
        refine zsub [0, 1, 2, 3, 4, 5, 6, 7] rfl ?_
        exact ih _ _ _ _ _ _ _ _ h
def pX8_view (d : Nat) (x1 : Int32) (x2 : Int32) (x3 : Int32) (μ : zMem) (KI : Int32 → zMem → Prop) (X : Nat → zMem → Prop) : Prop :=
  zcV d mX8_needIsle [.ref 0, .int x1] μ (fun m1 => zcV d mX8_needHour [.int x2] m1 (fun m2 => zcV d mX8_needWhat [.int x3, .int 3] m2 (fun m3 => zcV d mX8_blow [.ref 0, .ref 47, .int x2, .int 0] m3 (fun m4 => zcI d mX0_lower [.ref 92, .int x1, .int (m4 47 0)] m4 (fun u6 m5 => ((x3 = 0 → KI u6 m5) ∧
  (¬ (x3 = 0) → zcV d mX1_copyFrom [.ref 80, .ref 47] m5 (fun m7 => (vp_in x1 6) ∧ ∀ v8 : Int32, v8 = m7 51 x1.toNatClampNeg → ∃ n2 : Nat, pX8_view_88 n2 d x1 x2 x3 u6 0 v8 1 m7 KI X) X))) X) X) X) X) X
set_option maxRecDepth 20000 in
theorem wX8_view_0 {d : Nat} {KI : Int32 → zMem → Prop} {X : Nat → zMem → Prop} {x1 : Int32} {x2 : Int32} {x3 : Int32} {μ : zMem} (h : pX8_view d x1 x2 x3 μ KI X) : Wr mX8_view (d + 1) 0 0 [(0, .ref 0), (1, .int x1), (2, .int x2), (3, .int x3)] [] μ (kI KI X) := by
  unfold pX8_view at h
  refine Wr_aload_n dX8_view_0 rfl 0 rfl ?_
  refine Wr_iload_n dX8_view_1 rfl 1 rfl ?_
  refine Wr_cVv [.int x1] dX8_view_2 mlX8_146 mgX8_needIsle rfl mvX8_needIsle (zrv zl0 _ rfl rfl) rfl rfl (Nat.le_of_ble_eq_true rfl) rfl (zcV.imp h (fun m1 h => ?_) (fun _ _ h => ⟨rfl, h⟩))
  refine Wr_iload_n dX8_view_5 rfl 2 rfl ?_
  refine Wr_cSv [.int x2] dX8_view_6 mlX8_192 mgX8_needHour rfl msX8_needHour  rfl rfl (Nat.le_of_ble_eq_true rfl) rfl (zcV.imp h (fun m2 h => ?_) (fun _ _ h => ⟨rfl, h⟩))
  refine Wr_iload_n dX8_view_9 rfl 3 rfl ?_
  refine Wr_iconstv (v := 3) dX8_view_10 (by decide) ?_
  refine Wr_cSv [.int x3, .int 3] dX8_view_11 mlX8_195 mgX8_needWhat rfl msX8_needWhat  rfl rfl (Nat.le_of_ble_eq_true rfl) rfl (zcV.imp h (fun m3 h => ?_) (fun _ _ h => ⟨rfl, h⟩))
  refine Wr_aload_n dX8_view_14 rfl 0 rfl ?_
  refine Wr_aload_n dX8_view_15 rfl 0 rfl ?_
  refine Wr_getR 46 dX8_view_16 flX8_40 zl0 rfl (by decide) ?_
  refine Wr_getR 1 dX8_view_19 flX8_116 zl46 rfl (by decide) ?_
  refine Wr_iload_n dX8_view_22 rfl 2 rfl ?_
  refine Wr_iconstv (v := 0) dX8_view_23 (by decide) ?_
  refine Wr_cVv [.ref 47, .int x2, .int 0] dX8_view_24 mlX8_244 mgX8_blow rfl mvX8_blow (zrv zl0 _ rfl rfl) rfl rfl (Nat.le_of_ble_eq_true rfl) rfl (zcV.imp h (fun m4 h => ?_) (fun _ _ h => ⟨rfl, h⟩))
  refine Wr_aload_n dX8_view_27 rfl 0 rfl ?_
  refine Wr_getR 92 dX8_view_28 flX8_61 zl0 rfl (by decide) ?_
  refine Wr_iload_n dX8_view_31 rfl 1 rfl ?_
  refine Wr_aload_n dX8_view_32 rfl 0 rfl ?_
  refine Wr_getR 46 dX8_view_33 flX8_40 zl0 rfl (by decide) ?_
  refine Wr_getR 1 dX8_view_36 flX8_116 zl46 rfl (by decide) ?_
  refine Wr_getI dX8_view_39 flX8_117 zl47 rfl ?_
  refine Wr_cVi [.int x1, .int (m4 47 0)] dX8_view_42 mlX8_355 mgX0_lower rfl mvX0_lower (zrv zl92 _ rfl rfl) rfl rfl (Nat.le_of_ble_eq_true rfl) rfl (zcI.imp h (fun u6 m5 h => ?_) (fun _ _ h => ⟨rfl, h⟩))
  refine Wr_istore dX8_view_45 (by decide) rfl ?_
  refine Wr_iload_n dX8_view_47 rfl 4 rfl ?_
  refine Wr_if_ne 54 dX8_view_48 (by decide) (fun hc => ?_) (fun hc => ?_)
  · have h := h.2 hc
    refine Wr_aload_n dX8_view_54 rfl 1 rfl ?_
    refine Wr_getR 80 dX8_view_55 flX8_54 zl0 rfl (by decide) ?_
    refine Wr_aload_n dX8_view_58 rfl 1 rfl ?_
    refine Wr_getR 46 dX8_view_59 flX8_40 zl0 rfl (by decide) ?_
    refine Wr_getR 1 dX8_view_62 flX8_116 zl46 rfl (by decide) ?_
    refine Wr_cVv [.ref 47] dX8_view_65 mlX8_282 mgX1_copyFrom rfl mvX1_copyFrom (zrv zl80 _ rfl rfl) rfl rfl (Nat.le_of_ble_eq_true rfl) rfl (zcV.imp h (fun m7 h => ?_) (fun _ _ h => ⟨rfl, h⟩))
    refine Wr_iconstv (v := 0) dX8_view_68 (by decide) ?_
    refine Wr_istore dX8_view_69 (by decide) rfl ?_
    refine Wr_aload_n dX8_view_71 rfl 2 rfl ?_
    refine Wr_getR 46 dX8_view_72 flX8_40 zl0 rfl (by decide) ?_
    refine Wr_getR 1 dX8_view_75 flX8_116 zl46 rfl (by decide) ?_
    refine Wr_getR 4 dX8_view_78 flX8_161 zl47 rfl (by decide) ?_
    refine Wr_iload_n dX8_view_81 rfl 3 rfl ?_
    obtain ⟨hi, h⟩ := h
    refine Wr_iald dX8_view_82 zl51 hi ?_
    obtain ⟨v8, ev8⟩ : ∃ z : Int32, z = m7 51 x1.toNatClampNeg := ⟨_, rfl⟩
    have h := h v8 ev8
    refine Wr_top ev8 ?_
    refine Wr_istore dX8_view_83 (by decide) rfl ?_
    refine Wr_iconstv (v := 1) dX8_view_85 (by decide) ?_
    refine Wr_istore dX8_view_86 (by decide) rfl ?_
    refine zsub [0, 1, 2, 3, 4, 5, 6, 7] rfl ?_
    obtain ⟨n9, h⟩ := h
    exact wX8_view_88 n9 _ _ _ _ _ _ _ _ h
  · have h := h.1 hc
    refine Wr_iload dX8_view_51 0 rfl ?_
    exact Wr_iret .int dX8_view_53 rfl rfl ⟨rfl, h⟩
theorem cX8_view_ {d : Nat} {x1 : Int32} {x2 : Int32} {x3 : Int32} {μ : zMem} {KI : Int32 → zMem → Prop} {X : Nat → zMem → Prop} (h : pX8_view d x1 x2 x3 μ KI X) : zcI (d + 1) mX8_view [.ref 0, .int x1, .int x2, .int x3] μ KI X :=
  Ex_of (w := 4) mgX8_view.2.2.2.2.2 rfl rfl rfl (by decide) (wX8_view_0 h)

def pX8_debt (d : Nat) (x1 : Int32) (x2 : Int32) (x3 : Int32) (x4 : Int32) (μ : zMem) (KI : Int32 → zMem → Prop) (X : Nat → zMem → Prop) : Prop :=
  zcV d mX8_needIsle [.ref 0, .int x1] μ (fun m1 => zcV d mX8_needIsle [.ref 0, .int x2] m1 (fun m2 => zcV d mX8_needSpan [.int x3, .int x4, .int 168] m2 (fun m3 => zcV d mX8_needTwo [.int x1, .int x2] m3 (fun m4 => zcV d mX8_sumDebts [.ref 0, .int x3, .int x4] m4 (fun m5 => zcI d mX8_debtLeft [.ref 0, .int x1, .int x2] m5 (fun u7 m6 => KI u7 m6) X) X) X) X) X) X
set_option maxRecDepth 20000 in
theorem wX8_debt_0 {d : Nat} {KI : Int32 → zMem → Prop} {X : Nat → zMem → Prop} {x1 : Int32} {x2 : Int32} {x3 : Int32} {x4 : Int32} {μ : zMem} (h : pX8_debt d x1 x2 x3 x4 μ KI X) : Wr mX8_debt (d + 1) 0 0 [(0, .ref 0), (1, .int x1), (2, .int x2), (3, .int x3), (4, .int x4)] [] μ (kI KI X) := by
  unfold pX8_debt at h
  refine Wr_aload_n dX8_debt_0 rfl 0 rfl ?_
  refine Wr_iload_n dX8_debt_1 rfl 1 rfl ?_
  refine Wr_cVv [.int x1] dX8_debt_2 mlX8_146 mgX8_needIsle rfl mvX8_needIsle (zrv zl0 _ rfl rfl) rfl rfl (Nat.le_of_ble_eq_true rfl) rfl (zcV.imp h (fun m1 h => ?_) (fun _ _ h => ⟨rfl, h⟩))
  refine Wr_aload_n dX8_debt_5 rfl 0 rfl ?_
  refine Wr_iload_n dX8_debt_6 rfl 2 rfl ?_
  refine Wr_cVv [.int x2] dX8_debt_7 mlX8_146 mgX8_needIsle rfl mvX8_needIsle (zrv zl0 _ rfl rfl) rfl rfl (Nat.le_of_ble_eq_true rfl) rfl (zcV.imp h (fun m2 h => ?_) (fun _ _ h => ⟨rfl, h⟩))
  refine Wr_iload_n dX8_debt_10 rfl 3 rfl ?_
  refine Wr_iload dX8_debt_11 4 rfl ?_
  refine Wr_sipush (v := 168) dX8_debt_13 (by decide) ?_
  refine Wr_cSv [.int x3, .int x4, .int 168] dX8_debt_16 mlX8_266 mgX8_needSpan rfl msX8_needSpan  rfl rfl (Nat.le_of_ble_eq_true rfl) rfl (zcV.imp h (fun m3 h => ?_) (fun _ _ h => ⟨rfl, h⟩))
  refine Wr_iload_n dX8_debt_19 rfl 1 rfl ?_
  refine Wr_iload_n dX8_debt_20 rfl 2 rfl ?_
  refine Wr_cSv [.int x1, .int x2] dX8_debt_21 mlX8_227 mgX8_needTwo rfl msX8_needTwo  rfl rfl (Nat.le_of_ble_eq_true rfl) rfl (zcV.imp h (fun m4 h => ?_) (fun _ _ h => ⟨rfl, h⟩))
  refine Wr_aload_n dX8_debt_24 rfl 0 rfl ?_
  refine Wr_iload_n dX8_debt_25 rfl 3 rfl ?_
  refine Wr_iload dX8_debt_26 4 rfl ?_
  refine Wr_cVv [.int x3, .int x4] dX8_debt_28 mlX8_358 mgX8_sumDebts rfl mvX8_sumDebts (zrv zl0 _ rfl rfl) rfl rfl (Nat.le_of_ble_eq_true rfl) rfl (zcV.imp h (fun m5 h => ?_) (fun _ _ h => ⟨rfl, h⟩))
  refine Wr_aload_n dX8_debt_31 rfl 0 rfl ?_
  refine Wr_iload_n dX8_debt_32 rfl 1 rfl ?_
  refine Wr_iload_n dX8_debt_33 rfl 2 rfl ?_
  refine Wr_cVi [.int x1, .int x2] dX8_debt_34 mlX8_361 mgX8_debtLeft rfl mvX8_debtLeft (zrv zl0 _ rfl rfl) rfl rfl (Nat.le_of_ble_eq_true rfl) rfl (zcI.imp h (fun u7 m6 h => ?_) (fun _ _ h => ⟨rfl, h⟩))
  exact Wr_iret .int dX8_debt_37 rfl rfl ⟨rfl, h⟩
theorem cX8_debt_ {d : Nat} {x1 : Int32} {x2 : Int32} {x3 : Int32} {x4 : Int32} {μ : zMem} {KI : Int32 → zMem → Prop} {X : Nat → zMem → Prop} (h : pX8_debt d x1 x2 x3 x4 μ KI X) : zcI (d + 1) mX8_debt [.ref 0, .int x1, .int x2, .int x3, .int x4] μ KI X :=
  Ex_of (w := 5) mgX8_debt.2.2.2.2.2 rfl rfl rfl (by decide) (wX8_debt_0 h)

def pX8_rich_38 : Nat → Nat → Int32 → Int32 → zMem → (Int32 → zMem → Prop) → (Nat → zMem → Prop) → (Int32 → zMem → Prop) → Prop
  | 0, _, _, _, _, _, _, _ => False
  | n + 1, d, x3, x4, μ, KI, X, C21 =>
  ((μ 47 0 ≤ x4 → ∀ v1 : Int32, v1 = x3 + 1 → C21 v1 μ) ∧
  (¬ (μ 47 0 ≤ x4) → (vp_in x4 6) ∧ zcI d mX8_debtLeft [.ref 0, .int x3, .int x4] μ (fun u3 m2 => (vp_in x4 6) ∧ ∀ m4 : zMem, m4 = zw m2 103 x4.toNatClampNeg ((μ 103 x4.toNatClampNeg) + u3) → ∀ v5 : Int32, v5 = x4 + 1 → pX8_rich_38 n d x3 v5 m4 KI X C21) X))
set_option maxRecDepth 20000 in
theorem wX8_rich_38 {d : Nat} {KI : Int32 → zMem → Prop} {X : Nat → zMem → Prop} {C21 : Int32 → zMem → Prop} (hC21 : ∀ (x3 : Int32) (μ : zMem), C21 x3 μ → Wr mX8_rich (d + 1) 0 21 [(0, .ref 0), (3, .int x3)] [] μ (kI KI X)) : ∀ (n : Nat) (x3 : Int32) (x4 : Int32) (μ : zMem), pX8_rich_38 n d x3 x4 μ KI X C21 → Wr mX8_rich (d + 1) 0 38 [(0, .ref 0), (3, .int x3), (4, .int x4)] [] μ (kI KI X) := by
  intro n
  induction n with
  | zero =>
    intro x3 x4 μ h
    exact absurd h id
  | succ n ih =>
    intro x3 x4 μ h
    unfold pX8_rich_38 at h
    refine Wr_iload dX8_rich_38 2 rfl ?_
    refine Wr_aload_n dX8_rich_40 rfl 0 rfl ?_
    refine Wr_getR 46 dX8_rich_41 flX8_40 zl0 rfl (by decide) ?_
    refine Wr_getR 1 dX8_rich_44 flX8_116 zl46 rfl (by decide) ?_
    refine Wr_getI dX8_rich_47 flX8_117 zl47 rfl ?_
    refine Wr_icmp_ge 76 dX8_rich_50 (by decide) (fun hc => ?_) (fun hc => ?_)
    · have h := h.1 hc
      obtain ⟨v1, ev1⟩ : ∃ z : Int32, z = x3 + 1 := ⟨_, rfl⟩
      have h := h v1 ev1
      refine Wr_iinc (v := v1) dX8_rich_76 (q := 1) rfl (by rw [ev1]; rfl) (by decide) rfl ?_
      refine Wr_goto 21 dX8_rich_79 (by decide) ?_
      refine zsub [0, 3] rfl ?_
      exact hC21 _ _ h
    · have h := h.2 hc
      refine Wr_aload_n dX8_rich_53 rfl 0 rfl ?_
      refine Wr_getR 103 dX8_rich_54 flX8_72 zl0 rfl (by decide) ?_
      refine Wr_iload dX8_rich_57 2 rfl ?_
      refine Wr_dup2 dX8_rich_59 rfl rfl ?_
      obtain ⟨hi, h⟩ := h
      refine Wr_iald dX8_rich_60 zl103 hi ?_
      refine Wr_aload_n dX8_rich_61 rfl 0 rfl ?_
      refine Wr_iload_n dX8_rich_62 rfl 1 rfl ?_
      refine Wr_iload dX8_rich_63 2 rfl ?_
      refine Wr_cVi [.int x3, .int x4] dX8_rich_65 mlX8_361 mgX8_debtLeft rfl mvX8_debtLeft (zrv zl0 _ rfl rfl) rfl rfl (Nat.le_of_ble_eq_true rfl) rfl (zcI.imp h (fun u3 m2 h => ?_) (fun _ _ h => ⟨rfl, h⟩))
      refine Wr_iadd dX8_rich_68 ?_
      obtain ⟨him4, h⟩ := h
      obtain ⟨m4, em4⟩ : ∃ z : zMem, z = zw m2 103 x4.toNatClampNeg ((μ 103 x4.toNatClampNeg) + u3) := ⟨_, rfl⟩
      have h := h m4 em4
      refine Wr_iast dX8_rich_69 zl103 him4 ?_
      refine Wr_mu em4 ?_
      obtain ⟨v5, ev5⟩ : ∃ z : Int32, z = x4 + 1 := ⟨_, rfl⟩
      have h := h v5 ev5
      refine Wr_iinc (v := v5) dX8_rich_70 (q := 2) rfl (by rw [ev5]; rfl) (by decide) rfl ?_
      refine Wr_goto 38 dX8_rich_73 (by decide) ?_
      refine zsub [0, 3, 4] rfl ?_
      exact ih _ _ _ h
def pX8_rich_21 : Nat → Nat → Int32 → zMem → (Int32 → zMem → Prop) → (Nat → zMem → Prop) → Prop
  | 0, _, _, _, _, _ => False
  | n + 1, d, x3, μ, KI, X =>
  ((μ 47 0 ≤ x3 → zcI d mX8_mostInTally [.ref 0] μ (fun u2 m1 => KI u2 m1) X) ∧
  (¬ (μ 47 0 ≤ x3) → ∃ n2 : Nat, pX8_rich_38 n2 d x3 0 μ KI X (fun z0 m => pX8_rich_21 n d z0 m KI X)))
set_option maxRecDepth 20000 in
theorem wX8_rich_21 {d : Nat} {KI : Int32 → zMem → Prop} {X : Nat → zMem → Prop} : ∀ (n : Nat) (x3 : Int32) (μ : zMem), pX8_rich_21 n d x3 μ KI X → Wr mX8_rich (d + 1) 0 21 [(0, .ref 0), (3, .int x3)] [] μ (kI KI X) := by
  intro n
  induction n with
  | zero =>
    intro x3 μ h
    exact absurd h id
  | succ n ih =>
    intro x3 μ h
    unfold pX8_rich_21 at h
    refine Wr_iload_n dX8_rich_21 rfl 1 rfl ?_
    refine Wr_aload_n dX8_rich_22 rfl 0 rfl ?_
    refine Wr_getR 46 dX8_rich_23 flX8_40 zl0 rfl (by decide) ?_
    refine Wr_getR 1 dX8_rich_26 flX8_116 zl46 rfl (by decide) ?_
    refine Wr_getI dX8_rich_29 flX8_117 zl47 rfl ?_
    refine Wr_icmp_ge 82 dX8_rich_32 (by decide) (fun hc => ?_) (fun hc => ?_)
    · have h := h.1 hc
      refine Wr_aload_n dX8_rich_82 rfl 0 rfl ?_
      refine Wr_cVi [] dX8_rich_83 mlX8_276 mgX8_mostInTally rfl mvX8_mostInTally (zrv zl0 _ rfl rfl) rfl rfl (Nat.le_of_ble_eq_true rfl) rfl (zcI.imp h (fun u2 m1 h => ?_) (fun _ _ h => ⟨rfl, h⟩))
      exact Wr_iret .int dX8_rich_86 rfl rfl ⟨rfl, h⟩
    · have h := h.2 hc
      refine Wr_iconstv (v := 0) dX8_rich_35 (by decide) ?_
      refine Wr_istore dX8_rich_36 (by decide) rfl ?_
      refine zsub [0, 3, 4] rfl ?_
      obtain ⟨n9, h⟩ := h
      exact wX8_rich_38 (fun z0 m h => ih z0 m h) n9 _ _ _ h
def pX8_rich (d : Nat) (x1 : Int32) (x2 : Int32) (μ : zMem) (KI : Int32 → zMem → Prop) (X : Nat → zMem → Prop) : Prop :=
  zcV d mX8_needSpan [.int x1, .int x2, .int 168] μ (fun m1 => zcV d mX8_sumDebts [.ref 0, .int x1, .int x2] m1 (fun m2 => zcV d mX8_clearTally [.ref 0, .int 0] m2 (fun m3 => ∃ n2 : Nat, pX8_rich_21 n2 d 0 m3 KI X) X) X) X
set_option maxRecDepth 20000 in
theorem wX8_rich_0 {d : Nat} {KI : Int32 → zMem → Prop} {X : Nat → zMem → Prop} {x1 : Int32} {x2 : Int32} {μ : zMem} (h : pX8_rich d x1 x2 μ KI X) : Wr mX8_rich (d + 1) 0 0 [(0, .ref 0), (1, .int x1), (2, .int x2)] [] μ (kI KI X) := by
  unfold pX8_rich at h
  refine Wr_iload_n dX8_rich_0 rfl 1 rfl ?_
  refine Wr_iload_n dX8_rich_1 rfl 2 rfl ?_
  refine Wr_sipush (v := 168) dX8_rich_2 (by decide) ?_
  refine Wr_cSv [.int x1, .int x2, .int 168] dX8_rich_5 mlX8_266 mgX8_needSpan rfl msX8_needSpan  rfl rfl (Nat.le_of_ble_eq_true rfl) rfl (zcV.imp h (fun m1 h => ?_) (fun _ _ h => ⟨rfl, h⟩))
  refine Wr_aload_n dX8_rich_8 rfl 0 rfl ?_
  refine Wr_iload_n dX8_rich_9 rfl 1 rfl ?_
  refine Wr_iload_n dX8_rich_10 rfl 2 rfl ?_
  refine Wr_cVv [.int x1, .int x2] dX8_rich_11 mlX8_358 mgX8_sumDebts rfl mvX8_sumDebts (zrv zl0 _ rfl rfl) rfl rfl (Nat.le_of_ble_eq_true rfl) rfl (zcV.imp h (fun m2 h => ?_) (fun _ _ h => ⟨rfl, h⟩))
  refine Wr_aload_n dX8_rich_14 rfl 0 rfl ?_
  refine Wr_iconstv (v := 0) dX8_rich_15 (by decide) ?_
  refine Wr_cVv [.int 0] dX8_rich_16 mlX8_273 mgX8_clearTally rfl mvX8_clearTally (zrv zl0 _ rfl rfl) rfl rfl (Nat.le_of_ble_eq_true rfl) rfl (zcV.imp h (fun m3 h => ?_) (fun _ _ h => ⟨rfl, h⟩))
  refine Wr_iconstv (v := 0) dX8_rich_19 (by decide) ?_
  refine Wr_istore_n dX8_rich_20 rfl (by decide) rfl ?_
  refine zsub [0, 3] rfl ?_
  obtain ⟨n9, h⟩ := h
  exact wX8_rich_21 n9 _ _ h
theorem cX8_rich_ {d : Nat} {x1 : Int32} {x2 : Int32} {μ : zMem} {KI : Int32 → zMem → Prop} {X : Nat → zMem → Prop} (h : pX8_rich d x1 x2 μ KI X) : zcI (d + 1) mX8_rich [.ref 0, .int x1, .int x2] μ KI X :=
  Ex_of (w := 3) mgX8_rich.2.2.2.2.2 rfl rfl rfl (by decide) (wX8_rich_0 h)

def pX8_sumDebts_47 : Nat → Nat → Int32 → Int32 → Int32 → zMem → (zMem → Prop) → (Nat → zMem → Prop) → (Int32 → Int32 → zMem → Prop) → Prop
  | 0, _, _, _, _, _, _, _, _ => False
  | n + 1, d, x2, x3, x4, μ, KV, X, C26 =>
  ((μ 47 0 ≤ x4 → ∀ v1 : Int32, v1 = x3 + 1 → C26 x2 v1 μ) ∧
  (¬ (μ 47 0 ≤ x4) → zcI d mX0_rainFrom [.ref 92, .int x4, .int (μ 47 0)] μ (fun u3 m2 => ((u3 = (-1) → ∀ v4 : Int32, v4 = x4 + 1 → pX8_sumDebts_47 n d x2 x3 v4 m2 KV X C26) ∧
    (¬ (u3 = (-1)) → (vp_in ((x4 * 6) + u3) 36) ∧ (vp_in ((x4 * 6) + u3) 36) ∧ ∀ m5 : zMem, m5 = zw m2 104 ((x4 * 6) + u3).toNatClampNeg ((m2 104 ((x4 * 6) + u3).toNatClampNeg) + 1) → ∀ v6 : Int32, v6 = x4 + 1 → pX8_sumDebts_47 n d x2 x3 v6 m5 KV X C26))) X))
set_option maxRecDepth 20000 in
theorem wX8_sumDebts_47 {d : Nat} {KV : zMem → Prop} {X : Nat → zMem → Prop} {C26 : Int32 → Int32 → zMem → Prop} (hC26 : ∀ (x2 : Int32) (x3 : Int32) (μ : zMem), C26 x2 x3 μ → Wr mX8_sumDebts (d + 1) 0 26 [(0, .ref 0), (2, .int x2), (3, .int x3)] [] μ (kV KV X)) : ∀ (n : Nat) (x2 : Int32) (x3 : Int32) (x4 : Int32) (μ : zMem), pX8_sumDebts_47 n d x2 x3 x4 μ KV X C26 → Wr mX8_sumDebts (d + 1) 0 47 [(0, .ref 0), (2, .int x2), (3, .int x3), (4, .int x4)] [] μ (kV KV X) := by
  intro n
  induction n with
  | zero =>
    intro x2 x3 x4 μ h
    exact absurd h id
  | succ n ih =>
    intro x2 x3 x4 μ h
    unfold pX8_sumDebts_47 at h
    refine Wr_iload dX8_sumDebts_47 3 rfl ?_
    refine Wr_aload_n dX8_sumDebts_49 rfl 0 rfl ?_
    refine Wr_getR 46 dX8_sumDebts_50 flX8_40 zl0 rfl (by decide) ?_
    refine Wr_getR 1 dX8_sumDebts_53 flX8_116 zl46 rfl (by decide) ?_
    refine Wr_getI dX8_sumDebts_56 flX8_117 zl47 rfl ?_
    refine Wr_icmp_ge 112 dX8_sumDebts_59 (by decide) (fun hc => ?_) (fun hc => ?_)
    · have h := h.1 hc
      obtain ⟨v1, ev1⟩ : ∃ z : Int32, z = x3 + 1 := ⟨_, rfl⟩
      have h := h v1 ev1
      refine Wr_iinc (v := v1) dX8_sumDebts_112 (q := 2) rfl (by rw [ev1]; rfl) (by decide) rfl ?_
      refine Wr_goto 26 dX8_sumDebts_115 (by decide) ?_
      refine zsub [0, 2, 3] rfl ?_
      exact hC26 _ _ _ h
    · have h := h.2 hc
      refine Wr_aload_n dX8_sumDebts_62 rfl 0 rfl ?_
      refine Wr_getR 92 dX8_sumDebts_63 flX8_61 zl0 rfl (by decide) ?_
      refine Wr_iload dX8_sumDebts_66 3 rfl ?_
      refine Wr_aload_n dX8_sumDebts_68 rfl 0 rfl ?_
      refine Wr_getR 46 dX8_sumDebts_69 flX8_40 zl0 rfl (by decide) ?_
      refine Wr_getR 1 dX8_sumDebts_72 flX8_116 zl46 rfl (by decide) ?_
      refine Wr_getI dX8_sumDebts_75 flX8_117 zl47 rfl ?_
      refine Wr_cVi [.int x4, .int (μ 47 0)] dX8_sumDebts_78 mlX8_248 mgX0_rainFrom rfl mvX0_rainFrom (zrv zl92 _ rfl rfl) rfl rfl (Nat.le_of_ble_eq_true rfl) rfl (zcI.imp h (fun u3 m2 h => ?_) (fun _ _ h => ⟨rfl, h⟩))
      refine Wr_istore dX8_sumDebts_81 (by decide) rfl ?_
      refine Wr_iload dX8_sumDebts_83 0 rfl ?_
      refine Wr_iconstv (v := (-1)) dX8_sumDebts_85 (by decide) ?_
      refine Wr_icmp_eq 106 dX8_sumDebts_86 (by decide) (fun hc => ?_) (fun hc => ?_)
      · have h := h.1 hc
        obtain ⟨v4, ev4⟩ : ∃ z : Int32, z = x4 + 1 := ⟨_, rfl⟩
        have h := h v4 ev4
        refine Wr_iinc (v := v4) dX8_sumDebts_106 (q := 4) rfl (by rw [ev4]; rfl) (by decide) rfl ?_
        refine Wr_goto 47 dX8_sumDebts_109 (by decide) ?_
        refine zsub [0, 2, 3, 4] rfl ?_
        exact ih _ _ _ _ h
      · have h := h.2 hc
        refine Wr_aload_n dX8_sumDebts_89 rfl 1 rfl ?_
        refine Wr_getR 104 dX8_sumDebts_90 flX8_76 zl0 rfl (by decide) ?_
        refine Wr_iload dX8_sumDebts_93 4 rfl ?_
        refine Wr_bipush (v := 6) dX8_sumDebts_95 (by decide) ?_
        refine Wr_imul dX8_sumDebts_97 ?_
        refine Wr_iload dX8_sumDebts_98 0 rfl ?_
        refine Wr_iadd dX8_sumDebts_100 ?_
        refine Wr_dup2 dX8_sumDebts_101 rfl rfl ?_
        obtain ⟨hi, h⟩ := h
        refine Wr_iald dX8_sumDebts_102 zl104 hi ?_
        refine Wr_iconstv (v := 1) dX8_sumDebts_103 (by decide) ?_
        refine Wr_iadd dX8_sumDebts_104 ?_
        obtain ⟨him5, h⟩ := h
        obtain ⟨m5, em5⟩ : ∃ z : zMem, z = zw m2 104 ((x4 * 6) + u3).toNatClampNeg ((m2 104 ((x4 * 6) + u3).toNatClampNeg) + 1) := ⟨_, rfl⟩
        have h := h m5 em5
        refine Wr_iast dX8_sumDebts_105 zl104 him5 ?_
        refine Wr_mu em5 ?_
        obtain ⟨v6, ev6⟩ : ∃ z : Int32, z = x4 + 1 := ⟨_, rfl⟩
        have h := h v6 ev6
        refine Wr_iinc (v := v6) dX8_sumDebts_106 (q := 4) rfl (by rw [ev6]; rfl) (by decide) rfl ?_
        refine Wr_goto 47 dX8_sumDebts_109 (by decide) ?_
        refine zsub [0, 2, 3, 4] rfl ?_
        exact ih _ _ _ _ h
def pX8_sumDebts_26 : Nat → Nat → Int32 → Int32 → zMem → (zMem → Prop) → (Nat → zMem → Prop) → Prop
  | 0, _, _, _, _, _, _ => False
  | n + 1, d, x2, x3, μ, KV, X =>
  ((x2 < x3 → KV μ) ∧
  (¬ (x2 < x3) → zcV d mX8_blow [.ref 0, .ref 47, .int x3, .int 0] μ (fun m1 => ∃ n2 : Nat, pX8_sumDebts_47 n2 d x2 x3 0 m1 KV X (fun z0 z1 m => pX8_sumDebts_26 n d z0 z1 m KV X)) X))
set_option maxRecDepth 20000 in
theorem wX8_sumDebts_26 {d : Nat} {KV : zMem → Prop} {X : Nat → zMem → Prop} : ∀ (n : Nat) (x2 : Int32) (x3 : Int32) (μ : zMem), pX8_sumDebts_26 n d x2 x3 μ KV X → Wr mX8_sumDebts (d + 1) 0 26 [(0, .ref 0), (2, .int x2), (3, .int x3)] [] μ (kV KV X) := by
  intro n
  induction n with
  | zero =>
    intro x2 x3 μ h
    exact absurd h id
  | succ n ih =>
    intro x2 x3 μ h
    unfold pX8_sumDebts_26 at h
    refine Wr_iload_n dX8_sumDebts_26 rfl 2 rfl ?_
    refine Wr_iload_n dX8_sumDebts_27 rfl 1 rfl ?_
    refine Wr_icmp_gt 118 dX8_sumDebts_28 (by decide) (fun hc => ?_) (fun hc => ?_)
    · have h := h.1 hc
      exact Wr_vret dX8_sumDebts_118 rfl ⟨rfl, h⟩
    · have h := h.2 hc
      refine Wr_aload_n dX8_sumDebts_31 rfl 0 rfl ?_
      refine Wr_aload_n dX8_sumDebts_32 rfl 0 rfl ?_
      refine Wr_getR 46 dX8_sumDebts_33 flX8_40 zl0 rfl (by decide) ?_
      refine Wr_getR 1 dX8_sumDebts_36 flX8_116 zl46 rfl (by decide) ?_
      refine Wr_iload_n dX8_sumDebts_39 rfl 2 rfl ?_
      refine Wr_iconstv (v := 0) dX8_sumDebts_40 (by decide) ?_
      refine Wr_cVv [.ref 47, .int x3, .int 0] dX8_sumDebts_41 mlX8_244 mgX8_blow rfl mvX8_blow (zrv zl0 _ rfl rfl) rfl rfl (Nat.le_of_ble_eq_true rfl) rfl (zcV.imp h (fun m1 h => ?_) (fun _ _ h => ⟨rfl, h⟩))
      refine Wr_iconstv (v := 0) dX8_sumDebts_44 (by decide) ?_
      refine Wr_istore dX8_sumDebts_45 (by decide) rfl ?_
      refine zsub [0, 2, 3, 4] rfl ?_
      obtain ⟨n9, h⟩ := h
      exact wX8_sumDebts_47 (fun z0 z1 m h => ih z0 z1 m h) n9 _ _ _ _ h
def pX8_sumDebts_2 : Nat → Nat → Int32 → Int32 → Int32 → zMem → (zMem → Prop) → (Nat → zMem → Prop) → Prop
  | 0, _, _, _, _, _, _, _ => False
  | n + 1, d, x1, x2, x3, μ, KV, X =>
  ((36 ≤ x3 → ∃ n2 : Nat, pX8_sumDebts_26 n2 d x2 x1 μ KV X) ∧
  (¬ (36 ≤ x3) → (vp_in x3 36) ∧ ∀ m1 : zMem, m1 = zw μ 104 x3.toNatClampNeg 0 → ∀ v2 : Int32, v2 = x3 + 1 → pX8_sumDebts_2 n d x1 x2 v2 m1 KV X))
set_option maxRecDepth 20000 in
theorem wX8_sumDebts_2 {d : Nat} {KV : zMem → Prop} {X : Nat → zMem → Prop} : ∀ (n : Nat) (x1 : Int32) (x2 : Int32) (x3 : Int32) (μ : zMem), pX8_sumDebts_2 n d x1 x2 x3 μ KV X → Wr mX8_sumDebts (d + 1) 0 2 [(0, .ref 0), (1, .int x1), (2, .int x2), (3, .int x3)] [] μ (kV KV X) := by
  intro n
  induction n with
  | zero =>
    intro x1 x2 x3 μ h
    exact absurd h id
  | succ n ih =>
    intro x1 x2 x3 μ h
    unfold pX8_sumDebts_2 at h
    refine Wr_iload_n dX8_sumDebts_2 rfl 3 rfl ?_
    refine Wr_aload_n dX8_sumDebts_3 rfl 0 rfl ?_
    refine Wr_getR 104 dX8_sumDebts_4 flX8_76 zl0 rfl (by decide) ?_
    refine Wr_alen dX8_sumDebts_7 zl104 (by decide) ?_
    refine Wr_icmp_ge 24 dX8_sumDebts_8 (by decide) (fun hc => ?_) (fun hc => ?_)
    · have h := h.1 hc
      refine Wr_iload_n dX8_sumDebts_24 rfl 1 rfl ?_
      refine Wr_istore_n dX8_sumDebts_25 rfl (by decide) rfl ?_
      refine zsub [0, 2, 3] rfl ?_
      obtain ⟨n9, h⟩ := h
      exact wX8_sumDebts_26 n9 _ _ _ h
    · have h := h.2 hc
      refine Wr_aload_n dX8_sumDebts_11 rfl 0 rfl ?_
      refine Wr_getR 104 dX8_sumDebts_12 flX8_76 zl0 rfl (by decide) ?_
      refine Wr_iload_n dX8_sumDebts_15 rfl 3 rfl ?_
      refine Wr_iconstv (v := 0) dX8_sumDebts_16 (by decide) ?_
      obtain ⟨him1, h⟩ := h
      obtain ⟨m1, em1⟩ : ∃ z : zMem, z = zw μ 104 x3.toNatClampNeg 0 := ⟨_, rfl⟩
      have h := h m1 em1
      refine Wr_iast dX8_sumDebts_17 zl104 him1 ?_
      refine Wr_mu em1 ?_
      obtain ⟨v2, ev2⟩ : ∃ z : Int32, z = x3 + 1 := ⟨_, rfl⟩
      have h := h v2 ev2
      refine Wr_iinc (v := v2) dX8_sumDebts_18 (q := 3) rfl (by rw [ev2]; rfl) (by decide) rfl ?_
      refine Wr_goto 2 dX8_sumDebts_21 (by decide) ?_
      refine zsub [0, 1, 2, 3] rfl ?_
      exact ih _ _ _ _ h
def pX8_sumDebts (d : Nat) (x1 : Int32) (x2 : Int32) (μ : zMem) (KV : zMem → Prop) (X : Nat → zMem → Prop) : Prop :=
  ∃ n2 : Nat, pX8_sumDebts_2 n2 d x1 x2 0 μ KV X
set_option maxRecDepth 20000 in
theorem wX8_sumDebts_0 {d : Nat} {KV : zMem → Prop} {X : Nat → zMem → Prop} {x1 : Int32} {x2 : Int32} {μ : zMem} (h : pX8_sumDebts d x1 x2 μ KV X) : Wr mX8_sumDebts (d + 1) 0 0 [(0, .ref 0), (1, .int x1), (2, .int x2)] [] μ (kV KV X) := by
  unfold pX8_sumDebts at h
  refine Wr_iconstv (v := 0) dX8_sumDebts_0 (by decide) ?_
  refine Wr_istore_n dX8_sumDebts_1 rfl (by decide) rfl ?_
  refine zsub [0, 1, 2, 3] rfl ?_
  obtain ⟨n9, h⟩ := h
  exact wX8_sumDebts_2 n9 _ _ _ _ h
theorem cX8_sumDebts_ {d : Nat} {x1 : Int32} {x2 : Int32} {μ : zMem} {KV : zMem → Prop} {X : Nat → zMem → Prop} (h : pX8_sumDebts d x1 x2 μ KV X) : zcV (d + 1) mX8_sumDebts [.ref 0, .int x1, .int x2] μ KV X :=
  Ex_of (w := 3) mgX8_sumDebts.2.2.2.2.2 rfl rfl rfl (by decide) (wX8_sumDebts_0 h)

def pX8_debtLeft (d : Nat) (x1 : Int32) (x2 : Int32) (μ : zMem) (KI : Int32 → zMem → Prop) (X : Nat → zMem → Prop) : Prop :=
  (vp_in ((x1 * 6) + x2) 36) ∧ (vp_in ((x2 * 6) + x1) 36) ∧ ∀ v1 : Int32, v1 = (μ 104 ((x1 * 6) + x2).toNatClampNeg) - (μ 104 ((x2 * 6) + x1).toNatClampNeg) → KI (zmax v1 0) μ
set_option maxRecDepth 20000 in
theorem wX8_debtLeft_0 {d : Nat} {KI : Int32 → zMem → Prop} {X : Nat → zMem → Prop} {x1 : Int32} {x2 : Int32} {μ : zMem} (h : pX8_debtLeft d x1 x2 μ KI X) : Wr mX8_debtLeft (d + 1) 0 0 [(0, .ref 0), (1, .int x1), (2, .int x2)] [] μ (kI KI X) := by
  unfold pX8_debtLeft at h
  refine Wr_aload_n dX8_debtLeft_0 rfl 0 rfl ?_
  refine Wr_getR 104 dX8_debtLeft_1 flX8_76 zl0 rfl (by decide) ?_
  refine Wr_iload_n dX8_debtLeft_4 rfl 1 rfl ?_
  refine Wr_bipush (v := 6) dX8_debtLeft_5 (by decide) ?_
  refine Wr_imul dX8_debtLeft_7 ?_
  refine Wr_iload_n dX8_debtLeft_8 rfl 2 rfl ?_
  refine Wr_iadd dX8_debtLeft_9 ?_
  obtain ⟨hi, h⟩ := h
  refine Wr_iald dX8_debtLeft_10 zl104 hi ?_
  refine Wr_aload_n dX8_debtLeft_11 rfl 0 rfl ?_
  refine Wr_getR 104 dX8_debtLeft_12 flX8_76 zl0 rfl (by decide) ?_
  refine Wr_iload_n dX8_debtLeft_15 rfl 2 rfl ?_
  refine Wr_bipush (v := 6) dX8_debtLeft_16 (by decide) ?_
  refine Wr_imul dX8_debtLeft_18 ?_
  refine Wr_iload_n dX8_debtLeft_19 rfl 1 rfl ?_
  refine Wr_iadd dX8_debtLeft_20 ?_
  obtain ⟨hi, h⟩ := h
  refine Wr_iald dX8_debtLeft_21 zl104 hi ?_
  refine Wr_isub dX8_debtLeft_22 ?_
  obtain ⟨v1, ev1⟩ : ∃ z : Int32, z = (μ 104 ((x1 * 6) + x2).toNatClampNeg) - (μ 104 ((x2 * 6) + x1).toNatClampNeg) := ⟨_, rfl⟩
  have h := h v1 ev1
  refine Wr_top ev1 ?_
  refine Wr_istore_n dX8_debtLeft_23 rfl (by decide) rfl ?_
  refine Wr_iload_n dX8_debtLeft_24 rfl 0 rfl ?_
  refine Wr_iconstv (v := 0) dX8_debtLeft_25 (by decide) ?_
  refine Wr_mmax dX8_debtLeft_26 mlX8_364 (Nat.le_of_ble_eq_true rfl) ?_
  exact Wr_iret .int dX8_debtLeft_29 rfl rfl ⟨rfl, h⟩
theorem cX8_debtLeft_ {d : Nat} {x1 : Int32} {x2 : Int32} {μ : zMem} {KI : Int32 → zMem → Prop} {X : Nat → zMem → Prop} (h : pX8_debtLeft d x1 x2 μ KI X) : zcI (d + 1) mX8_debtLeft [.ref 0, .int x1, .int x2] μ KI X :=
  Ex_of (w := 3) mgX8_debtLeft.2.2.2.2.2 rfl rfl rfl (by decide) (wX8_debtLeft_0 h)

def pX8_week_135 (d : Nat) (x2 : Int32) (x4 : Int32) (μ : zMem) (KI : Int32 → zMem → Prop) (X : Nat → zMem → Prop) : Prop :=
  ((x2 = (-1) → KI x4 μ) ∧
  (¬ (x2 = (-1)) → (vp_in x2 6) ∧ KI (μ 84 x2.toNatClampNeg) μ))
set_option maxRecDepth 20000 in
theorem wX8_week_135 {d : Nat} {KI : Int32 → zMem → Prop} {X : Nat → zMem → Prop} {x2 : Int32} {x4 : Int32} {μ : zMem} (h : pX8_week_135 d x2 x4 μ KI X) : Wr mX8_week (d + 1) 0 135 [(0, .ref 0), (2, .int x2), (4, .int x4)] [] μ (kI KI X) := by
  unfold pX8_week_135 at h
  refine Wr_iload_n dX8_week_135 rfl 1 rfl ?_
  refine Wr_iconstv (v := (-1)) dX8_week_136 (by decide) ?_
  refine Wr_icmp_ne 145 dX8_week_137 (by decide) (fun hc => ?_) (fun hc => ?_)
  · have h := h.2 hc
    refine Wr_aload_n dX8_week_145 rfl 0 rfl ?_
    refine Wr_getR 80 dX8_week_146 flX8_54 zl0 rfl (by decide) ?_
    refine Wr_getR 4 dX8_week_149 flX8_161 zl80 rfl (by decide) ?_
    refine Wr_iload_n dX8_week_152 rfl 1 rfl ?_
    obtain ⟨hi, h⟩ := h
    refine Wr_iald dX8_week_153 zl84 hi ?_
    exact Wr_iret .int dX8_week_154 rfl rfl ⟨rfl, h⟩
  · have h := h.1 hc
    refine Wr_iload dX8_week_140 2 rfl ?_
    refine Wr_goto 154 dX8_week_142 (by decide) ?_
    exact Wr_iret .int dX8_week_154 rfl rfl ⟨rfl, h⟩
def pX8_week_32 : Nat → Nat → Int32 → Int32 → Int32 → Int32 → zMem → (Int32 → zMem → Prop) → (Nat → zMem → Prop) → Prop
  | 0, _, _, _, _, _, _, _, _ => False
  | n + 1, d, x2, x3, x4, x5, μ, KI, X =>
  ((7 ≤ x5 → pX8_week_135 d x2 x4 μ KI X) ∧
  (¬ (7 ≤ x5) → ((μ 80 0 ≤ 0 → pX8_week_135 d x2 x4 μ KI X) ∧
    (¬ (μ 80 0 ≤ 0) → zcI d mX8_nextSeed [.int x3] μ (fun u2 m1 => zcI d mX8_drawOf [.int u2, .int (m1 80 0)] m1 (fun u4 m3 => zcI d mX8_nextSeed [.int u2] m3 (fun u6 m5 => (vp_in u4 6) ∧ zcI d mX8_drawOf [.int u6, .int 9] m5 (fun u8 m7 => ∀ v9 : Int32, v9 = ((m5 84 u4.toNatClampNeg) + 1) + u8 → (vp_in u4 6) ∧ ∀ m10 : zMem, m10 = zw m7 84 u4.toNatClampNeg (zmin v9 60) → ((x2 = (-1) → zcI d mX8_knockingHours [.ref 0, .int (x5 * 24)] m10 (fun u13 m12 => ∀ v14 : Int32, v14 = x5 + 1 → pX8_week_32 n d x2 u6 (x4 + u13) v14 m12 KI X) X) ∧
      (¬ (x2 = (-1)) → ∀ v11 : Int32, v11 = x5 + 1 → pX8_week_32 n d x2 u6 x4 v11 m10 KI X))) X) X) X) X))))
set_option maxRecDepth 20000 in
theorem wX8_week_32 {d : Nat} {KI : Int32 → zMem → Prop} {X : Nat → zMem → Prop} : ∀ (n : Nat) (x2 : Int32) (x3 : Int32) (x4 : Int32) (x5 : Int32) (μ : zMem), pX8_week_32 n d x2 x3 x4 x5 μ KI X → Wr mX8_week (d + 1) 0 32 [(0, .ref 0), (2, .int x2), (3, .int x3), (4, .int x4), (5, .int x5)] [] μ (kI KI X) := by
  intro n
  induction n with
  | zero =>
    intro x2 x3 x4 x5 μ h
    exact absurd h id
  | succ n ih =>
    intro x2 x3 x4 x5 μ h
    unfold pX8_week_32 at h
    refine Wr_iload dX8_week_32 4 rfl ?_
    refine Wr_bipush (v := 7) dX8_week_34 (by decide) ?_
    refine Wr_icmp_ge 135 dX8_week_36 (by decide) (fun hc => ?_) (fun hc => ?_)
    · have h := h.1 hc
      refine zsub [0, 2, 4] rfl ?_
      exact wX8_week_135 h
    · have h := h.2 hc
      refine Wr_aload_n dX8_week_39 rfl 0 rfl ?_
      refine Wr_getR 80 dX8_week_40 flX8_54 zl0 rfl (by decide) ?_
      refine Wr_getI dX8_week_43 flX8_117 zl80 rfl ?_
      refine Wr_if_le 135 dX8_week_46 (by decide) (fun hc => ?_) (fun hc => ?_)
      · have h := h.1 hc
        refine zsub [0, 2, 4] rfl ?_
        exact wX8_week_135 h
      · have h := h.2 hc
        refine Wr_iload_n dX8_week_49 rfl 2 rfl ?_
        refine Wr_cSi [.int x3] dX8_week_50 mlX8_367 mgX8_nextSeed rfl msX8_nextSeed  rfl rfl (Nat.le_of_ble_eq_true rfl) rfl (zcI.imp h (fun u2 m1 h => ?_) (fun _ _ h => ⟨rfl, h⟩))
        refine Wr_istore_n dX8_week_53 rfl (by decide) rfl ?_
        refine Wr_iload_n dX8_week_54 rfl 0 rfl ?_
        refine Wr_aload_n dX8_week_55 rfl 1 rfl ?_
        refine Wr_getR 80 dX8_week_56 flX8_54 zl0 rfl (by decide) ?_
        refine Wr_getI dX8_week_59 flX8_117 zl80 rfl ?_
        refine Wr_cSi [.int u2, .int (m1 80 0)] dX8_week_62 mlX8_370 mgX8_drawOf rfl msX8_drawOf  rfl rfl (Nat.le_of_ble_eq_true rfl) rfl (zcI.imp h (fun u4 m3 h => ?_) (fun _ _ h => ⟨rfl, h⟩))
        refine Wr_istore dX8_week_65 (by decide) rfl ?_
        refine Wr_iload_n dX8_week_67 rfl 1 rfl ?_
        refine Wr_cSi [.int u2] dX8_week_68 mlX8_367 mgX8_nextSeed rfl msX8_nextSeed  rfl rfl (Nat.le_of_ble_eq_true rfl) rfl (zcI.imp h (fun u6 m5 h => ?_) (fun _ _ h => ⟨rfl, h⟩))
        refine Wr_istore_n dX8_week_71 rfl (by decide) rfl ?_
        refine Wr_aload_n dX8_week_72 rfl 2 rfl ?_
        refine Wr_getR 80 dX8_week_73 flX8_54 zl0 rfl (by decide) ?_
        refine Wr_getR 4 dX8_week_76 flX8_161 zl80 rfl (by decide) ?_
        refine Wr_iload dX8_week_79 1 rfl ?_
        obtain ⟨hi, h⟩ := h
        refine Wr_iald dX8_week_81 zl84 hi ?_
        refine Wr_iconstv (v := 1) dX8_week_82 (by decide) ?_
        refine Wr_iadd dX8_week_83 ?_
        refine Wr_iload_n dX8_week_84 rfl 0 rfl ?_
        refine Wr_bipush (v := 9) dX8_week_85 (by decide) ?_
        refine Wr_cSi [.int u6, .int 9] dX8_week_87 mlX8_370 mgX8_drawOf rfl msX8_drawOf  rfl rfl (Nat.le_of_ble_eq_true rfl) rfl (zcI.imp h (fun u8 m7 h => ?_) (fun _ _ h => ⟨rfl, h⟩))
        refine Wr_iadd dX8_week_90 ?_
        obtain ⟨v9, ev9⟩ : ∃ z : Int32, z = ((m5 84 u4.toNatClampNeg) + 1) + u8 := ⟨_, rfl⟩
        have h := h v9 ev9
        refine Wr_top ev9 ?_
        refine Wr_istore dX8_week_91 (by decide) rfl ?_
        refine Wr_aload_n dX8_week_93 rfl 3 rfl ?_
        refine Wr_getR 80 dX8_week_94 flX8_54 zl0 rfl (by decide) ?_
        refine Wr_getR 4 dX8_week_97 flX8_161 zl80 rfl (by decide) ?_
        refine Wr_iload dX8_week_100 2 rfl ?_
        refine Wr_iload dX8_week_102 0 rfl ?_
        refine Wr_bipush (v := 60) dX8_week_104 (by decide) ?_
        refine Wr_mmin dX8_week_106 mlX8_373 (Nat.le_of_ble_eq_true rfl) ?_
        obtain ⟨him10, h⟩ := h
        obtain ⟨m10, em10⟩ : ∃ z : zMem, z = zw m7 84 u4.toNatClampNeg (zmin v9 60) := ⟨_, rfl⟩
        have h := h m10 em10
        refine Wr_iast dX8_week_109 zl84 him10 ?_
        refine Wr_mu em10 ?_
        refine Wr_iload_n dX8_week_110 rfl 4 rfl ?_
        refine Wr_iconstv (v := (-1)) dX8_week_111 (by decide) ?_
        refine Wr_icmp_ne 129 dX8_week_112 (by decide) (fun hc => ?_) (fun hc => ?_)
        · have h := h.2 hc
          obtain ⟨v11, ev11⟩ : ∃ z : Int32, z = x5 + 1 := ⟨_, rfl⟩
          have h := h v11 ev11
          refine Wr_iinc (v := v11) dX8_week_129 (q := 6) rfl (by rw [ev11]; rfl) (by decide) rfl ?_
          refine Wr_goto 32 dX8_week_132 (by decide) ?_
          refine zsub [0, 2, 3, 4, 5] rfl ?_
          exact ih _ _ _ _ _ h
        · have h := h.1 hc
          refine Wr_iload dX8_week_115 5 rfl ?_
          refine Wr_aload_n dX8_week_117 rfl 3 rfl ?_
          refine Wr_iload dX8_week_118 6 rfl ?_
          refine Wr_bipush (v := 24) dX8_week_120 (by decide) ?_
          refine Wr_imul dX8_week_122 ?_
          refine Wr_cVi [.int (x5 * 24)] dX8_week_123 mlX8_376 mgX8_knockingHours rfl mvX8_knockingHours (zrv zl0 _ rfl rfl) rfl rfl (Nat.le_of_ble_eq_true rfl) rfl (zcI.imp h (fun u13 m12 h => ?_) (fun _ _ h => ⟨rfl, h⟩))
          refine Wr_iadd dX8_week_126 ?_
          refine Wr_istore dX8_week_127 (by decide) rfl ?_
          obtain ⟨v14, ev14⟩ : ∃ z : Int32, z = x5 + 1 := ⟨_, rfl⟩
          have h := h v14 ev14
          refine Wr_iinc (v := v14) dX8_week_129 (q := 6) rfl (by rw [ev14]; rfl) (by decide) rfl ?_
          refine Wr_goto 32 dX8_week_132 (by decide) ?_
          refine zsub [0, 2, 3, 4, 5] rfl ?_
          exact ih _ _ _ _ _ h
def pX8_week_10 (d : Nat) (x1 : Int32) (x2 : Int32) (μ : zMem) (KI : Int32 → zMem → Prop) (X : Nat → zMem → Prop) : Prop :=
  zcV d mX1_copyFrom [.ref 80, .ref 47] μ (fun m1 => ∃ n2 : Nat, pX8_week_32 n2 d x2 x1 0 0 m1 KI X) X
set_option maxRecDepth 20000 in
theorem wX8_week_10 {d : Nat} {KI : Int32 → zMem → Prop} {X : Nat → zMem → Prop} {x1 : Int32} {x2 : Int32} {μ : zMem} (h : pX8_week_10 d x1 x2 μ KI X) : Wr mX8_week (d + 1) 0 10 [(0, .ref 0), (1, .int x1), (2, .int x2)] [] μ (kI KI X) := by
  unfold pX8_week_10 at h
  refine Wr_aload_n dX8_week_10 rfl 0 rfl ?_
  refine Wr_getR 80 dX8_week_11 flX8_54 zl0 rfl (by decide) ?_
  refine Wr_aload_n dX8_week_14 rfl 0 rfl ?_
  refine Wr_getR 46 dX8_week_15 flX8_40 zl0 rfl (by decide) ?_
  refine Wr_getR 1 dX8_week_18 flX8_116 zl46 rfl (by decide) ?_
  refine Wr_cVv [.ref 47] dX8_week_21 mlX8_282 mgX1_copyFrom rfl mvX1_copyFrom (zrv zl80 _ rfl rfl) rfl rfl (Nat.le_of_ble_eq_true rfl) rfl (zcV.imp h (fun m1 h => ?_) (fun _ _ h => ⟨rfl, h⟩))
  refine Wr_iload_n dX8_week_24 rfl 1 rfl ?_
  refine Wr_istore_n dX8_week_25 rfl (by decide) rfl ?_
  refine Wr_iconstv (v := 0) dX8_week_26 (by decide) ?_
  refine Wr_istore dX8_week_27 (by decide) rfl ?_
  refine Wr_iconstv (v := 0) dX8_week_29 (by decide) ?_
  refine Wr_istore dX8_week_30 (by decide) rfl ?_
  refine zsub [0, 2, 3, 4, 5] rfl ?_
  obtain ⟨n9, h⟩ := h
  exact wX8_week_32 n9 _ _ _ _ _ h
def pX8_week (d : Nat) (x1 : Int32) (x2 : Int32) (μ : zMem) (KI : Int32 → zMem → Prop) (X : Nat → zMem → Prop) : Prop :=
  ((x2 = (-1) → pX8_week_10 d x1 x2 μ KI X) ∧
  (¬ (x2 = (-1)) → zcV d mX8_needIsle [.ref 0, .int x2] μ (fun m1 => pX8_week_10 d x1 x2 m1 KI X) X))
set_option maxRecDepth 20000 in
theorem wX8_week_0 {d : Nat} {KI : Int32 → zMem → Prop} {X : Nat → zMem → Prop} {x1 : Int32} {x2 : Int32} {μ : zMem} (h : pX8_week d x1 x2 μ KI X) : Wr mX8_week (d + 1) 0 0 [(0, .ref 0), (1, .int x1), (2, .int x2)] [] μ (kI KI X) := by
  unfold pX8_week at h
  refine Wr_iload_n dX8_week_0 rfl 2 rfl ?_
  refine Wr_iconstv (v := (-1)) dX8_week_1 (by decide) ?_
  refine Wr_icmp_eq 10 dX8_week_2 (by decide) (fun hc => ?_) (fun hc => ?_)
  · have h := h.1 hc
    refine zsub [0, 1, 2] rfl ?_
    exact wX8_week_10 h
  · have h := h.2 hc
    refine Wr_aload_n dX8_week_5 rfl 0 rfl ?_
    refine Wr_iload_n dX8_week_6 rfl 2 rfl ?_
    refine Wr_cVv [.int x2] dX8_week_7 mlX8_146 mgX8_needIsle rfl mvX8_needIsle (zrv zl0 _ rfl rfl) rfl rfl (Nat.le_of_ble_eq_true rfl) rfl (zcV.imp h (fun m1 h => ?_) (fun _ _ h => ⟨rfl, h⟩))
    refine zsub [0, 1, 2] rfl ?_
    exact wX8_week_10 h
theorem cX8_week_ {d : Nat} {x1 : Int32} {x2 : Int32} {μ : zMem} {KI : Int32 → zMem → Prop} {X : Nat → zMem → Prop} (h : pX8_week d x1 x2 μ KI X) : zcI (d + 1) mX8_week [.ref 0, .int x1, .int x2] μ KI X :=
  Ex_of (w := 3) mgX8_week.2.2.2.2.2 rfl rfl rfl (by decide) (wX8_week_0 h)

def pX8_nextSeed (d : Nat) (x0 : Int32) (μ : zMem) (KI : Int32 → zMem → Prop) (X : Nat → zMem → Prop) : Prop :=
  KI ((x0 * 1103515245) + 12345) μ
set_option maxRecDepth 20000 in
theorem wX8_nextSeed_0 {d : Nat} {KI : Int32 → zMem → Prop} {X : Nat → zMem → Prop} {x0 : Int32} {μ : zMem} (h : pX8_nextSeed d x0 μ KI X) : Wr mX8_nextSeed (d + 1) 0 0 [(0, .int x0)] [] μ (kI KI X) := by
  unfold pX8_nextSeed at h
  refine Wr_iload_n dX8_nextSeed_0 rfl 0 rfl ?_
  refine Wr_ldcw dX8_nextSeed_1 lcX8_379 ?_
  refine Wr_imul dX8_nextSeed_4 ?_
  refine Wr_sipush (v := 12345) dX8_nextSeed_5 (by decide) ?_
  refine Wr_iadd dX8_nextSeed_8 ?_
  exact Wr_iret .int dX8_nextSeed_9 rfl rfl ⟨rfl, h⟩
theorem cX8_nextSeed_ {d : Nat} {x0 : Int32} {μ : zMem} {KI : Int32 → zMem → Prop} {X : Nat → zMem → Prop} (h : pX8_nextSeed d x0 μ KI X) : zcI (d + 1) mX8_nextSeed [.int x0] μ KI X :=
  Ex_of (w := 1) mgX8_nextSeed.2.2.2.2.2 rfl rfl rfl (by decide) (wX8_nextSeed_0 h)

def pX8_drawOf (d : Nat) (x0 : Int32) (x1 : Int32) (μ : zMem) (KI : Int32 → zMem → Prop) (X : Nat → zMem → Prop) : Prop :=
  ((x1 ≤ 0 → KI 0 μ) ∧
  (¬ (x1 ≤ 0) → (¬ x1 = 0) ∧ KI ((((x0.toUInt32 >>> ((Int32.toUInt32 16) &&& Int32.toUInt32 31)).toInt32) &&& 32767) - (((x0.toUInt32 >>> ((Int32.toUInt32 16) &&& Int32.toUInt32 31)).toInt32) &&& 32767) / x1 * x1) μ))
set_option maxRecDepth 20000 in
theorem wX8_drawOf_0 {d : Nat} {KI : Int32 → zMem → Prop} {X : Nat → zMem → Prop} {x0 : Int32} {x1 : Int32} {μ : zMem} (h : pX8_drawOf d x0 x1 μ KI X) : Wr mX8_drawOf (d + 1) 0 0 [(0, .int x0), (1, .int x1)] [] μ (kI KI X) := by
  unfold pX8_drawOf at h
  refine Wr_iload_n dX8_drawOf_0 rfl 1 rfl ?_
  refine Wr_if_le 17 dX8_drawOf_1 (by decide) (fun hc => ?_) (fun hc => ?_)
  · have h := h.1 hc
    refine Wr_iconstv (v := 0) dX8_drawOf_17 (by decide) ?_
    exact Wr_iret .int dX8_drawOf_18 rfl rfl ⟨rfl, h⟩
  · have h := h.2 hc
    refine Wr_iload_n dX8_drawOf_4 rfl 0 rfl ?_
    refine Wr_bipush (v := 16) dX8_drawOf_5 (by decide) ?_
    refine Wr_iushr dX8_drawOf_7 ?_
    refine Wr_sipush (v := 32767) dX8_drawOf_8 (by decide) ?_
    refine Wr_iand dX8_drawOf_11 ?_
    refine Wr_iload_n dX8_drawOf_12 rfl 1 rfl ?_
    obtain ⟨hi, h⟩ := h
    refine Wr_irem dX8_drawOf_13 hi ?_
    refine Wr_goto 18 dX8_drawOf_14 (by decide) ?_
    exact Wr_iret .int dX8_drawOf_18 rfl rfl ⟨rfl, h⟩
theorem cX8_drawOf_ {d : Nat} {x0 : Int32} {x1 : Int32} {μ : zMem} {KI : Int32 → zMem → Prop} {X : Nat → zMem → Prop} (h : pX8_drawOf d x0 x1 μ KI X) : zcI (d + 1) mX8_drawOf [.int x0, .int x1] μ KI X :=
  Ex_of (w := 2) mgX8_drawOf.2.2.2.2.2 rfl rfl rfl (by decide) (wX8_drawOf_0 h)

def pX8_knockingHours_4 : Nat → Nat → Int32 → Int32 → Int32 → zMem → (Int32 → zMem → Prop) → (Nat → zMem → Prop) → Prop
  | 0, _, _, _, _, _, _, _ => False
  | n + 1, d, x1, x2, x3, μ, KI, X =>
  ((x1 + 24 ≤ x3 → KI x2 μ) ∧
  (¬ (x1 + 24 ≤ x3) → zcV d mX8_blow [.ref 0, .ref 80, .int x3, .int 0] μ (fun m1 => zcI d mX0_firstKnock [.ref 92, .int (m1 80 0)] m1 (fun u3 m2 => ((u3 = (-1) → ∀ v4 : Int32, v4 = x3 + 1 → pX8_knockingHours_4 n d x1 x2 v4 m2 KI X) ∧
    (¬ (u3 = (-1)) → ∀ v5 : Int32, v5 = x2 + 1 → ∀ v6 : Int32, v6 = x3 + 1 → pX8_knockingHours_4 n d x1 v5 v6 m2 KI X))) X) X))
set_option maxRecDepth 20000 in
theorem wX8_knockingHours_4 {d : Nat} {KI : Int32 → zMem → Prop} {X : Nat → zMem → Prop} : ∀ (n : Nat) (x1 : Int32) (x2 : Int32) (x3 : Int32) (μ : zMem), pX8_knockingHours_4 n d x1 x2 x3 μ KI X → Wr mX8_knockingHours (d + 1) 0 4 [(0, .ref 0), (1, .int x1), (2, .int x2), (3, .int x3)] [] μ (kI KI X) := by
  intro n
  induction n with
  | zero =>
    intro x1 x2 x3 μ h
    exact absurd h id
  | succ n ih =>
    intro x1 x2 x3 μ h
    unfold pX8_knockingHours_4 at h
    refine Wr_iload_n dX8_knockingHours_4 rfl 3 rfl ?_
    refine Wr_iload_n dX8_knockingHours_5 rfl 1 rfl ?_
    refine Wr_bipush (v := 24) dX8_knockingHours_6 (by decide) ?_
    refine Wr_iadd dX8_knockingHours_8 ?_
    refine Wr_icmp_ge 49 dX8_knockingHours_9 (by decide) (fun hc => ?_) (fun hc => ?_)
    · have h := h.1 hc
      refine Wr_iload_n dX8_knockingHours_49 rfl 2 rfl ?_
      exact Wr_iret .int dX8_knockingHours_50 rfl rfl ⟨rfl, h⟩
    · have h := h.2 hc
      refine Wr_aload_n dX8_knockingHours_12 rfl 0 rfl ?_
      refine Wr_aload_n dX8_knockingHours_13 rfl 0 rfl ?_
      refine Wr_getR 80 dX8_knockingHours_14 flX8_54 zl0 rfl (by decide) ?_
      refine Wr_iload_n dX8_knockingHours_17 rfl 3 rfl ?_
      refine Wr_iconstv (v := 0) dX8_knockingHours_18 (by decide) ?_
      refine Wr_cVv [.ref 80, .int x3, .int 0] dX8_knockingHours_19 mlX8_244 mgX8_blow rfl mvX8_blow (zrv zl0 _ rfl rfl) rfl rfl (Nat.le_of_ble_eq_true rfl) rfl (zcV.imp h (fun m1 h => ?_) (fun _ _ h => ⟨rfl, h⟩))
      refine Wr_aload_n dX8_knockingHours_22 rfl 0 rfl ?_
      refine Wr_getR 92 dX8_knockingHours_23 flX8_61 zl0 rfl (by decide) ?_
      refine Wr_aload_n dX8_knockingHours_26 rfl 0 rfl ?_
      refine Wr_getR 80 dX8_knockingHours_27 flX8_54 zl0 rfl (by decide) ?_
      refine Wr_getI dX8_knockingHours_30 flX8_117 zl80 rfl ?_
      refine Wr_cVi [.int (m1 80 0)] dX8_knockingHours_33 mlX8_270 mgX0_firstKnock rfl mvX0_firstKnock (zrv zl92 _ rfl rfl) rfl rfl (Nat.le_of_ble_eq_true rfl) rfl (zcI.imp h (fun u3 m2 h => ?_) (fun _ _ h => ⟨rfl, h⟩))
      refine Wr_iconstv (v := (-1)) dX8_knockingHours_36 (by decide) ?_
      refine Wr_icmp_eq 43 dX8_knockingHours_37 (by decide) (fun hc => ?_) (fun hc => ?_)
      · have h := h.1 hc
        obtain ⟨v4, ev4⟩ : ∃ z : Int32, z = x3 + 1 := ⟨_, rfl⟩
        have h := h v4 ev4
        refine Wr_iinc (v := v4) dX8_knockingHours_43 (q := 3) rfl (by rw [ev4]; rfl) (by decide) rfl ?_
        refine Wr_goto 4 dX8_knockingHours_46 (by decide) ?_
        refine zsub [0, 1, 2, 3] rfl ?_
        exact ih _ _ _ _ h
      · have h := h.2 hc
        obtain ⟨v5, ev5⟩ : ∃ z : Int32, z = x2 + 1 := ⟨_, rfl⟩
        have h := h v5 ev5
        refine Wr_iinc (v := v5) dX8_knockingHours_40 (q := 2) rfl (by rw [ev5]; rfl) (by decide) rfl ?_
        obtain ⟨v6, ev6⟩ : ∃ z : Int32, z = x3 + 1 := ⟨_, rfl⟩
        have h := h v6 ev6
        refine Wr_iinc (v := v6) dX8_knockingHours_43 (q := 3) rfl (by rw [ev6]; rfl) (by decide) rfl ?_
        refine Wr_goto 4 dX8_knockingHours_46 (by decide) ?_
        refine zsub [0, 1, 2, 3] rfl ?_
        exact ih _ _ _ _ h
def pX8_knockingHours (d : Nat) (x1 : Int32) (μ : zMem) (KI : Int32 → zMem → Prop) (X : Nat → zMem → Prop) : Prop :=
  ∃ n2 : Nat, pX8_knockingHours_4 n2 d x1 0 x1 μ KI X
set_option maxRecDepth 20000 in
theorem wX8_knockingHours_0 {d : Nat} {KI : Int32 → zMem → Prop} {X : Nat → zMem → Prop} {x1 : Int32} {μ : zMem} (h : pX8_knockingHours d x1 μ KI X) : Wr mX8_knockingHours (d + 1) 0 0 [(0, .ref 0), (1, .int x1)] [] μ (kI KI X) := by
  unfold pX8_knockingHours at h
  refine Wr_iconstv (v := 0) dX8_knockingHours_0 (by decide) ?_
  refine Wr_istore_n dX8_knockingHours_1 rfl (by decide) rfl ?_
  refine Wr_iload_n dX8_knockingHours_2 rfl 2 rfl ?_
  refine Wr_istore_n dX8_knockingHours_3 rfl (by decide) rfl ?_
  refine zsub [0, 1, 2, 3] rfl ?_
  obtain ⟨n9, h⟩ := h
  exact wX8_knockingHours_4 n9 _ _ _ _ h
theorem cX8_knockingHours_ {d : Nat} {x1 : Int32} {μ : zMem} {KI : Int32 → zMem → Prop} {X : Nat → zMem → Prop} (h : pX8_knockingHours d x1 μ KI X) : zcI (d + 1) mX8_knockingHours [.ref 0, .int x1] μ KI X :=
  Ex_of (w := 2) mgX8_knockingHours.2.2.2.2.2 rfl rfl rfl (by decide) (wX8_knockingHours_0 h)

def pX8_image (d : Nat) (μ : zMem) (KV : zMem → Prop) (X : Nat → zMem → Prop) : Prop :=
  zcV d mX5_copyFrom [.ref 63, .ref 46] μ (fun m1 => ∀ m2 : zMem, m2 = zw m1 0 8 1 → KV m2) X
set_option maxRecDepth 20000 in
theorem wX8_image_0 {d : Nat} {KV : zMem → Prop} {X : Nat → zMem → Prop} {μ : zMem} (h : pX8_image d μ KV X) : Wr mX8_image (d + 1) 0 0 [(0, .ref 0)] [] μ (kV KV X) := by
  unfold pX8_image at h
  refine Wr_aload_n dX8_image_0 rfl 0 rfl ?_
  refine Wr_getR 63 dX8_image_1 flX8_44 zl0 rfl (by decide) ?_
  refine Wr_aload_n dX8_image_4 rfl 0 rfl ?_
  refine Wr_getR 46 dX8_image_5 flX8_40 zl0 rfl (by decide) ?_
  refine Wr_cVv [.ref 46] dX8_image_8 mlX8_380 mgX5_copyFrom rfl mvX5_copyFrom (zrv zl63 _ rfl rfl) rfl rfl (Nat.le_of_ble_eq_true rfl) rfl (zcV.imp h (fun m1 h => ?_) (fun _ _ h => ⟨rfl, h⟩))
  refine Wr_aload_n dX8_image_11 rfl 0 rfl ?_
  refine Wr_iconstv (v := 1) dX8_image_12 (by decide) ?_
  obtain ⟨m2, em2⟩ : ∃ z : zMem, z = zw m1 0 8 1 := ⟨_, rfl⟩
  have h := h m2 em2
  refine Wr_putZ dX8_image_13 fpX8_47 zl0 rfl (by decide) ?_
  refine Wr_mu em2 ?_
  exact Wr_vret dX8_image_16 rfl ⟨rfl, h⟩
theorem cX8_image_ {d : Nat} {μ : zMem} {KV : zMem → Prop} {X : Nat → zMem → Prop} (h : pX8_image d μ KV X) : zcV (d + 1) mX8_image [.ref 0] μ KV X :=
  Ex_of (w := 1) mgX8_image.2.2.2.2.2 rfl rfl rfl (by decide) (wX8_image_0 h)

def pX8_restore (d : Nat) (μ : zMem) (KI : Int32 → zMem → Prop) (X : Nat → zMem → Prop) : Prop :=
  ((μ 0 8 = 0 → KI 0 μ) ∧
  (¬ (μ 0 8 = 0) → zcV d mX5_copyFrom [.ref 46, .ref 63] μ (fun m1 => KI 1 m1) X))
set_option maxRecDepth 20000 in
theorem wX8_restore_0 {d : Nat} {KI : Int32 → zMem → Prop} {X : Nat → zMem → Prop} {μ : zMem} (h : pX8_restore d μ KI X) : Wr mX8_restore (d + 1) 0 0 [(0, .ref 0)] [] μ (kI KI X) := by
  unfold pX8_restore at h
  refine Wr_aload_n dX8_restore_0 rfl 0 rfl ?_
  refine Wr_getI dX8_restore_1 flX8_47 zl0 rfl ?_
  refine Wr_if_ne 9 dX8_restore_4 (by decide) (fun hc => ?_) (fun hc => ?_)
  · have h := h.2 hc
    refine Wr_aload_n dX8_restore_9 rfl 0 rfl ?_
    refine Wr_getR 46 dX8_restore_10 flX8_40 zl0 rfl (by decide) ?_
    refine Wr_aload_n dX8_restore_13 rfl 0 rfl ?_
    refine Wr_getR 63 dX8_restore_14 flX8_44 zl0 rfl (by decide) ?_
    refine Wr_cVv [.ref 63] dX8_restore_17 mlX8_380 mgX5_copyFrom rfl mvX5_copyFrom (zrv zl46 _ rfl rfl) rfl rfl (Nat.le_of_ble_eq_true rfl) rfl (zcV.imp h (fun m1 h => ?_) (fun _ _ h => ⟨rfl, h⟩))
    refine Wr_iconstv (v := 1) dX8_restore_20 (by decide) ?_
    exact Wr_iret .boolean dX8_restore_21 rfl rfl ⟨rfl, h⟩
  · have h := h.1 hc
    refine Wr_iconstv (v := 0) dX8_restore_7 (by decide) ?_
    exact Wr_iret .boolean dX8_restore_8 rfl rfl ⟨rfl, h⟩
theorem cX8_restore_ {d : Nat} {μ : zMem} {KI : Int32 → zMem → Prop} {X : Nat → zMem → Prop} (h : pX8_restore d μ KI X) : zcI (d + 1) mX8_restore [.ref 0] μ KI X :=
  Ex_of (w := 1) mgX8_restore.2.2.2.2.2 rfl rfl rfl (by decide) (wX8_restore_0 h)

def pX8_blow_3 : Nat → Nat → Nat → Int32 → Int32 → Int32 → zMem → (zMem → Prop) → (Nat → zMem → Prop) → Prop
  | 0, _, _, _, _, _, _, _, _ => False
  | n + 1, d, r1, x2, x3, x4, μ, KV, X =>
  ((μ r1 0 ≤ x4 → KV μ) ∧
  (¬ (μ r1 0 ≤ x4) → zcV d mX0_put [.ref 92, .ref (zsk μ 0 4), .ref r1, .int x4, .int x4, .int x2, .int x3] μ (fun m1 => ∀ v2 : Int32, v2 = x4 + 1 → pX8_blow_3 n d r1 x2 x3 v2 m1 KV X) X))
set_option maxRecDepth 20000 in
theorem wX8_blow_3 {d : Nat} {r1 : Nat} {KV : zMem → Prop} {X : Nat → zMem → Prop} (hr1 : zsh r1 = .inr 1) : ∀ (n : Nat) (x2 : Int32) (x3 : Int32) (x4 : Int32) (μ : zMem), pX8_blow_3 n d r1 x2 x3 x4 μ KV X → Wr mX8_blow (d + 1) 0 3 [(0, .ref 0), (1, .ref r1), (2, .int x2), (3, .int x3), (4, .int x4)] [] μ (kV KV X) := by
  intro n
  induction n with
  | zero =>
    intro x2 x3 x4 μ h
    exact absurd h id
  | succ n ih =>
    intro x2 x3 x4 μ h
    unfold pX8_blow_3 at h
    refine Wr_iload dX8_blow_3 4 rfl ?_
    refine Wr_aload_n dX8_blow_5 rfl 1 rfl ?_
    refine Wr_getI dX8_blow_6 flX8_117 hr1 rfl ?_
    refine Wr_icmp_ge 36 dX8_blow_9 (by decide) (fun hc => ?_) (fun hc => ?_)
    · have h := h.1 hc
      exact Wr_vret dX8_blow_36 rfl ⟨rfl, h⟩
    · have h := h.2 hc
      refine Wr_aload_n dX8_blow_12 rfl 0 rfl ?_
      refine Wr_getR 92 dX8_blow_13 flX8_61 zl0 rfl (by decide) ?_
      refine Wr_aload_n dX8_blow_16 rfl 0 rfl ?_
      refine Wr_getT dX8_blow_17 flX8_30 zl0 (by decide) ?_
      refine Wr_aload_n dX8_blow_20 rfl 1 rfl ?_
      refine Wr_iload dX8_blow_21 4 rfl ?_
      refine Wr_iload dX8_blow_23 4 rfl ?_
      refine Wr_iload_n dX8_blow_25 rfl 2 rfl ?_
      refine Wr_iload_n dX8_blow_26 rfl 3 rfl ?_
      refine Wr_cVv [.ref (zsk μ 0 4), .ref r1, .int x4, .int x4, .int x2, .int x3] dX8_blow_27 mlX8_205 mgX0_put rfl mvX0_put (zrv zl92 _ rfl rfl) rfl rfl (Nat.le_of_ble_eq_true rfl) rfl (zcV.imp h (fun m1 h => ?_) (fun _ _ h => ⟨rfl, h⟩))
      obtain ⟨v2, ev2⟩ : ∃ z : Int32, z = x4 + 1 := ⟨_, rfl⟩
      have h := h v2 ev2
      refine Wr_iinc (v := v2) dX8_blow_30 (q := 4) rfl (by rw [ev2]; rfl) (by decide) rfl ?_
      refine Wr_goto 3 dX8_blow_33 (by decide) ?_
      refine zsub [0, 1, 2, 3, 4] rfl ?_
      exact ih _ _ _ _ h
def pX8_blow (d : Nat) (r1 : Nat) (x2 : Int32) (x3 : Int32) (μ : zMem) (KV : zMem → Prop) (X : Nat → zMem → Prop) : Prop :=
  ∃ n2 : Nat, pX8_blow_3 n2 d r1 x2 x3 0 μ KV X
set_option maxRecDepth 20000 in
theorem wX8_blow_0 {d : Nat} {r1 : Nat} {KV : zMem → Prop} {X : Nat → zMem → Prop} {x2 : Int32} {x3 : Int32} {μ : zMem} (hr1 : zsh r1 = .inr 1) (h : pX8_blow d r1 x2 x3 μ KV X) : Wr mX8_blow (d + 1) 0 0 [(0, .ref 0), (1, .ref r1), (2, .int x2), (3, .int x3)] [] μ (kV KV X) := by
  unfold pX8_blow at h
  refine Wr_iconstv (v := 0) dX8_blow_0 (by decide) ?_
  refine Wr_istore dX8_blow_1 (by decide) rfl ?_
  refine zsub [0, 1, 2, 3, 4] rfl ?_
  obtain ⟨n9, h⟩ := h
  exact wX8_blow_3 hr1 n9 _ _ _ _ h
theorem cX8_blow_ {d : Nat} {r1 : Nat} {x2 : Int32} {x3 : Int32} {μ : zMem} {KV : zMem → Prop} {X : Nat → zMem → Prop} (hr1 : zsh r1 = .inr 1) (h : pX8_blow d r1 x2 x3 μ KV X) : zcV (d + 1) mX8_blow [.ref 0, .ref r1, .int x2, .int x3] μ KV X :=
  Ex_of (w := 4) mgX8_blow.2.2.2.2.2 rfl rfl rfl (by decide) (wX8_blow_0 hr1 h)

def pX8_needIsle (d : Nat) (x1 : Int32) (μ : zMem) (KV : zMem → Prop) (X : Nat → zMem → Prop) : Prop :=
  zcI d mX1_has [.ref 47, .int x1] μ (fun u2 m1 => ((u2 = 0 → X 0 m1) ∧
  (¬ (u2 = 0) → KV m1))) X
set_option maxRecDepth 20000 in
theorem wX8_needIsle_0 {d : Nat} {KV : zMem → Prop} {X : Nat → zMem → Prop} {x1 : Int32} {μ : zMem} (h : pX8_needIsle d x1 μ KV X) : Wr mX8_needIsle (d + 1) 0 0 [(0, .ref 0), (1, .int x1)] [] μ (kV KV X) := by
  unfold pX8_needIsle at h
  refine Wr_aload_n dX8_needIsle_0 rfl 0 rfl ?_
  refine Wr_getR 46 dX8_needIsle_1 flX8_40 zl0 rfl (by decide) ?_
  refine Wr_getR 1 dX8_needIsle_4 flX8_116 zl46 rfl (by decide) ?_
  refine Wr_iload_n dX8_needIsle_7 rfl 1 rfl ?_
  refine Wr_cVi [.int x1] dX8_needIsle_8 mlX8_342 mgX1_has rfl mvX1_has (zrv zl47 _ rfl rfl) rfl rfl (Nat.le_of_ble_eq_true rfl) rfl (zcI.imp h (fun u2 m1 h => ?_) (fun _ _ h => ⟨rfl, h⟩))
  refine Wr_if_ne 25 dX8_needIsle_11 (by decide) (fun hc => ?_) (fun hc => ?_)
  · have h := h.2 hc
    exact Wr_vret dX8_needIsle_25 rfl ⟨rfl, h⟩
  · have h := h.1 hc
    exact Wr_throw 21 (E := 0) (tx := "no such isle") (sn := 37) ⟨wGm 890 (by decide +kernel) rfl, wGm 128 (by decide +kernel) rfl, wGm 900 (by decide +kernel) rfl, zst 37 (by decide +kernel), by decide⟩ rfl (Nat.le_of_ble_eq_true rfl) dX8_needIsle_14 dX8_needIsle_17 (Or.inr ⟨dX8_needIsle_18, rfl⟩) dX8_needIsle_21 dX8_needIsle_24 ⟨rfl, h⟩
theorem cX8_needIsle_ {d : Nat} {x1 : Int32} {μ : zMem} {KV : zMem → Prop} {X : Nat → zMem → Prop} (h : pX8_needIsle d x1 μ KV X) : zcV (d + 1) mX8_needIsle [.ref 0, .int x1] μ KV X :=
  Ex_of (w := 2) mgX8_needIsle.2.2.2.2.2 rfl rfl rfl (by decide) (wX8_needIsle_0 h)

def pX8_needHour (d : Nat) (x0 : Int32) (μ : zMem) (KV : zMem → Prop) (X : Nat → zMem → Prop) : Prop :=
  ((x0 < 0 → X 0 μ) ∧
  (¬ (x0 < 0) → ((x0 < 168 → KV μ) ∧
    (¬ (x0 < 168) → X 0 μ))))
set_option maxRecDepth 20000 in
theorem wX8_needHour_0 {d : Nat} {KV : zMem → Prop} {X : Nat → zMem → Prop} {x0 : Int32} {μ : zMem} (h : pX8_needHour d x0 μ KV X) : Wr mX8_needHour (d + 1) 0 0 [(0, .int x0)] [] μ (kV KV X) := by
  unfold pX8_needHour at h
  refine Wr_iload_n dX8_needHour_0 rfl 0 rfl ?_
  refine Wr_if_lt 11 dX8_needHour_1 (by decide) (fun hc => ?_) (fun hc => ?_)
  · have h := h.1 hc
    exact Wr_throw 18 (E := 0) (tx := "no such hour") (sn := 38) ⟨wGm 890 (by decide +kernel) rfl, wGm 128 (by decide +kernel) rfl, wGm 900 (by decide +kernel) rfl, zst 38 (by decide +kernel), by decide⟩ rfl (Nat.le_of_ble_eq_true rfl) dX8_needHour_11 dX8_needHour_14 (Or.inr ⟨dX8_needHour_15, rfl⟩) dX8_needHour_18 dX8_needHour_21 ⟨rfl, h⟩
  · have h := h.2 hc
    refine Wr_iload_n dX8_needHour_4 rfl 0 rfl ?_
    refine Wr_sipush (v := 168) dX8_needHour_5 (by decide) ?_
    refine Wr_icmp_lt 22 dX8_needHour_8 (by decide) (fun hc => ?_) (fun hc => ?_)
    · have h := h.1 hc
      exact Wr_vret dX8_needHour_22 rfl ⟨rfl, h⟩
    · have h := h.2 hc
      exact Wr_throw 18 (E := 0) (tx := "no such hour") (sn := 38) ⟨wGm 890 (by decide +kernel) rfl, wGm 128 (by decide +kernel) rfl, wGm 900 (by decide +kernel) rfl, zst 38 (by decide +kernel), by decide⟩ rfl (Nat.le_of_ble_eq_true rfl) dX8_needHour_11 dX8_needHour_14 (Or.inr ⟨dX8_needHour_15, rfl⟩) dX8_needHour_18 dX8_needHour_21 ⟨rfl, h⟩
theorem cX8_needHour_ {d : Nat} {x0 : Int32} {μ : zMem} {KV : zMem → Prop} {X : Nat → zMem → Prop} (h : pX8_needHour d x0 μ KV X) : zcV (d + 1) mX8_needHour [.int x0] μ KV X :=
  Ex_of (w := 1) mgX8_needHour.2.2.2.2.2 rfl rfl rfl (by decide) (wX8_needHour_0 h)

def pX8_needWhat (d : Nat) (x0 : Int32) (x1 : Int32) (μ : zMem) (KV : zMem → Prop) (X : Nat → zMem → Prop) : Prop :=
  ((x0 < 0 → X 0 μ) ∧
  (¬ (x0 < 0) → ((x0 < x1 → KV μ) ∧
    (¬ (x0 < x1) → X 0 μ))))
set_option maxRecDepth 20000 in
theorem wX8_needWhat_0 {d : Nat} {KV : zMem → Prop} {X : Nat → zMem → Prop} {x0 : Int32} {x1 : Int32} {μ : zMem} (h : pX8_needWhat d x0 x1 μ KV X) : Wr mX8_needWhat (d + 1) 0 0 [(0, .int x0), (1, .int x1)] [] μ (kV KV X) := by
  unfold pX8_needWhat at h
  refine Wr_iload_n dX8_needWhat_0 rfl 0 rfl ?_
  refine Wr_if_lt 9 dX8_needWhat_1 (by decide) (fun hc => ?_) (fun hc => ?_)
  · have h := h.1 hc
    exact Wr_throw 16 (E := 0) (tx := "nothing such is told") (sn := 39) ⟨wGm 890 (by decide +kernel) rfl, wGm 128 (by decide +kernel) rfl, wGm 900 (by decide +kernel) rfl, zst 39 (by decide +kernel), by decide⟩ rfl (Nat.le_of_ble_eq_true rfl) dX8_needWhat_9 dX8_needWhat_12 (Or.inr ⟨dX8_needWhat_13, rfl⟩) dX8_needWhat_16 dX8_needWhat_19 ⟨rfl, h⟩
  · have h := h.2 hc
    refine Wr_iload_n dX8_needWhat_4 rfl 0 rfl ?_
    refine Wr_iload_n dX8_needWhat_5 rfl 1 rfl ?_
    refine Wr_icmp_lt 20 dX8_needWhat_6 (by decide) (fun hc => ?_) (fun hc => ?_)
    · have h := h.1 hc
      exact Wr_vret dX8_needWhat_20 rfl ⟨rfl, h⟩
    · have h := h.2 hc
      exact Wr_throw 16 (E := 0) (tx := "nothing such is told") (sn := 39) ⟨wGm 890 (by decide +kernel) rfl, wGm 128 (by decide +kernel) rfl, wGm 900 (by decide +kernel) rfl, zst 39 (by decide +kernel), by decide⟩ rfl (Nat.le_of_ble_eq_true rfl) dX8_needWhat_9 dX8_needWhat_12 (Or.inr ⟨dX8_needWhat_13, rfl⟩) dX8_needWhat_16 dX8_needWhat_19 ⟨rfl, h⟩
theorem cX8_needWhat_ {d : Nat} {x0 : Int32} {x1 : Int32} {μ : zMem} {KV : zMem → Prop} {X : Nat → zMem → Prop} (h : pX8_needWhat d x0 x1 μ KV X) : zcV (d + 1) mX8_needWhat [.int x0, .int x1] μ KV X :=
  Ex_of (w := 2) mgX8_needWhat.2.2.2.2.2 rfl rfl rfl (by decide) (wX8_needWhat_0 h)

def pX8_needSpan (d : Nat) (x0 : Int32) (x1 : Int32) (x2 : Int32) (μ : zMem) (KV : zMem → Prop) (X : Nat → zMem → Prop) : Prop :=
  ((x0 < 0 → X 1 μ) ∧
  (¬ (x0 < 0) → ((168 ≤ x1 → X 1 μ) ∧
    (¬ (168 ≤ x1) → ((x1 < x0 → X 1 μ) ∧
      (¬ (x1 < x0) → ((x1 - x0 < x2 → KV μ) ∧
        (¬ (x1 - x0 < x2) → X 1 μ))))))))
set_option maxRecDepth 20000 in
theorem wX8_needSpan_0 {d : Nat} {KV : zMem → Prop} {X : Nat → zMem → Prop} {x0 : Int32} {x1 : Int32} {x2 : Int32} {μ : zMem} (h : pX8_needSpan d x0 x1 x2 μ KV X) : Wr mX8_needSpan (d + 1) 0 0 [(0, .int x0), (1, .int x1), (2, .int x2)] [] μ (kV KV X) := by
  unfold pX8_needSpan at h
  refine Wr_iload_n dX8_needSpan_0 rfl 0 rfl ?_
  refine Wr_if_lt 23 dX8_needSpan_1 (by decide) (fun hc => ?_) (fun hc => ?_)
  · have h := h.1 hc
    exact Wr_throw 30 (E := 1) (tx := "no such span") (sn := 40) ⟨wGm 538 (by decide +kernel) rfl, wGm 120 (by decide +kernel) rfl, wGm 579 (by decide +kernel) rfl, zst 40 (by decide +kernel), by decide⟩ rfl (Nat.le_of_ble_eq_true rfl) dX8_needSpan_23 dX8_needSpan_26 (Or.inr ⟨dX8_needSpan_27, rfl⟩) dX8_needSpan_30 dX8_needSpan_33 ⟨rfl, h⟩
  · have h := h.2 hc
    refine Wr_iload_n dX8_needSpan_4 rfl 1 rfl ?_
    refine Wr_sipush (v := 168) dX8_needSpan_5 (by decide) ?_
    refine Wr_icmp_ge 23 dX8_needSpan_8 (by decide) (fun hc => ?_) (fun hc => ?_)
    · have h := h.1 hc
      exact Wr_throw 30 (E := 1) (tx := "no such span") (sn := 40) ⟨wGm 538 (by decide +kernel) rfl, wGm 120 (by decide +kernel) rfl, wGm 579 (by decide +kernel) rfl, zst 40 (by decide +kernel), by decide⟩ rfl (Nat.le_of_ble_eq_true rfl) dX8_needSpan_23 dX8_needSpan_26 (Or.inr ⟨dX8_needSpan_27, rfl⟩) dX8_needSpan_30 dX8_needSpan_33 ⟨rfl, h⟩
    · have h := h.2 hc
      refine Wr_iload_n dX8_needSpan_11 rfl 0 rfl ?_
      refine Wr_iload_n dX8_needSpan_12 rfl 1 rfl ?_
      refine Wr_icmp_gt 23 dX8_needSpan_13 (by decide) (fun hc => ?_) (fun hc => ?_)
      · have h := h.1 hc
        exact Wr_throw 30 (E := 1) (tx := "no such span") (sn := 40) ⟨wGm 538 (by decide +kernel) rfl, wGm 120 (by decide +kernel) rfl, wGm 579 (by decide +kernel) rfl, zst 40 (by decide +kernel), by decide⟩ rfl (Nat.le_of_ble_eq_true rfl) dX8_needSpan_23 dX8_needSpan_26 (Or.inr ⟨dX8_needSpan_27, rfl⟩) dX8_needSpan_30 dX8_needSpan_33 ⟨rfl, h⟩
      · have h := h.2 hc
        refine Wr_iload_n dX8_needSpan_16 rfl 1 rfl ?_
        refine Wr_iload_n dX8_needSpan_17 rfl 0 rfl ?_
        refine Wr_isub dX8_needSpan_18 ?_
        refine Wr_iload_n dX8_needSpan_19 rfl 2 rfl ?_
        refine Wr_icmp_lt 34 dX8_needSpan_20 (by decide) (fun hc => ?_) (fun hc => ?_)
        · have h := h.1 hc
          exact Wr_vret dX8_needSpan_34 rfl ⟨rfl, h⟩
        · have h := h.2 hc
          exact Wr_throw 30 (E := 1) (tx := "no such span") (sn := 40) ⟨wGm 538 (by decide +kernel) rfl, wGm 120 (by decide +kernel) rfl, wGm 579 (by decide +kernel) rfl, zst 40 (by decide +kernel), by decide⟩ rfl (Nat.le_of_ble_eq_true rfl) dX8_needSpan_23 dX8_needSpan_26 (Or.inr ⟨dX8_needSpan_27, rfl⟩) dX8_needSpan_30 dX8_needSpan_33 ⟨rfl, h⟩
theorem cX8_needSpan_ {d : Nat} {x0 : Int32} {x1 : Int32} {x2 : Int32} {μ : zMem} {KV : zMem → Prop} {X : Nat → zMem → Prop} (h : pX8_needSpan d x0 x1 x2 μ KV X) : zcV (d + 1) mX8_needSpan [.int x0, .int x1, .int x2] μ KV X :=
  Ex_of (w := 3) mgX8_needSpan.2.2.2.2.2 rfl rfl rfl (by decide) (wX8_needSpan_0 h)

def pX8_needTwo (d : Nat) (x0 : Int32) (x1 : Int32) (μ : zMem) (KV : zMem → Prop) (X : Nat → zMem → Prop) : Prop :=
  ((x0 = x1 → X 1 μ) ∧
  (¬ (x0 = x1) → KV μ))
set_option maxRecDepth 20000 in
theorem wX8_needTwo_0 {d : Nat} {KV : zMem → Prop} {X : Nat → zMem → Prop} {x0 : Int32} {x1 : Int32} {μ : zMem} (h : pX8_needTwo d x0 x1 μ KV X) : Wr mX8_needTwo (d + 1) 0 0 [(0, .int x0), (1, .int x1)] [] μ (kV KV X) := by
  unfold pX8_needTwo at h
  refine Wr_iload_n dX8_needTwo_0 rfl 0 rfl ?_
  refine Wr_iload_n dX8_needTwo_1 rfl 1 rfl ?_
  refine Wr_icmp_ne 16 dX8_needTwo_2 (by decide) (fun hc => ?_) (fun hc => ?_)
  · have h := h.2 hc
    exact Wr_vret dX8_needTwo_16 rfl ⟨rfl, h⟩
  · have h := h.1 hc
    exact Wr_throw 12 (E := 1) (tx := "both are one") (sn := 41) ⟨wGm 538 (by decide +kernel) rfl, wGm 120 (by decide +kernel) rfl, wGm 579 (by decide +kernel) rfl, zst 41 (by decide +kernel), by decide⟩ rfl (Nat.le_of_ble_eq_true rfl) dX8_needTwo_5 dX8_needTwo_8 (Or.inr ⟨dX8_needTwo_9, rfl⟩) dX8_needTwo_12 dX8_needTwo_15 ⟨rfl, h⟩
theorem cX8_needTwo_ {d : Nat} {x0 : Int32} {x1 : Int32} {μ : zMem} {KV : zMem → Prop} {X : Nat → zMem → Prop} (h : pX8_needTwo d x0 x1 μ KV X) : zcV (d + 1) mX8_needTwo [.int x0, .int x1] μ KV X :=
  Ex_of (w := 2) mgX8_needTwo.2.2.2.2.2 rfl rfl rfl (by decide) (wX8_needTwo_0 h)
