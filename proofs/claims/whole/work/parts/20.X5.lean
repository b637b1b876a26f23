def pX5_begin (d : Nat) (o : Nat) (r1 : Nat) (μ : zMem) (KV : zMem → Prop) (X : Nat → zMem → Prop) : Prop :=
  zcV d mX1_copyFrom [.ref (o + 1), .ref r1] μ (fun m1 => ∀ m2 : zMem, m2 = zw m1 o 2 0 → ∀ m3 : zMem, m3 = zw m2 o 4 0 → ∀ m4 : zMem, m4 = zw m3 o 6 0 → KV m4) X
set_option maxRecDepth 20000 in
theorem wX5_begin_0 {d : Nat} {o : Nat} {r1 : Nat} {KV : zMem → Prop} {X : Nat → zMem → Prop} {μ : zMem} (ho : zsh o = .inr 5) (hr1 : zsh r1 = .inr 1) (h : pX5_begin d o r1 μ KV X) : Wr mX5_begin (d + 1) 0 0 [(0, .ref o), (1, .ref r1)] [] μ (kV KV X) := by
  unfold pX5_begin at h
  refine Wr_aload_n dX5_begin_0 rfl 0 rfl ?_
  refine Wr_getR 1 dX5_begin_1 flX5_12 ho rfl (by decide) ?_
  refine Wr_aload_n dX5_begin_4 rfl 1 rfl ?_
  refine Wr_cVv [.ref r1] dX5_begin_5 mlX5_41 mgX1_copyFrom rfl mvX1_copyFrom (zrv (zo5_0 ho) _ rfl rfl) rfl rfl (Nat.le_of_ble_eq_true rfl) rfl (zcV.imp h (fun m1 h => ?_) (fun _ _ h => ⟨rfl, h⟩))
  refine Wr_aload_n dX5_begin_8 rfl 0 rfl ?_
  refine Wr_iconstv (v := 0) dX5_begin_9 (by decide) ?_
  obtain ⟨m2, em2⟩ : ∃ z : zMem, z = zw m1 o 2 0 := ⟨_, rfl⟩
  have h := h m2 em2
  refine Wr_putI dX5_begin_10 fpX5_22 ho rfl ?_
  refine Wr_mu em2 ?_
  refine Wr_aload_n dX5_begin_13 rfl 0 rfl ?_
  refine Wr_iconstv (v := 0) dX5_begin_14 (by decide) ?_
  obtain ⟨m3, em3⟩ : ∃ z : zMem, z = zw m2 o 4 0 := ⟨_, rfl⟩
  have h := h m3 em3
  refine Wr_putI dX5_begin_15 fpX5_29 ho rfl ?_
  refine Wr_mu em3 ?_
  refine Wr_aload_n dX5_begin_18 rfl 0 rfl ?_
  refine Wr_iconstv (v := 0) dX5_begin_19 (by decide) ?_
  obtain ⟨m4, em4⟩ : ∃ z : zMem, z = zw m3 o 6 0 := ⟨_, rfl⟩
  have h := h m4 em4
  refine Wr_putI dX5_begin_20 fpX5_35 ho rfl ?_
  refine Wr_mu em4 ?_
  exact Wr_vret dX5_begin_23 rfl ⟨rfl, h⟩
theorem cX5_begin_ {d : Nat} {o : Nat} {r1 : Nat} {μ : zMem} {KV : zMem → Prop} {X : Nat → zMem → Prop} (ho : zsh o = .inr 5) (hr1 : zsh r1 = .inr 1) (h : pX5_begin d o r1 μ KV X) : zcV (d + 1) mX5_begin [.ref o, .ref r1] μ KV X :=
  Ex_of (w := 2) mgX5_begin.2.2.2.2.2 rfl rfl rfl (by decide) (wX5_begin_0 ho hr1 h)

def pX5_copyFrom (d : Nat) (o : Nat) (r1 : Nat) (μ : zMem) (KV : zMem → Prop) (X : Nat → zMem → Prop) : Prop :=
  zcV d mX1_copyFrom [.ref (o + 1), .ref (r1 + 1)] μ (fun m1 => ∀ m2 : zMem, m2 = zcp m1 (r1 + 13) 0 (o + 13) 0 200 → ∀ m3 : zMem, m3 = zw m2 o 2 (m2 r1 2) → ∀ m4 : zMem, m4 = zcp m3 (r1 + 14) 0 (o + 14) 0 40 → ∀ m5 : zMem, m5 = zw m4 o 4 (m4 r1 4) → ∀ m6 : zMem, m6 = zcp m5 (r1 + 15) 0 (o + 15) 0 36 → ∀ m7 : zMem, m7 = zw m6 o 6 (m6 r1 6) → ∀ m8 : zMem, m8 = zcp m7 (r1 + 16) 0 (o + 16) 0 3 → KV m8) X
set_option maxRecDepth 20000 in
theorem wX5_copyFrom_0 {d : Nat} {o : Nat} {r1 : Nat} {KV : zMem → Prop} {X : Nat → zMem → Prop} {μ : zMem} (ho : zsh o = .inr 5) (hr1 : zsh r1 = .inr 5) (h : pX5_copyFrom d o r1 μ KV X) : Wr mX5_copyFrom (d + 1) 0 0 [(0, .ref o), (1, .ref r1)] [] μ (kV KV X) := by
  unfold pX5_copyFrom at h
  refine Wr_aload_n dX5_copyFrom_0 rfl 0 rfl ?_
  refine Wr_getR 1 dX5_copyFrom_1 flX5_12 ho rfl (by decide) ?_
  refine Wr_aload_n dX5_copyFrom_4 rfl 1 rfl ?_
  refine Wr_getR 1 dX5_copyFrom_5 flX5_12 hr1 rfl (by decide) ?_
  refine Wr_cVv [.ref (r1 + 1)] dX5_copyFrom_8 mlX5_41 mgX1_copyFrom rfl mvX1_copyFrom (zrv (zo5_0 ho) _ rfl rfl) rfl rfl (Nat.le_of_ble_eq_true rfl) rfl (zcV.imp h (fun m1 h => ?_) (fun _ _ h => ⟨rfl, h⟩))
  refine Wr_aload_n dX5_copyFrom_11 rfl 1 rfl ?_
  refine Wr_getR 13 dX5_copyFrom_12 flX5_18 hr1 rfl (by decide) ?_
  refine Wr_iconstv (v := 0) dX5_copyFrom_15 (by decide) ?_
  refine Wr_aload_n dX5_copyFrom_16 rfl 0 rfl ?_
  refine Wr_getR 13 dX5_copyFrom_17 flX5_18 ho rfl (by decide) ?_
  refine Wr_iconstv (v := 0) dX5_copyFrom_20 (by decide) ?_
  refine Wr_sipush (v := 200) dX5_copyFrom_21 (by decide) ?_
  obtain ⟨m2, em2⟩ : ∃ z : zMem, z = zcp m1 (r1 + 13) 0 (o + 13) 0 200 := ⟨_, rfl⟩
  have h := h m2 em2
  refine Wr_acopy dX5_copyFrom_24 mlX5_45 macN macS macI (zo5_1 hr1) (zo5_1 ho) (by decide) (by decide) (by decide) (by decide) (by decide) (Nat.le_of_ble_eq_true rfl) ?_
  refine Wr_mu em2 ?_
  refine Wr_aload_n dX5_copyFrom_27 rfl 0 rfl ?_
  refine Wr_aload_n dX5_copyFrom_28 rfl 1 rfl ?_
  refine Wr_getI dX5_copyFrom_29 flX5_22 hr1 rfl ?_
  obtain ⟨m3, em3⟩ : ∃ z : zMem, z = zw m2 o 2 (m2 r1 2) := ⟨_, rfl⟩
  have h := h m3 em3
  refine Wr_putI dX5_copyFrom_32 fpX5_22 ho rfl ?_
  refine Wr_mu em3 ?_
  refine Wr_aload_n dX5_copyFrom_35 rfl 1 rfl ?_
  refine Wr_getR 14 dX5_copyFrom_36 flX5_26 hr1 rfl (by decide) ?_
  refine Wr_iconstv (v := 0) dX5_copyFrom_39 (by decide) ?_
  refine Wr_aload_n dX5_copyFrom_40 rfl 0 rfl ?_
  refine Wr_getR 14 dX5_copyFrom_41 flX5_26 ho rfl (by decide) ?_
  refine Wr_iconstv (v := 0) dX5_copyFrom_44 (by decide) ?_
  refine Wr_bipush (v := 40) dX5_copyFrom_45 (by decide) ?_
  obtain ⟨m4, em4⟩ : ∃ z : zMem, z = zcp m3 (r1 + 14) 0 (o + 14) 0 40 := ⟨_, rfl⟩
  have h := h m4 em4
  refine Wr_acopy dX5_copyFrom_47 mlX5_45 macN macS macI (zo5_3 hr1) (zo5_3 ho) (by decide) (by decide) (by decide) (by decide) (by decide) (Nat.le_of_ble_eq_true rfl) ?_
  refine Wr_mu em4 ?_
  refine Wr_aload_n dX5_copyFrom_50 rfl 0 rfl ?_
  refine Wr_aload_n dX5_copyFrom_51 rfl 1 rfl ?_
  refine Wr_getI dX5_copyFrom_52 flX5_29 hr1 rfl ?_
  obtain ⟨m5, em5⟩ : ∃ z : zMem, z = zw m4 o 4 (m4 r1 4) := ⟨_, rfl⟩
  have h := h m5 em5
  refine Wr_putI dX5_copyFrom_55 fpX5_29 ho rfl ?_
  refine Wr_mu em5 ?_
  refine Wr_aload_n dX5_copyFrom_58 rfl 1 rfl ?_
  refine Wr_getR 15 dX5_copyFrom_59 flX5_32 hr1 rfl (by decide) ?_
  refine Wr_iconstv (v := 0) dX5_copyFrom_62 (by decide) ?_
  refine Wr_aload_n dX5_copyFrom_63 rfl 0 rfl ?_
  refine Wr_getR 15 dX5_copyFrom_64 flX5_32 ho rfl (by decide) ?_
  refine Wr_iconstv (v := 0) dX5_copyFrom_67 (by decide) ?_
  refine Wr_bipush (v := 36) dX5_copyFrom_68 (by decide) ?_
  obtain ⟨m6, em6⟩ : ∃ z : zMem, z = zcp m5 (r1 + 15) 0 (o + 15) 0 36 := ⟨_, rfl⟩
  have h := h m6 em6
  refine Wr_acopy dX5_copyFrom_70 mlX5_45 macN macS macI (zo5_5 hr1) (zo5_5 ho) (by decide) (by decide) (by decide) (by decide) (by decide) (Nat.le_of_ble_eq_true rfl) ?_
  refine Wr_mu em6 ?_
  refine Wr_aload_n dX5_copyFrom_73 rfl 0 rfl ?_
  refine Wr_aload_n dX5_copyFrom_74 rfl 1 rfl ?_
  refine Wr_getI dX5_copyFrom_75 flX5_35 hr1 rfl ?_
  obtain ⟨m7, em7⟩ : ∃ z : zMem, z = zw m6 o 6 (m6 r1 6) := ⟨_, rfl⟩
  have h := h m7 em7
  refine Wr_putI dX5_copyFrom_78 fpX5_35 ho rfl ?_
  refine Wr_mu em7 ?_
  refine Wr_aload_n dX5_copyFrom_81 rfl 1 rfl ?_
  refine Wr_getR 16 dX5_copyFrom_82 flX5_38 hr1 rfl (by decide) ?_
  refine Wr_iconstv (v := 0) dX5_copyFrom_85 (by decide) ?_
  refine Wr_aload_n dX5_copyFrom_86 rfl 0 rfl ?_
  refine Wr_getR 16 dX5_copyFrom_87 flX5_38 ho rfl (by decide) ?_
  refine Wr_iconstv (v := 0) dX5_copyFrom_90 (by decide) ?_
  refine Wr_iconstv (v := 3) dX5_copyFrom_91 (by decide) ?_
  obtain ⟨m8, em8⟩ : ∃ z : zMem, z = zcp m7 (r1 + 16) 0 (o + 16) 0 3 := ⟨_, rfl⟩
  have h := h m8 em8
  refine Wr_acopy dX5_copyFrom_92 mlX5_45 macN macS macI (zo5_7 hr1) (zo5_7 ho) (by decide) (by decide) (by decide) (by decide) (by decide) (Nat.le_of_ble_eq_true rfl) ?_
  refine Wr_mu em8 ?_
  exact Wr_vret dX5_copyFrom_95 rfl ⟨rfl, h⟩
theorem cX5_copyFrom_ {d : Nat} {o : Nat} {r1 : Nat} {μ : zMem} {KV : zMem → Prop} {X : Nat → zMem → Prop} (ho : zsh o = .inr 5) (hr1 : zsh r1 = .inr 5) (h : pX5_copyFrom d o r1 μ KV X) : zcV (d + 1) mX5_copyFrom [.ref o, .ref r1] μ KV X :=
  Ex_of (w := 2) mgX5_copyFrom.2.2.2.2.2 rfl rfl rfl (by decide) (wX5_copyFrom_0 ho hr1 h)

def pX5_keepAct_13 (d : Nat) (o : Nat) (x1 : Int32) (x2 : Int32) (x3 : Int32) (x4 : Int32) (x5 : Int32) (μ : zMem) (KV : zMem → Prop) (X : Nat → zMem → Prop) : Prop :=
  (vp_in ((μ o 2) * 5) 200) ∧ ∀ m1 : zMem, m1 = zw μ (o + 13) ((μ o 2) * 5).toNatClampNeg x1 → (vp_in (((μ o 2) * 5) + 1) 200) ∧ ∀ m2 : zMem, m2 = zw m1 (o + 13) (((μ o 2) * 5) + 1).toNatClampNeg x2 → (vp_in (((μ o 2) * 5) + 2) 200) ∧ ∀ m3 : zMem, m3 = zw m2 (o + 13) (((μ o 2) * 5) + 2).toNatClampNeg x3 → (vp_in (((μ o 2) * 5) + 3) 200) ∧ ∀ m4 : zMem, m4 = zw m3 (o + 13) (((μ o 2) * 5) + 3).toNatClampNeg x4 → (vp_in (((μ o 2) * 5) + 4) 200) ∧ ∀ m5 : zMem, m5 = zw m4 (o + 13) (((μ o 2) * 5) + 4).toNatClampNeg x5 → ∀ m6 : zMem, m6 = zw m5 o 2 ((m5 o 2) + 1) → KV m6
set_option maxRecDepth 20000 in
theorem wX5_keepAct_13 {d : Nat} {o : Nat} {KV : zMem → Prop} {X : Nat → zMem → Prop} {x1 : Int32} {x2 : Int32} {x3 : Int32} {x4 : Int32} {x5 : Int32} {μ : zMem} (ho : zsh o = .inr 5) (h : pX5_keepAct_13 d o x1 x2 x3 x4 x5 μ KV X) : Wr mX5_keepAct (d + 1) 0 13 [(0, .ref o), (1, .int x1), (2, .int x2), (3, .int x3), (4, .int x4), (5, .int x5)] [] μ (kV KV X) := by
  unfold pX5_keepAct_13 at h
  refine Wr_aload_n dX5_keepAct_13 rfl 0 rfl ?_
  refine Wr_getI dX5_keepAct_14 flX5_22 ho rfl ?_
  refine Wr_iconstv (v := 5) dX5_keepAct_17 (by decide) ?_
  refine Wr_imul dX5_keepAct_18 ?_
  refine Wr_istore dX5_keepAct_19 (by decide) rfl ?_
  refine Wr_aload_n dX5_keepAct_21 rfl 1 rfl ?_
  refine Wr_getR 13 dX5_keepAct_22 flX5_18 ho rfl (by decide) ?_
  refine Wr_iload dX5_keepAct_25 0 rfl ?_
  refine Wr_iload_n dX5_keepAct_27 rfl 2 rfl ?_
  obtain ⟨him1, h⟩ := h
  obtain ⟨m1, em1⟩ : ∃ z : zMem, z = zw μ (o + 13) ((μ o 2) * 5).toNatClampNeg x1 := ⟨_, rfl⟩
  have h := h m1 em1
  refine Wr_iast dX5_keepAct_28 (zo5_1 ho) him1 ?_
  refine Wr_mu em1 ?_
  refine Wr_aload_n dX5_keepAct_29 rfl 1 rfl ?_
  refine Wr_getR 13 dX5_keepAct_30 flX5_18 ho rfl (by decide) ?_
  refine Wr_iload dX5_keepAct_33 0 rfl ?_
  refine Wr_iconstv (v := 1) dX5_keepAct_35 (by decide) ?_
  refine Wr_iadd dX5_keepAct_36 ?_
  refine Wr_iload_n dX5_keepAct_37 rfl 3 rfl ?_
  obtain ⟨him2, h⟩ := h
  obtain ⟨m2, em2⟩ : ∃ z : zMem, z = zw m1 (o + 13) (((μ o 2) * 5) + 1).toNatClampNeg x2 := ⟨_, rfl⟩
  have h := h m2 em2
  refine Wr_iast dX5_keepAct_38 (zo5_1 ho) him2 ?_
  refine Wr_mu em2 ?_
  refine Wr_aload_n dX5_keepAct_39 rfl 1 rfl ?_
  refine Wr_getR 13 dX5_keepAct_40 flX5_18 ho rfl (by decide) ?_
  refine Wr_iload dX5_keepAct_43 0 rfl ?_
  refine Wr_iconstv (v := 2) dX5_keepAct_45 (by decide) ?_
  refine Wr_iadd dX5_keepAct_46 ?_
  refine Wr_iload_n dX5_keepAct_47 rfl 4 rfl ?_
  obtain ⟨him3, h⟩ := h
  obtain ⟨m3, em3⟩ : ∃ z : zMem, z = zw m2 (o + 13) (((μ o 2) * 5) + 2).toNatClampNeg x3 := ⟨_, rfl⟩
  have h := h m3 em3
  refine Wr_iast dX5_keepAct_48 (zo5_1 ho) him3 ?_
  refine Wr_mu em3 ?_
  refine Wr_aload_n dX5_keepAct_49 rfl 1 rfl ?_
  refine Wr_getR 13 dX5_keepAct_50 flX5_18 ho rfl (by decide) ?_
  refine Wr_iload dX5_keepAct_53 0 rfl ?_
  refine Wr_iconstv (v := 3) dX5_keepAct_55 (by decide) ?_
  refine Wr_iadd dX5_keepAct_56 ?_
  refine Wr_iload dX5_keepAct_57 5 rfl ?_
  obtain ⟨him4, h⟩ := h
  obtain ⟨m4, em4⟩ : ∃ z : zMem, z = zw m3 (o + 13) (((μ o 2) * 5) + 3).toNatClampNeg x4 := ⟨_, rfl⟩
  have h := h m4 em4
  refine Wr_iast dX5_keepAct_59 (zo5_1 ho) him4 ?_
  refine Wr_mu em4 ?_
  refine Wr_aload_n dX5_keepAct_60 rfl 1 rfl ?_
  refine Wr_getR 13 dX5_keepAct_61 flX5_18 ho rfl (by decide) ?_
  refine Wr_iload dX5_keepAct_64 0 rfl ?_
  refine Wr_iconstv (v := 4) dX5_keepAct_66 (by decide) ?_
  refine Wr_iadd dX5_keepAct_67 ?_
  refine Wr_iload dX5_keepAct_68 6 rfl ?_
  obtain ⟨him5, h⟩ := h
  obtain ⟨m5, em5⟩ : ∃ z : zMem, z = zw m4 (o + 13) (((μ o 2) * 5) + 4).toNatClampNeg x5 := ⟨_, rfl⟩
  have h := h m5 em5
  refine Wr_iast dX5_keepAct_70 (zo5_1 ho) him5 ?_
  refine Wr_mu em5 ?_
  refine Wr_aload_n dX5_keepAct_71 rfl 1 rfl ?_
  refine Wr_dup dX5_keepAct_72 rfl ?_
  refine Wr_getI dX5_keepAct_73 flX5_22 ho rfl ?_
  refine Wr_iconstv (v := 1) dX5_keepAct_76 (by decide) ?_
  refine Wr_iadd dX5_keepAct_77 ?_
  obtain ⟨m6, em6⟩ : ∃ z : zMem, z = zw m5 o 2 ((m5 o 2) + 1) := ⟨_, rfl⟩
  have h := h m6 em6
  refine Wr_putI dX5_keepAct_78 fpX5_22 ho rfl ?_
  refine Wr_mu em6 ?_
  exact Wr_vret dX5_keepAct_81 rfl ⟨rfl, h⟩
def pX5_keepAct (d : Nat) (o : Nat) (x1 : Int32) (x2 : Int32) (x3 : Int32) (x4 : Int32) (x5 : Int32) (μ : zMem) (KV : zMem → Prop) (X : Nat → zMem → Prop) : Prop :=
  ((μ o 2 < 40 → pX5_keepAct_13 d o x1 x2 x3 x4 x5 μ KV X) ∧
  (¬ (μ o 2 < 40) → zcV d mX5_dropOldestAct [.ref o] μ (fun m1 => pX5_keepAct_13 d o x1 x2 x3 x4 x5 m1 KV X) X))
set_option maxRecDepth 20000 in
theorem wX5_keepAct_0 {d : Nat} {o : Nat} {KV : zMem → Prop} {X : Nat → zMem → Prop} {x1 : Int32} {x2 : Int32} {x3 : Int32} {x4 : Int32} {x5 : Int32} {μ : zMem} (ho : zsh o = .inr 5) (h : pX5_keepAct d o x1 x2 x3 x4 x5 μ KV X) : Wr mX5_keepAct (d + 1) 0 0 [(0, .ref o), (1, .int x1), (2, .int x2), (3, .int x3), (4, .int x4), (5, .int x5)] [] μ (kV KV X) := by
  unfold pX5_keepAct at h
  refine Wr_aload_n dX5_keepAct_0 rfl 0 rfl ?_
  refine Wr_getI dX5_keepAct_1 flX5_22 ho rfl ?_
  refine Wr_bipush (v := 40) dX5_keepAct_4 (by decide) ?_
  refine Wr_icmp_lt 13 dX5_keepAct_6 (by decide) (fun hc => ?_) (fun hc => ?_)
  · have h := h.1 hc
    refine zsub [0, 1, 2, 3, 4, 5] rfl ?_
    exact wX5_keepAct_13 ho h
  · have h := h.2 hc
    refine Wr_aload_n dX5_keepAct_9 rfl 0 rfl ?_
    refine Wr_cVv [] dX5_keepAct_10 mlX5_51 mgX5_dropOldestAct rfl mvX5_dropOldestAct (zrv ho _ rfl rfl) rfl rfl (Nat.le_of_ble_eq_true rfl) rfl (zcV.imp h (fun m1 h => ?_) (fun _ _ h => ⟨rfl, h⟩))
    refine zsub [0, 1, 2, 3, 4, 5] rfl ?_
    exact wX5_keepAct_13 ho h
theorem cX5_keepAct_ {d : Nat} {o : Nat} {x1 : Int32} {x2 : Int32} {x3 : Int32} {x4 : Int32} {x5 : Int32} {μ : zMem} {KV : zMem → Prop} {X : Nat → zMem → Prop} (ho : zsh o = .inr 5) (h : pX5_keepAct d o x1 x2 x3 x4 x5 μ KV X) : zcV (d + 1) mX5_keepAct [.ref o, .int x1, .int x2, .int x3, .int x4, .int x5] μ KV X :=
  Ex_of (w := 6) mgX5_keepAct.2.2.2.2.2 rfl rfl rfl (by decide) (wX5_keepAct_0 ho h)

def pX5_dropOldestAct_2 : Nat → Nat → Nat → Int32 → zMem → (zMem → Prop) → (Nat → zMem → Prop) → Prop
  | 0, _, _, _, _, _, _ => False
  | n + 1, d, o, x1, μ, KV, X =>
  ((200 ≤ x1 → ∀ m1 : zMem, m1 = zw μ o 2 39 → KV m1) ∧
  (¬ (200 ≤ x1) → (vp_in x1 200) ∧ (vp_in (x1 - 5) 200) ∧ ∀ m2 : zMem, m2 = zw μ (o + 13) (x1 - 5).toNatClampNeg (μ (o + 13) x1.toNatClampNeg) → ∀ v3 : Int32, v3 = x1 + 1 → pX5_dropOldestAct_2 n d o v3 m2 KV X))
set_option maxRecDepth 20000 in
theorem wX5_dropOldestAct_2 {d : Nat} {o : Nat} {KV : zMem → Prop} {X : Nat → zMem → Prop} (ho : zsh o = .inr 5) : ∀ (n : Nat) (x1 : Int32) (μ : zMem), pX5_dropOldestAct_2 n d o x1 μ KV X → Wr mX5_dropOldestAct (d + 1) 0 2 [(0, .ref o), (1, .int x1)] [] μ (kV KV X) := by
  intro n
  induction n with
  | zero =>
    intro x1 μ h
    exact absurd h id
  | succ n ih =>
    intro x1 μ h
    unfold pX5_dropOldestAct_2 at h
    refine Wr_iload_n dX5_dropOldestAct_2 rfl 1 rfl ?_
    refine Wr_aload_n dX5_dropOldestAct_3 rfl 0 rfl ?_
    refine Wr_getR 13 dX5_dropOldestAct_4 flX5_18 ho rfl (by decide) ?_
    refine Wr_alen dX5_dropOldestAct_7 (zo5_1 ho) (by decide) ?_
    refine Wr_icmp_ge 31 dX5_dropOldestAct_8 (by decide) (fun hc => ?_) (fun hc => ?_)
    · have h := h.1 hc
      refine Wr_aload_n dX5_dropOldestAct_31 rfl 0 rfl ?_
      refine Wr_bipush (v := 39) dX5_dropOldestAct_32 (by decide) ?_
      obtain ⟨m1, em1⟩ : ∃ z : zMem, z = zw μ o 2 39 := ⟨_, rfl⟩
      have h := h m1 em1
      refine Wr_putI dX5_dropOldestAct_34 fpX5_22 ho rfl ?_
      refine Wr_mu em1 ?_
      exact Wr_vret dX5_dropOldestAct_37 rfl ⟨rfl, h⟩
    · have h := h.2 hc
      refine Wr_aload_n dX5_dropOldestAct_11 rfl 0 rfl ?_
      refine Wr_getR 13 dX5_dropOldestAct_12 flX5_18 ho rfl (by decide) ?_
      refine Wr_iload_n dX5_dropOldestAct_15 rfl 1 rfl ?_
      refine Wr_iconstv (v := 5) dX5_dropOldestAct_16 (by decide) ?_
      refine Wr_isub dX5_dropOldestAct_17 ?_
      refine Wr_aload_n dX5_dropOldestAct_18 rfl 0 rfl ?_
      refine Wr_getR 13 dX5_dropOldestAct_19 flX5_18 ho rfl (by decide) ?_
      refine Wr_iload_n dX5_dropOldestAct_22 rfl 1 rfl ?_
      obtain ⟨hi, h⟩ := h
      refine Wr_iald dX5_dropOldestAct_23 (zo5_1 ho) hi ?_
      obtain ⟨him2, h⟩ := h
      obtain ⟨m2, em2⟩ : ∃ z : zMem, z = zw μ (o + 13) (x1 - 5).toNatClampNeg (μ (o + 13) x1.toNatClampNeg) := ⟨_, rfl⟩
      have h := h m2 em2
      refine Wr_iast dX5_dropOldestAct_24 (zo5_1 ho) him2 ?_
      refine Wr_mu em2 ?_
      obtain ⟨v3, ev3⟩ : ∃ z : Int32, z = x1 + 1 := ⟨_, rfl⟩
      have h := h v3 ev3
      refine Wr_iinc (v := v3) dX5_dropOldestAct_25 (q := 1) rfl (by rw [ev3]; rfl) (by decide) rfl ?_
      refine Wr_goto 2 dX5_dropOldestAct_28 (by decide) ?_
      refine zsub [0, 1] rfl ?_
      exact ih _ _ h
def pX5_dropOldestAct (d : Nat) (o : Nat) (μ : zMem) (KV : zMem → Prop) (X : Nat → zMem → Prop) : Prop :=
  ∃ n2 : Nat, pX5_dropOldestAct_2 n2 d o 5 μ KV X
set_option maxRecDepth 20000 in
theorem wX5_dropOldestAct_0 {d : Nat} {o : Nat} {KV : zMem → Prop} {X : Nat → zMem → Prop} {μ : zMem} (ho : zsh o = .inr 5) (h : pX5_dropOldestAct d o μ KV X) : Wr mX5_dropOldestAct (d + 1) 0 0 [(0, .ref o)] [] μ (kV KV X) := by
  unfold pX5_dropOldestAct at h
  refine Wr_iconstv (v := 5) dX5_dropOldestAct_0 (by decide) ?_
  refine Wr_istore_n dX5_dropOldestAct_1 rfl (by decide) rfl ?_
  refine zsub [0, 1] rfl ?_
  obtain ⟨n9, h⟩ := h
  exact wX5_dropOldestAct_2 ho n9 _ _ h
theorem cX5_dropOldestAct_ {d : Nat} {o : Nat} {μ : zMem} {KV : zMem → Prop} {X : Nat → zMem → Prop} (ho : zsh o = .inr 5) (h : pX5_dropOldestAct d o μ KV X) : zcV (d + 1) mX5_dropOldestAct [.ref o] μ KV X :=
  Ex_of (w := 1) mgX5_dropOldestAct.2.2.2.2.2 rfl rfl rfl (by decide) (wX5_dropOldestAct_0 ho h)

def pX5_takeBackAct (d : Nat) (o : Nat) (μ : zMem) (KV : zMem → Prop) (X : Nat → zMem → Prop) : Prop :=
  ((1 ≤ μ o 2 → ∀ m1 : zMem, m1 = zw μ o 2 ((μ o 2) - 1) → (vp_in (((m1 o 2) * 5) + 1) 200) ∧ ∀ v2 : Int32, v2 = m1 (o + 13) (((m1 o 2) * 5) + 1).toNatClampNeg → (vp_in (((m1 o 2) * 5) + 2) 200) ∧ ∀ v3 : Int32, v3 = m1 (o + 13) (((m1 o 2) * 5) + 2).toNatClampNeg → (vp_in ((m1 o 2) * 5) 200) ∧ ((m1 (o + 13) ((m1 o 2) * 5).toNatClampNeg = 0 → (vp_in v2 6) ∧ ∀ m4 : zMem, m4 = zw m1 ((o + 1) + 4) v2.toNatClampNeg v3 → KV m4) ∧
    (m1 (o + 13) ((m1 o 2) * 5).toNatClampNeg = 1 → (vp_in v2 6) ∧ ∀ m5 : zMem, m5 = zw m1 ((o + 1) + 10) v2.toNatClampNeg v3 → KV m5) ∧
    (m1 (o + 13) ((m1 o 2) * 5).toNatClampNeg = 2 → (vp_in v2 6) ∧ ∀ m6 : zMem, m6 = zw m1 ((o + 1) + 8) v2.toNatClampNeg v3 → KV m6) ∧
    (m1 (o + 13) ((m1 o 2) * 5).toNatClampNeg = 3 → (vp_in v2 6) ∧ (vp_in v2 6) ∧ ∀ m7 : zMem, m7 = zw m1 ((o + 1) + 9) v2.toNatClampNeg ((m1 ((o + 1) + 9) v2.toNatClampNeg) + 1) → (vp_in v3 6) ∧ (vp_in v3 6) ∧ ∀ m8 : zMem, m8 = zw m7 ((o + 1) + 9) v3.toNatClampNeg ((m7 ((o + 1) + 9) v3.toNatClampNeg) - 1) → KV m8) ∧
    (¬ m1 (o + 13) ((m1 o 2) * 5).toNatClampNeg = 0 → ¬ m1 (o + 13) ((m1 o 2) * 5).toNatClampNeg = 1 → ¬ m1 (o + 13) ((m1 o 2) * 5).toNatClampNeg = 2 → ¬ m1 (o + 13) ((m1 o 2) * 5).toNatClampNeg = 3 → (vp_in ((v2 * 4) + v3) 24) ∧ (vp_in (((m1 o 2) * 5) + 4) 200) ∧ (vp_in ((v2 * 4) + v3) 24) ∧ ∀ m9 : zMem, m9 = zw m1 ((o + 1) + 11) ((v2 * 4) + v3).toNatClampNeg ((m1 ((o + 1) + 11) ((v2 * 4) + v3).toNatClampNeg) + (m1 (o + 13) (((m1 o 2) * 5) + 4).toNatClampNeg)) → (vp_in (((m1 o 2) * 5) + 3) 200) ∧ (vp_in ((v2 * 4) + (m9 (o + 13) (((m1 o 2) * 5) + 3).toNatClampNeg)) 24) ∧ (vp_in (((m1 o 2) * 5) + 4) 200) ∧ (vp_in ((v2 * 4) + (m9 (o + 13) (((m1 o 2) * 5) + 3).toNatClampNeg)) 24) ∧ ∀ m10 : zMem, m10 = zw m9 ((o + 1) + 11) ((v2 * 4) + (m9 (o + 13) (((m1 o 2) * 5) + 3).toNatClampNeg)).toNatClampNeg ((m9 ((o + 1) + 11) ((v2 * 4) + (m9 (o + 13) (((m1 o 2) * 5) + 3).toNatClampNeg)).toNatClampNeg) - (m9 (o + 13) (((m1 o 2) * 5) + 4).toNatClampNeg)) → KV m10))) ∧
  (¬ (1 ≤ μ o 2) → KV μ))
set_option maxRecDepth 20000 in
theorem wX5_takeBackAct_0 {d : Nat} {o : Nat} {KV : zMem → Prop} {X : Nat → zMem → Prop} {μ : zMem} (ho : zsh o = .inr 5) (h : pX5_takeBackAct d o μ KV X) : Wr mX5_takeBackAct (d + 1) 0 0 [(0, .ref o)] [] μ (kV KV X) := by
  unfold pX5_takeBackAct at h
  refine Wr_aload_n dX5_takeBackAct_0 rfl 0 rfl ?_
  refine Wr_getI dX5_takeBackAct_1 flX5_22 ho rfl ?_
  refine Wr_iconstv (v := 1) dX5_takeBackAct_4 (by decide) ?_
  refine Wr_icmp_ge 9 dX5_takeBackAct_5 (by decide) (fun hc => ?_) (fun hc => ?_)
  · have h := h.1 hc
    refine Wr_aload_n dX5_takeBackAct_9 rfl 0 rfl ?_
    refine Wr_dup dX5_takeBackAct_10 rfl ?_
    refine Wr_getI dX5_takeBackAct_11 flX5_22 ho rfl ?_
    refine Wr_iconstv (v := 1) dX5_takeBackAct_14 (by decide) ?_
    refine Wr_isub dX5_takeBackAct_15 ?_
    obtain ⟨m1, em1⟩ : ∃ z : zMem, z = zw μ o 2 ((μ o 2) - 1) := ⟨_, rfl⟩
    have h := h m1 em1
    refine Wr_putI dX5_takeBackAct_16 fpX5_22 ho rfl ?_
    refine Wr_mu em1 ?_
    refine Wr_aload_n dX5_takeBackAct_19 rfl 0 rfl ?_
    refine Wr_getI dX5_takeBackAct_20 flX5_22 ho rfl ?_
    refine Wr_iconstv (v := 5) dX5_takeBackAct_23 (by decide) ?_
    refine Wr_imul dX5_takeBackAct_24 ?_
    refine Wr_istore_n dX5_takeBackAct_25 rfl (by decide) rfl ?_
    refine Wr_aload_n dX5_takeBackAct_26 rfl 1 rfl ?_
    refine Wr_getR 13 dX5_takeBackAct_27 flX5_18 ho rfl (by decide) ?_
    refine Wr_iload_n dX5_takeBackAct_30 rfl 0 rfl ?_
    refine Wr_iconstv (v := 1) dX5_takeBackAct_31 (by decide) ?_
    refine Wr_iadd dX5_takeBackAct_32 ?_
    obtain ⟨hi, h⟩ := h
    refine Wr_iald dX5_takeBackAct_33 (zo5_1 ho) hi ?_
    obtain ⟨v2, ev2⟩ : ∃ z : Int32, z = m1 (o + 13) (((m1 o 2) * 5) + 1).toNatClampNeg := ⟨_, rfl⟩
    have h := h v2 ev2
    refine Wr_top ev2 ?_
    refine Wr_istore_n dX5_takeBackAct_34 rfl (by decide) rfl ?_
    refine Wr_aload_n dX5_takeBackAct_35 rfl 2 rfl ?_
    refine Wr_getR 13 dX5_takeBackAct_36 flX5_18 ho rfl (by decide) ?_
    refine Wr_iload_n dX5_takeBackAct_39 rfl 1 rfl ?_
    refine Wr_iconstv (v := 2) dX5_takeBackAct_40 (by decide) ?_
    refine Wr_iadd dX5_takeBackAct_41 ?_
    obtain ⟨hi, h⟩ := h
    refine Wr_iald dX5_takeBackAct_42 (zo5_1 ho) hi ?_
    obtain ⟨v3, ev3⟩ : ∃ z : Int32, z = m1 (o + 13) (((m1 o 2) * 5) + 2).toNatClampNeg := ⟨_, rfl⟩
    have h := h v3 ev3
    refine Wr_top ev3 ?_
    refine Wr_istore_n dX5_takeBackAct_43 rfl (by decide) rfl ?_
    refine Wr_aload_n dX5_takeBackAct_44 rfl 3 rfl ?_
    refine Wr_getR 13 dX5_takeBackAct_45 flX5_18 ho rfl (by decide) ?_
    refine Wr_iload_n dX5_takeBackAct_48 rfl 2 rfl ?_
    obtain ⟨hi, h⟩ := h
    refine Wr_iald dX5_takeBackAct_49 (zo5_1 ho) hi ?_
    by_cases hq0 : m1 (o + 13) ((m1 o 2) * 5).toNatClampNeg = 0
    · have h := h.1 hq0
      refine Wr_tswC 0 30 80 hq0 dX5_takeBackAct_50 (by decide) (by decide) (by decide) (by decide) ?_
      refine Wr_aload_n dX5_takeBackAct_80 rfl 3 rfl ?_
      refine Wr_getR 1 dX5_takeBackAct_81 flX5_12 ho rfl (by decide) ?_
      refine Wr_getR 4 dX5_takeBackAct_84 flX5_54 (zo5_0 ho) rfl (by decide) ?_
      refine Wr_iload_n dX5_takeBackAct_87 rfl 1 rfl ?_
      refine Wr_iload_n dX5_takeBackAct_88 rfl 0 rfl ?_
      obtain ⟨him4, h⟩ := h
      obtain ⟨m4, em4⟩ : ∃ z : zMem, z = zw m1 ((o + 1) + 4) v2.toNatClampNeg v3 := ⟨_, rfl⟩
      have h := h m4 em4
      refine Wr_iast dX5_takeBackAct_89 (zo1_4 (zo5_0 ho)) him4 ?_
      refine Wr_mu em4 ?_
      refine Wr_goto 203 dX5_takeBackAct_90 (by decide) ?_
      exact Wr_vret dX5_takeBackAct_203 rfl ⟨rfl, h⟩
    have h := h.2
    by_cases hq1 : m1 (o + 13) ((m1 o 2) * 5).toNatClampNeg = 1
    · have h := h.1 hq1
      refine Wr_tswC 1 43 93 hq1 dX5_takeBackAct_50 (by decide) (by decide) (by decide) (by decide) ?_
      refine Wr_aload_n dX5_takeBackAct_93 rfl 3 rfl ?_
      refine Wr_getR 1 dX5_takeBackAct_94 flX5_12 ho rfl (by decide) ?_
      refine Wr_getR 10 dX5_takeBackAct_97 flX5_57 (zo5_0 ho) rfl (by decide) ?_
      refine Wr_iload_n dX5_takeBackAct_100 rfl 1 rfl ?_
      refine Wr_iload_n dX5_takeBackAct_101 rfl 0 rfl ?_
      obtain ⟨him5, h⟩ := h
      obtain ⟨m5, em5⟩ : ∃ z : zMem, z = zw m1 ((o + 1) + 10) v2.toNatClampNeg v3 := ⟨_, rfl⟩
      have h := h m5 em5
      refine Wr_iast dX5_takeBackAct_102 (zo1_10 (zo5_0 ho)) him5 ?_
      refine Wr_mu em5 ?_
      refine Wr_goto 203 dX5_takeBackAct_103 (by decide) ?_
      exact Wr_vret dX5_takeBackAct_203 rfl ⟨rfl, h⟩
    have h := h.2
    by_cases hq2 : m1 (o + 13) ((m1 o 2) * 5).toNatClampNeg = 2
    · have h := h.1 hq2
      refine Wr_tswC 2 56 106 hq2 dX5_takeBackAct_50 (by decide) (by decide) (by decide) (by decide) ?_
      refine Wr_aload_n dX5_takeBackAct_106 rfl 3 rfl ?_
      refine Wr_getR 1 dX5_takeBackAct_107 flX5_12 ho rfl (by decide) ?_
      refine Wr_getR 8 dX5_takeBackAct_110 flX5_60 (zo5_0 ho) rfl (by decide) ?_
      refine Wr_iload_n dX5_takeBackAct_113 rfl 1 rfl ?_
      refine Wr_iload_n dX5_takeBackAct_114 rfl 0 rfl ?_
      obtain ⟨him6, h⟩ := h
      obtain ⟨m6, em6⟩ : ∃ z : zMem, z = zw m1 ((o + 1) + 8) v2.toNatClampNeg v3 := ⟨_, rfl⟩
      have h := h m6 em6
      refine Wr_iast dX5_takeBackAct_115 (zo1_8 (zo5_0 ho)) him6 ?_
      refine Wr_mu em6 ?_
      refine Wr_goto 203 dX5_takeBackAct_116 (by decide) ?_
      exact Wr_vret dX5_takeBackAct_203 rfl ⟨rfl, h⟩
    have h := h.2
    by_cases hq3 : m1 (o + 13) ((m1 o 2) * 5).toNatClampNeg = 3
    · have h := h.1 hq3
      refine Wr_tswC 3 69 119 hq3 dX5_takeBackAct_50 (by decide) (by decide) (by decide) (by decide) ?_
      refine Wr_aload_n dX5_takeBackAct_119 rfl 3 rfl ?_
      refine Wr_getR 1 dX5_takeBackAct_120 flX5_12 ho rfl (by decide) ?_
      refine Wr_getR 9 dX5_takeBackAct_123 flX5_63 (zo5_0 ho) rfl (by decide) ?_
      refine Wr_iload_n dX5_takeBackAct_126 rfl 1 rfl ?_
      refine Wr_dup2 dX5_takeBackAct_127 rfl rfl ?_
      obtain ⟨hi, h⟩ := h
      refine Wr_iald dX5_takeBackAct_128 (zo1_9 (zo5_0 ho)) hi ?_
      refine Wr_iconstv (v := 1) dX5_takeBackAct_129 (by decide) ?_
      refine Wr_iadd dX5_takeBackAct_130 ?_
      obtain ⟨him7, h⟩ := h
      obtain ⟨m7, em7⟩ : ∃ z : zMem, z = zw m1 ((o + 1) + 9) v2.toNatClampNeg ((m1 ((o + 1) + 9) v2.toNatClampNeg) + 1) := ⟨_, rfl⟩
      have h := h m7 em7
      refine Wr_iast dX5_takeBackAct_131 (zo1_9 (zo5_0 ho)) him7 ?_
      refine Wr_mu em7 ?_
      refine Wr_aload_n dX5_takeBackAct_132 rfl 3 rfl ?_
      refine Wr_getR 1 dX5_takeBackAct_133 flX5_12 ho rfl (by decide) ?_
      refine Wr_getR 9 dX5_takeBackAct_136 flX5_63 (zo5_0 ho) rfl (by decide) ?_
      refine Wr_iload_n dX5_takeBackAct_139 rfl 0 rfl ?_
      refine Wr_dup2 dX5_takeBackAct_140 rfl rfl ?_
      obtain ⟨hi, h⟩ := h
      refine Wr_iald dX5_takeBackAct_141 (zo1_9 (zo5_0 ho)) hi ?_
      refine Wr_iconstv (v := 1) dX5_takeBackAct_142 (by decide) ?_
      refine Wr_isub dX5_takeBackAct_143 ?_
      obtain ⟨him8, h⟩ := h
      obtain ⟨m8, em8⟩ : ∃ z : zMem, z = zw m7 ((o + 1) + 9) v3.toNatClampNeg ((m7 ((o + 1) + 9) v3.toNatClampNeg) - 1) := ⟨_, rfl⟩
      have h := h m8 em8
      refine Wr_iast dX5_takeBackAct_144 (zo1_9 (zo5_0 ho)) him8 ?_
      refine Wr_mu em8 ?_
      refine Wr_goto 203 dX5_takeBackAct_145 (by decide) ?_
      exact Wr_vret dX5_takeBackAct_203 rfl ⟨rfl, h⟩
    have h := h.2
    have h := h hq0 hq1 hq2 hq3
    refine Wr_tswD 148 (by have := zne hq0 (c := 0) (by decide); have := zne hq1 (c := 1) (by decide); have := zne hq2 (c := 2) (by decide); have := zne hq3 (c := 3) (by decide); omega) dX5_takeBackAct_50 (by decide) ?_
    refine Wr_aload_n dX5_takeBackAct_148 rfl 3 rfl ?_
    refine Wr_getR 1 dX5_takeBackAct_149 flX5_12 ho rfl (by decide) ?_
    refine Wr_getR 11 dX5_takeBackAct_152 flX5_66 (zo5_0 ho) rfl (by decide) ?_
    refine Wr_iload_n dX5_takeBackAct_155 rfl 1 rfl ?_
    refine Wr_iconstv (v := 4) dX5_takeBackAct_156 (by decide) ?_
    refine Wr_imul dX5_takeBackAct_157 ?_
    refine Wr_iload_n dX5_takeBackAct_158 rfl 0 rfl ?_
    refine Wr_iadd dX5_takeBackAct_159 ?_
    refine Wr_dup2 dX5_takeBackAct_160 rfl rfl ?_
    obtain ⟨hi, h⟩ := h
    refine Wr_iald dX5_takeBackAct_161 (zo1_11 (zo5_0 ho)) hi ?_
    refine Wr_aload_n dX5_takeBackAct_162 rfl 3 rfl ?_
    refine Wr_getR 13 dX5_takeBackAct_163 flX5_18 ho rfl (by decide) ?_
    refine Wr_iload_n dX5_takeBackAct_166 rfl 2 rfl ?_
    refine Wr_iconstv (v := 4) dX5_takeBackAct_167 (by decide) ?_
    refine Wr_iadd dX5_takeBackAct_168 ?_
    obtain ⟨hi, h⟩ := h
    refine Wr_iald dX5_takeBackAct_169 (zo5_1 ho) hi ?_
    refine Wr_iadd dX5_takeBackAct_170 ?_
    obtain ⟨him9, h⟩ := h
    obtain ⟨m9, em9⟩ : ∃ z : zMem, z = zw m1 ((o + 1) + 11) ((v2 * 4) + v3).toNatClampNeg ((m1 ((o + 1) + 11) ((v2 * 4) + v3).toNatClampNeg) + (m1 (o + 13) (((m1 o 2) * 5) + 4).toNatClampNeg)) := ⟨_, rfl⟩
    have h := h m9 em9
    refine Wr_iast dX5_takeBackAct_171 (zo1_11 (zo5_0 ho)) him9 ?_
    refine Wr_mu em9 ?_
    refine Wr_aload_n dX5_takeBackAct_172 rfl 3 rfl ?_
    refine Wr_getR 1 dX5_takeBackAct_173 flX5_12 ho rfl (by decide) ?_
    refine Wr_getR 11 dX5_takeBackAct_176 flX5_66 (zo5_0 ho) rfl (by decide) ?_
    refine Wr_iload_n dX5_takeBackAct_179 rfl 1 rfl ?_
    refine Wr_iconstv (v := 4) dX5_takeBackAct_180 (by decide) ?_
    refine Wr_imul dX5_takeBackAct_181 ?_
    refine Wr_aload_n dX5_takeBackAct_182 rfl 3 rfl ?_
    refine Wr_getR 13 dX5_takeBackAct_183 flX5_18 ho rfl (by decide) ?_
    refine Wr_iload_n dX5_takeBackAct_186 rfl 2 rfl ?_
    refine Wr_iconstv (v := 3) dX5_takeBackAct_187 (by decide) ?_
    refine Wr_iadd dX5_takeBackAct_188 ?_
    obtain ⟨hi, h⟩ := h
    refine Wr_iald dX5_takeBackAct_189 (zo5_1 ho) hi ?_
    refine Wr_iadd dX5_takeBackAct_190 ?_
    refine Wr_dup2 dX5_takeBackAct_191 rfl rfl ?_
    obtain ⟨hi, h⟩ := h
    refine Wr_iald dX5_takeBackAct_192 (zo1_11 (zo5_0 ho)) hi ?_
    refine Wr_aload_n dX5_takeBackAct_193 rfl 3 rfl ?_
    refine Wr_getR 13 dX5_takeBackAct_194 flX5_18 ho rfl (by decide) ?_
    refine Wr_iload_n dX5_takeBackAct_197 rfl 2 rfl ?_
    refine Wr_iconstv (v := 4) dX5_takeBackAct_198 (by decide) ?_
    refine Wr_iadd dX5_takeBackAct_199 ?_
    obtain ⟨hi, h⟩ := h
    refine Wr_iald dX5_takeBackAct_200 (zo5_1 ho) hi ?_
    refine Wr_isub dX5_takeBackAct_201 ?_
    obtain ⟨him10, h⟩ := h
    obtain ⟨m10, em10⟩ : ∃ z : zMem, z = zw m9 ((o + 1) + 11) ((v2 * 4) + (m9 (o + 13) (((m1 o 2) * 5) + 3).toNatClampNeg)).toNatClampNeg ((m9 ((o + 1) + 11) ((v2 * 4) + (m9 (o + 13) (((m1 o 2) * 5) + 3).toNatClampNeg)).toNatClampNeg) - (m9 (o + 13) (((m1 o 2) * 5) + 4).toNatClampNeg)) := ⟨_, rfl⟩
    have h := h m10 em10
    refine Wr_iast dX5_takeBackAct_202 (zo1_11 (zo5_0 ho)) him10 ?_
    refine Wr_mu em10 ?_
    exact Wr_vret dX5_takeBackAct_203 rfl ⟨rfl, h⟩
  · have h := h.2 hc
    exact Wr_vret dX5_takeBackAct_8 rfl ⟨rfl, h⟩
theorem cX5_takeBackAct_ {d : Nat} {o : Nat} {μ : zMem} {KV : zMem → Prop} {X : Nat → zMem → Prop} (ho : zsh o = .inr 5) (h : pX5_takeBackAct d o μ KV X) : zcV (d + 1) mX5_takeBackAct [.ref o] μ KV X :=
  Ex_of (w := 1) mgX5_takeBackAct.2.2.2.2.2 rfl rfl rfl (by decide) (wX5_takeBackAct_0 ho h)
