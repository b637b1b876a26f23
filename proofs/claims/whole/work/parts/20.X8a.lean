def pX8_feed (d : Nat) (x1 : Int32) (x2 : Int32) (x3 : Int32) (x4 : Int32) (x5 : Int32) (μ : zMem) (KI : Int32 → zMem → Prop) (X : Nat → zMem → Prop) : Prop :=
  (((μ 0 1) + 20 ≤ 700 → zcV d mX8_putOnTape [.ref 0, .int x1] μ (fun m1 => zcV d mX8_putOnTape [.ref 0, .int x2] m1 (fun m2 => zcV d mX8_putOnTape [.ref 0, .int x3] m2 (fun m3 => zcV d mX8_putOnTape [.ref 0, .int x4] m3 (fun m4 => zcV d mX8_putOnTape [.ref 0, .int x5] m4 (fun m5 => KI (m5 0 1) m5) X) X) X) X) X) ∧
  (¬ ((μ 0 1) + 20 ≤ 700) → KI (-1) μ))
set_option maxRecDepth 20000 in
theorem wX8_feed_0 {d : Nat} {KI : Int32 → zMem → Prop} {X : Nat → zMem → Prop} {x1 : Int32} {x2 : Int32} {x3 : Int32} {x4 : Int32} {x5 : Int32} {μ : zMem} (h : pX8_feed d x1 x2 x3 x4 x5 μ KI X) : Wr mX8_feed (d + 1) 0 0 [(0, .ref 0), (1, .int x1), (2, .int x2), (3, .int x3), (4, .int x4), (5, .int x5)] [] μ (kI KI X) := by
  unfold pX8_feed at h
  refine Wr_aload_n dX8_feed_0 rfl 0 rfl ?_
  refine Wr_getI dX8_feed_1 flX8_13 zl0 rfl ?_
  refine Wr_bipush (v := 20) dX8_feed_4 (by decide) ?_
  refine Wr_iadd dX8_feed_6 ?_
  refine Wr_sipush (v := 700) dX8_feed_7 (by decide) ?_
  refine Wr_icmp_le 15 dX8_feed_10 (by decide) (fun hc => ?_) (fun hc => ?_)
  · have h := h.1 hc
    refine Wr_aload_n dX8_feed_15 rfl 0 rfl ?_
    refine Wr_iload_n dX8_feed_16 rfl 1 rfl ?_
    refine Wr_cVv [.int x1] dX8_feed_17 mlX8_82 mgX8_putOnTape rfl mvX8_putOnTape (zrv zl0 _ rfl rfl) rfl rfl (Nat.le_of_ble_eq_true rfl) rfl (zcV.imp h (fun m1 h => ?_) (fun _ _ h => ⟨rfl, h⟩))
    refine Wr_aload_n dX8_feed_20 rfl 0 rfl ?_
    refine Wr_iload_n dX8_feed_21 rfl 2 rfl ?_
    refine Wr_cVv [.int x2] dX8_feed_22 mlX8_82 mgX8_putOnTape rfl mvX8_putOnTape (zrv zl0 _ rfl rfl) rfl rfl (Nat.le_of_ble_eq_true rfl) rfl (zcV.imp h (fun m2 h => ?_) (fun _ _ h => ⟨rfl, h⟩))
    refine Wr_aload_n dX8_feed_25 rfl 0 rfl ?_
    refine Wr_iload_n dX8_feed_26 rfl 3 rfl ?_
    refine Wr_cVv [.int x3] dX8_feed_27 mlX8_82 mgX8_putOnTape rfl mvX8_putOnTape (zrv zl0 _ rfl rfl) rfl rfl (Nat.le_of_ble_eq_true rfl) rfl (zcV.imp h (fun m3 h => ?_) (fun _ _ h => ⟨rfl, h⟩))
    refine Wr_aload_n dX8_feed_30 rfl 0 rfl ?_
    refine Wr_iload dX8_feed_31 4 rfl ?_
    refine Wr_cVv [.int x4] dX8_feed_33 mlX8_82 mgX8_putOnTape rfl mvX8_putOnTape (zrv zl0 _ rfl rfl) rfl rfl (Nat.le_of_ble_eq_true rfl) rfl (zcV.imp h (fun m4 h => ?_) (fun _ _ h => ⟨rfl, h⟩))
    refine Wr_aload_n dX8_feed_36 rfl 0 rfl ?_
    refine Wr_iload dX8_feed_37 5 rfl ?_
    refine Wr_cVv [.int x5] dX8_feed_39 mlX8_82 mgX8_putOnTape rfl mvX8_putOnTape (zrv zl0 _ rfl rfl) rfl rfl (Nat.le_of_ble_eq_true rfl) rfl (zcV.imp h (fun m5 h => ?_) (fun _ _ h => ⟨rfl, h⟩))
    refine Wr_aload_n dX8_feed_42 rfl 0 rfl ?_
    refine Wr_getI dX8_feed_43 flX8_13 zl0 rfl ?_
    exact Wr_iret .int dX8_feed_46 rfl rfl ⟨rfl, h⟩
  · have h := h.2 hc
    refine Wr_iconstv (v := (-1)) dX8_feed_13 (by decide) ?_
    exact Wr_iret .int dX8_feed_14 rfl rfl ⟨rfl, h⟩
theorem cX8_feed_ {d : Nat} {x1 : Int32} {x2 : Int32} {x3 : Int32} {x4 : Int32} {x5 : Int32} {μ : zMem} {KI : Int32 → zMem → Prop} {X : Nat → zMem → Prop} (h : pX8_feed d x1 x2 x3 x4 x5 μ KI X) : zcI (d + 1) mX8_feed [.ref 0, .int x1, .int x2, .int x3, .int x4, .int x5] μ KI X :=
  Ex_of (w := 6) mgX8_feed.2.2.2.2.2 rfl rfl rfl (by decide) (wX8_feed_0 h)

def pX8_putOnTape_3 : Nat → Nat → Int32 → Int32 → zMem → (zMem → Prop) → (Nat → zMem → Prop) → Prop
  | 0, _, _, _, _, _, _ => False
  | n + 1, d, x1, x2, μ, KV, X =>
  ((x2 < 0 → KV μ) ∧
  (¬ (x2 < 0) → ((700 ≤ μ 0 1 → ∀ v1 : Int32, v1 = x2 + (-8) → pX8_putOnTape_3 n d x1 v1 μ KV X) ∧
    (¬ (700 ≤ μ 0 1) → (vp_in (μ 0 1) 700) ∧ ∀ m2 : zMem, m2 = zw μ 1 (μ 0 1).toNatClampNeg (vp_nar .byte ((x1 >>> (x2 &&& (31 : Int32))).toInt8.toInt32)) → ∀ m3 : zMem, m3 = zw m2 0 1 ((m2 0 1) + 1) → ∀ v4 : Int32, v4 = x2 + (-8) → pX8_putOnTape_3 n d x1 v4 m3 KV X))))
set_option maxRecDepth 20000 in
theorem wX8_putOnTape_3 {d : Nat} {KV : zMem → Prop} {X : Nat → zMem → Prop} : ∀ (n : Nat) (x1 : Int32) (x2 : Int32) (μ : zMem), pX8_putOnTape_3 n d x1 x2 μ KV X → Wr mX8_putOnTape (d + 1) 0 3 [(0, .ref 0), (1, .int x1), (2, .int x2)] [] μ (kV KV X) := by
  intro n
  induction n with
  | zero =>
    intro x1 x2 μ h
    exact absurd h id
  | succ n ih =>
    intro x1 x2 μ h
    unfold pX8_putOnTape_3 at h
    refine Wr_iload_n dX8_putOnTape_3 rfl 2 rfl ?_
    refine Wr_if_lt 48 dX8_putOnTape_4 (by decide) (fun hc => ?_) (fun hc => ?_)
    · have h := h.1 hc
      exact Wr_vret dX8_putOnTape_48 rfl ⟨rfl, h⟩
    · have h := h.2 hc
      refine Wr_aload_n dX8_putOnTape_7 rfl 0 rfl ?_
      refine Wr_getI dX8_putOnTape_8 flX8_13 zl0 rfl ?_
      refine Wr_aload_n dX8_putOnTape_11 rfl 0 rfl ?_
      refine Wr_getR 1 dX8_putOnTape_12 flX8_9 zl0 rfl (by decide) ?_
      refine Wr_alen dX8_putOnTape_15 zl1 (by decide) ?_
      refine Wr_icmp_ge 42 dX8_putOnTape_16 (by decide) (fun hc => ?_) (fun hc => ?_)
      · have h := h.1 hc
        obtain ⟨v1, ev1⟩ : ∃ z : Int32, z = x2 + (-8) := ⟨_, rfl⟩
        have h := h v1 ev1
        refine Wr_iinc (v := v1) dX8_putOnTape_42 (q := 2) rfl (by rw [ev1]; rfl) (by decide) rfl ?_
        refine Wr_goto 3 dX8_putOnTape_45 (by decide) ?_
        refine zsub [0, 1, 2] rfl ?_
        exact ih _ _ _ h
      · have h := h.2 hc
        refine Wr_aload_n dX8_putOnTape_19 rfl 0 rfl ?_
        refine Wr_getR 1 dX8_putOnTape_20 flX8_9 zl0 rfl (by decide) ?_
        refine Wr_aload_n dX8_putOnTape_23 rfl 0 rfl ?_
        refine Wr_getI dX8_putOnTape_24 flX8_13 zl0 rfl ?_
        refine Wr_iload_n dX8_putOnTape_27 rfl 1 rfl ?_
        refine Wr_iload_n dX8_putOnTape_28 rfl 2 rfl ?_
        refine Wr_ishr dX8_putOnTape_29 ?_
        refine Wr_i2b dX8_putOnTape_30 ?_
        obtain ⟨him2, h⟩ := h
        obtain ⟨m2, em2⟩ : ∃ z : zMem, z = zw μ 1 (μ 0 1).toNatClampNeg (vp_nar .byte ((x1 >>> (x2 &&& (31 : Int32))).toInt8.toInt32)) := ⟨_, rfl⟩
        have h := h m2 em2
        refine Wr_bast dX8_putOnTape_31 zl1 him2 ?_
        refine Wr_mu em2 ?_
        refine Wr_aload_n dX8_putOnTape_32 rfl 0 rfl ?_
        refine Wr_dup dX8_putOnTape_33 rfl ?_
        refine Wr_getI dX8_putOnTape_34 flX8_13 zl0 rfl ?_
        refine Wr_iconstv (v := 1) dX8_putOnTape_37 (by decide) ?_
        refine Wr_iadd dX8_putOnTape_38 ?_
        obtain ⟨m3, em3⟩ : ∃ z : zMem, z = zw m2 0 1 ((m2 0 1) + 1) := ⟨_, rfl⟩
        have h := h m3 em3
        refine Wr_putI dX8_putOnTape_39 fpX8_13 zl0 rfl ?_
        refine Wr_mu em3 ?_
        obtain ⟨v4, ev4⟩ : ∃ z : Int32, z = x2 + (-8) := ⟨_, rfl⟩
        have h := h v4 ev4
        refine Wr_iinc (v := v4) dX8_putOnTape_42 (q := 2) rfl (by rw [ev4]; rfl) (by decide) rfl ?_
        refine Wr_goto 3 dX8_putOnTape_45 (by decide) ?_
        refine zsub [0, 1, 2] rfl ?_
        exact ih _ _ _ h
def pX8_putOnTape (d : Nat) (x1 : Int32) (μ : zMem) (KV : zMem → Prop) (X : Nat → zMem → Prop) : Prop :=
  ∃ n2 : Nat, pX8_putOnTape_3 n2 d x1 24 μ KV X
set_option maxRecDepth 20000 in
theorem wX8_putOnTape_0 {d : Nat} {KV : zMem → Prop} {X : Nat → zMem → Prop} {x1 : Int32} {μ : zMem} (h : pX8_putOnTape d x1 μ KV X) : Wr mX8_putOnTape (d + 1) 0 0 [(0, .ref 0), (1, .int x1)] [] μ (kV KV X) := by
  unfold pX8_putOnTape at h
  refine Wr_bipush (v := 24) dX8_putOnTape_0 (by decide) ?_
  refine Wr_istore_n dX8_putOnTape_2 rfl (by decide) rfl ?_
  refine zsub [0, 1, 2] rfl ?_
  obtain ⟨n9, h⟩ := h
  exact wX8_putOnTape_3 n9 _ _ _ h
theorem cX8_putOnTape_ {d : Nat} {x1 : Int32} {μ : zMem} {KV : zMem → Prop} {X : Nat → zMem → Prop} (h : pX8_putOnTape d x1 μ KV X) : zcV (d + 1) mX8_putOnTape [.ref 0, .int x1] μ KV X :=
  Ex_of (w := 2) mgX8_putOnTape.2.2.2.2.2 rfl rfl rfl (by decide) (wX8_putOnTape_0 h)

def pX8_sky (d : Nat) (x1 : Int32) (μ : zMem) (KI : Int32 → zMem → Prop) (X : Nat → zMem → Prop) : Prop :=
  ((x1 < 0 → X 1 μ) ∧
  (¬ (x1 < 0) → ((x1 ≤ μ 0 1 → ∀ m1 : zMem, m1 = zw μ 0 1 0 → zcI d mX2_readText [.ref 2, .ref 1, .int x1, .ref (zsk m1 0 5)] m1 (fun u3 m2 => ((u3 = 0 → ∀ m4 : zMem, m4 = zw m2 0 3 (-1) → ∀ m5 : zMem, m5 = zw m4 0 4 (if zsk m4 0 5 = zSKA then 0 else 1) → ∀ m6 : zMem, m6 = zw m5 0 5 (if zsk m4 0 4 = zSKA then 0 else 1) → zcV d mX5_begin [.ref 46, .ref ((zsk m6 0 4) + 1)] m6 (fun m7 => ∀ m8 : zMem, m8 = zw m7 0 8 0 → zcV d mX7_forget [.ref 98] m8 (fun m9 => KI 0 m9) X) X) ∧
      (¬ (u3 = 0) → ∀ m10 : zMem, m10 = zw m2 0 3 (m2 2 4) → ∀ m11 : zMem, m11 = zw m10 62 0 ((m10 62 0) + 1) → KI u3 m11))) X) ∧
    (¬ (x1 ≤ μ 0 1) → X 1 μ))))
set_option maxRecDepth 20000 in
theorem wX8_sky_0 {d : Nat} {KI : Int32 → zMem → Prop} {X : Nat → zMem → Prop} {x1 : Int32} {μ : zMem} (h : pX8_sky d x1 μ KI X) : Wr mX8_sky (d + 1) 0 0 [(0, .ref 0), (1, .int x1)] [] μ (kI KI X) := by
  unfold pX8_sky at h
  refine Wr_iload_n dX8_sky_0 rfl 1 rfl ?_
  refine Wr_if_lt 12 dX8_sky_1 (by decide) (fun hc => ?_) (fun hc => ?_)
  · have h := h.1 hc
    exact Wr_throw 18 (E := 1) (tx := "the tape has not so many bytes") (sn := 31) ⟨wGm 538 (by decide +kernel) rfl, wGm 120 (by decide +kernel) rfl, wGm 579 (by decide +kernel) rfl, zst 31 (by decide +kernel), by decide⟩ rfl (Nat.le_of_ble_eq_true rfl) dX8_sky_12 dX8_sky_15 (Or.inl ⟨dX8_sky_16, rfl⟩) dX8_sky_18 dX8_sky_21 ⟨rfl, h⟩
  · have h := h.2 hc
    refine Wr_iload_n dX8_sky_4 rfl 1 rfl ?_
    refine Wr_aload_n dX8_sky_5 rfl 0 rfl ?_
    refine Wr_getI dX8_sky_6 flX8_13 zl0 rfl ?_
    refine Wr_icmp_le 22 dX8_sky_9 (by decide) (fun hc => ?_) (fun hc => ?_)
    · have h := h.1 hc
      refine Wr_aload_n dX8_sky_22 rfl 0 rfl ?_
      refine Wr_iconstv (v := 0) dX8_sky_23 (by decide) ?_
      obtain ⟨m1, em1⟩ : ∃ z : zMem, z = zw μ 0 1 0 := ⟨_, rfl⟩
      have h := h m1 em1
      refine Wr_putI dX8_sky_24 fpX8_13 zl0 rfl ?_
      refine Wr_mu em1 ?_
      refine Wr_aload_n dX8_sky_27 rfl 0 rfl ?_
      refine Wr_getR 2 dX8_sky_28 flX8_20 zl0 rfl (by decide) ?_
      refine Wr_aload_n dX8_sky_31 rfl 0 rfl ?_
      refine Wr_getR 1 dX8_sky_32 flX8_9 zl0 rfl (by decide) ?_
      refine Wr_iload_n dX8_sky_35 rfl 1 rfl ?_
      refine Wr_aload_n dX8_sky_36 rfl 0 rfl ?_
      refine Wr_getT dX8_sky_37 flX8_34 zl0 (by decide) ?_
      refine Wr_cVi [.ref 1, .int x1, .ref (zsk m1 0 5)] dX8_sky_40 mlX8_93 mgX2_readText rfl mvX2_readText (zrv zl2 _ rfl rfl) rfl rfl (Nat.le_of_ble_eq_true rfl) rfl (zcI.imp h (fun u3 m2 h => ?_) (fun _ _ h => ⟨rfl, h⟩))
      refine Wr_istore_n dX8_sky_43 rfl (by decide) rfl ?_
      refine Wr_iload_n dX8_sky_44 rfl 0 rfl ?_
      refine Wr_if_eq 74 dX8_sky_45 (by decide) (fun hc => ?_) (fun hc => ?_)
      · have h := h.1 hc
        refine Wr_aload_n dX8_sky_74 rfl 1 rfl ?_
        refine Wr_iconstv (v := (-1)) dX8_sky_75 (by decide) ?_
        obtain ⟨m4, em4⟩ : ∃ z : zMem, z = zw m2 0 3 (-1) := ⟨_, rfl⟩
        have h := h m4 em4
        refine Wr_putI dX8_sky_76 fpX8_24 zl0 rfl ?_
        refine Wr_mu em4 ?_
        refine Wr_aload_n dX8_sky_79 rfl 1 rfl ?_
        refine Wr_getT dX8_sky_80 flX8_30 zl0 (by decide) ?_
        refine Wr_astore_n dX8_sky_83 rfl (by decide) rfl ?_
        refine Wr_aload_n dX8_sky_84 rfl 2 rfl ?_
        refine Wr_aload_n dX8_sky_85 rfl 2 rfl ?_
        refine Wr_getT dX8_sky_86 flX8_34 zl0 (by decide) ?_
        obtain ⟨m5, em5⟩ : ∃ z : zMem, z = zw m4 0 4 (if zsk m4 0 5 = zSKA then 0 else 1) := ⟨_, rfl⟩
        have h := h m5 em5
        refine Wr_putT dX8_sky_89 fpX8_30 zl0 (by decide) (zsk_ab _ _ _) ?_
        refine Wr_mu em5 ?_
        refine Wr_aload_n dX8_sky_92 rfl 2 rfl ?_
        refine Wr_aload_n dX8_sky_93 rfl 0 rfl ?_
        obtain ⟨m6, em6⟩ : ∃ z : zMem, z = zw m5 0 5 (if zsk m4 0 4 = zSKA then 0 else 1) := ⟨_, rfl⟩
        have h := h m6 em6
        refine Wr_putT dX8_sky_94 fpX8_34 zl0 (by decide) (zsk_ab _ _ _) ?_
        refine Wr_mu em6 ?_
        refine Wr_aload_n dX8_sky_97 rfl 2 rfl ?_
        refine Wr_getR 46 dX8_sky_98 flX8_40 zl0 rfl (by decide) ?_
        refine Wr_aload_n dX8_sky_101 rfl 2 rfl ?_
        refine Wr_getT dX8_sky_102 flX8_30 zl0 (by decide) ?_
        refine Wr_getR 1 dX8_sky_105 flX8_103 (zsk_sh m6 0 4) rfl (by decide) ?_
        refine Wr_cVv [.ref ((zsk m6 0 4) + 1)] dX8_sky_108 mlX8_106 mgX5_begin rfl mvX5_begin (zrv zl46 _ rfl rfl) rfl rfl (Nat.le_of_ble_eq_true rfl) rfl (zcV.imp h (fun m7 h => ?_) (fun _ _ h => ⟨rfl, h⟩))
        refine Wr_aload_n dX8_sky_111 rfl 2 rfl ?_
        refine Wr_iconstv (v := 0) dX8_sky_112 (by decide) ?_
        obtain ⟨m8, em8⟩ : ∃ z : zMem, z = zw m7 0 8 0 := ⟨_, rfl⟩
        have h := h m8 em8
        refine Wr_putZ dX8_sky_113 fpX8_47 zl0 rfl (by decide) ?_
        refine Wr_mu em8 ?_
        refine Wr_aload_n dX8_sky_116 rfl 2 rfl ?_
        refine Wr_getR 98 dX8_sky_117 flX8_68 zl0 rfl (by decide) ?_
        refine Wr_cVv [] dX8_sky_120 mlX8_110 mgX7_forget rfl mvX7_forget (zrv zl98 _ rfl rfl) rfl rfl (Nat.le_of_ble_eq_true rfl) rfl (zcV.imp h (fun m9 h => ?_) (fun _ _ h => ⟨rfl, h⟩))
        refine Wr_iconstv (v := 0) dX8_sky_123 (by decide) ?_
        exact Wr_iret .int dX8_sky_124 rfl rfl ⟨rfl, h⟩
      · have h := h.2 hc
        refine Wr_aload_n dX8_sky_48 rfl 1 rfl ?_
        refine Wr_aload_n dX8_sky_49 rfl 1 rfl ?_
        refine Wr_getR 2 dX8_sky_50 flX8_20 zl0 rfl (by decide) ?_
        refine Wr_getI dX8_sky_53 flX8_97 zl2 rfl ?_
        obtain ⟨m10, em10⟩ : ∃ z : zMem, z = zw m2 0 3 (m2 2 4) := ⟨_, rfl⟩
        have h := h m10 em10
        refine Wr_putI dX8_sky_56 fpX8_24 zl0 rfl ?_
        refine Wr_mu em10 ?_
        refine Wr_aload_n dX8_sky_59 rfl 1 rfl ?_
        refine Wr_getR 46 dX8_sky_60 flX8_40 zl0 rfl (by decide) ?_
        refine Wr_getR 16 dX8_sky_63 flX8_100 zl46 rfl (by decide) ?_
        refine Wr_iconstv (v := 0) dX8_sky_66 (by decide) ?_
        refine Wr_dup2 dX8_sky_67 rfl rfl ?_
        refine Wr_iald dX8_sky_68 zl62 (by unfold vp_in; decide) ?_
        refine Wr_iconstv (v := 1) dX8_sky_69 (by decide) ?_
        refine Wr_iadd dX8_sky_70 ?_
        obtain ⟨m11, em11⟩ : ∃ z : zMem, z = zw m10 62 0 ((m10 62 0) + 1) := ⟨_, rfl⟩
        have h := h m11 em11
        refine Wr_iast dX8_sky_71 zl62 (by unfold vp_in; decide) ?_
        refine Wr_mu em11 ?_
        refine Wr_iload_n dX8_sky_72 rfl 0 rfl ?_
        exact Wr_iret .int dX8_sky_73 rfl rfl ⟨rfl, h⟩
    · have h := h.2 hc
      exact Wr_throw 18 (E := 1) (tx := "the tape has not so many bytes") (sn := 31) ⟨wGm 538 (by decide +kernel) rfl, wGm 120 (by decide +kernel) rfl, wGm 579 (by decide +kernel) rfl, zst 31 (by decide +kernel), by decide⟩ rfl (Nat.le_of_ble_eq_true rfl) dX8_sky_12 dX8_sky_15 (Or.inl ⟨dX8_sky_16, rfl⟩) dX8_sky_18 dX8_sky_21 ⟨rfl, h⟩
theorem cX8_sky_ {d : Nat} {x1 : Int32} {μ : zMem} {KI : Int32 → zMem → Prop} {X : Nat → zMem → Prop} (h : pX8_sky d x1 μ KI X) : zcI (d + 1) mX8_sky [.ref 0, .int x1] μ KI X :=
  Ex_of (w := 2) mgX8_sky.2.2.2.2.2 rfl rfl rfl (by decide) (wX8_sky_0 h)

def pX8_fault (d : Nat) (μ : zMem) (KI : Int32 → zMem → Prop) (X : Nat → zMem → Prop) : Prop :=
  KI (μ 0 3) μ
set_option maxRecDepth 20000 in
theorem wX8_fault_0 {d : Nat} {KI : Int32 → zMem → Prop} {X : Nat → zMem → Prop} {μ : zMem} (h : pX8_fault d μ KI X) : Wr mX8_fault (d + 1) 0 0 [(0, .ref 0)] [] μ (kI KI X) := by
  unfold pX8_fault at h
  refine Wr_aload_n dX8_fault_0 rfl 0 rfl ?_
  refine Wr_getI dX8_fault_1 flX8_24 zl0 rfl ?_
  exact Wr_iret .int dX8_fault_4 rfl rfl ⟨rfl, h⟩
theorem cX8_fault_ {d : Nat} {μ : zMem} {KI : Int32 → zMem → Prop} {X : Nat → zMem → Prop} (h : pX8_fault d μ KI X) : zcI (d + 1) mX8_fault [.ref 0] μ KI X :=
  Ex_of (w := 1) mgX8_fault.2.2.2.2.2 rfl rfl rfl (by decide) (wX8_fault_0 h)

def pX8_count_25 (d : Nat) (x1 : Int32) (μ : zMem) (KI : Int32 → zMem → Prop) (X : Nat → zMem → Prop) : Prop :=
  ((x1 = 0 → KI (μ 47 0) μ) ∧
  (x1 = 1 → KI (μ (zsk μ 0 4) 1) μ) ∧
  (x1 = 2 → KI (μ (zsk μ 0 4) 5) μ) ∧
  (x1 = 3 → KI (μ (zsk μ 0 4) 6) μ) ∧
  (x1 = 4 → KI (μ (zsk μ 0 4) 7) μ) ∧
  (x1 = 5 → KI (μ 46 2) μ) ∧
  (x1 = 6 → KI (μ 46 4) μ) ∧
  (x1 = 7 → KI (μ 46 6) μ) ∧
  (x1 = 8 → KI (μ 0 1) μ) ∧
  (x1 = 9 → KI (μ 62 0) μ) ∧
  (x1 = 10 → KI (μ 62 1) μ) ∧
  (x1 = 11 → KI (μ 62 2) μ) ∧
  (¬ x1 = 0 → ¬ x1 = 1 → ¬ x1 = 2 → ¬ x1 = 3 → ¬ x1 = 4 → ¬ x1 = 5 → ¬ x1 = 6 → ¬ x1 = 7 → ¬ x1 = 8 → ¬ x1 = 9 → ¬ x1 = 10 → ¬ x1 = 11 → X 0 μ))
set_option maxRecDepth 20000 in
theorem wX8_count_25 {d : Nat} {KI : Int32 → zMem → Prop} {X : Nat → zMem → Prop} {x1 : Int32} {μ : zMem} (h : pX8_count_25 d x1 μ KI X) : Wr mX8_count (d + 1) 0 25 [(0, .ref 0), (1, .int x1)] [] μ (kI KI X) := by
  unfold pX8_count_25 at h
  refine Wr_iload_n dX8_count_25 rfl 1 rfl ?_
  by_cases hq0 : x1 = 0
  · have h := h.1 hq0
    refine Wr_tswC 0 62 88 hq0 dX8_count_26 (by decide) (by decide) (by decide) (by decide) ?_
    refine Wr_aload_n dX8_count_88 rfl 0 rfl ?_
    refine Wr_getR 46 dX8_count_89 flX8_40 zl0 rfl (by decide) ?_
    refine Wr_getR 1 dX8_count_92 flX8_116 zl46 rfl (by decide) ?_
    refine Wr_getI dX8_count_95 flX8_117 zl47 rfl ?_
    exact Wr_iret .int dX8_count_98 rfl rfl ⟨rfl, h⟩
  have h := h.2
  by_cases hq1 : x1 = 1
  · have h := h.1 hq1
    refine Wr_tswC 1 73 99 hq1 dX8_count_26 (by decide) (by decide) (by decide) (by decide) ?_
    refine Wr_aload_n dX8_count_99 rfl 0 rfl ?_
    refine Wr_getT dX8_count_100 flX8_30 zl0 (by decide) ?_
    refine Wr_getI dX8_count_103 flX8_120 (zsk_sh μ 0 4) rfl ?_
    exact Wr_iret .int dX8_count_106 rfl rfl ⟨rfl, h⟩
  have h := h.2
  by_cases hq2 : x1 = 2
  · have h := h.1 hq2
    refine Wr_tswC 2 81 107 hq2 dX8_count_26 (by decide) (by decide) (by decide) (by decide) ?_
    refine Wr_aload_n dX8_count_107 rfl 0 rfl ?_
    refine Wr_getT dX8_count_108 flX8_30 zl0 (by decide) ?_
    refine Wr_getI dX8_count_111 flX8_123 (zsk_sh μ 0 4) rfl ?_
    exact Wr_iret .int dX8_count_114 rfl rfl ⟨rfl, h⟩
  have h := h.2
  by_cases hq3 : x1 = 3
  · have h := h.1 hq3
    refine Wr_tswC 3 89 115 hq3 dX8_count_26 (by decide) (by decide) (by decide) (by decide) ?_
    refine Wr_aload_n dX8_count_115 rfl 0 rfl ?_
    refine Wr_getT dX8_count_116 flX8_30 zl0 (by decide) ?_
    refine Wr_getI dX8_count_119 flX8_126 (zsk_sh μ 0 4) rfl ?_
    exact Wr_iret .int dX8_count_122 rfl rfl ⟨rfl, h⟩
  have h := h.2
  by_cases hq4 : x1 = 4
  · have h := h.1 hq4
    refine Wr_tswC 4 97 123 hq4 dX8_count_26 (by decide) (by decide) (by decide) (by decide) ?_
    refine Wr_aload_n dX8_count_123 rfl 0 rfl ?_
    refine Wr_getT dX8_count_124 flX8_30 zl0 (by decide) ?_
    refine Wr_getI dX8_count_127 flX8_129 (zsk_sh μ 0 4) rfl ?_
    exact Wr_iret .int dX8_count_130 rfl rfl ⟨rfl, h⟩
  have h := h.2
  by_cases hq5 : x1 = 5
  · have h := h.1 hq5
    refine Wr_tswC 5 105 131 hq5 dX8_count_26 (by decide) (by decide) (by decide) (by decide) ?_
    refine Wr_aload_n dX8_count_131 rfl 0 rfl ?_
    refine Wr_getR 46 dX8_count_132 flX8_40 zl0 rfl (by decide) ?_
    refine Wr_getI dX8_count_135 flX8_132 zl46 rfl ?_
    exact Wr_iret .int dX8_count_138 rfl rfl ⟨rfl, h⟩
  have h := h.2
  by_cases hq6 : x1 = 6
  · have h := h.1 hq6
    refine Wr_tswC 6 113 139 hq6 dX8_count_26 (by decide) (by decide) (by decide) (by decide) ?_
    refine Wr_aload_n dX8_count_139 rfl 0 rfl ?_
    refine Wr_getR 46 dX8_count_140 flX8_40 zl0 rfl (by decide) ?_
    refine Wr_getI dX8_count_143 flX8_135 zl46 rfl ?_
    exact Wr_iret .int dX8_count_146 rfl rfl ⟨rfl, h⟩
  have h := h.2
  by_cases hq7 : x1 = 7
  · have h := h.1 hq7
    refine Wr_tswC 7 121 147 hq7 dX8_count_26 (by decide) (by decide) (by decide) (by decide) ?_
    refine Wr_aload_n dX8_count_147 rfl 0 rfl ?_
    refine Wr_getR 46 dX8_count_148 flX8_40 zl0 rfl (by decide) ?_
    refine Wr_getI dX8_count_151 flX8_138 zl46 rfl ?_
    exact Wr_iret .int dX8_count_154 rfl rfl ⟨rfl, h⟩
  have h := h.2
  by_cases hq8 : x1 = 8
  · have h := h.1 hq8
    refine Wr_tswC 8 129 155 hq8 dX8_count_26 (by decide) (by decide) (by decide) (by decide) ?_
    refine Wr_aload_n dX8_count_155 rfl 0 rfl ?_
    refine Wr_getI dX8_count_156 flX8_13 zl0 rfl ?_
    exact Wr_iret .int dX8_count_159 rfl rfl ⟨rfl, h⟩
  have h := h.2
  by_cases hq9 : x1 = 9
  · have h := h.1 hq9
    refine Wr_tswC 9 134 160 hq9 dX8_count_26 (by decide) (by decide) (by decide) (by decide) ?_
    refine Wr_aload_n dX8_count_160 rfl 0 rfl ?_
    refine Wr_getR 46 dX8_count_161 flX8_40 zl0 rfl (by decide) ?_
    refine Wr_getR 16 dX8_count_164 flX8_100 zl46 rfl (by decide) ?_
    refine Wr_iconstv (v := 0) dX8_count_167 (by decide) ?_
    refine Wr_iald dX8_count_168 zl62 (by unfold vp_in; decide) ?_
    exact Wr_iret .int dX8_count_169 rfl rfl ⟨rfl, h⟩
  have h := h.2
  by_cases hq10 : x1 = 10
  · have h := h.1 hq10
    refine Wr_tswC 10 144 170 hq10 dX8_count_26 (by decide) (by decide) (by decide) (by decide) ?_
    refine Wr_aload_n dX8_count_170 rfl 0 rfl ?_
    refine Wr_getR 46 dX8_count_171 flX8_40 zl0 rfl (by decide) ?_
    refine Wr_getR 16 dX8_count_174 flX8_100 zl46 rfl (by decide) ?_
    refine Wr_iconstv (v := 1) dX8_count_177 (by decide) ?_
    refine Wr_iald dX8_count_178 zl62 (by unfold vp_in; decide) ?_
    exact Wr_iret .int dX8_count_179 rfl rfl ⟨rfl, h⟩
  have h := h.2
  by_cases hq11 : x1 = 11
  · have h := h.1 hq11
    refine Wr_tswC 11 154 180 hq11 dX8_count_26 (by decide) (by decide) (by decide) (by decide) ?_
    refine Wr_aload_n dX8_count_180 rfl 0 rfl ?_
    refine Wr_getR 46 dX8_count_181 flX8_40 zl0 rfl (by decide) ?_
    refine Wr_getR 16 dX8_count_184 flX8_100 zl46 rfl (by decide) ?_
    refine Wr_iconstv (v := 2) dX8_count_187 (by decide) ?_
    refine Wr_iald dX8_count_188 zl62 (by unfold vp_in; decide) ?_
    exact Wr_iret .int dX8_count_189 rfl rfl ⟨rfl, h⟩
  have h := h.2
  have h := h hq0 hq1 hq2 hq3 hq4 hq5 hq6 hq7 hq8 hq9 hq10 hq11
  refine Wr_tswD 190 (by have := zne hq0 (c := 0) (by decide); have := zne hq1 (c := 1) (by decide); have := zne hq2 (c := 2) (by decide); have := zne hq3 (c := 3) (by decide); have := zne hq4 (c := 4) (by decide); have := zne hq5 (c := 5) (by decide); have := zne hq6 (c := 6) (by decide); have := zne hq7 (c := 7) (by decide); have := zne hq8 (c := 8) (by decide); have := zne hq9 (c := 9) (by decide); have := zne hq10 (c := 10) (by decide); have := zne hq11 (c := 11) (by decide); omega) dX8_count_26 (by decide) ?_
  exact Wr_throw 196 (E := 0) (tx := "no such count") (sn := 32) ⟨wGm 890 (by decide +kernel) rfl, wGm 128 (by decide +kernel) rfl, wGm 900 (by decide +kernel) rfl, zst 32 (by decide +kernel), by decide⟩ rfl (Nat.le_of_ble_eq_true rfl) dX8_count_190 dX8_count_193 (Or.inl ⟨dX8_count_194, rfl⟩) dX8_count_196 dX8_count_199 ⟨rfl, h⟩
def pX8_count (d : Nat) (x1 : Int32) (μ : zMem) (KI : Int32 → zMem → Prop) (X : Nat → zMem → Prop) : Prop :=
  ((x1 < 20 → pX8_count_25 d x1 μ KI X) ∧
  (¬ (x1 < 20) → ((24 ≤ x1 → pX8_count_25 d x1 μ KI X) ∧
    (¬ (24 ≤ x1) → (vp_in (x1 - 20) 4) ∧ KI (μ ((zsk μ 0 4) + 16) (x1 - 20).toNatClampNeg) μ))))
set_option maxRecDepth 20000 in
theorem wX8_count_0 {d : Nat} {KI : Int32 → zMem → Prop} {X : Nat → zMem → Prop} {x1 : Int32} {μ : zMem} (h : pX8_count d x1 μ KI X) : Wr mX8_count (d + 1) 0 0 [(0, .ref 0), (1, .int x1)] [] μ (kI KI X) := by
  unfold pX8_count at h
  refine Wr_iload_n dX8_count_0 rfl 1 rfl ?_
  refine Wr_bipush (v := 20) dX8_count_1 (by decide) ?_
  refine Wr_icmp_lt 25 dX8_count_3 (by decide) (fun hc => ?_) (fun hc => ?_)
  · have h := h.1 hc
    refine zsub [0, 1] rfl ?_
    exact wX8_count_25 h
  · have h := h.2 hc
    refine Wr_iload_n dX8_count_6 rfl 1 rfl ?_
    refine Wr_bipush (v := 24) dX8_count_7 (by decide) ?_
    refine Wr_icmp_ge 25 dX8_count_9 (by decide) (fun hc => ?_) (fun hc => ?_)
    · have h := h.1 hc
      refine zsub [0, 1] rfl ?_
      exact wX8_count_25 h
    · have h := h.2 hc
      refine Wr_aload_n dX8_count_12 rfl 0 rfl ?_
      refine Wr_getT dX8_count_13 flX8_30 zl0 (by decide) ?_
      refine Wr_getR 16 dX8_count_16 flX8_113 (zsk_sh μ 0 4) rfl (by decide) ?_
      refine Wr_iload_n dX8_count_19 rfl 1 rfl ?_
      refine Wr_bipush (v := 20) dX8_count_20 (by decide) ?_
      refine Wr_isub dX8_count_22 ?_
      obtain ⟨hi, h⟩ := h
      refine Wr_iald dX8_count_23 (zo4_8 (zsk_sh μ 0 4)) hi ?_
      exact Wr_iret .int dX8_count_24 rfl rfl ⟨rfl, h⟩
theorem cX8_count_ {d : Nat} {x1 : Int32} {μ : zMem} {KI : Int32 → zMem → Prop} {X : Nat → zMem → Prop} (h : pX8_count d x1 μ KI X) : zcI (d + 1) mX8_count [.ref 0, .int x1] μ KI X :=
  Ex_of (w := 2) mgX8_count.2.2.2.2.2 rfl rfl rfl (by decide) (wX8_count_0 h)

def pX8_isle_39 (d : Nat) (x1 : Int32) (x2 : Int32) (μ : zMem) (KI : Int32 → zMem → Prop) (X : Nat → zMem → Prop) : Prop :=
  ((x2 = 0 → (vp_in x1 6) ∧ KI (μ 48 x1.toNatClampNeg) μ) ∧
  (x2 = 1 → (vp_in x1 6) ∧ KI (μ 49 x1.toNatClampNeg) μ) ∧
  (x2 = 2 → (vp_in x1 6) ∧ KI (μ 50 x1.toNatClampNeg) μ) ∧
  (x2 = 3 → (vp_in x1 6) ∧ KI (μ 51 x1.toNatClampNeg) μ) ∧
  (x2 = 4 → (vp_in x1 6) ∧ KI (μ 52 x1.toNatClampNeg) μ) ∧
  (x2 = 5 → (vp_in x1 6) ∧ KI (μ 53 x1.toNatClampNeg) μ) ∧
  (x2 = 6 → (vp_in x1 6) ∧ KI (μ 54 x1.toNatClampNeg) μ) ∧
  (x2 = 7 → (vp_in x1 6) ∧ KI (μ 55 x1.toNatClampNeg) μ) ∧
  (x2 = 8 → (vp_in x1 6) ∧ KI (μ 56 x1.toNatClampNeg) μ) ∧
  (x2 = 9 → (vp_in x1 6) ∧ KI (μ 57 x1.toNatClampNeg) μ) ∧
  (x2 = 10 → zcI d mX1_weight [.ref 47, .int x1] μ (fun u2 m1 => KI u2 m1) X) ∧
  (x2 = 11 → zcI d mX1_floats [.ref 47, .int x1] μ (fun u4 m3 => KI (if u4 = 0 then 0 else 1) m3) X) ∧
  (¬ x2 = 0 → ¬ x2 = 1 → ¬ x2 = 2 → ¬ x2 = 3 → ¬ x2 = 4 → ¬ x2 = 5 → ¬ x2 = 6 → ¬ x2 = 7 → ¬ x2 = 8 → ¬ x2 = 9 → ¬ x2 = 10 → ¬ x2 = 11 → X 0 μ))
set_option maxRecDepth 20000 in
theorem wX8_isle_39 {d : Nat} {KI : Int32 → zMem → Prop} {X : Nat → zMem → Prop} {x1 : Int32} {x2 : Int32} {μ : zMem} (h : pX8_isle_39 d x1 x2 μ KI X) : Wr mX8_isle (d + 1) 0 39 [(1, .int x1), (2, .int x2), (3, .ref 47)] [] μ (kI KI X) := by
  unfold pX8_isle_39 at h
  refine Wr_iload_n dX8_isle_39 rfl 1 rfl ?_
  by_cases hq0 : x2 = 0
  · have h := h.1 hq0
    refine Wr_tswC 0 64 104 hq0 dX8_isle_40 (by decide) (by decide) (by decide) (by decide) ?_
    refine Wr_aload_n dX8_isle_104 rfl 2 rfl ?_
    refine Wr_getR 1 dX8_isle_105 flX8_152 zl47 rfl (by decide) ?_
    refine Wr_iload_n dX8_isle_108 rfl 0 rfl ?_
    obtain ⟨hi, h⟩ := h
    refine Wr_iald dX8_isle_109 zl48 hi ?_
    exact Wr_iret .int dX8_isle_110 rfl rfl ⟨rfl, h⟩
  have h := h.2
  by_cases hq1 : x2 = 1
  · have h := h.1 hq1
    refine Wr_tswC 1 71 111 hq1 dX8_isle_40 (by decide) (by decide) (by decide) (by decide) ?_
    refine Wr_aload_n dX8_isle_111 rfl 2 rfl ?_
    refine Wr_getR 2 dX8_isle_112 flX8_155 zl47 rfl (by decide) ?_
    refine Wr_iload_n dX8_isle_115 rfl 0 rfl ?_
    obtain ⟨hi, h⟩ := h
    refine Wr_iald dX8_isle_116 zl49 hi ?_
    exact Wr_iret .int dX8_isle_117 rfl rfl ⟨rfl, h⟩
  have h := h.2
  by_cases hq2 : x2 = 2
  · have h := h.1 hq2
    refine Wr_tswC 2 78 118 hq2 dX8_isle_40 (by decide) (by decide) (by decide) (by decide) ?_
    refine Wr_aload_n dX8_isle_118 rfl 2 rfl ?_
    refine Wr_getR 3 dX8_isle_119 flX8_158 zl47 rfl (by decide) ?_
    refine Wr_iload_n dX8_isle_122 rfl 0 rfl ?_
    obtain ⟨hi, h⟩ := h
    refine Wr_iald dX8_isle_123 zl50 hi ?_
    exact Wr_iret .int dX8_isle_124 rfl rfl ⟨rfl, h⟩
  have h := h.2
  by_cases hq3 : x2 = 3
  · have h := h.1 hq3
    refine Wr_tswC 3 85 125 hq3 dX8_isle_40 (by decide) (by decide) (by decide) (by decide) ?_
    refine Wr_aload_n dX8_isle_125 rfl 2 rfl ?_
    refine Wr_getR 4 dX8_isle_126 flX8_161 zl47 rfl (by decide) ?_
    refine Wr_iload_n dX8_isle_129 rfl 0 rfl ?_
    obtain ⟨hi, h⟩ := h
    refine Wr_iald dX8_isle_130 zl51 hi ?_
    exact Wr_iret .int dX8_isle_131 rfl rfl ⟨rfl, h⟩
  have h := h.2
  by_cases hq4 : x2 = 4
  · have h := h.1 hq4
    refine Wr_tswC 4 92 132 hq4 dX8_isle_40 (by decide) (by decide) (by decide) (by decide) ?_
    refine Wr_aload_n dX8_isle_132 rfl 2 rfl ?_
    refine Wr_getR 5 dX8_isle_133 flX8_164 zl47 rfl (by decide) ?_
    refine Wr_iload_n dX8_isle_136 rfl 0 rfl ?_
    obtain ⟨hi, h⟩ := h
    refine Wr_iald dX8_isle_137 zl52 hi ?_
    exact Wr_iret .int dX8_isle_138 rfl rfl ⟨rfl, h⟩
  have h := h.2
  by_cases hq5 : x2 = 5
  · have h := h.1 hq5
    refine Wr_tswC 5 99 139 hq5 dX8_isle_40 (by decide) (by decide) (by decide) (by decide) ?_
    refine Wr_aload_n dX8_isle_139 rfl 2 rfl ?_
    refine Wr_getR 6 dX8_isle_140 flX8_167 zl47 rfl (by decide) ?_
    refine Wr_iload_n dX8_isle_143 rfl 0 rfl ?_
    obtain ⟨hi, h⟩ := h
    refine Wr_iald dX8_isle_144 zl53 hi ?_
    exact Wr_iret .int dX8_isle_145 rfl rfl ⟨rfl, h⟩
  have h := h.2
  by_cases hq6 : x2 = 6
  · have h := h.1 hq6
    refine Wr_tswC 6 106 146 hq6 dX8_isle_40 (by decide) (by decide) (by decide) (by decide) ?_
    refine Wr_aload_n dX8_isle_146 rfl 2 rfl ?_
    refine Wr_getR 7 dX8_isle_147 flX8_170 zl47 rfl (by decide) ?_
    refine Wr_iload_n dX8_isle_150 rfl 0 rfl ?_
    obtain ⟨hi, h⟩ := h
    refine Wr_iald dX8_isle_151 zl54 hi ?_
    exact Wr_iret .int dX8_isle_152 rfl rfl ⟨rfl, h⟩
  have h := h.2
  by_cases hq7 : x2 = 7
  · have h := h.1 hq7
    refine Wr_tswC 7 113 153 hq7 dX8_isle_40 (by decide) (by decide) (by decide) (by decide) ?_
    refine Wr_aload_n dX8_isle_153 rfl 2 rfl ?_
    refine Wr_getR 8 dX8_isle_154 flX8_173 zl47 rfl (by decide) ?_
    refine Wr_iload_n dX8_isle_157 rfl 0 rfl ?_
    obtain ⟨hi, h⟩ := h
    refine Wr_iald dX8_isle_158 zl55 hi ?_
    exact Wr_iret .int dX8_isle_159 rfl rfl ⟨rfl, h⟩
  have h := h.2
  by_cases hq8 : x2 = 8
  · have h := h.1 hq8
    refine Wr_tswC 8 120 160 hq8 dX8_isle_40 (by decide) (by decide) (by decide) (by decide) ?_
    refine Wr_aload_n dX8_isle_160 rfl 2 rfl ?_
    refine Wr_getR 9 dX8_isle_161 flX8_176 zl47 rfl (by decide) ?_
    refine Wr_iload_n dX8_isle_164 rfl 0 rfl ?_
    obtain ⟨hi, h⟩ := h
    refine Wr_iald dX8_isle_165 zl56 hi ?_
    exact Wr_iret .int dX8_isle_166 rfl rfl ⟨rfl, h⟩
  have h := h.2
  by_cases hq9 : x2 = 9
  · have h := h.1 hq9
    refine Wr_tswC 9 127 167 hq9 dX8_isle_40 (by decide) (by decide) (by decide) (by decide) ?_
    refine Wr_aload_n dX8_isle_167 rfl 2 rfl ?_
    refine Wr_getR 10 dX8_isle_168 flX8_179 zl47 rfl (by decide) ?_
    refine Wr_iload_n dX8_isle_171 rfl 0 rfl ?_
    obtain ⟨hi, h⟩ := h
    refine Wr_iald dX8_isle_172 zl57 hi ?_
    exact Wr_iret .int dX8_isle_173 rfl rfl ⟨rfl, h⟩
  have h := h.2
  by_cases hq10 : x2 = 10
  · have h := h.1 hq10
    refine Wr_tswC 10 134 174 hq10 dX8_isle_40 (by decide) (by decide) (by decide) (by decide) ?_
    refine Wr_aload_n dX8_isle_174 rfl 2 rfl ?_
    refine Wr_iload_n dX8_isle_175 rfl 0 rfl ?_
    refine Wr_cVi [.int x1] dX8_isle_176 mlX8_182 mgX1_weight rfl mvX1_weight (zrv zl47 _ rfl rfl) rfl rfl (Nat.le_of_ble_eq_true rfl) rfl (zcI.imp h (fun u2 m1 h => ?_) (fun _ _ h => ⟨rfl, h⟩))
    exact Wr_iret .int dX8_isle_179 rfl rfl ⟨rfl, h⟩
  have h := h.2
  by_cases hq11 : x2 = 11
  · have h := h.1 hq11
    refine Wr_tswC 11 140 180 hq11 dX8_isle_40 (by decide) (by decide) (by decide) (by decide) ?_
    refine Wr_aload_n dX8_isle_180 rfl 2 rfl ?_
    refine Wr_iload_n dX8_isle_181 rfl 0 rfl ?_
    refine Wr_cVi [.int x1] dX8_isle_182 mlX8_186 mgX1_floats rfl mvX1_floats (zrv zl47 _ rfl rfl) rfl rfl (Nat.le_of_ble_eq_true rfl) rfl (zcI.imp h (fun u4 m3 h => ?_) (fun _ _ h => ⟨rfl, h⟩))
    have hj1 : Wr mX8_isle (d + 1) 0 193 [(1, .int x1), (2, .int x2), (3, .ref 47)] [.int (if u4 = 0 then 0 else 1)] m3 (kI KI X) := by
      exact Wr_iret .int dX8_isle_193 rfl rfl ⟨rfl, h⟩
    refine Wr_if_eq 192 dX8_isle_185 (by decide) (fun hc0 => ?_) (fun hc0 => ?_)
    · skip
      refine Wr_iconstv (v := 0) dX8_isle_192 (by decide) ?_
      exact Wr_top (if_pos hc0) hj1
    · skip
      refine Wr_iconstv (v := 1) dX8_isle_188 (by decide) ?_
      refine Wr_goto 193 dX8_isle_189 (by decide) ?_
      exact Wr_top (if_neg hc0) hj1
  have h := h.2
  have h := h hq0 hq1 hq2 hq3 hq4 hq5 hq6 hq7 hq8 hq9 hq10 hq11
  refine Wr_tswD 194 (by have := zne hq0 (c := 0) (by decide); have := zne hq1 (c := 1) (by decide); have := zne hq2 (c := 2) (by decide); have := zne hq3 (c := 3) (by decide); have := zne hq4 (c := 4) (by decide); have := zne hq5 (c := 5) (by decide); have := zne hq6 (c := 6) (by decide); have := zne hq7 (c := 7) (by decide); have := zne hq8 (c := 8) (by decide); have := zne hq9 (c := 9) (by decide); have := zne hq10 (c := 10) (by decide); have := zne hq11 (c := 11) (by decide); omega) dX8_isle_40 (by decide) ?_
  exact Wr_throw 200 (E := 0) (tx := "nothing such of an isle") (sn := 33) ⟨wGm 890 (by decide +kernel) rfl, wGm 128 (by decide +kernel) rfl, wGm 900 (by decide +kernel) rfl, zst 33 (by decide +kernel), by decide⟩ rfl (Nat.le_of_ble_eq_true rfl) dX8_isle_194 dX8_isle_197 (Or.inl ⟨dX8_isle_198, rfl⟩) dX8_isle_200 dX8_isle_203 ⟨rfl, h⟩
def pX8_isle (d : Nat) (x1 : Int32) (x2 : Int32) (μ : zMem) (KI : Int32 → zMem → Prop) (X : Nat → zMem → Prop) : Prop :=
  zcV d mX8_needIsle [.ref 0, .int x1] μ (fun m1 => ((x2 < 12 → pX8_isle_39 d x1 x2 m1 KI X) ∧
  (¬ (x2 < 12) → ((16 ≤ x2 → pX8_isle_39 d x1 x2 m1 KI X) ∧
    (¬ (16 ≤ x2) → (vp_in (((x1 * 4) + x2) - 12) 24) ∧ KI (m1 58 (((x1 * 4) + x2) - 12).toNatClampNeg) m1))))) X
set_option maxRecDepth 20000 in
theorem wX8_isle_0 {d : Nat} {KI : Int32 → zMem → Prop} {X : Nat → zMem → Prop} {x1 : Int32} {x2 : Int32} {μ : zMem} (h : pX8_isle d x1 x2 μ KI X) : Wr mX8_isle (d + 1) 0 0 [(0, .ref 0), (1, .int x1), (2, .int x2)] [] μ (kI KI X) := by
  unfold pX8_isle at h
  refine Wr_aload_n dX8_isle_0 rfl 0 rfl ?_
  refine Wr_iload_n dX8_isle_1 rfl 1 rfl ?_
  refine Wr_cVv [.int x1] dX8_isle_2 mlX8_146 mgX8_needIsle rfl mvX8_needIsle (zrv zl0 _ rfl rfl) rfl rfl (Nat.le_of_ble_eq_true rfl) rfl (zcV.imp h (fun m1 h => ?_) (fun _ _ h => ⟨rfl, h⟩))
  refine Wr_aload_n dX8_isle_5 rfl 0 rfl ?_
  refine Wr_getR 46 dX8_isle_6 flX8_40 zl0 rfl (by decide) ?_
  refine Wr_getR 1 dX8_isle_9 flX8_116 zl46 rfl (by decide) ?_
  refine Wr_astore_n dX8_isle_12 rfl (by decide) rfl ?_
  refine Wr_iload_n dX8_isle_13 rfl 3 rfl ?_
  refine Wr_bipush (v := 12) dX8_isle_14 (by decide) ?_
  refine Wr_icmp_lt 39 dX8_isle_16 (by decide) (fun hc => ?_) (fun hc => ?_)
  · have h := h.1 hc
    refine zsub [1, 2, 3] rfl ?_
    exact wX8_isle_39 h
  · have h := h.2 hc
    refine Wr_iload_n dX8_isle_19 rfl 3 rfl ?_
    refine Wr_bipush (v := 16) dX8_isle_20 (by decide) ?_
    refine Wr_icmp_ge 39 dX8_isle_22 (by decide) (fun hc => ?_) (fun hc => ?_)
    · have h := h.1 hc
      refine zsub [1, 2, 3] rfl ?_
      exact wX8_isle_39 h
    · have h := h.2 hc
      refine Wr_aload_n dX8_isle_25 rfl 0 rfl ?_
      refine Wr_getR 11 dX8_isle_26 flX8_149 zl47 rfl (by decide) ?_
      refine Wr_iload_n dX8_isle_29 rfl 2 rfl ?_
      refine Wr_iconstv (v := 4) dX8_isle_30 (by decide) ?_
      refine Wr_imul dX8_isle_31 ?_
      refine Wr_iload_n dX8_isle_32 rfl 3 rfl ?_
      refine Wr_iadd dX8_isle_33 ?_
      refine Wr_bipush (v := 12) dX8_isle_34 (by decide) ?_
      refine Wr_isub dX8_isle_36 ?_
      obtain ⟨hi, h⟩ := h
      refine Wr_iald dX8_isle_37 zl58 hi ?_
      exact Wr_iret .int dX8_isle_38 rfl rfl ⟨rfl, h⟩
theorem cX8_isle_ {d : Nat} {x1 : Int32} {x2 : Int32} {μ : zMem} {KI : Int32 → zMem → Prop} {X : Nat → zMem → Prop} (h : pX8_isle d x1 x2 μ KI X) : zcI (d + 1) mX8_isle [.ref 0, .int x1, .int x2] μ KI X :=
  Ex_of (w := 3) mgX8_isle.2.2.2.2.2 rfl rfl rfl (by decide) (wX8_isle_0 h)

def pX8_wind (d : Nat) (x1 : Int32) (x2 : Int32) (μ : zMem) (KI : Int32 → zMem → Prop) (X : Nat → zMem → Prop) : Prop :=
  zcV d mX8_needHour [.int x1] μ (fun m1 => zcV d mX8_needWhat [.int x2, .int 2] m1 (fun m2 => ((x2 = 0 → zcI d mX4_windAlongX [.ref (zsk m2 0 4), .int x1] m2 (fun u6 m5 => KI u6 m5) X) ∧
  (¬ (x2 = 0) → zcI d mX4_windAlongY [.ref (zsk m2 0 4), .int x1] m2 (fun u4 m3 => KI u4 m3) X))) X) X
set_option maxRecDepth 20000 in
theorem wX8_wind_0 {d : Nat} {KI : Int32 → zMem → Prop} {X : Nat → zMem → Prop} {x1 : Int32} {x2 : Int32} {μ : zMem} (h : pX8_wind d x1 x2 μ KI X) : Wr mX8_wind (d + 1) 0 0 [(0, .ref 0), (1, .int x1), (2, .int x2)] [] μ (kI KI X) := by
  unfold pX8_wind at h
  refine Wr_iload_n dX8_wind_0 rfl 1 rfl ?_
  refine Wr_cSv [.int x1] dX8_wind_1 mlX8_192 mgX8_needHour rfl msX8_needHour  rfl rfl (Nat.le_of_ble_eq_true rfl) rfl (zcV.imp h (fun m1 h => ?_) (fun _ _ h => ⟨rfl, h⟩))
  refine Wr_iload_n dX8_wind_4 rfl 2 rfl ?_
  refine Wr_iconstv (v := 2) dX8_wind_5 (by decide) ?_
  refine Wr_cSv [.int x2, .int 2] dX8_wind_6 mlX8_195 mgX8_needWhat rfl msX8_needWhat  rfl rfl (Nat.le_of_ble_eq_true rfl) rfl (zcV.imp h (fun m2 h => ?_) (fun _ _ h => ⟨rfl, h⟩))
  refine Wr_iload_n dX8_wind_9 rfl 2 rfl ?_
  refine Wr_if_ne 24 dX8_wind_10 (by decide) (fun hc => ?_) (fun hc => ?_)
  · have h := h.2 hc
    refine Wr_aload_n dX8_wind_24 rfl 0 rfl ?_
    refine Wr_getT dX8_wind_25 flX8_30 zl0 (by decide) ?_
    refine Wr_iload_n dX8_wind_28 rfl 1 rfl ?_
    refine Wr_cVi [.int x1] dX8_wind_29 mlX8_202 mgX4_windAlongY rfl mvX4_windAlongY (zrv (zsk_sh m2 0 4) _ rfl rfl) rfl rfl (Nat.le_of_ble_eq_true rfl) rfl (zcI.imp h (fun u4 m3 h => ?_) (fun _ _ h => ⟨rfl, h⟩))
    exact Wr_iret .int dX8_wind_32 rfl rfl ⟨rfl, h⟩
  · have h := h.1 hc
    refine Wr_aload_n dX8_wind_13 rfl 0 rfl ?_
    refine Wr_getT dX8_wind_14 flX8_30 zl0 (by decide) ?_
    refine Wr_iload_n dX8_wind_17 rfl 1 rfl ?_
    refine Wr_cVi [.int x1] dX8_wind_18 mlX8_199 mgX4_windAlongX rfl mvX4_windAlongX (zrv (zsk_sh m2 0 4) _ rfl rfl) rfl rfl (Nat.le_of_ble_eq_true rfl) rfl (zcI.imp h (fun u6 m5 h => ?_) (fun _ _ h => ⟨rfl, h⟩))
    refine Wr_goto 32 dX8_wind_21 (by decide) ?_
    exact Wr_iret .int dX8_wind_32 rfl rfl ⟨rfl, h⟩
theorem cX8_wind_ {d : Nat} {x1 : Int32} {x2 : Int32} {μ : zMem} {KI : Int32 → zMem → Prop} {X : Nat → zMem → Prop} (h : pX8_wind d x1 x2 μ KI X) : zcI (d + 1) mX8_wind [.ref 0, .int x1, .int x2] μ KI X :=
  Ex_of (w := 3) mgX8_wind.2.2.2.2.2 rfl rfl rfl (by decide) (wX8_wind_0 h)

def pX8_where (d : Nat) (x1 : Int32) (x2 : Int32) (x3 : Int32) (μ : zMem) (KI : Int32 → zMem → Prop) (X : Nat → zMem → Prop) : Prop :=
  zcV d mX8_needIsle [.ref 0, .int x1] μ (fun m1 => zcV d mX8_needHour [.int x2] m1 (fun m2 => zcV d mX8_needWhat [.int x3, .int 5] m2 (fun m3 => zcV d mX0_put [.ref 92, .ref (zsk m3 0 4), .ref 47, .int x1, .int x1, .int x2, .int 0] m3 (fun m4 => ((x3 = 0 → (vp_in x1 36) ∧ KI (m4 93 x1.toNatClampNeg) m4) ∧
  (x3 = 1 → (vp_in x1 36) ∧ KI (m4 94 x1.toNatClampNeg) m4) ∧
  (x3 = 2 → (vp_in x1 36) ∧ KI (m4 95 x1.toNatClampNeg) m4) ∧
  (x3 = 3 → (vp_in x1 36) ∧ KI (m4 96 x1.toNatClampNeg) m4) ∧
  (¬ x3 = 0 → ¬ x3 = 1 → ¬ x3 = 2 → ¬ x3 = 3 → zcI d mX8_isAtChurch [.int x2] m4 (fun u6 m5 => ((u6 = 0 → zcI d mX1_leaning [.ref 47, .int x1] m5 (fun u8 m7 => KI u8 m7) X) ∧
    (¬ (u6 = 0) → (vp_in x1 6) ∧ KI (m5 54 x1.toNatClampNeg) m5))) X))) X) X) X) X
set_option maxRecDepth 20000 in
theorem wX8_where_0 {d : Nat} {KI : Int32 → zMem → Prop} {X : Nat → zMem → Prop} {x1 : Int32} {x2 : Int32} {x3 : Int32} {μ : zMem} (h : pX8_where d x1 x2 x3 μ KI X) : Wr mX8_where (d + 1) 0 0 [(0, .ref 0), (1, .int x1), (2, .int x2), (3, .int x3)] [] μ (kI KI X) := by
  unfold pX8_where at h
  refine Wr_aload_n dX8_where_0 rfl 0 rfl ?_
  refine Wr_iload_n dX8_where_1 rfl 1 rfl ?_
  refine Wr_cVv [.int x1] dX8_where_2 mlX8_146 mgX8_needIsle rfl mvX8_needIsle (zrv zl0 _ rfl rfl) rfl rfl (Nat.le_of_ble_eq_true rfl) rfl (zcV.imp h (fun m1 h => ?_) (fun _ _ h => ⟨rfl, h⟩))
  refine Wr_iload_n dX8_where_5 rfl 2 rfl ?_
  refine Wr_cSv [.int x2] dX8_where_6 mlX8_192 mgX8_needHour rfl msX8_needHour  rfl rfl (Nat.le_of_ble_eq_true rfl) rfl (zcV.imp h (fun m2 h => ?_) (fun _ _ h => ⟨rfl, h⟩))
  refine Wr_iload_n dX8_where_9 rfl 3 rfl ?_
  refine Wr_iconstv (v := 5) dX8_where_10 (by decide) ?_
  refine Wr_cSv [.int x3, .int 5] dX8_where_11 mlX8_195 mgX8_needWhat rfl msX8_needWhat  rfl rfl (Nat.le_of_ble_eq_true rfl) rfl (zcV.imp h (fun m3 h => ?_) (fun _ _ h => ⟨rfl, h⟩))
  refine Wr_aload_n dX8_where_14 rfl 0 rfl ?_
  refine Wr_getR 92 dX8_where_15 flX8_61 zl0 rfl (by decide) ?_
  refine Wr_aload_n dX8_where_18 rfl 0 rfl ?_
  refine Wr_getT dX8_where_19 flX8_30 zl0 (by decide) ?_
  refine Wr_aload_n dX8_where_22 rfl 0 rfl ?_
  refine Wr_getR 46 dX8_where_23 flX8_40 zl0 rfl (by decide) ?_
  refine Wr_getR 1 dX8_where_26 flX8_116 zl46 rfl (by decide) ?_
  refine Wr_iload_n dX8_where_29 rfl 1 rfl ?_
  refine Wr_iload_n dX8_where_30 rfl 1 rfl ?_
  refine Wr_iload_n dX8_where_31 rfl 2 rfl ?_
  refine Wr_iconstv (v := 0) dX8_where_32 (by decide) ?_
  refine Wr_cVv [.ref (zsk m3 0 4), .ref 47, .int x1, .int x1, .int x2, .int 0] dX8_where_33 mlX8_205 mgX0_put rfl mvX0_put (zrv zl92 _ rfl rfl) rfl rfl (Nat.le_of_ble_eq_true rfl) rfl (zcV.imp h (fun m4 h => ?_) (fun _ _ h => ⟨rfl, h⟩))
  refine Wr_iload_n dX8_where_36 rfl 3 rfl ?_
  by_cases hq0 : x3 = 0
  · have h := h.1 hq0
    refine Wr_tswC 0 31 68 hq0 dX8_where_37 (by decide) (by decide) (by decide) (by decide) ?_
    refine Wr_aload_n dX8_where_68 rfl 0 rfl ?_
    refine Wr_getR 92 dX8_where_69 flX8_61 zl0 rfl (by decide) ?_
    refine Wr_getR 1 dX8_where_72 flX8_209 zl92 rfl (by decide) ?_
    refine Wr_iload_n dX8_where_75 rfl 1 rfl ?_
    obtain ⟨hi, h⟩ := h
    refine Wr_iald dX8_where_76 zl93 hi ?_
    exact Wr_iret .int dX8_where_77 rfl rfl ⟨rfl, h⟩
  have h := h.2
  by_cases hq1 : x3 = 1
  · have h := h.1 hq1
    refine Wr_tswC 1 41 78 hq1 dX8_where_37 (by decide) (by decide) (by decide) (by decide) ?_
    refine Wr_aload_n dX8_where_78 rfl 0 rfl ?_
    refine Wr_getR 92 dX8_where_79 flX8_61 zl0 rfl (by decide) ?_
    refine Wr_getR 2 dX8_where_82 flX8_212 zl92 rfl (by decide) ?_
    refine Wr_iload_n dX8_where_85 rfl 1 rfl ?_
    obtain ⟨hi, h⟩ := h
    refine Wr_iald dX8_where_86 zl94 hi ?_
    exact Wr_iret .int dX8_where_87 rfl rfl ⟨rfl, h⟩
  have h := h.2
  by_cases hq2 : x3 = 2
  · have h := h.1 hq2
    refine Wr_tswC 2 51 88 hq2 dX8_where_37 (by decide) (by decide) (by decide) (by decide) ?_
    refine Wr_aload_n dX8_where_88 rfl 0 rfl ?_
    refine Wr_getR 92 dX8_where_89 flX8_61 zl0 rfl (by decide) ?_
    refine Wr_getR 3 dX8_where_92 flX8_215 zl92 rfl (by decide) ?_
    refine Wr_iload_n dX8_where_95 rfl 1 rfl ?_
    obtain ⟨hi, h⟩ := h
    refine Wr_iald dX8_where_96 zl95 hi ?_
    exact Wr_iret .int dX8_where_97 rfl rfl ⟨rfl, h⟩
  have h := h.2
  by_cases hq3 : x3 = 3
  · have h := h.1 hq3
    refine Wr_tswC 3 61 98 hq3 dX8_where_37 (by decide) (by decide) (by decide) (by decide) ?_
    refine Wr_aload_n dX8_where_98 rfl 0 rfl ?_
    refine Wr_getR 92 dX8_where_99 flX8_61 zl0 rfl (by decide) ?_
    refine Wr_getR 4 dX8_where_102 flX8_218 zl92 rfl (by decide) ?_
    refine Wr_iload_n dX8_where_105 rfl 1 rfl ?_
    obtain ⟨hi, h⟩ := h
    refine Wr_iald dX8_where_106 zl96 hi ?_
    exact Wr_iret .int dX8_where_107 rfl rfl ⟨rfl, h⟩
  have h := h.2
  have h := h hq0 hq1 hq2 hq3
  refine Wr_tswD 108 (by have := zne hq0 (c := 0) (by decide); have := zne hq1 (c := 1) (by decide); have := zne hq2 (c := 2) (by decide); have := zne hq3 (c := 3) (by decide); omega) dX8_where_37 (by decide) ?_
  refine Wr_iload_n dX8_where_108 rfl 2 rfl ?_
  refine Wr_cSi [.int x2] dX8_where_109 mlX8_221 mgX8_isAtChurch rfl msX8_isAtChurch  rfl rfl (Nat.le_of_ble_eq_true rfl) rfl (zcI.imp h (fun u6 m5 h => ?_) (fun _ _ h => ⟨rfl, h⟩))
  refine Wr_if_eq 130 dX8_where_112 (by decide) (fun hc => ?_) (fun hc => ?_)
  · have h := h.1 hc
    refine Wr_aload_n dX8_where_130 rfl 0 rfl ?_
    refine Wr_getR 46 dX8_where_131 flX8_40 zl0 rfl (by decide) ?_
    refine Wr_getR 1 dX8_where_134 flX8_116 zl46 rfl (by decide) ?_
    refine Wr_iload_n dX8_where_137 rfl 1 rfl ?_
    refine Wr_cVi [.int x1] dX8_where_138 mlX8_224 mgX1_leaning rfl mvX1_leaning (zrv zl47 _ rfl rfl) rfl rfl (Nat.le_of_ble_eq_true rfl) rfl (zcI.imp h (fun u8 m7 h => ?_) (fun _ _ h => ⟨rfl, h⟩))
    exact Wr_iret .int dX8_where_141 rfl rfl ⟨rfl, h⟩
  · have h := h.2 hc
    refine Wr_aload_n dX8_where_115 rfl 0 rfl ?_
    refine Wr_getR 46 dX8_where_116 flX8_40 zl0 rfl (by decide) ?_
    refine Wr_getR 1 dX8_where_119 flX8_116 zl46 rfl (by decide) ?_
    refine Wr_getR 7 dX8_where_122 flX8_170 zl47 rfl (by decide) ?_
    refine Wr_iload_n dX8_where_125 rfl 1 rfl ?_
    obtain ⟨hi, h⟩ := h
    refine Wr_iald dX8_where_126 zl54 hi ?_
    refine Wr_goto 141 dX8_where_127 (by decide) ?_
    exact Wr_iret .int dX8_where_141 rfl rfl ⟨rfl, h⟩
theorem cX8_where_ {d : Nat} {x1 : Int32} {x2 : Int32} {x3 : Int32} {μ : zMem} {KI : Int32 → zMem → Prop} {X : Nat → zMem → Prop} (h : pX8_where d x1 x2 x3 μ KI X) : zcI (d + 1) mX8_where [.ref 0, .int x1, .int x2, .int x3] μ KI X :=
  Ex_of (w := 4) mgX8_where.2.2.2.2.2 rfl rfl rfl (by decide) (wX8_where_0 h)

def pX8_isAtChurch (d : Nat) (x0 : Int32) (μ : zMem) (KI : Int32 → zMem → Prop) (X : Nat → zMem → Prop) : Prop :=
  ∀ v1 : Int32, v1 = x0 - x0 / 24 * 24 → KI (if x0 / 24 = 6 then (if v1 = 10 then 1 else (if v1 = 11 then 1 else 0)) else 0) μ
set_option maxRecDepth 20000 in
theorem wX8_isAtChurch_0 {d : Nat} {KI : Int32 → zMem → Prop} {X : Nat → zMem → Prop} {x0 : Int32} {μ : zMem} (h : pX8_isAtChurch d x0 μ KI X) : Wr mX8_isAtChurch (d + 1) 0 0 [(0, .int x0)] [] μ (kI KI X) := by
  unfold pX8_isAtChurch at h
  refine Wr_iload_n dX8_isAtChurch_0 rfl 0 rfl ?_
  refine Wr_bipush (v := 24) dX8_isAtChurch_1 (by decide) ?_
  refine Wr_irem dX8_isAtChurch_3 (by decide) ?_
  obtain ⟨v1, ev1⟩ : ∃ z : Int32, z = x0 - x0 / 24 * 24 := ⟨_, rfl⟩
  have h := h v1 ev1
  refine Wr_top ev1 ?_
  refine Wr_istore_n dX8_isAtChurch_4 rfl (by decide) rfl ?_
  refine Wr_iload_n dX8_isAtChurch_5 rfl 1 rfl ?_
  refine Wr_bipush (v := 24) dX8_isAtChurch_6 (by decide) ?_
  refine Wr_idiv dX8_isAtChurch_8 (by decide) ?_
  refine Wr_bipush (v := 6) dX8_isAtChurch_9 (by decide) ?_
  have hj1 : Wr mX8_isAtChurch (d + 1) 0 31 [(1, .int v1), (0, .int x0)] [.int (if x0 / 24 = 6 then (if v1 = 10 then 1 else (if v1 = 11 then 1 else 0)) else 0)] μ (kI KI X) := by
    exact Wr_iret .boolean dX8_isAtChurch_31 rfl (znar (by (repeat' split) <;> simp)) ⟨rfl, h⟩
  refine Wr_icmp_ne 30 dX8_isAtChurch_11 (by decide) (fun hc0 => ?_) (fun hc0 => ?_)
  · skip
    refine Wr_iconstv (v := 0) dX8_isAtChurch_30 (by decide) ?_
    exact Wr_top (if_neg hc0) hj1
  · skip
    refine Wr_iload_n dX8_isAtChurch_14 rfl 0 rfl ?_
    refine Wr_bipush (v := 10) dX8_isAtChurch_15 (by decide) ?_
    refine Wr_icmp_eq 26 dX8_isAtChurch_17 (by decide) (fun hc1 => ?_) (fun hc1 => ?_)
    · skip
      refine Wr_iconstv (v := 1) dX8_isAtChurch_26 (by decide) ?_
      refine Wr_goto 31 dX8_isAtChurch_27 (by decide) ?_
      exact Wr_top ((if_pos hc0).trans (if_pos hc1)) hj1
    · skip
      refine Wr_iload_n dX8_isAtChurch_20 rfl 0 rfl ?_
      refine Wr_bipush (v := 11) dX8_isAtChurch_21 (by decide) ?_
      refine Wr_icmp_ne 30 dX8_isAtChurch_23 (by decide) (fun hc2 => ?_) (fun hc2 => ?_)
      · skip
        refine Wr_iconstv (v := 0) dX8_isAtChurch_30 (by decide) ?_
        exact Wr_top ((if_pos hc0).trans ((if_neg hc1).trans (if_neg hc2))) hj1
      · skip
        refine Wr_iconstv (v := 1) dX8_isAtChurch_26 (by decide) ?_
        refine Wr_goto 31 dX8_isAtChurch_27 (by decide) ?_
        exact Wr_top ((if_pos hc0).trans ((if_neg hc1).trans (if_pos hc2))) hj1
theorem cX8_isAtChurch_ {d : Nat} {x0 : Int32} {μ : zMem} {KI : Int32 → zMem → Prop} {X : Nat → zMem → Prop} (h : pX8_isAtChurch d x0 μ KI X) : zcI (d + 1) mX8_isAtChurch [.int x0] μ KI X :=
  Ex_of (w := 1) mgX8_isAtChurch.2.2.2.2.2 rfl rfl rfl (by decide) (wX8_isAtChurch_0 h)

def pX8_between (d : Nat) (x1 : Int32) (x2 : Int32) (x3 : Int32) (x4 : Int32) (μ : zMem) (KI : Int32 → zMem → Prop) (X : Nat → zMem → Prop) : Prop :=
  zcV d mX8_needIsle [.ref 0, .int x1] μ (fun m1 => zcV d mX8_needIsle [.ref 0, .int x2] m1 (fun m2 => zcV d mX8_needHour [.int x3] m2 (fun m3 => zcV d mX8_needWhat [.int x4, .int 4] m3 (fun m4 => zcV d mX8_needTwo [.int x1, .int x2] m4 (fun m5 => zcV d mX0_put [.ref 92, .ref (zsk m5 0 4), .ref 47, .int x1, .int x1, .int x3, .int 0] m5 (fun m6 => zcV d mX0_put [.ref 92, .ref (zsk m6 0 4), .ref 47, .int x2, .int x2, .int x3, .int 0] m6 (fun m7 => ((x4 = 0 → zcI d mX0_areOver [.ref 92, .int x1, .int x2, .int 0] m7 (fun u9 m8 => (u9 = 0 ∨ u9 = 1) ∧ KI u9 m8) X) ∧
  (x4 = 1 → zcI d mX0_knocks [.ref 92, .int x1, .int x2] m7 (fun u11 m10 => (u11 = 0 ∨ u11 = 1) ∧ KI u11 m10) X) ∧
  (x4 = 2 → zcI d mX0_isShaded [.ref 92, .int x1, .int x2] m7 (fun u13 m12 => (u13 = 0 ∨ u13 = 1) ∧ KI u13 m12) X) ∧
  (¬ x4 = 0 → ¬ x4 = 1 → ¬ x4 = 2 → zcI d mX0_hasBridge [.ref 92, .int x1, .int x2, .int (m7 (zsk m7 0 4) 6)] m7 (fun u15 m14 => (u15 = 0 ∨ u15 = 1) ∧ KI u15 m14) X))) X) X) X) X) X) X) X
set_option maxRecDepth 20000 in
theorem wX8_between_0 {d : Nat} {KI : Int32 → zMem → Prop} {X : Nat → zMem → Prop} {x1 : Int32} {x2 : Int32} {x3 : Int32} {x4 : Int32} {μ : zMem} (h : pX8_between d x1 x2 x3 x4 μ KI X) : Wr mX8_between (d + 1) 0 0 [(0, .ref 0), (1, .int x1), (2, .int x2), (3, .int x3), (4, .int x4)] [] μ (kI KI X) := by
  unfold pX8_between at h
  refine Wr_aload_n dX8_between_0 rfl 0 rfl ?_
  refine Wr_iload_n dX8_between_1 rfl 1 rfl ?_
  refine Wr_cVv [.int x1] dX8_between_2 mlX8_146 mgX8_needIsle rfl mvX8_needIsle (zrv zl0 _ rfl rfl) rfl rfl (Nat.le_of_ble_eq_true rfl) rfl (zcV.imp h (fun m1 h => ?_) (fun _ _ h => ⟨rfl, h⟩))
  refine Wr_aload_n dX8_between_5 rfl 0 rfl ?_
  refine Wr_iload_n dX8_between_6 rfl 2 rfl ?_
  refine Wr_cVv [.int x2] dX8_between_7 mlX8_146 mgX8_needIsle rfl mvX8_needIsle (zrv zl0 _ rfl rfl) rfl rfl (Nat.le_of_ble_eq_true rfl) rfl (zcV.imp h (fun m2 h => ?_) (fun _ _ h => ⟨rfl, h⟩))
  refine Wr_iload_n dX8_between_10 rfl 3 rfl ?_
  refine Wr_cSv [.int x3] dX8_between_11 mlX8_192 mgX8_needHour rfl msX8_needHour  rfl rfl (Nat.le_of_ble_eq_true rfl) rfl (zcV.imp h (fun m3 h => ?_) (fun _ _ h => ⟨rfl, h⟩))
  refine Wr_iload dX8_between_14 4 rfl ?_
  refine Wr_iconstv (v := 4) dX8_between_16 (by decide) ?_
  refine Wr_cSv [.int x4, .int 4] dX8_between_17 mlX8_195 mgX8_needWhat rfl msX8_needWhat  rfl rfl (Nat.le_of_ble_eq_true rfl) rfl (zcV.imp h (fun m4 h => ?_) (fun _ _ h => ⟨rfl, h⟩))
  refine Wr_iload_n dX8_between_20 rfl 1 rfl ?_
  refine Wr_iload_n dX8_between_21 rfl 2 rfl ?_
  refine Wr_cSv [.int x1, .int x2] dX8_between_22 mlX8_227 mgX8_needTwo rfl msX8_needTwo  rfl rfl (Nat.le_of_ble_eq_true rfl) rfl (zcV.imp h (fun m5 h => ?_) (fun _ _ h => ⟨rfl, h⟩))
  refine Wr_aload_n dX8_between_25 rfl 0 rfl ?_
  refine Wr_getR 92 dX8_between_26 flX8_61 zl0 rfl (by decide) ?_
  refine Wr_aload_n dX8_between_29 rfl 0 rfl ?_
  refine Wr_getT dX8_between_30 flX8_30 zl0 (by decide) ?_
  refine Wr_aload_n dX8_between_33 rfl 0 rfl ?_
  refine Wr_getR 46 dX8_between_34 flX8_40 zl0 rfl (by decide) ?_
  refine Wr_getR 1 dX8_between_37 flX8_116 zl46 rfl (by decide) ?_
  refine Wr_iload_n dX8_between_40 rfl 1 rfl ?_
  refine Wr_iload_n dX8_between_41 rfl 1 rfl ?_
  refine Wr_iload_n dX8_between_42 rfl 3 rfl ?_
  refine Wr_iconstv (v := 0) dX8_between_43 (by decide) ?_
  refine Wr_cVv [.ref (zsk m5 0 4), .ref 47, .int x1, .int x1, .int x3, .int 0] dX8_between_44 mlX8_205 mgX0_put rfl mvX0_put (zrv zl92 _ rfl rfl) rfl rfl (Nat.le_of_ble_eq_true rfl) rfl (zcV.imp h (fun m6 h => ?_) (fun _ _ h => ⟨rfl, h⟩))
  refine Wr_aload_n dX8_between_47 rfl 0 rfl ?_
  refine Wr_getR 92 dX8_between_48 flX8_61 zl0 rfl (by decide) ?_
  refine Wr_aload_n dX8_between_51 rfl 0 rfl ?_
  refine Wr_getT dX8_between_52 flX8_30 zl0 (by decide) ?_
  refine Wr_aload_n dX8_between_55 rfl 0 rfl ?_
  refine Wr_getR 46 dX8_between_56 flX8_40 zl0 rfl (by decide) ?_
  refine Wr_getR 1 dX8_between_59 flX8_116 zl46 rfl (by decide) ?_
  refine Wr_iload_n dX8_between_62 rfl 2 rfl ?_
  refine Wr_iload_n dX8_between_63 rfl 2 rfl ?_
  refine Wr_iload_n dX8_between_64 rfl 3 rfl ?_
  refine Wr_iconstv (v := 0) dX8_between_65 (by decide) ?_
  refine Wr_cVv [.ref (zsk m6 0 4), .ref 47, .int x2, .int x2, .int x3, .int 0] dX8_between_66 mlX8_205 mgX0_put rfl mvX0_put (zrv zl92 _ rfl rfl) rfl rfl (Nat.le_of_ble_eq_true rfl) rfl (zcV.imp h (fun m7 h => ?_) (fun _ _ h => ⟨rfl, h⟩))
  refine Wr_iload dX8_between_69 4 rfl ?_
  by_cases hq0 : x4 = 0
  · have h := h.1 hq0
    refine Wr_tswC 0 25 96 hq0 dX8_between_71 (by decide) (by decide) (by decide) (by decide) ?_
    refine Wr_aload_n dX8_between_96 rfl 0 rfl ?_
    refine Wr_getR 92 dX8_between_97 flX8_61 zl0 rfl (by decide) ?_
    refine Wr_iload_n dX8_between_100 rfl 1 rfl ?_
    refine Wr_iload_n dX8_between_101 rfl 2 rfl ?_
    refine Wr_iconstv (v := 0) dX8_between_102 (by decide) ?_
    refine Wr_cVi [.int x1, .int x2, .int 0] dX8_between_103 mlX8_230 mgX0_areOver rfl mvX0_areOver (zrv zl92 _ rfl rfl) rfl rfl (Nat.le_of_ble_eq_true rfl) rfl (zcI.imp h (fun u9 m8 h => ?_) (fun _ _ h => ⟨rfl, h⟩))
    exact Wr_iret .boolean dX8_between_106 rfl (znar h.1) ⟨rfl, h.2⟩
  have h := h.2
  by_cases hq1 : x4 = 1
  · have h := h.1 hq1
    refine Wr_tswC 1 36 107 hq1 dX8_between_71 (by decide) (by decide) (by decide) (by decide) ?_
    refine Wr_aload_n dX8_between_107 rfl 0 rfl ?_
    refine Wr_getR 92 dX8_between_108 flX8_61 zl0 rfl (by decide) ?_
    refine Wr_iload_n dX8_between_111 rfl 1 rfl ?_
    refine Wr_iload_n dX8_between_112 rfl 2 rfl ?_
    refine Wr_cVi [.int x1, .int x2] dX8_between_113 mlX8_234 mgX0_knocks rfl mvX0_knocks (zrv zl92 _ rfl rfl) rfl rfl (Nat.le_of_ble_eq_true rfl) rfl (zcI.imp h (fun u11 m10 h => ?_) (fun _ _ h => ⟨rfl, h⟩))
    exact Wr_iret .boolean dX8_between_116 rfl (znar h.1) ⟨rfl, h.2⟩
  have h := h.2
  by_cases hq2 : x4 = 2
  · have h := h.1 hq2
    refine Wr_tswC 2 46 117 hq2 dX8_between_71 (by decide) (by decide) (by decide) (by decide) ?_
    refine Wr_aload_n dX8_between_117 rfl 0 rfl ?_
    refine Wr_getR 92 dX8_between_118 flX8_61 zl0 rfl (by decide) ?_
    refine Wr_iload_n dX8_between_121 rfl 1 rfl ?_
    refine Wr_iload_n dX8_between_122 rfl 2 rfl ?_
    refine Wr_cVi [.int x1, .int x2] dX8_between_123 mlX8_238 mgX0_isShaded rfl mvX0_isShaded (zrv zl92 _ rfl rfl) rfl rfl (Nat.le_of_ble_eq_true rfl) rfl (zcI.imp h (fun u13 m12 h => ?_) (fun _ _ h => ⟨rfl, h⟩))
    exact Wr_iret .boolean dX8_between_126 rfl (znar h.1) ⟨rfl, h.2⟩
  have h := h.2
  have h := h hq0 hq1 hq2
  refine Wr_tswD 127 (by have := zne hq0 (c := 0) (by decide); have := zne hq1 (c := 1) (by decide); have := zne hq2 (c := 2) (by decide); omega) dX8_between_71 (by decide) ?_
  refine Wr_aload_n dX8_between_127 rfl 0 rfl ?_
  refine Wr_getR 92 dX8_between_128 flX8_61 zl0 rfl (by decide) ?_
  refine Wr_iload_n dX8_between_131 rfl 1 rfl ?_
  refine Wr_iload_n dX8_between_132 rfl 2 rfl ?_
  refine Wr_aload_n dX8_between_133 rfl 0 rfl ?_
  refine Wr_getT dX8_between_134 flX8_30 zl0 (by decide) ?_
  refine Wr_getI dX8_between_137 flX8_126 (zsk_sh m7 0 4) rfl ?_
  refine Wr_cVi [.int x1, .int x2, .int (m7 (zsk m7 0 4) 6)] dX8_between_140 mlX8_241 mgX0_hasBridge rfl mvX0_hasBridge (zrv zl92 _ rfl rfl) rfl rfl (Nat.le_of_ble_eq_true rfl) rfl (zcI.imp h (fun u15 m14 h => ?_) (fun _ _ h => ⟨rfl, h⟩))
  exact Wr_iret .boolean dX8_between_143 rfl (znar h.1) ⟨rfl, h.2⟩
theorem cX8_between_ {d : Nat} {x1 : Int32} {x2 : Int32} {x3 : Int32} {x4 : Int32} {μ : zMem} {KI : Int32 → zMem → Prop} {X : Nat → zMem → Prop} (h : pX8_between d x1 x2 x3 x4 μ KI X) : zcI (d + 1) mX8_between [.ref 0, .int x1, .int x2, .int x3, .int x4] μ KI X :=
  Ex_of (w := 5) mgX8_between.2.2.2.2.2 rfl rfl rfl (by decide) (wX8_between_0 h)

def pX8_rain (d : Nat) (x1 : Int32) (x2 : Int32) (μ : zMem) (KI : Int32 → zMem → Prop) (X : Nat → zMem → Prop) : Prop :=
  zcV d mX8_needIsle [.ref 0, .int x1] μ (fun m1 => zcV d mX8_needHour [.int x2] m1 (fun m2 => zcV d mX8_blow [.ref 0, .ref 47, .int x2, .int 0] m2 (fun m3 => zcI d mX0_rainFrom [.ref 92, .int x1, .int (m3 47 0)] m3 (fun u5 m4 => KI u5 m4) X) X) X) X
set_option maxRecDepth 20000 in
theorem wX8_rain_0 {d : Nat} {KI : Int32 → zMem → Prop} {X : Nat → zMem → Prop} {x1 : Int32} {x2 : Int32} {μ : zMem} (h : pX8_rain d x1 x2 μ KI X) : Wr mX8_rain (d + 1) 0 0 [(0, .ref 0), (1, .int x1), (2, .int x2)] [] μ (kI KI X) := by
  unfold pX8_rain at h
  refine Wr_aload_n dX8_rain_0 rfl 0 rfl ?_
  refine Wr_iload_n dX8_rain_1 rfl 1 rfl ?_
  refine Wr_cVv [.int x1] dX8_rain_2 mlX8_146 mgX8_needIsle rfl mvX8_needIsle (zrv zl0 _ rfl rfl) rfl rfl (Nat.le_of_ble_eq_true rfl) rfl (zcV.imp h (fun m1 h => ?_) (fun _ _ h => ⟨rfl, h⟩))
  refine Wr_iload_n dX8_rain_5 rfl 2 rfl ?_
  refine Wr_cSv [.int x2] dX8_rain_6 mlX8_192 mgX8_needHour rfl msX8_needHour  rfl rfl (Nat.le_of_ble_eq_true rfl) rfl (zcV.imp h (fun m2 h => ?_) (fun _ _ h => ⟨rfl, h⟩))
  refine Wr_aload_n dX8_rain_9 rfl 0 rfl ?_
  refine Wr_aload_n dX8_rain_10 rfl 0 rfl ?_
  refine Wr_getR 46 dX8_rain_11 flX8_40 zl0 rfl (by decide) ?_
  refine Wr_getR 1 dX8_rain_14 flX8_116 zl46 rfl (by decide) ?_
  refine Wr_iload_n dX8_rain_17 rfl 2 rfl ?_
  refine Wr_iconstv (v := 0) dX8_rain_18 (by decide) ?_
  refine Wr_cVv [.ref 47, .int x2, .int 0] dX8_rain_19 mlX8_244 mgX8_blow rfl mvX8_blow (zrv zl0 _ rfl rfl) rfl rfl (Nat.le_of_ble_eq_true rfl) rfl (zcV.imp h (fun m3 h => ?_) (fun _ _ h => ⟨rfl, h⟩))
  refine Wr_aload_n dX8_rain_22 rfl 0 rfl ?_
  refine Wr_getR 92 dX8_rain_23 flX8_61 zl0 rfl (by decide) ?_
  refine Wr_iload_n dX8_rain_26 rfl 1 rfl ?_
  refine Wr_aload_n dX8_rain_27 rfl 0 rfl ?_
  refine Wr_getR 46 dX8_rain_28 flX8_40 zl0 rfl (by decide) ?_
  refine Wr_getR 1 dX8_rain_31 flX8_116 zl46 rfl (by decide) ?_
  refine Wr_getI dX8_rain_34 flX8_117 zl47 rfl ?_
  refine Wr_cVi [.int x1, .int (m3 47 0)] dX8_rain_37 mlX8_248 mgX0_rainFrom rfl mvX0_rainFrom (zrv zl92 _ rfl rfl) rfl rfl (Nat.le_of_ble_eq_true rfl) rfl (zcI.imp h (fun u5 m4 h => ?_) (fun _ _ h => ⟨rfl, h⟩))
  exact Wr_iret .int dX8_rain_40 rfl rfl ⟨rfl, h⟩
theorem cX8_rain_ {d : Nat} {x1 : Int32} {x2 : Int32} {μ : zMem} {KI : Int32 → zMem → Prop} {X : Nat → zMem → Prop} (h : pX8_rain d x1 x2 μ KI X) : zcI (d + 1) mX8_rain [.ref 0, .int x1, .int x2] μ KI X :=
  Ex_of (w := 3) mgX8_rain.2.2.2.2.2 rfl rfl rfl (by decide) (wX8_rain_0 h)

def pX8_winch_16 (d : Nat) (μ : zMem) (KI : Int32 → zMem → Prop) (X : Nat → zMem → Prop) : Prop :=
  ∀ m1 : zMem, m1 = zw μ 62 1 ((μ 62 1) + 1) → KI (-1) m1
set_option maxRecDepth 20000 in
theorem wX8_winch_16 {d : Nat} {KI : Int32 → zMem → Prop} {X : Nat → zMem → Prop} {μ : zMem} (h : pX8_winch_16 d μ KI X) : Wr mX8_winch (d + 1) 0 16 [(0, .ref 0)] [] μ (kI KI X) := by
  unfold pX8_winch_16 at h
  refine Wr_aload_n dX8_winch_16 rfl 0 rfl ?_
  refine Wr_getR 46 dX8_winch_17 flX8_40 zl0 rfl (by decide) ?_
  refine Wr_getR 16 dX8_winch_20 flX8_100 zl46 rfl (by decide) ?_
  refine Wr_iconstv (v := 1) dX8_winch_23 (by decide) ?_
  refine Wr_dup2 dX8_winch_24 rfl rfl ?_
  refine Wr_iald dX8_winch_25 zl62 (by unfold vp_in; decide) ?_
  refine Wr_iconstv (v := 1) dX8_winch_26 (by decide) ?_
  refine Wr_iadd dX8_winch_27 ?_
  obtain ⟨m1, em1⟩ : ∃ z : zMem, z = zw μ 62 1 ((μ 62 1) + 1) := ⟨_, rfl⟩
  have h := h m1 em1
  refine Wr_iast dX8_winch_28 zl62 (by unfold vp_in; decide) ?_
  refine Wr_mu em1 ?_
  refine Wr_iconstv (v := (-1)) dX8_winch_29 (by decide) ?_
  exact Wr_iret .int dX8_winch_30 rfl rfl ⟨rfl, h⟩
def pX8_winch (d : Nat) (x1 : Int32) (x2 : Int32) (μ : zMem) (KI : Int32 → zMem → Prop) (X : Nat → zMem → Prop) : Prop :=
  zcV d mX8_needIsle [.ref 0, .int x1] μ (fun m1 => ((x2 < 1 → pX8_winch_16 d m1 KI X) ∧
  (¬ (x2 < 1) → ((x2 ≤ 60 → (vp_in x1 6) ∧ ∀ v2 : Int32, v2 = m1 51 x1.toNatClampNeg → (vp_in x1 6) ∧ ∀ m3 : zMem, m3 = zw m1 51 x1.toNatClampNeg x2 → zcV d mX5_keepAct [.ref 46, .int 0, .int x1, .int v2, .int 0, .int 0] m3 (fun m4 => KI v2 m4) X) ∧
    (¬ (x2 ≤ 60) → pX8_winch_16 d m1 KI X))))) X
set_option maxRecDepth 20000 in
theorem wX8_winch_0 {d : Nat} {KI : Int32 → zMem → Prop} {X : Nat → zMem → Prop} {x1 : Int32} {x2 : Int32} {μ : zMem} (h : pX8_winch d x1 x2 μ KI X) : Wr mX8_winch (d + 1) 0 0 [(0, .ref 0), (1, .int x1), (2, .int x2)] [] μ (kI KI X) := by
  unfold pX8_winch at h
  refine Wr_aload_n dX8_winch_0 rfl 0 rfl ?_
  refine Wr_iload_n dX8_winch_1 rfl 1 rfl ?_
  refine Wr_cVv [.int x1] dX8_winch_2 mlX8_146 mgX8_needIsle rfl mvX8_needIsle (zrv zl0 _ rfl rfl) rfl rfl (Nat.le_of_ble_eq_true rfl) rfl (zcV.imp h (fun m1 h => ?_) (fun _ _ h => ⟨rfl, h⟩))
  refine Wr_iload_n dX8_winch_5 rfl 2 rfl ?_
  refine Wr_iconstv (v := 1) dX8_winch_6 (by decide) ?_
  refine Wr_icmp_lt 16 dX8_winch_7 (by decide) (fun hc => ?_) (fun hc => ?_)
  · have h := h.1 hc
    refine zsub [0] rfl ?_
    exact wX8_winch_16 h
  · have h := h.2 hc
    refine Wr_iload_n dX8_winch_10 rfl 2 rfl ?_
    refine Wr_bipush (v := 60) dX8_winch_11 (by decide) ?_
    refine Wr_icmp_le 31 dX8_winch_13 (by decide) (fun hc => ?_) (fun hc => ?_)
    · have h := h.1 hc
      refine Wr_aload_n dX8_winch_31 rfl 0 rfl ?_
      refine Wr_getR 46 dX8_winch_32 flX8_40 zl0 rfl (by decide) ?_
      refine Wr_getR 1 dX8_winch_35 flX8_116 zl46 rfl (by decide) ?_
      refine Wr_getR 4 dX8_winch_38 flX8_161 zl47 rfl (by decide) ?_
      refine Wr_iload_n dX8_winch_41 rfl 1 rfl ?_
      obtain ⟨hi, h⟩ := h
      refine Wr_iald dX8_winch_42 zl51 hi ?_
      obtain ⟨v2, ev2⟩ : ∃ z : Int32, z = m1 51 x1.toNatClampNeg := ⟨_, rfl⟩
      have h := h v2 ev2
      refine Wr_top ev2 ?_
      refine Wr_istore_n dX8_winch_43 rfl (by decide) rfl ?_
      refine Wr_aload_n dX8_winch_44 rfl 1 rfl ?_
      refine Wr_getR 46 dX8_winch_45 flX8_40 zl0 rfl (by decide) ?_
      refine Wr_getR 1 dX8_winch_48 flX8_116 zl46 rfl (by decide) ?_
      refine Wr_getR 4 dX8_winch_51 flX8_161 zl47 rfl (by decide) ?_
      refine Wr_iload_n dX8_winch_54 rfl 2 rfl ?_
      refine Wr_iload_n dX8_winch_55 rfl 3 rfl ?_
      obtain ⟨him3, h⟩ := h
      obtain ⟨m3, em3⟩ : ∃ z : zMem, z = zw m1 51 x1.toNatClampNeg x2 := ⟨_, rfl⟩
      have h := h m3 em3
      refine Wr_iast dX8_winch_56 zl51 him3 ?_
      refine Wr_mu em3 ?_
      refine Wr_aload_n dX8_winch_57 rfl 1 rfl ?_
      refine Wr_getR 46 dX8_winch_58 flX8_40 zl0 rfl (by decide) ?_
      refine Wr_iconstv (v := 0) dX8_winch_61 (by decide) ?_
      refine Wr_iload_n dX8_winch_62 rfl 2 rfl ?_
      refine Wr_iload_n dX8_winch_63 rfl 0 rfl ?_
      refine Wr_iconstv (v := 0) dX8_winch_64 (by decide) ?_
      refine Wr_iconstv (v := 0) dX8_winch_65 (by decide) ?_
      refine Wr_cVv [.int 0, .int x1, .int v2, .int 0, .int 0] dX8_winch_66 mlX8_252 mgX5_keepAct rfl mvX5_keepAct (zrv zl46 _ rfl rfl) rfl rfl (Nat.le_of_ble_eq_true rfl) rfl (zcV.imp h (fun m4 h => ?_) (fun _ _ h => ⟨rfl, h⟩))
      refine Wr_iload_n dX8_winch_69 rfl 0 rfl ?_
      exact Wr_iret .int dX8_winch_70 rfl rfl ⟨rfl, h⟩
    · have h := h.2 hc
      refine zsub [0] rfl ?_
      exact wX8_winch_16 h
theorem cX8_winch_ {d : Nat} {x1 : Int32} {x2 : Int32} {μ : zMem} {KI : Int32 → zMem → Prop} {X : Nat → zMem → Prop} (h : pX8_winch d x1 x2 μ KI X) : zcI (d + 1) mX8_winch [.ref 0, .int x1, .int x2] μ KI X :=
  Ex_of (w := 3) mgX8_winch.2.2.2.2.2 rfl rfl rfl (by decide) (wX8_winch_0 h)

def pX8_knot_45 (d : Nat) (μ : zMem) (KI : Int32 → zMem → Prop) (X : Nat → zMem → Prop) : Prop :=
  ∀ m1 : zMem, m1 = zw μ 62 1 ((μ 62 1) + 1) → KI (-1) m1
set_option maxRecDepth 20000 in
theorem wX8_knot_45 {d : Nat} {KI : Int32 → zMem → Prop} {X : Nat → zMem → Prop} {μ : zMem} (h : pX8_knot_45 d μ KI X) : Wr mX8_knot (d + 1) 0 45 [(0, .ref 0)] [] μ (kI KI X) := by
  unfold pX8_knot_45 at h
  refine Wr_aload_n dX8_knot_45 rfl 0 rfl ?_
  refine Wr_getR 46 dX8_knot_46 flX8_40 zl0 rfl (by decide) ?_
  refine Wr_getR 16 dX8_knot_49 flX8_100 zl46 rfl (by decide) ?_
  refine Wr_iconstv (v := 1) dX8_knot_52 (by decide) ?_
  refine Wr_dup2 dX8_knot_53 rfl rfl ?_
  refine Wr_iald dX8_knot_54 zl62 (by unfold vp_in; decide) ?_
  refine Wr_iconstv (v := 1) dX8_knot_55 (by decide) ?_
  refine Wr_iadd dX8_knot_56 ?_
  obtain ⟨m1, em1⟩ : ∃ z : zMem, z = zw μ 62 1 ((μ 62 1) + 1) := ⟨_, rfl⟩
  have h := h m1 em1
  refine Wr_iast dX8_knot_57 zl62 (by unfold vp_in; decide) ?_
  refine Wr_mu em1 ?_
  refine Wr_iconstv (v := (-1)) dX8_knot_58 (by decide) ?_
  exact Wr_iret .int dX8_knot_59 rfl rfl ⟨rfl, h⟩
def pX8_knot (d : Nat) (x1 : Int32) (x2 : Int32) (μ : zMem) (KI : Int32 → zMem → Prop) (X : Nat → zMem → Prop) : Prop :=
  zcV d mX8_needIsle [.ref 0, .int x1] μ (fun m1 => (vp_in x1 6) ∧ ∀ v2 : Int32, v2 = m1 57 x1.toNatClampNeg → ∀ v3 : Int32, v3 = (if x2 = 0 then v2 - 1 else v2 + 1) → ((v3 < 0 → pX8_knot_45 d m1 KI X) ∧
  (¬ (v3 < 0) → ((v3 ≤ 60 → (vp_in x1 6) ∧ ∀ m4 : zMem, m4 = zw m1 57 x1.toNatClampNeg v3 → zcV d mX5_keepAct [.ref 46, .int 1, .int x1, .int v2, .int 0, .int 0] m4 (fun m5 => KI v3 m5) X) ∧
    (¬ (v3 ≤ 60) → pX8_knot_45 d m1 KI X))))) X
set_option maxRecDepth 20000 in
theorem wX8_knot_0 {d : Nat} {KI : Int32 → zMem → Prop} {X : Nat → zMem → Prop} {x1 : Int32} {x2 : Int32} {μ : zMem} (h : pX8_knot d x1 x2 μ KI X) : Wr mX8_knot (d + 1) 0 0 [(0, .ref 0), (1, .int x1), (2, .int x2)] [] μ (kI KI X) := by
  unfold pX8_knot at h
  refine Wr_aload_n dX8_knot_0 rfl 0 rfl ?_
  refine Wr_iload_n dX8_knot_1 rfl 1 rfl ?_
  refine Wr_cVv [.int x1] dX8_knot_2 mlX8_146 mgX8_needIsle rfl mvX8_needIsle (zrv zl0 _ rfl rfl) rfl rfl (Nat.le_of_ble_eq_true rfl) rfl (zcV.imp h (fun m1 h => ?_) (fun _ _ h => ⟨rfl, h⟩))
  refine Wr_aload_n dX8_knot_5 rfl 0 rfl ?_
  refine Wr_getR 46 dX8_knot_6 flX8_40 zl0 rfl (by decide) ?_
  refine Wr_getR 1 dX8_knot_9 flX8_116 zl46 rfl (by decide) ?_
  refine Wr_getR 10 dX8_knot_12 flX8_179 zl47 rfl (by decide) ?_
  refine Wr_iload_n dX8_knot_15 rfl 1 rfl ?_
  obtain ⟨hi, h⟩ := h
  refine Wr_iald dX8_knot_16 zl57 hi ?_
  obtain ⟨v2, ev2⟩ : ∃ z : Int32, z = m1 57 x1.toNatClampNeg := ⟨_, rfl⟩
  have h := h v2 ev2
  refine Wr_top ev2 ?_
  refine Wr_istore_n dX8_knot_17 rfl (by decide) rfl ?_
  refine Wr_iload_n dX8_knot_18 rfl 3 rfl ?_
  have hj1 : Wr mX8_knot (d + 1) 0 31 [(3, .int v2), (0, .ref 0), (1, .int x1), (2, .int x2)] [.int (if x2 = 0 then v2 - 1 else v2 + 1)] m1 (kI KI X) := by
    obtain ⟨v3, ev3⟩ : ∃ z : Int32, z = (if x2 = 0 then v2 - 1 else v2 + 1) := ⟨_, rfl⟩
    have h := h v3 ev3
    refine Wr_top ev3 ?_
    refine Wr_istore dX8_knot_31 (by decide) rfl ?_
    refine Wr_iload dX8_knot_33 0 rfl ?_
    refine Wr_if_lt 45 dX8_knot_35 (by decide) (fun hc => ?_) (fun hc => ?_)
    · have h := h.1 hc
      refine zsub [0] rfl ?_
      exact wX8_knot_45 h
    · have h := h.2 hc
      refine Wr_iload dX8_knot_38 0 rfl ?_
      refine Wr_bipush (v := 60) dX8_knot_40 (by decide) ?_
      refine Wr_icmp_le 60 dX8_knot_42 (by decide) (fun hc => ?_) (fun hc => ?_)
      · have h := h.1 hc
        refine Wr_aload_n dX8_knot_60 rfl 2 rfl ?_
        refine Wr_getR 46 dX8_knot_61 flX8_40 zl0 rfl (by decide) ?_
        refine Wr_getR 1 dX8_knot_64 flX8_116 zl46 rfl (by decide) ?_
        refine Wr_getR 10 dX8_knot_67 flX8_179 zl47 rfl (by decide) ?_
        refine Wr_iload_n dX8_knot_70 rfl 3 rfl ?_
        refine Wr_iload dX8_knot_71 0 rfl ?_
        obtain ⟨him4, h⟩ := h
        obtain ⟨m4, em4⟩ : ∃ z : zMem, z = zw m1 57 x1.toNatClampNeg v3 := ⟨_, rfl⟩
        have h := h m4 em4
        refine Wr_iast dX8_knot_73 zl57 him4 ?_
        refine Wr_mu em4 ?_
        refine Wr_aload_n dX8_knot_74 rfl 2 rfl ?_
        refine Wr_getR 46 dX8_knot_75 flX8_40 zl0 rfl (by decide) ?_
        refine Wr_iconstv (v := 1) dX8_knot_78 (by decide) ?_
        refine Wr_iload_n dX8_knot_79 rfl 3 rfl ?_
        refine Wr_iload_n dX8_knot_80 rfl 1 rfl ?_
        refine Wr_iconstv (v := 0) dX8_knot_81 (by decide) ?_
        refine Wr_iconstv (v := 0) dX8_knot_82 (by decide) ?_
        refine Wr_cVv [.int 1, .int x1, .int v2, .int 0, .int 0] dX8_knot_83 mlX8_252 mgX5_keepAct rfl mvX5_keepAct (zrv zl46 _ rfl rfl) rfl rfl (Nat.le_of_ble_eq_true rfl) rfl (zcV.imp h (fun m5 h => ?_) (fun _ _ h => ⟨rfl, h⟩))
        refine Wr_iload dX8_knot_86 0 rfl ?_
        exact Wr_iret .int dX8_knot_88 rfl rfl ⟨rfl, h⟩
      · have h := h.2 hc
        refine zsub [0] rfl ?_
        exact wX8_knot_45 h
  refine Wr_if_eq 28 dX8_knot_19 (by decide) (fun hc0 => ?_) (fun hc0 => ?_)
  · skip
    refine Wr_iload_n dX8_knot_28 rfl 0 rfl ?_
    refine Wr_iconstv (v := 1) dX8_knot_29 (by decide) ?_
    refine Wr_isub dX8_knot_30 ?_
    exact Wr_top (if_pos hc0) hj1
  · skip
    refine Wr_iload_n dX8_knot_22 rfl 0 rfl ?_
    refine Wr_iconstv (v := 1) dX8_knot_23 (by decide) ?_
    refine Wr_iadd dX8_knot_24 ?_
    refine Wr_goto 31 dX8_knot_25 (by decide) ?_
    exact Wr_top (if_neg hc0) hj1
theorem cX8_knot_ {d : Nat} {x1 : Int32} {x2 : Int32} {μ : zMem} {KI : Int32 → zMem → Prop} {X : Nat → zMem → Prop} (h : pX8_knot d x1 x2 μ KI X) : zcI (d + 1) mX8_knot [.ref 0, .int x1, .int x2] μ KI X :=
  Ex_of (w := 3) mgX8_knot.2.2.2.2.2 rfl rfl rfl (by decide) (wX8_knot_0 h)

def pX8_load_15 (d : Nat) (μ : zMem) (KI : Int32 → zMem → Prop) (X : Nat → zMem → Prop) : Prop :=
  ∀ m1 : zMem, m1 = zw μ 62 1 ((μ 62 1) + 1) → KI (-1) m1
set_option maxRecDepth 20000 in
theorem wX8_load_15 {d : Nat} {KI : Int32 → zMem → Prop} {X : Nat → zMem → Prop} {μ : zMem} (h : pX8_load_15 d μ KI X) : Wr mX8_load (d + 1) 0 15 [(0, .ref 0)] [] μ (kI KI X) := by
  unfold pX8_load_15 at h
  refine Wr_aload_n dX8_load_15 rfl 0 rfl ?_
  refine Wr_getR 46 dX8_load_16 flX8_40 zl0 rfl (by decide) ?_
  refine Wr_getR 16 dX8_load_19 flX8_100 zl46 rfl (by decide) ?_
  refine Wr_iconstv (v := 1) dX8_load_22 (by decide) ?_
  refine Wr_dup2 dX8_load_23 rfl rfl ?_
  refine Wr_iald dX8_load_24 zl62 (by unfold vp_in; decide) ?_
  refine Wr_iconstv (v := 1) dX8_load_25 (by decide) ?_
  refine Wr_iadd dX8_load_26 ?_
  obtain ⟨m1, em1⟩ : ∃ z : zMem, z = zw μ 62 1 ((μ 62 1) + 1) := ⟨_, rfl⟩
  have h := h m1 em1
  refine Wr_iast dX8_load_27 zl62 (by unfold vp_in; decide) ?_
  refine Wr_mu em1 ?_
  refine Wr_iconstv (v := (-1)) dX8_load_28 (by decide) ?_
  exact Wr_iret .int dX8_load_29 rfl rfl ⟨rfl, h⟩
def pX8_load (d : Nat) (x1 : Int32) (x2 : Int32) (μ : zMem) (KI : Int32 → zMem → Prop) (X : Nat → zMem → Prop) : Prop :=
  zcV d mX8_needIsle [.ref 0, .int x1] μ (fun m1 => ((x2 < 0 → pX8_load_15 d m1 KI X) ∧
  (¬ (x2 < 0) → ((x2 ≤ 60 → (vp_in x1 6) ∧ ∀ v2 : Int32, v2 = m1 55 x1.toNatClampNeg → (vp_in x1 6) ∧ ∀ m3 : zMem, m3 = zw m1 55 x1.toNatClampNeg x2 → zcV d mX5_keepAct [.ref 46, .int 2, .int x1, .int v2, .int 0, .int 0] m3 (fun m4 => KI v2 m4) X) ∧
    (¬ (x2 ≤ 60) → pX8_load_15 d m1 KI X))))) X
set_option maxRecDepth 20000 in
theorem wX8_load_0 {d : Nat} {KI : Int32 → zMem → Prop} {X : Nat → zMem → Prop} {x1 : Int32} {x2 : Int32} {μ : zMem} (h : pX8_load d x1 x2 μ KI X) : Wr mX8_load (d + 1) 0 0 [(0, .ref 0), (1, .int x1), (2, .int x2)] [] μ (kI KI X) := by
  unfold pX8_load at h
  refine Wr_aload_n dX8_load_0 rfl 0 rfl ?_
  refine Wr_iload_n dX8_load_1 rfl 1 rfl ?_
  refine Wr_cVv [.int x1] dX8_load_2 mlX8_146 mgX8_needIsle rfl mvX8_needIsle (zrv zl0 _ rfl rfl) rfl rfl (Nat.le_of_ble_eq_true rfl) rfl (zcV.imp h (fun m1 h => ?_) (fun _ _ h => ⟨rfl, h⟩))
  refine Wr_iload_n dX8_load_5 rfl 2 rfl ?_
  refine Wr_if_lt 15 dX8_load_6 (by decide) (fun hc => ?_) (fun hc => ?_)
  · have h := h.1 hc
    refine zsub [0] rfl ?_
    exact wX8_load_15 h
  · have h := h.2 hc
    refine Wr_iload_n dX8_load_9 rfl 2 rfl ?_
    refine Wr_bipush (v := 60) dX8_load_10 (by decide) ?_
    refine Wr_icmp_le 30 dX8_load_12 (by decide) (fun hc => ?_) (fun hc => ?_)
    · have h := h.1 hc
      refine Wr_aload_n dX8_load_30 rfl 0 rfl ?_
      refine Wr_getR 46 dX8_load_31 flX8_40 zl0 rfl (by decide) ?_
      refine Wr_getR 1 dX8_load_34 flX8_116 zl46 rfl (by decide) ?_
      refine Wr_getR 8 dX8_load_37 flX8_173 zl47 rfl (by decide) ?_
      refine Wr_iload_n dX8_load_40 rfl 1 rfl ?_
      obtain ⟨hi, h⟩ := h
      refine Wr_iald dX8_load_41 zl55 hi ?_
      obtain ⟨v2, ev2⟩ : ∃ z : Int32, z = m1 55 x1.toNatClampNeg := ⟨_, rfl⟩
      have h := h v2 ev2
      refine Wr_top ev2 ?_
      refine Wr_istore_n dX8_load_42 rfl (by decide) rfl ?_
      refine Wr_aload_n dX8_load_43 rfl 1 rfl ?_
      refine Wr_getR 46 dX8_load_44 flX8_40 zl0 rfl (by decide) ?_
      refine Wr_getR 1 dX8_load_47 flX8_116 zl46 rfl (by decide) ?_
      refine Wr_getR 8 dX8_load_50 flX8_173 zl47 rfl (by decide) ?_
      refine Wr_iload_n dX8_load_53 rfl 2 rfl ?_
      refine Wr_iload_n dX8_load_54 rfl 3 rfl ?_
      obtain ⟨him3, h⟩ := h
      obtain ⟨m3, em3⟩ : ∃ z : zMem, z = zw m1 55 x1.toNatClampNeg x2 := ⟨_, rfl⟩
      have h := h m3 em3
      refine Wr_iast dX8_load_55 zl55 him3 ?_
      refine Wr_mu em3 ?_
      refine Wr_aload_n dX8_load_56 rfl 1 rfl ?_
      refine Wr_getR 46 dX8_load_57 flX8_40 zl0 rfl (by decide) ?_
      refine Wr_iconstv (v := 2) dX8_load_60 (by decide) ?_
      refine Wr_iload_n dX8_load_61 rfl 2 rfl ?_
      refine Wr_iload_n dX8_load_62 rfl 0 rfl ?_
      refine Wr_iconstv (v := 0) dX8_load_63 (by decide) ?_
      refine Wr_iconstv (v := 0) dX8_load_64 (by decide) ?_
      refine Wr_cVv [.int 2, .int x1, .int v2, .int 0, .int 0] dX8_load_65 mlX8_252 mgX5_keepAct rfl mvX5_keepAct (zrv zl46 _ rfl rfl) rfl rfl (Nat.le_of_ble_eq_true rfl) rfl (zcV.imp h (fun m4 h => ?_) (fun _ _ h => ⟨rfl, h⟩))
      refine Wr_iload_n dX8_load_68 rfl 0 rfl ?_
      exact Wr_iret .int dX8_load_69 rfl rfl ⟨rfl, h⟩
    · have h := h.2 hc
      refine zsub [0] rfl ?_
      exact wX8_load_15 h
theorem cX8_load_ {d : Nat} {x1 : Int32} {x2 : Int32} {μ : zMem} {KI : Int32 → zMem → Prop} {X : Nat → zMem → Prop} (h : pX8_load d x1 x2 μ KI X) : zcI (d + 1) mX8_load [.ref 0, .int x1, .int x2] μ KI X :=
  Ex_of (w := 3) mgX8_load.2.2.2.2.2 rfl rfl rfl (by decide) (wX8_load_0 h)

def pX8_goat (d : Nat) (x1 : Int32) (x2 : Int32) (x3 : Int32) (μ : zMem) (KI : Int32 → zMem → Prop) (X : Nat → zMem → Prop) : Prop :=
  zcV d mX8_needIsle [.ref 0, .int x1] μ (fun m1 => zcV d mX8_needIsle [.ref 0, .int x2] m1 (fun m2 => zcV d mX8_needHour [.int x3] m2 (fun m3 => zcI d mX8_canThrowGoat [.ref 0, .int x1, .int x2, .int x3] m3 (fun u5 m4 => ((u5 = 0 → ∀ m9 : zMem, m9 = zw m4 62 1 ((m4 62 1) + 1) → KI 0 m9) ∧
  (¬ (u5 = 0) → (vp_in x1 6) ∧ (vp_in x1 6) ∧ ∀ m6 : zMem, m6 = zw m4 56 x1.toNatClampNeg ((m4 56 x1.toNatClampNeg) - 1) → (vp_in x2 6) ∧ (vp_in x2 6) ∧ ∀ m7 : zMem, m7 = zw m6 56 x2.toNatClampNeg ((m6 56 x2.toNatClampNeg) + 1) → zcV d mX5_keepAct [.ref 46, .int 3, .int x1, .int x2, .int 0, .int 0] m7 (fun m8 => KI 1 m8) X))) X) X) X) X
set_option maxRecDepth 20000 in
theorem wX8_goat_0 {d : Nat} {KI : Int32 → zMem → Prop} {X : Nat → zMem → Prop} {x1 : Int32} {x2 : Int32} {x3 : Int32} {μ : zMem} (h : pX8_goat d x1 x2 x3 μ KI X) : Wr mX8_goat (d + 1) 0 0 [(0, .ref 0), (1, .int x1), (2, .int x2), (3, .int x3)] [] μ (kI KI X) := by
  unfold pX8_goat at h
  refine Wr_aload_n dX8_goat_0 rfl 0 rfl ?_
  refine Wr_iload_n dX8_goat_1 rfl 1 rfl ?_
  refine Wr_cVv [.int x1] dX8_goat_2 mlX8_146 mgX8_needIsle rfl mvX8_needIsle (zrv zl0 _ rfl rfl) rfl rfl (Nat.le_of_ble_eq_true rfl) rfl (zcV.imp h (fun m1 h => ?_) (fun _ _ h => ⟨rfl, h⟩))
  refine Wr_aload_n dX8_goat_5 rfl 0 rfl ?_
  refine Wr_iload_n dX8_goat_6 rfl 2 rfl ?_
  refine Wr_cVv [.int x2] dX8_goat_7 mlX8_146 mgX8_needIsle rfl mvX8_needIsle (zrv zl0 _ rfl rfl) rfl rfl (Nat.le_of_ble_eq_true rfl) rfl (zcV.imp h (fun m2 h => ?_) (fun _ _ h => ⟨rfl, h⟩))
  refine Wr_iload_n dX8_goat_10 rfl 3 rfl ?_
  refine Wr_cSv [.int x3] dX8_goat_11 mlX8_192 mgX8_needHour rfl msX8_needHour  rfl rfl (Nat.le_of_ble_eq_true rfl) rfl (zcV.imp h (fun m3 h => ?_) (fun _ _ h => ⟨rfl, h⟩))
  refine Wr_aload_n dX8_goat_14 rfl 0 rfl ?_
  refine Wr_iload_n dX8_goat_15 rfl 1 rfl ?_
  refine Wr_iload_n dX8_goat_16 rfl 2 rfl ?_
  refine Wr_iload_n dX8_goat_17 rfl 3 rfl ?_
  refine Wr_cVi [.int x1, .int x2, .int x3] dX8_goat_18 mlX8_256 mgX8_canThrowGoat rfl mvX8_canThrowGoat (zrv zl0 _ rfl rfl) rfl rfl (Nat.le_of_ble_eq_true rfl) rfl (zcI.imp h (fun u5 m4 h => ?_) (fun _ _ h => ⟨rfl, h⟩))
  refine Wr_if_ne 39 dX8_goat_21 (by decide) (fun hc => ?_) (fun hc => ?_)
  · have h := h.2 hc
    refine Wr_aload_n dX8_goat_39 rfl 0 rfl ?_
    refine Wr_getR 46 dX8_goat_40 flX8_40 zl0 rfl (by decide) ?_
    refine Wr_getR 1 dX8_goat_43 flX8_116 zl46 rfl (by decide) ?_
    refine Wr_getR 9 dX8_goat_46 flX8_176 zl47 rfl (by decide) ?_
    refine Wr_iload_n dX8_goat_49 rfl 1 rfl ?_
    refine Wr_dup2 dX8_goat_50 rfl rfl ?_
    obtain ⟨hi, h⟩ := h
    refine Wr_iald dX8_goat_51 zl56 hi ?_
    refine Wr_iconstv (v := 1) dX8_goat_52 (by decide) ?_
    refine Wr_isub dX8_goat_53 ?_
    obtain ⟨him6, h⟩ := h
    obtain ⟨m6, em6⟩ : ∃ z : zMem, z = zw m4 56 x1.toNatClampNeg ((m4 56 x1.toNatClampNeg) - 1) := ⟨_, rfl⟩
    have h := h m6 em6
    refine Wr_iast dX8_goat_54 zl56 him6 ?_
    refine Wr_mu em6 ?_
    refine Wr_aload_n dX8_goat_55 rfl 0 rfl ?_
    refine Wr_getR 46 dX8_goat_56 flX8_40 zl0 rfl (by decide) ?_
    refine Wr_getR 1 dX8_goat_59 flX8_116 zl46 rfl (by decide) ?_
    refine Wr_getR 9 dX8_goat_62 flX8_176 zl47 rfl (by decide) ?_
    refine Wr_iload_n dX8_goat_65 rfl 2 rfl ?_
    refine Wr_dup2 dX8_goat_66 rfl rfl ?_
    obtain ⟨hi, h⟩ := h
    refine Wr_iald dX8_goat_67 zl56 hi ?_
    refine Wr_iconstv (v := 1) dX8_goat_68 (by decide) ?_
    refine Wr_iadd dX8_goat_69 ?_
    obtain ⟨him7, h⟩ := h
    obtain ⟨m7, em7⟩ : ∃ z : zMem, z = zw m6 56 x2.toNatClampNeg ((m6 56 x2.toNatClampNeg) + 1) := ⟨_, rfl⟩
    have h := h m7 em7
    refine Wr_iast dX8_goat_70 zl56 him7 ?_
    refine Wr_mu em7 ?_
    refine Wr_aload_n dX8_goat_71 rfl 0 rfl ?_
    refine Wr_getR 46 dX8_goat_72 flX8_40 zl0 rfl (by decide) ?_
    refine Wr_iconstv (v := 3) dX8_goat_75 (by decide) ?_
    refine Wr_iload_n dX8_goat_76 rfl 1 rfl ?_
    refine Wr_iload_n dX8_goat_77 rfl 2 rfl ?_
    refine Wr_iconstv (v := 0) dX8_goat_78 (by decide) ?_
    refine Wr_iconstv (v := 0) dX8_goat_79 (by decide) ?_
    refine Wr_cVv [.int 3, .int x1, .int x2, .int 0, .int 0] dX8_goat_80 mlX8_252 mgX5_keepAct rfl mvX5_keepAct (zrv zl46 _ rfl rfl) rfl rfl (Nat.le_of_ble_eq_true rfl) rfl (zcV.imp h (fun m8 h => ?_) (fun _ _ h => ⟨rfl, h⟩))
    refine Wr_iconstv (v := 1) dX8_goat_83 (by decide) ?_
    exact Wr_iret .boolean dX8_goat_84 rfl rfl ⟨rfl, h⟩
  · have h := h.1 hc
    refine Wr_aload_n dX8_goat_24 rfl 0 rfl ?_
    refine Wr_getR 46 dX8_goat_25 flX8_40 zl0 rfl (by decide) ?_
    refine Wr_getR 16 dX8_goat_28 flX8_100 zl46 rfl (by decide) ?_
    refine Wr_iconstv (v := 1) dX8_goat_31 (by decide) ?_
    refine Wr_dup2 dX8_goat_32 rfl rfl ?_
    refine Wr_iald dX8_goat_33 zl62 (by unfold vp_in; decide) ?_
    refine Wr_iconstv (v := 1) dX8_goat_34 (by decide) ?_
    refine Wr_iadd dX8_goat_35 ?_
    obtain ⟨m9, em9⟩ : ∃ z : zMem, z = zw m4 62 1 ((m4 62 1) + 1) := ⟨_, rfl⟩
    have h := h m9 em9
    refine Wr_iast dX8_goat_36 zl62 (by unfold vp_in; decide) ?_
    refine Wr_mu em9 ?_
    refine Wr_iconstv (v := 0) dX8_goat_37 (by decide) ?_
    exact Wr_iret .boolean dX8_goat_38 rfl rfl ⟨rfl, h⟩
theorem cX8_goat_ {d : Nat} {x1 : Int32} {x2 : Int32} {x3 : Int32} {μ : zMem} {KI : Int32 → zMem → Prop} {X : Nat → zMem → Prop} (h : pX8_goat d x1 x2 x3 μ KI X) : zcI (d + 1) mX8_goat [.ref 0, .int x1, .int x2, .int x3] μ KI X :=
  Ex_of (w := 4) mgX8_goat.2.2.2.2.2 rfl rfl rfl (by decide) (wX8_goat_0 h)

def pX8_canThrowGoat (d : Nat) (x1 : Int32) (x2 : Int32) (x3 : Int32) (μ : zMem) (KI : Int32 → zMem → Prop) (X : Nat → zMem → Prop) : Prop :=
  ((x1 = x2 → KI 0 μ) ∧
  (¬ (x1 = x2) → (vp_in x1 6) ∧ ((μ 56 x1.toNatClampNeg < 1 → KI 0 μ) ∧
    (¬ (μ 56 x1.toNatClampNeg < 1) → (vp_in x2 6) ∧ ((μ 56 x2.toNatClampNeg < 9 → zcV d mX0_put [.ref 92, .ref (zsk μ 0 4), .ref 47, .int x1, .int x1, .int x3, .int 0] μ (fun m1 => zcV d mX0_put [.ref 92, .ref (zsk m1 0 4), .ref 47, .int x2, .int x2, .int x3, .int 0] m1 (fun m2 => zcI d mX0_hasBridge [.ref 92, .int x1, .int x2, .int (m2 (zsk m2 0 4) 6)] m2 (fun u4 m3 => (u4 = 0 ∨ u4 = 1) ∧ KI u4 m3) X) X) X) ∧
      (¬ (μ 56 x2.toNatClampNeg < 9) → KI 0 μ))))))
set_option maxRecDepth 20000 in
theorem wX8_canThrowGoat_0 {d : Nat} {KI : Int32 → zMem → Prop} {X : Nat → zMem → Prop} {x1 : Int32} {x2 : Int32} {x3 : Int32} {μ : zMem} (h : pX8_canThrowGoat d x1 x2 x3 μ KI X) : Wr mX8_canThrowGoat (d + 1) 0 0 [(0, .ref 0), (1, .int x1), (2, .int x2), (3, .int x3)] [] μ (kI KI X) := by
  unfold pX8_canThrowGoat at h
  refine Wr_iload_n dX8_canThrowGoat_0 rfl 1 rfl ?_
  refine Wr_iload_n dX8_canThrowGoat_1 rfl 2 rfl ?_
  refine Wr_icmp_eq 38 dX8_canThrowGoat_2 (by decide) (fun hc => ?_) (fun hc => ?_)
  · have h := h.1 hc
    refine Wr_iconstv (v := 0) dX8_canThrowGoat_38 (by decide) ?_
    exact Wr_iret .boolean dX8_canThrowGoat_39 rfl rfl ⟨rfl, h⟩
  · have h := h.2 hc
    refine Wr_aload_n dX8_canThrowGoat_5 rfl 0 rfl ?_
    refine Wr_getR 46 dX8_canThrowGoat_6 flX8_40 zl0 rfl (by decide) ?_
    refine Wr_getR 1 dX8_canThrowGoat_9 flX8_116 zl46 rfl (by decide) ?_
    refine Wr_getR 9 dX8_canThrowGoat_12 flX8_176 zl47 rfl (by decide) ?_
    refine Wr_iload_n dX8_canThrowGoat_15 rfl 1 rfl ?_
    obtain ⟨hi, h⟩ := h
    refine Wr_iald dX8_canThrowGoat_16 zl56 hi ?_
    refine Wr_iconstv (v := 1) dX8_canThrowGoat_17 (by decide) ?_
    refine Wr_icmp_lt 38 dX8_canThrowGoat_18 (by decide) (fun hc => ?_) (fun hc => ?_)
    · have h := h.1 hc
      refine Wr_iconstv (v := 0) dX8_canThrowGoat_38 (by decide) ?_
      exact Wr_iret .boolean dX8_canThrowGoat_39 rfl rfl ⟨rfl, h⟩
    · have h := h.2 hc
      refine Wr_aload_n dX8_canThrowGoat_21 rfl 0 rfl ?_
      refine Wr_getR 46 dX8_canThrowGoat_22 flX8_40 zl0 rfl (by decide) ?_
      refine Wr_getR 1 dX8_canThrowGoat_25 flX8_116 zl46 rfl (by decide) ?_
      refine Wr_getR 9 dX8_canThrowGoat_28 flX8_176 zl47 rfl (by decide) ?_
      refine Wr_iload_n dX8_canThrowGoat_31 rfl 2 rfl ?_
      obtain ⟨hi, h⟩ := h
      refine Wr_iald dX8_canThrowGoat_32 zl56 hi ?_
      refine Wr_bipush (v := 9) dX8_canThrowGoat_33 (by decide) ?_
      refine Wr_icmp_lt 40 dX8_canThrowGoat_35 (by decide) (fun hc => ?_) (fun hc => ?_)
      · have h := h.1 hc
        refine Wr_aload_n dX8_canThrowGoat_40 rfl 0 rfl ?_
        refine Wr_getR 92 dX8_canThrowGoat_41 flX8_61 zl0 rfl (by decide) ?_
        refine Wr_aload_n dX8_canThrowGoat_44 rfl 0 rfl ?_
        refine Wr_getT dX8_canThrowGoat_45 flX8_30 zl0 (by decide) ?_
        refine Wr_aload_n dX8_canThrowGoat_48 rfl 0 rfl ?_
        refine Wr_getR 46 dX8_canThrowGoat_49 flX8_40 zl0 rfl (by decide) ?_
        refine Wr_getR 1 dX8_canThrowGoat_52 flX8_116 zl46 rfl (by decide) ?_
        refine Wr_iload_n dX8_canThrowGoat_55 rfl 1 rfl ?_
        refine Wr_iload_n dX8_canThrowGoat_56 rfl 1 rfl ?_
        refine Wr_iload_n dX8_canThrowGoat_57 rfl 3 rfl ?_
        refine Wr_iconstv (v := 0) dX8_canThrowGoat_58 (by decide) ?_
        refine Wr_cVv [.ref (zsk μ 0 4), .ref 47, .int x1, .int x1, .int x3, .int 0] dX8_canThrowGoat_59 mlX8_205 mgX0_put rfl mvX0_put (zrv zl92 _ rfl rfl) rfl rfl (Nat.le_of_ble_eq_true rfl) rfl (zcV.imp h (fun m1 h => ?_) (fun _ _ h => ⟨rfl, h⟩))
        refine Wr_aload_n dX8_canThrowGoat_62 rfl 0 rfl ?_
        refine Wr_getR 92 dX8_canThrowGoat_63 flX8_61 zl0 rfl (by decide) ?_
        refine Wr_aload_n dX8_canThrowGoat_66 rfl 0 rfl ?_
        refine Wr_getT dX8_canThrowGoat_67 flX8_30 zl0 (by decide) ?_
        refine Wr_aload_n dX8_canThrowGoat_70 rfl 0 rfl ?_
        refine Wr_getR 46 dX8_canThrowGoat_71 flX8_40 zl0 rfl (by decide) ?_
        refine Wr_getR 1 dX8_canThrowGoat_74 flX8_116 zl46 rfl (by decide) ?_
        refine Wr_iload_n dX8_canThrowGoat_77 rfl 2 rfl ?_
        refine Wr_iload_n dX8_canThrowGoat_78 rfl 2 rfl ?_
        refine Wr_iload_n dX8_canThrowGoat_79 rfl 3 rfl ?_
        refine Wr_iconstv (v := 0) dX8_canThrowGoat_80 (by decide) ?_
        refine Wr_cVv [.ref (zsk m1 0 4), .ref 47, .int x2, .int x2, .int x3, .int 0] dX8_canThrowGoat_81 mlX8_205 mgX0_put rfl mvX0_put (zrv zl92 _ rfl rfl) rfl rfl (Nat.le_of_ble_eq_true rfl) rfl (zcV.imp h (fun m2 h => ?_) (fun _ _ h => ⟨rfl, h⟩))
        refine Wr_aload_n dX8_canThrowGoat_84 rfl 0 rfl ?_
        refine Wr_getR 92 dX8_canThrowGoat_85 flX8_61 zl0 rfl (by decide) ?_
        refine Wr_iload_n dX8_canThrowGoat_88 rfl 1 rfl ?_
        refine Wr_iload_n dX8_canThrowGoat_89 rfl 2 rfl ?_
        refine Wr_aload_n dX8_canThrowGoat_90 rfl 0 rfl ?_
        refine Wr_getT dX8_canThrowGoat_91 flX8_30 zl0 (by decide) ?_
        refine Wr_getI dX8_canThrowGoat_94 flX8_126 (zsk_sh m2 0 4) rfl ?_
        refine Wr_cVi [.int x1, .int x2, .int (m2 (zsk m2 0 4) 6)] dX8_canThrowGoat_97 mlX8_241 mgX0_hasBridge rfl mvX0_hasBridge (zrv zl92 _ rfl rfl) rfl rfl (Nat.le_of_ble_eq_true rfl) rfl (zcI.imp h (fun u4 m3 h => ?_) (fun _ _ h => ⟨rfl, h⟩))
        exact Wr_iret .boolean dX8_canThrowGoat_100 rfl (znar h.1) ⟨rfl, h.2⟩
      · have h := h.2 hc
        refine Wr_iconstv (v := 0) dX8_canThrowGoat_38 (by decide) ?_
        exact Wr_iret .boolean dX8_canThrowGoat_39 rfl rfl ⟨rfl, h⟩
theorem cX8_canThrowGoat_ {d : Nat} {x1 : Int32} {x2 : Int32} {x3 : Int32} {μ : zMem} {KI : Int32 → zMem → Prop} {X : Nat → zMem → Prop} (h : pX8_canThrowGoat d x1 x2 x3 μ KI X) : zcI (d + 1) mX8_canThrowGoat [.ref 0, .int x1, .int x2, .int x3] μ KI X :=
  Ex_of (w := 4) mgX8_canThrowGoat.2.2.2.2.2 rfl rfl rfl (by decide) (wX8_canThrowGoat_0 h)

def pX8_walk (d : Nat) (x1 : Int32) (x2 : Int32) (x3 : Int32) (x4 : Int32) (μ : zMem) (KI : Int32 → zMem → Prop) (X : Nat → zMem → Prop) : Prop :=
  zcV d mX8_needIsle [.ref 0, .int x1] μ (fun m1 => zcI d mX8_canWalk [.ref 0, .int x1, .int x2, .int x3, .int x4] m1 (fun u3 m2 => ((u3 = 0 → ∀ m7 : zMem, m7 = zw m2 62 1 ((m2 62 1) + 1) → KI (-1) m7) ∧
  (¬ (u3 = 0) → (vp_in ((x1 * 4) + x2) 24) ∧ (vp_in ((x1 * 4) + x2) 24) ∧ ∀ m4 : zMem, m4 = zw m2 58 ((x1 * 4) + x2).toNatClampNeg ((m2 58 ((x1 * 4) + x2).toNatClampNeg) - x4) → (vp_in ((x1 * 4) + x3) 24) ∧ (vp_in ((x1 * 4) + x3) 24) ∧ ∀ m5 : zMem, m5 = zw m4 58 ((x1 * 4) + x3).toNatClampNeg ((m4 58 ((x1 * 4) + x3).toNatClampNeg) + x4) → zcV d mX5_keepAct [.ref 46, .int 4, .int x1, .int x2, .int x3, .int x4] m5 (fun m6 => (vp_in ((x1 * 4) + x3) 24) ∧ KI (m6 58 ((x1 * 4) + x3).toNatClampNeg) m6) X))) X) X
set_option maxRecDepth 20000 in
theorem wX8_walk_0 {d : Nat} {KI : Int32 → zMem → Prop} {X : Nat → zMem → Prop} {x1 : Int32} {x2 : Int32} {x3 : Int32} {x4 : Int32} {μ : zMem} (h : pX8_walk d x1 x2 x3 x4 μ KI X) : Wr mX8_walk (d + 1) 0 0 [(0, .ref 0), (1, .int x1), (2, .int x2), (3, .int x3), (4, .int x4)] [] μ (kI KI X) := by
  unfold pX8_walk at h
  refine Wr_aload_n dX8_walk_0 rfl 0 rfl ?_
  refine Wr_iload_n dX8_walk_1 rfl 1 rfl ?_
  refine Wr_cVv [.int x1] dX8_walk_2 mlX8_146 mgX8_needIsle rfl mvX8_needIsle (zrv zl0 _ rfl rfl) rfl rfl (Nat.le_of_ble_eq_true rfl) rfl (zcV.imp h (fun m1 h => ?_) (fun _ _ h => ⟨rfl, h⟩))
  refine Wr_aload_n dX8_walk_5 rfl 0 rfl ?_
  refine Wr_iload_n dX8_walk_6 rfl 1 rfl ?_
  refine Wr_iload_n dX8_walk_7 rfl 2 rfl ?_
  refine Wr_iload_n dX8_walk_8 rfl 3 rfl ?_
  refine Wr_iload dX8_walk_9 4 rfl ?_
  refine Wr_cVi [.int x1, .int x2, .int x3, .int x4] dX8_walk_11 mlX8_259 mgX8_canWalk rfl mvX8_canWalk (zrv zl0 _ rfl rfl) rfl rfl (Nat.le_of_ble_eq_true rfl) rfl (zcI.imp h (fun u3 m2 h => ?_) (fun _ _ h => ⟨rfl, h⟩))
  refine Wr_if_ne 32 dX8_walk_14 (by decide) (fun hc => ?_) (fun hc => ?_)
  · have h := h.2 hc
    refine Wr_aload_n dX8_walk_32 rfl 0 rfl ?_
    refine Wr_getR 46 dX8_walk_33 flX8_40 zl0 rfl (by decide) ?_
    refine Wr_getR 1 dX8_walk_36 flX8_116 zl46 rfl (by decide) ?_
    refine Wr_getR 11 dX8_walk_39 flX8_149 zl47 rfl (by decide) ?_
    refine Wr_iload_n dX8_walk_42 rfl 1 rfl ?_
    refine Wr_iconstv (v := 4) dX8_walk_43 (by decide) ?_
    refine Wr_imul dX8_walk_44 ?_
    refine Wr_iload_n dX8_walk_45 rfl 2 rfl ?_
    refine Wr_iadd dX8_walk_46 ?_
    refine Wr_dup2 dX8_walk_47 rfl rfl ?_
    obtain ⟨hi, h⟩ := h
    refine Wr_iald dX8_walk_48 zl58 hi ?_
    refine Wr_iload dX8_walk_49 4 rfl ?_
    refine Wr_isub dX8_walk_51 ?_
    obtain ⟨him4, h⟩ := h
    obtain ⟨m4, em4⟩ : ∃ z : zMem, z = zw m2 58 ((x1 * 4) + x2).toNatClampNeg ((m2 58 ((x1 * 4) + x2).toNatClampNeg) - x4) := ⟨_, rfl⟩
    have h := h m4 em4
    refine Wr_iast dX8_walk_52 zl58 him4 ?_
    refine Wr_mu em4 ?_
    refine Wr_aload_n dX8_walk_53 rfl 0 rfl ?_
    refine Wr_getR 46 dX8_walk_54 flX8_40 zl0 rfl (by decide) ?_
    refine Wr_getR 1 dX8_walk_57 flX8_116 zl46 rfl (by decide) ?_
    refine Wr_getR 11 dX8_walk_60 flX8_149 zl47 rfl (by decide) ?_
    refine Wr_iload_n dX8_walk_63 rfl 1 rfl ?_
    refine Wr_iconstv (v := 4) dX8_walk_64 (by decide) ?_
    refine Wr_imul dX8_walk_65 ?_
    refine Wr_iload_n dX8_walk_66 rfl 3 rfl ?_
    refine Wr_iadd dX8_walk_67 ?_
    refine Wr_dup2 dX8_walk_68 rfl rfl ?_
    obtain ⟨hi, h⟩ := h
    refine Wr_iald dX8_walk_69 zl58 hi ?_
    refine Wr_iload dX8_walk_70 4 rfl ?_
    refine Wr_iadd dX8_walk_72 ?_
    obtain ⟨him5, h⟩ := h
    obtain ⟨m5, em5⟩ : ∃ z : zMem, z = zw m4 58 ((x1 * 4) + x3).toNatClampNeg ((m4 58 ((x1 * 4) + x3).toNatClampNeg) + x4) := ⟨_, rfl⟩
    have h := h m5 em5
    refine Wr_iast dX8_walk_73 zl58 him5 ?_
    refine Wr_mu em5 ?_
    refine Wr_aload_n dX8_walk_74 rfl 0 rfl ?_
    refine Wr_getR 46 dX8_walk_75 flX8_40 zl0 rfl (by decide) ?_
    refine Wr_iconstv (v := 4) dX8_walk_78 (by decide) ?_
    refine Wr_iload_n dX8_walk_79 rfl 1 rfl ?_
    refine Wr_iload_n dX8_walk_80 rfl 2 rfl ?_
    refine Wr_iload_n dX8_walk_81 rfl 3 rfl ?_
    refine Wr_iload dX8_walk_82 4 rfl ?_
    refine Wr_cVv [.int 4, .int x1, .int x2, .int x3, .int x4] dX8_walk_84 mlX8_252 mgX5_keepAct rfl mvX5_keepAct (zrv zl46 _ rfl rfl) rfl rfl (Nat.le_of_ble_eq_true rfl) rfl (zcV.imp h (fun m6 h => ?_) (fun _ _ h => ⟨rfl, h⟩))
    refine Wr_aload_n dX8_walk_87 rfl 0 rfl ?_
    refine Wr_getR 46 dX8_walk_88 flX8_40 zl0 rfl (by decide) ?_
    refine Wr_getR 1 dX8_walk_91 flX8_116 zl46 rfl (by decide) ?_
    refine Wr_getR 11 dX8_walk_94 flX8_149 zl47 rfl (by decide) ?_
    refine Wr_iload_n dX8_walk_97 rfl 1 rfl ?_
    refine Wr_iconstv (v := 4) dX8_walk_98 (by decide) ?_
    refine Wr_imul dX8_walk_99 ?_
    refine Wr_iload_n dX8_walk_100 rfl 3 rfl ?_
    refine Wr_iadd dX8_walk_101 ?_
    obtain ⟨hi, h⟩ := h
    refine Wr_iald dX8_walk_102 zl58 hi ?_
    exact Wr_iret .int dX8_walk_103 rfl rfl ⟨rfl, h⟩
  · have h := h.1 hc
    refine Wr_aload_n dX8_walk_17 rfl 0 rfl ?_
    refine Wr_getR 46 dX8_walk_18 flX8_40 zl0 rfl (by decide) ?_
    refine Wr_getR 16 dX8_walk_21 flX8_100 zl46 rfl (by decide) ?_
    refine Wr_iconstv (v := 1) dX8_walk_24 (by decide) ?_
    refine Wr_dup2 dX8_walk_25 rfl rfl ?_
    refine Wr_iald dX8_walk_26 zl62 (by unfold vp_in; decide) ?_
    refine Wr_iconstv (v := 1) dX8_walk_27 (by decide) ?_
    refine Wr_iadd dX8_walk_28 ?_
    obtain ⟨m7, em7⟩ : ∃ z : zMem, z = zw m2 62 1 ((m2 62 1) + 1) := ⟨_, rfl⟩
    have h := h m7 em7
    refine Wr_iast dX8_walk_29 zl62 (by unfold vp_in; decide) ?_
    refine Wr_mu em7 ?_
    refine Wr_iconstv (v := (-1)) dX8_walk_30 (by decide) ?_
    exact Wr_iret .int dX8_walk_31 rfl rfl ⟨rfl, h⟩
theorem cX8_walk_ {d : Nat} {x1 : Int32} {x2 : Int32} {x3 : Int32} {x4 : Int32} {μ : zMem} {KI : Int32 → zMem → Prop} {X : Nat → zMem → Prop} (h : pX8_walk d x1 x2 x3 x4 μ KI X) : zcI (d + 1) mX8_walk [.ref 0, .int x1, .int x2, .int x3, .int x4] μ KI X :=
  Ex_of (w := 5) mgX8_walk.2.2.2.2.2 rfl rfl rfl (by decide) (wX8_walk_0 h)

def pX8_canWalk (d : Nat) (x1 : Int32) (x2 : Int32) (x3 : Int32) (x4 : Int32) (μ : zMem) (KI : Int32 → zMem → Prop) (X : Nat → zMem → Prop) : Prop :=
  ((x2 < 0 → KI 0 μ) ∧
  (¬ (x2 < 0) → ((4 ≤ x2 → KI 0 μ) ∧
    (¬ (4 ≤ x2) → ((x3 < 0 → KI 0 μ) ∧
      (¬ (x3 < 0) → ((4 ≤ x3 → KI 0 μ) ∧
        (¬ (4 ≤ x3) → ((x2 = x3 → KI 0 μ) ∧
          (¬ (x2 = x3) → ((x4 < 1 → KI 0 μ) ∧
            (¬ (x4 < 1) → (vp_in ((x1 * 4) + x2) 24) ∧ KI (if μ 58 ((x1 * 4) + x2).toNatClampNeg < x4 then 0 else 1) μ))))))))))))
set_option maxRecDepth 20000 in
theorem wX8_canWalk_0 {d : Nat} {KI : Int32 → zMem → Prop} {X : Nat → zMem → Prop} {x1 : Int32} {x2 : Int32} {x3 : Int32} {x4 : Int32} {μ : zMem} (h : pX8_canWalk d x1 x2 x3 x4 μ KI X) : Wr mX8_canWalk (d + 1) 0 0 [(0, .ref 0), (1, .int x1), (2, .int x2), (3, .int x3), (4, .int x4)] [] μ (kI KI X) := by
  unfold pX8_canWalk at h
  refine Wr_iload_n dX8_canWalk_0 rfl 2 rfl ?_
  refine Wr_if_lt 23 dX8_canWalk_1 (by decide) (fun hc => ?_) (fun hc => ?_)
  · have h := h.1 hc
    refine Wr_iconstv (v := 0) dX8_canWalk_23 (by decide) ?_
    exact Wr_iret .boolean dX8_canWalk_24 rfl rfl ⟨rfl, h⟩
  · have h := h.2 hc
    refine Wr_iload_n dX8_canWalk_4 rfl 2 rfl ?_
    refine Wr_iconstv (v := 4) dX8_canWalk_5 (by decide) ?_
    refine Wr_icmp_ge 23 dX8_canWalk_6 (by decide) (fun hc => ?_) (fun hc => ?_)
    · have h := h.1 hc
      refine Wr_iconstv (v := 0) dX8_canWalk_23 (by decide) ?_
      exact Wr_iret .boolean dX8_canWalk_24 rfl rfl ⟨rfl, h⟩
    · have h := h.2 hc
      refine Wr_iload_n dX8_canWalk_9 rfl 3 rfl ?_
      refine Wr_if_lt 23 dX8_canWalk_10 (by decide) (fun hc => ?_) (fun hc => ?_)
      · have h := h.1 hc
        refine Wr_iconstv (v := 0) dX8_canWalk_23 (by decide) ?_
        exact Wr_iret .boolean dX8_canWalk_24 rfl rfl ⟨rfl, h⟩
      · have h := h.2 hc
        refine Wr_iload_n dX8_canWalk_13 rfl 3 rfl ?_
        refine Wr_iconstv (v := 4) dX8_canWalk_14 (by decide) ?_
        refine Wr_icmp_ge 23 dX8_canWalk_15 (by decide) (fun hc => ?_) (fun hc => ?_)
        · have h := h.1 hc
          refine Wr_iconstv (v := 0) dX8_canWalk_23 (by decide) ?_
          exact Wr_iret .boolean dX8_canWalk_24 rfl rfl ⟨rfl, h⟩
        · have h := h.2 hc
          refine Wr_iload_n dX8_canWalk_18 rfl 2 rfl ?_
          refine Wr_iload_n dX8_canWalk_19 rfl 3 rfl ?_
          refine Wr_icmp_ne 25 dX8_canWalk_20 (by decide) (fun hc => ?_) (fun hc => ?_)
          · have h := h.2 hc
            refine Wr_iload dX8_canWalk_25 4 rfl ?_
            refine Wr_iconstv (v := 1) dX8_canWalk_27 (by decide) ?_
            refine Wr_icmp_lt 56 dX8_canWalk_28 (by decide) (fun hc => ?_) (fun hc => ?_)
            · have h := h.1 hc
              refine Wr_iconstv (v := 0) dX8_canWalk_56 (by decide) ?_
              exact Wr_iret .boolean dX8_canWalk_57 rfl rfl ⟨rfl, h⟩
            · have h := h.2 hc
              refine Wr_iload dX8_canWalk_31 4 rfl ?_
              refine Wr_aload_n dX8_canWalk_33 rfl 0 rfl ?_
              refine Wr_getR 46 dX8_canWalk_34 flX8_40 zl0 rfl (by decide) ?_
              refine Wr_getR 1 dX8_canWalk_37 flX8_116 zl46 rfl (by decide) ?_
              refine Wr_getR 11 dX8_canWalk_40 flX8_149 zl47 rfl (by decide) ?_
              refine Wr_iload_n dX8_canWalk_43 rfl 1 rfl ?_
              refine Wr_iconstv (v := 4) dX8_canWalk_44 (by decide) ?_
              refine Wr_imul dX8_canWalk_45 ?_
              refine Wr_iload_n dX8_canWalk_46 rfl 2 rfl ?_
              refine Wr_iadd dX8_canWalk_47 ?_
              obtain ⟨hi, h⟩ := h
              refine Wr_iald dX8_canWalk_48 zl58 hi ?_
              have hj1 : Wr mX8_canWalk (d + 1) 0 57 [(0, .ref 0), (1, .int x1), (2, .int x2), (3, .int x3), (4, .int x4)] [.int (if μ 58 ((x1 * 4) + x2).toNatClampNeg < x4 then 0 else 1)] μ (kI KI X) := by
                exact Wr_iret .boolean dX8_canWalk_57 rfl (znar (by (repeat' split) <;> simp)) ⟨rfl, h⟩
              refine Wr_icmp_gt 56 dX8_canWalk_49 (by decide) (fun hc0 => ?_) (fun hc0 => ?_)
              · skip
                refine Wr_iconstv (v := 0) dX8_canWalk_56 (by decide) ?_
                exact Wr_top (if_pos hc0) hj1
              · skip
                refine Wr_iconstv (v := 1) dX8_canWalk_52 (by decide) ?_
                refine Wr_goto 57 dX8_canWalk_53 (by decide) ?_
                exact Wr_top (if_neg hc0) hj1
          · have h := h.1 hc
            refine Wr_iconstv (v := 0) dX8_canWalk_23 (by decide) ?_
            exact Wr_iret .boolean dX8_canWalk_24 rfl rfl ⟨rfl, h⟩
theorem cX8_canWalk_ {d : Nat} {x1 : Int32} {x2 : Int32} {x3 : Int32} {x4 : Int32} {μ : zMem} {KI : Int32 → zMem → Prop} {X : Nat → zMem → Prop} (h : pX8_canWalk d x1 x2 x3 x4 μ KI X) : zcI (d + 1) mX8_canWalk [.ref 0, .int x1, .int x2, .int x3, .int x4] μ KI X :=
  Ex_of (w := 5) mgX8_canWalk.2.2.2.2.2 rfl rfl rfl (by decide) (wX8_canWalk_0 h)

def pX8_undo (d : Nat) (μ : zMem) (KI : Int32 → zMem → Prop) (X : Nat → zMem → Prop) : Prop :=
  ((μ 46 2 = 0 → KI (-1) μ) ∧
  (¬ (μ 46 2 = 0) → zcV d mX5_takeBackAct [.ref 46] μ (fun m1 => KI (m1 46 2) m1) X))
set_option maxRecDepth 20000 in
theorem wX8_undo_0 {d : Nat} {KI : Int32 → zMem → Prop} {X : Nat → zMem → Prop} {μ : zMem} (h : pX8_undo d μ KI X) : Wr mX8_undo (d + 1) 0 0 [(0, .ref 0)] [] μ (kI KI X) := by
  unfold pX8_undo at h
  refine Wr_aload_n dX8_undo_0 rfl 0 rfl ?_
  refine Wr_getR 46 dX8_undo_1 flX8_40 zl0 rfl (by decide) ?_
  refine Wr_getI dX8_undo_4 flX8_132 zl46 rfl ?_
  refine Wr_if_ne 12 dX8_undo_7 (by decide) (fun hc => ?_) (fun hc => ?_)
  · have h := h.2 hc
    refine Wr_aload_n dX8_undo_12 rfl 0 rfl ?_
    refine Wr_getR 46 dX8_undo_13 flX8_40 zl0 rfl (by decide) ?_
    refine Wr_cVv [] dX8_undo_16 mlX8_263 mgX5_takeBackAct rfl mvX5_takeBackAct (zrv zl46 _ rfl rfl) rfl rfl (Nat.le_of_ble_eq_true rfl) rfl (zcV.imp h (fun m1 h => ?_) (fun _ _ h => ⟨rfl, h⟩))
    refine Wr_aload_n dX8_undo_19 rfl 0 rfl ?_
    refine Wr_getR 46 dX8_undo_20 flX8_40 zl0 rfl (by decide) ?_
    refine Wr_getI dX8_undo_23 flX8_132 zl46 rfl ?_
    exact Wr_iret .int dX8_undo_26 rfl rfl ⟨rfl, h⟩
  · have h := h.1 hc
    refine Wr_iconstv (v := (-1)) dX8_undo_10 (by decide) ?_
    exact Wr_iret .int dX8_undo_11 rfl rfl ⟨rfl, h⟩
theorem cX8_undo_ {d : Nat} {μ : zMem} {KI : Int32 → zMem → Prop} {X : Nat → zMem → Prop} (h : pX8_undo d μ KI X) : zcI (d + 1) mX8_undo [.ref 0] μ KI X :=
  Ex_of (w := 1) mgX8_undo.2.2.2.2.2 rfl rfl rfl (by decide) (wX8_undo_0 h)

def pX8_knock_16 : Nat → Nat → Int32 → Int32 → Int32 → zMem → (Int32 → zMem → Prop) → (Nat → zMem → Prop) → Prop
  | 0, _, _, _, _, _, _, _ => False
  | n + 1, d, x2, x3, x4, μ, KI, X =>
  ((x2 < x4 → KI (-1) μ) ∧
  (¬ (x2 < x4) → zcV d mX8_blow [.ref 0, .ref 47, .int x4, .int 0] μ (fun m1 => zcI d mX0_firstKnock [.ref 92, .int (m1 47 0)] m1 (fun u3 m2 => ((u3 = (-1) → ∀ v4 : Int32, v4 = x4 + 1 → pX8_knock_16 n d x2 x3 v4 m2 KI X) ∧
    (¬ (u3 = (-1)) → KI (if x3 = 0 then x4 else u3) m2))) X) X))
set_option maxRecDepth 20000 in
theorem wX8_knock_16 {d : Nat} {KI : Int32 → zMem → Prop} {X : Nat → zMem → Prop} : ∀ (n : Nat) (x2 : Int32) (x3 : Int32) (x4 : Int32) (μ : zMem), pX8_knock_16 n d x2 x3 x4 μ KI X → Wr mX8_knock (d + 1) 0 16 [(0, .ref 0), (2, .int x2), (3, .int x3), (4, .int x4)] [] μ (kI KI X) := by
  intro n
  induction n with
  | zero =>
    intro x2 x3 x4 μ h
    exact absurd h id
  | succ n ih =>
    intro x2 x3 x4 μ h
    unfold pX8_knock_16 at h
    refine Wr_iload dX8_knock_16 3 rfl ?_
    refine Wr_iload_n dX8_knock_18 rfl 1 rfl ?_
    refine Wr_icmp_gt 79 dX8_knock_19 (by decide) (fun hc => ?_) (fun hc => ?_)
    · have h := h.1 hc
      refine Wr_iconstv (v := (-1)) dX8_knock_79 (by decide) ?_
      exact Wr_iret .int dX8_knock_80 rfl rfl ⟨rfl, h⟩
    · have h := h.2 hc
      refine Wr_aload_n dX8_knock_22 rfl 0 rfl ?_
      refine Wr_aload_n dX8_knock_23 rfl 0 rfl ?_
      refine Wr_getR 46 dX8_knock_24 flX8_40 zl0 rfl (by decide) ?_
      refine Wr_getR 1 dX8_knock_27 flX8_116 zl46 rfl (by decide) ?_
      refine Wr_iload dX8_knock_30 3 rfl ?_
      refine Wr_iconstv (v := 0) dX8_knock_32 (by decide) ?_
      refine Wr_cVv [.ref 47, .int x4, .int 0] dX8_knock_33 mlX8_244 mgX8_blow rfl mvX8_blow (zrv zl0 _ rfl rfl) rfl rfl (Nat.le_of_ble_eq_true rfl) rfl (zcV.imp h (fun m1 h => ?_) (fun _ _ h => ⟨rfl, h⟩))
      refine Wr_aload_n dX8_knock_36 rfl 0 rfl ?_
      refine Wr_getR 92 dX8_knock_37 flX8_61 zl0 rfl (by decide) ?_
      refine Wr_aload_n dX8_knock_40 rfl 0 rfl ?_
      refine Wr_getR 46 dX8_knock_41 flX8_40 zl0 rfl (by decide) ?_
      refine Wr_getR 1 dX8_knock_44 flX8_116 zl46 rfl (by decide) ?_
      refine Wr_getI dX8_knock_47 flX8_117 zl47 rfl ?_
      refine Wr_cVi [.int (m1 47 0)] dX8_knock_50 mlX8_270 mgX0_firstKnock rfl mvX0_firstKnock (zrv zl92 _ rfl rfl) rfl rfl (Nat.le_of_ble_eq_true rfl) rfl (zcI.imp h (fun u3 m2 h => ?_) (fun _ _ h => ⟨rfl, h⟩))
      refine Wr_istore dX8_knock_53 (by decide) rfl ?_
      refine Wr_iload dX8_knock_55 0 rfl ?_
      refine Wr_iconstv (v := (-1)) dX8_knock_57 (by decide) ?_
      refine Wr_icmp_eq 73 dX8_knock_58 (by decide) (fun hc => ?_) (fun hc => ?_)
      · have h := h.1 hc
        obtain ⟨v4, ev4⟩ : ∃ z : Int32, z = x4 + 1 := ⟨_, rfl⟩
        have h := h v4 ev4
        refine Wr_iinc (v := v4) dX8_knock_73 (q := 4) rfl (by rw [ev4]; rfl) (by decide) rfl ?_
        refine Wr_goto 16 dX8_knock_76 (by decide) ?_
        refine zsub [0, 2, 3, 4] rfl ?_
        exact ih _ _ _ _ h
      · have h := h.2 hc
        refine Wr_iload_n dX8_knock_61 rfl 3 rfl ?_
        have hj1 : Wr mX8_knock (d + 1) 0 72 [(5, .int u3), (0, .ref 0), (2, .int x2), (3, .int x3), (4, .int x4)] [.int (if x3 = 0 then x4 else u3)] m2 (kI KI X) := by
          exact Wr_iret .int dX8_knock_72 rfl rfl ⟨rfl, h⟩
        refine Wr_if_ne 70 dX8_knock_62 (by decide) (fun hc0 => ?_) (fun hc0 => ?_)
        · skip
          refine Wr_iload dX8_knock_70 0 rfl ?_
          exact Wr_top (if_neg hc0) hj1
        · skip
          refine Wr_iload dX8_knock_65 4 rfl ?_
          refine Wr_goto 72 dX8_knock_67 (by decide) ?_
          exact Wr_top (if_pos hc0) hj1
def pX8_knock (d : Nat) (x1 : Int32) (x2 : Int32) (x3 : Int32) (μ : zMem) (KI : Int32 → zMem → Prop) (X : Nat → zMem → Prop) : Prop :=
  zcV d mX8_needWhat [.int x3, .int 2] μ (fun m1 => zcV d mX8_needSpan [.int x1, .int x2, .int 168] m1 (fun m2 => ∃ n2 : Nat, pX8_knock_16 n2 d x2 x3 x1 m2 KI X) X) X
set_option maxRecDepth 20000 in
theorem wX8_knock_0 {d : Nat} {KI : Int32 → zMem → Prop} {X : Nat → zMem → Prop} {x1 : Int32} {x2 : Int32} {x3 : Int32} {μ : zMem} (h : pX8_knock d x1 x2 x3 μ KI X) : Wr mX8_knock (d + 1) 0 0 [(0, .ref 0), (1, .int x1), (2, .int x2), (3, .int x3)] [] μ (kI KI X) := by
  unfold pX8_knock at h
  refine Wr_iload_n dX8_knock_0 rfl 3 rfl ?_
  refine Wr_iconstv (v := 2) dX8_knock_1 (by decide) ?_
  refine Wr_cSv [.int x3, .int 2] dX8_knock_2 mlX8_195 mgX8_needWhat rfl msX8_needWhat  rfl rfl (Nat.le_of_ble_eq_true rfl) rfl (zcV.imp h (fun m1 h => ?_) (fun _ _ h => ⟨rfl, h⟩))
  refine Wr_iload_n dX8_knock_5 rfl 1 rfl ?_
  refine Wr_iload_n dX8_knock_6 rfl 2 rfl ?_
  refine Wr_sipush (v := 168) dX8_knock_7 (by decide) ?_
  refine Wr_cSv [.int x1, .int x2, .int 168] dX8_knock_10 mlX8_266 mgX8_needSpan rfl msX8_needSpan  rfl rfl (Nat.le_of_ble_eq_true rfl) rfl (zcV.imp h (fun m2 h => ?_) (fun _ _ h => ⟨rfl, h⟩))
  refine Wr_iload_n dX8_knock_13 rfl 1 rfl ?_
  refine Wr_istore dX8_knock_14 (by decide) rfl ?_
  refine zsub [0, 2, 3, 4] rfl ?_
  obtain ⟨n9, h⟩ := h
  exact wX8_knock_16 n9 _ _ _ _ h
theorem cX8_knock_ {d : Nat} {x1 : Int32} {x2 : Int32} {x3 : Int32} {μ : zMem} {KI : Int32 → zMem → Prop} {X : Nat → zMem → Prop} (h : pX8_knock d x1 x2 x3 μ KI X) : zcI (d + 1) mX8_knock [.ref 0, .int x1, .int x2, .int x3] μ KI X :=
  Ex_of (w := 4) mgX8_knock.2.2.2.2.2 rfl rfl rfl (by decide) (wX8_knock_0 h)

def pX8_shade_19 : Nat → Nat → Int32 → Int32 → Int32 → Int32 → zMem → (Int32 → zMem → Prop) → (Nat → zMem → Prop) → Prop
  | 0, _, _, _, _, _, _, _, _ => False
  | n + 1, d, x1, x3, x4, x5, μ, KI, X =>
  ((x3 < x5 → KI x4 μ) ∧
  (¬ (x3 < x5) → zcV d mX8_blow [.ref 0, .ref 47, .int x5, .int 0] μ (fun m1 => zcI d mX0_rainFrom [.ref 92, .int x1, .int (m1 47 0)] m1 (fun u3 m2 => ((u3 = (-1) → ∀ v4 : Int32, v4 = x5 + 1 → pX8_shade_19 n d x1 x3 x4 v4 m2 KI X) ∧
    (¬ (u3 = (-1)) → ∀ v5 : Int32, v5 = x4 + 1 → ∀ v6 : Int32, v6 = x5 + 1 → pX8_shade_19 n d x1 x3 v5 v6 m2 KI X))) X) X))
set_option maxRecDepth 20000 in
theorem wX8_shade_19 {d : Nat} {KI : Int32 → zMem → Prop} {X : Nat → zMem → Prop} : ∀ (n : Nat) (x1 : Int32) (x3 : Int32) (x4 : Int32) (x5 : Int32) (μ : zMem), pX8_shade_19 n d x1 x3 x4 x5 μ KI X → Wr mX8_shade (d + 1) 0 19 [(0, .ref 0), (1, .int x1), (3, .int x3), (4, .int x4), (5, .int x5)] [] μ (kI KI X) := by
  intro n
  induction n with
  | zero =>
    intro x1 x3 x4 x5 μ h
    exact absurd h id
  | succ n ih =>
    intro x1 x3 x4 x5 μ h
    unfold pX8_shade_19 at h
    refine Wr_iload dX8_shade_19 4 rfl ?_
    refine Wr_iload_n dX8_shade_21 rfl 2 rfl ?_
    refine Wr_icmp_gt 70 dX8_shade_22 (by decide) (fun hc => ?_) (fun hc => ?_)
    · have h := h.1 hc
      refine Wr_iload dX8_shade_70 3 rfl ?_
      exact Wr_iret .int dX8_shade_72 rfl rfl ⟨rfl, h⟩
    · have h := h.2 hc
      refine Wr_aload_n dX8_shade_25 rfl 0 rfl ?_
      refine Wr_aload_n dX8_shade_26 rfl 0 rfl ?_
      refine Wr_getR 46 dX8_shade_27 flX8_40 zl0 rfl (by decide) ?_
      refine Wr_getR 1 dX8_shade_30 flX8_116 zl46 rfl (by decide) ?_
      refine Wr_iload dX8_shade_33 4 rfl ?_
      refine Wr_iconstv (v := 0) dX8_shade_35 (by decide) ?_
      refine Wr_cVv [.ref 47, .int x5, .int 0] dX8_shade_36 mlX8_244 mgX8_blow rfl mvX8_blow (zrv zl0 _ rfl rfl) rfl rfl (Nat.le_of_ble_eq_true rfl) rfl (zcV.imp h (fun m1 h => ?_) (fun _ _ h => ⟨rfl, h⟩))
      refine Wr_aload_n dX8_shade_39 rfl 0 rfl ?_
      refine Wr_getR 92 dX8_shade_40 flX8_61 zl0 rfl (by decide) ?_
      refine Wr_iload_n dX8_shade_43 rfl 1 rfl ?_
      refine Wr_aload_n dX8_shade_44 rfl 0 rfl ?_
      refine Wr_getR 46 dX8_shade_45 flX8_40 zl0 rfl (by decide) ?_
      refine Wr_getR 1 dX8_shade_48 flX8_116 zl46 rfl (by decide) ?_
      refine Wr_getI dX8_shade_51 flX8_117 zl47 rfl ?_
      refine Wr_cVi [.int x1, .int (m1 47 0)] dX8_shade_54 mlX8_248 mgX0_rainFrom rfl mvX0_rainFrom (zrv zl92 _ rfl rfl) rfl rfl (Nat.le_of_ble_eq_true rfl) rfl (zcI.imp h (fun u3 m2 h => ?_) (fun _ _ h => ⟨rfl, h⟩))
      refine Wr_iconstv (v := (-1)) dX8_shade_57 (by decide) ?_
      refine Wr_icmp_eq 64 dX8_shade_58 (by decide) (fun hc => ?_) (fun hc => ?_)
      · have h := h.1 hc
        obtain ⟨v4, ev4⟩ : ∃ z : Int32, z = x5 + 1 := ⟨_, rfl⟩
        have h := h v4 ev4
        refine Wr_iinc (v := v4) dX8_shade_64 (q := 4) rfl (by rw [ev4]; rfl) (by decide) rfl ?_
        refine Wr_goto 19 dX8_shade_67 (by decide) ?_
        refine zsub [0, 1, 3, 4, 5] rfl ?_
        exact ih _ _ _ _ _ h
      · have h := h.2 hc
        obtain ⟨v5, ev5⟩ : ∃ z : Int32, z = x4 + 1 := ⟨_, rfl⟩
        have h := h v5 ev5
        refine Wr_iinc (v := v5) dX8_shade_61 (q := 3) rfl (by rw [ev5]; rfl) (by decide) rfl ?_
        obtain ⟨v6, ev6⟩ : ∃ z : Int32, z = x5 + 1 := ⟨_, rfl⟩
        have h := h v6 ev6
        refine Wr_iinc (v := v6) dX8_shade_64 (q := 4) rfl (by rw [ev6]; rfl) (by decide) rfl ?_
        refine Wr_goto 19 dX8_shade_67 (by decide) ?_
        refine zsub [0, 1, 3, 4, 5] rfl ?_
        exact ih _ _ _ _ _ h
def pX8_shade (d : Nat) (x1 : Int32) (x2 : Int32) (x3 : Int32) (μ : zMem) (KI : Int32 → zMem → Prop) (X : Nat → zMem → Prop) : Prop :=
  zcV d mX8_needIsle [.ref 0, .int x1] μ (fun m1 => zcV d mX8_needSpan [.int x2, .int x3, .int 168] m1 (fun m2 => ∃ n2 : Nat, pX8_shade_19 n2 d x1 x3 0 x2 m2 KI X) X) X
set_option maxRecDepth 20000 in
theorem wX8_shade_0 {d : Nat} {KI : Int32 → zMem → Prop} {X : Nat → zMem → Prop} {x1 : Int32} {x2 : Int32} {x3 : Int32} {μ : zMem} (h : pX8_shade d x1 x2 x3 μ KI X) : Wr mX8_shade (d + 1) 0 0 [(0, .ref 0), (1, .int x1), (2, .int x2), (3, .int x3)] [] μ (kI KI X) := by
  unfold pX8_shade at h
  refine Wr_aload_n dX8_shade_0 rfl 0 rfl ?_
  refine Wr_iload_n dX8_shade_1 rfl 1 rfl ?_
  refine Wr_cVv [.int x1] dX8_shade_2 mlX8_146 mgX8_needIsle rfl mvX8_needIsle (zrv zl0 _ rfl rfl) rfl rfl (Nat.le_of_ble_eq_true rfl) rfl (zcV.imp h (fun m1 h => ?_) (fun _ _ h => ⟨rfl, h⟩))
  refine Wr_iload_n dX8_shade_5 rfl 2 rfl ?_
  refine Wr_iload_n dX8_shade_6 rfl 3 rfl ?_
  refine Wr_sipush (v := 168) dX8_shade_7 (by decide) ?_
  refine Wr_cSv [.int x2, .int x3, .int 168] dX8_shade_10 mlX8_266 mgX8_needSpan rfl msX8_needSpan  rfl rfl (Nat.le_of_ble_eq_true rfl) rfl (zcV.imp h (fun m2 h => ?_) (fun _ _ h => ⟨rfl, h⟩))
  refine Wr_iconstv (v := 0) dX8_shade_13 (by decide) ?_
  refine Wr_istore dX8_shade_14 (by decide) rfl ?_
  refine Wr_iload_n dX8_shade_16 rfl 3 rfl ?_
  refine Wr_istore dX8_shade_17 (by decide) rfl ?_
  refine zsub [0, 1, 3, 4, 5] rfl ?_
  obtain ⟨n9, h⟩ := h
  exact wX8_shade_19 n9 _ _ _ _ _ h
theorem cX8_shade_ {d : Nat} {x1 : Int32} {x2 : Int32} {x3 : Int32} {μ : zMem} {KI : Int32 → zMem → Prop} {X : Nat → zMem → Prop} (h : pX8_shade d x1 x2 x3 μ KI X) : zcI (d + 1) mX8_shade [.ref 0, .int x1, .int x2, .int x3] μ KI X :=
  Ex_of (w := 4) mgX8_shade.2.2.2.2.2 rfl rfl rfl (by decide) (wX8_shade_0 h)

def pX8_wet_21 : Nat → Nat → Int32 → Int32 → Int32 → zMem → (Int32 → zMem → Prop) → (Nat → zMem → Prop) → Prop
  | 0, _, _, _, _, _, _, _ => False
  | n + 1, d, x1, x3, x4, μ, KI, X =>
  ((x3 < x4 → zcI d mX8_mostInTally [.ref 0] μ (fun u2 m1 => KI u2 m1) X) ∧
  (¬ (x3 < x4) → zcV d mX8_blow [.ref 0, .ref 47, .int x4, .int 0] μ (fun m3 => zcI d mX0_rainFrom [.ref 92, .int x1, .int (m3 47 0)] m3 (fun u5 m4 => ((u5 = (-1) → ∀ v6 : Int32, v6 = x4 + 1 → pX8_wet_21 n d x1 x3 v6 m4 KI X) ∧
    (¬ (u5 = (-1)) → (vp_in u5 6) ∧ (vp_in u5 6) ∧ ∀ m7 : zMem, m7 = zw m4 103 u5.toNatClampNeg ((m4 103 u5.toNatClampNeg) + 1) → ∀ v8 : Int32, v8 = x4 + 1 → pX8_wet_21 n d x1 x3 v8 m7 KI X))) X) X))
set_option maxRecDepth 20000 in
theorem wX8_wet_21 {d : Nat} {KI : Int32 → zMem → Prop} {X : Nat → zMem → Prop} : ∀ (n : Nat) (x1 : Int32) (x3 : Int32) (x4 : Int32) (μ : zMem), pX8_wet_21 n d x1 x3 x4 μ KI X → Wr mX8_wet (d + 1) 0 21 [(0, .ref 0), (1, .int x1), (3, .int x3), (4, .int x4)] [] μ (kI KI X) := by
  intro n
  induction n with
  | zero =>
    intro x1 x3 x4 μ h
    exact absurd h id
  | succ n ih =>
    intro x1 x3 x4 μ h
    unfold pX8_wet_21 at h
    refine Wr_iload dX8_wet_21 3 rfl ?_
    refine Wr_iload_n dX8_wet_23 rfl 2 rfl ?_
    refine Wr_icmp_gt 84 dX8_wet_24 (by decide) (fun hc => ?_) (fun hc => ?_)
    · have h := h.1 hc
      refine Wr_aload_n dX8_wet_84 rfl 0 rfl ?_
      refine Wr_cVi [] dX8_wet_85 mlX8_276 mgX8_mostInTally rfl mvX8_mostInTally (zrv zl0 _ rfl rfl) rfl rfl (Nat.le_of_ble_eq_true rfl) rfl (zcI.imp h (fun u2 m1 h => ?_) (fun _ _ h => ⟨rfl, h⟩))
      exact Wr_iret .int dX8_wet_88 rfl rfl ⟨rfl, h⟩
    · have h := h.2 hc
      refine Wr_aload_n dX8_wet_27 rfl 0 rfl ?_
      refine Wr_aload_n dX8_wet_28 rfl 0 rfl ?_
      refine Wr_getR 46 dX8_wet_29 flX8_40 zl0 rfl (by decide) ?_
      refine Wr_getR 1 dX8_wet_32 flX8_116 zl46 rfl (by decide) ?_
      refine Wr_iload dX8_wet_35 3 rfl ?_
      refine Wr_iconstv (v := 0) dX8_wet_37 (by decide) ?_
      refine Wr_cVv [.ref 47, .int x4, .int 0] dX8_wet_38 mlX8_244 mgX8_blow rfl mvX8_blow (zrv zl0 _ rfl rfl) rfl rfl (Nat.le_of_ble_eq_true rfl) rfl (zcV.imp h (fun m3 h => ?_) (fun _ _ h => ⟨rfl, h⟩))
      refine Wr_aload_n dX8_wet_41 rfl 0 rfl ?_
      refine Wr_getR 92 dX8_wet_42 flX8_61 zl0 rfl (by decide) ?_
      refine Wr_iload_n dX8_wet_45 rfl 1 rfl ?_
      refine Wr_aload_n dX8_wet_46 rfl 0 rfl ?_
      refine Wr_getR 46 dX8_wet_47 flX8_40 zl0 rfl (by decide) ?_
      refine Wr_getR 1 dX8_wet_50 flX8_116 zl46 rfl (by decide) ?_
      refine Wr_getI dX8_wet_53 flX8_117 zl47 rfl ?_
      refine Wr_cVi [.int x1, .int (m3 47 0)] dX8_wet_56 mlX8_248 mgX0_rainFrom rfl mvX0_rainFrom (zrv zl92 _ rfl rfl) rfl rfl (Nat.le_of_ble_eq_true rfl) rfl (zcI.imp h (fun u5 m4 h => ?_) (fun _ _ h => ⟨rfl, h⟩))
      refine Wr_istore dX8_wet_59 (by decide) rfl ?_
      refine Wr_iload dX8_wet_61 0 rfl ?_
      refine Wr_iconstv (v := (-1)) dX8_wet_63 (by decide) ?_
      refine Wr_icmp_eq 78 dX8_wet_64 (by decide) (fun hc => ?_) (fun hc => ?_)
      · have h := h.1 hc
        obtain ⟨v6, ev6⟩ : ∃ z : Int32, z = x4 + 1 := ⟨_, rfl⟩
        have h := h v6 ev6
        refine Wr_iinc (v := v6) dX8_wet_78 (q := 4) rfl (by rw [ev6]; rfl) (by decide) rfl ?_
        refine Wr_goto 21 dX8_wet_81 (by decide) ?_
        refine zsub [0, 1, 3, 4] rfl ?_
        exact ih _ _ _ _ h
      · have h := h.2 hc
        refine Wr_aload_n dX8_wet_67 rfl 1 rfl ?_
        refine Wr_getR 103 dX8_wet_68 flX8_72 zl0 rfl (by decide) ?_
        refine Wr_iload dX8_wet_71 0 rfl ?_
        refine Wr_dup2 dX8_wet_73 rfl rfl ?_
        obtain ⟨hi, h⟩ := h
        refine Wr_iald dX8_wet_74 zl103 hi ?_
        refine Wr_iconstv (v := 1) dX8_wet_75 (by decide) ?_
        refine Wr_iadd dX8_wet_76 ?_
        obtain ⟨him7, h⟩ := h
        obtain ⟨m7, em7⟩ : ∃ z : zMem, z = zw m4 103 u5.toNatClampNeg ((m4 103 u5.toNatClampNeg) + 1) := ⟨_, rfl⟩
        have h := h m7 em7
        refine Wr_iast dX8_wet_77 zl103 him7 ?_
        refine Wr_mu em7 ?_
        obtain ⟨v8, ev8⟩ : ∃ z : Int32, z = x4 + 1 := ⟨_, rfl⟩
        have h := h v8 ev8
        refine Wr_iinc (v := v8) dX8_wet_78 (q := 4) rfl (by rw [ev8]; rfl) (by decide) rfl ?_
        refine Wr_goto 21 dX8_wet_81 (by decide) ?_
        refine zsub [0, 1, 3, 4] rfl ?_
        exact ih _ _ _ _ h
def pX8_wet (d : Nat) (x1 : Int32) (x2 : Int32) (x3 : Int32) (μ : zMem) (KI : Int32 → zMem → Prop) (X : Nat → zMem → Prop) : Prop :=
  zcV d mX8_needIsle [.ref 0, .int x1] μ (fun m1 => zcV d mX8_needSpan [.int x2, .int x3, .int 168] m1 (fun m2 => zcV d mX8_clearTally [.ref 0, .int 0] m2 (fun m3 => ∃ n2 : Nat, pX8_wet_21 n2 d x1 x3 x2 m3 KI X) X) X) X
set_option maxRecDepth 20000 in
theorem wX8_wet_0 {d : Nat} {KI : Int32 → zMem → Prop} {X : Nat → zMem → Prop} {x1 : Int32} {x2 : Int32} {x3 : Int32} {μ : zMem} (h : pX8_wet d x1 x2 x3 μ KI X) : Wr mX8_wet (d + 1) 0 0 [(0, .ref 0), (1, .int x1), (2, .int x2), (3, .int x3)] [] μ (kI KI X) := by
  unfold pX8_wet at h
  refine Wr_aload_n dX8_wet_0 rfl 0 rfl ?_
  refine Wr_iload_n dX8_wet_1 rfl 1 rfl ?_
  refine Wr_cVv [.int x1] dX8_wet_2 mlX8_146 mgX8_needIsle rfl mvX8_needIsle (zrv zl0 _ rfl rfl) rfl rfl (Nat.le_of_ble_eq_true rfl) rfl (zcV.imp h (fun m1 h => ?_) (fun _ _ h => ⟨rfl, h⟩))
  refine Wr_iload_n dX8_wet_5 rfl 2 rfl ?_
  refine Wr_iload_n dX8_wet_6 rfl 3 rfl ?_
  refine Wr_sipush (v := 168) dX8_wet_7 (by decide) ?_
  refine Wr_cSv [.int x2, .int x3, .int 168] dX8_wet_10 mlX8_266 mgX8_needSpan rfl msX8_needSpan  rfl rfl (Nat.le_of_ble_eq_true rfl) rfl (zcV.imp h (fun m2 h => ?_) (fun _ _ h => ⟨rfl, h⟩))
  refine Wr_aload_n dX8_wet_13 rfl 0 rfl ?_
  refine Wr_iconstv (v := 0) dX8_wet_14 (by decide) ?_
  refine Wr_cVv [.int 0] dX8_wet_15 mlX8_273 mgX8_clearTally rfl mvX8_clearTally (zrv zl0 _ rfl rfl) rfl rfl (Nat.le_of_ble_eq_true rfl) rfl (zcV.imp h (fun m3 h => ?_) (fun _ _ h => ⟨rfl, h⟩))
  refine Wr_iload_n dX8_wet_18 rfl 2 rfl ?_
  refine Wr_istore dX8_wet_19 (by decide) rfl ?_
  refine zsub [0, 1, 3, 4] rfl ?_
  obtain ⟨n9, h⟩ := h
  exact wX8_wet_21 n9 _ _ _ _ h
theorem cX8_wet_ {d : Nat} {x1 : Int32} {x2 : Int32} {x3 : Int32} {μ : zMem} {KI : Int32 → zMem → Prop} {X : Nat → zMem → Prop} (h : pX8_wet d x1 x2 x3 μ KI X) : zcI (d + 1) mX8_wet [.ref 0, .int x1, .int x2, .int x3] μ KI X :=
  Ex_of (w := 4) mgX8_wet.2.2.2.2.2 rfl rfl rfl (by decide) (wX8_wet_0 h)

def pX8_clearTally_2 : Nat → Nat → Int32 → Int32 → zMem → (zMem → Prop) → (Nat → zMem → Prop) → Prop
  | 0, _, _, _, _, _, _ => False
  | n + 1, d, x1, x2, μ, KV, X =>
  ((6 ≤ x2 → KV μ) ∧
  (¬ (6 ≤ x2) → (vp_in x2 6) ∧ ∀ m1 : zMem, m1 = zw μ 103 x2.toNatClampNeg x1 → ∀ v2 : Int32, v2 = x2 + 1 → pX8_clearTally_2 n d x1 v2 m1 KV X))
set_option maxRecDepth 20000 in
theorem wX8_clearTally_2 {d : Nat} {KV : zMem → Prop} {X : Nat → zMem → Prop} : ∀ (n : Nat) (x1 : Int32) (x2 : Int32) (μ : zMem), pX8_clearTally_2 n d x1 x2 μ KV X → Wr mX8_clearTally (d + 1) 0 2 [(0, .ref 0), (1, .int x1), (2, .int x2)] [] μ (kV KV X) := by
  intro n
  induction n with
  | zero =>
    intro x1 x2 μ h
    exact absurd h id
  | succ n ih =>
    intro x1 x2 μ h
    unfold pX8_clearTally_2 at h
    refine Wr_iload_n dX8_clearTally_2 rfl 2 rfl ?_
    refine Wr_bipush (v := 6) dX8_clearTally_3 (by decide) ?_
    refine Wr_icmp_ge 21 dX8_clearTally_5 (by decide) (fun hc => ?_) (fun hc => ?_)
    · have h := h.1 hc
      exact Wr_vret dX8_clearTally_21 rfl ⟨rfl, h⟩
    · have h := h.2 hc
      refine Wr_aload_n dX8_clearTally_8 rfl 0 rfl ?_
      refine Wr_getR 103 dX8_clearTally_9 flX8_72 zl0 rfl (by decide) ?_
      refine Wr_iload_n dX8_clearTally_12 rfl 2 rfl ?_
      refine Wr_iload_n dX8_clearTally_13 rfl 1 rfl ?_
      obtain ⟨him1, h⟩ := h
      obtain ⟨m1, em1⟩ : ∃ z : zMem, z = zw μ 103 x2.toNatClampNeg x1 := ⟨_, rfl⟩
      have h := h m1 em1
      refine Wr_iast dX8_clearTally_14 zl103 him1 ?_
      refine Wr_mu em1 ?_
      obtain ⟨v2, ev2⟩ : ∃ z : Int32, z = x2 + 1 := ⟨_, rfl⟩
      have h := h v2 ev2
      refine Wr_iinc (v := v2) dX8_clearTally_15 (q := 2) rfl (by rw [ev2]; rfl) (by decide) rfl ?_
      refine Wr_goto 2 dX8_clearTally_18 (by decide) ?_
      refine zsub [0, 1, 2] rfl ?_
      exact ih _ _ _ h
def pX8_clearTally (d : Nat) (x1 : Int32) (μ : zMem) (KV : zMem → Prop) (X : Nat → zMem → Prop) : Prop :=
  ∃ n2 : Nat, pX8_clearTally_2 n2 d x1 0 μ KV X
set_option maxRecDepth 20000 in
theorem wX8_clearTally_0 {d : Nat} {KV : zMem → Prop} {X : Nat → zMem → Prop} {x1 : Int32} {μ : zMem} (h : pX8_clearTally d x1 μ KV X) : Wr mX8_clearTally (d + 1) 0 0 [(0, .ref 0), (1, .int x1)] [] μ (kV KV X) := by
  unfold pX8_clearTally at h
  refine Wr_iconstv (v := 0) dX8_clearTally_0 (by decide) ?_
  refine Wr_istore_n dX8_clearTally_1 rfl (by decide) rfl ?_
  refine zsub [0, 1, 2] rfl ?_
  obtain ⟨n9, h⟩ := h
  exact wX8_clearTally_2 n9 _ _ _ h
theorem cX8_clearTally_ {d : Nat} {x1 : Int32} {μ : zMem} {KV : zMem → Prop} {X : Nat → zMem → Prop} (h : pX8_clearTally d x1 μ KV X) : zcV (d + 1) mX8_clearTally [.ref 0, .int x1] μ KV X :=
  Ex_of (w := 2) mgX8_clearTally.2.2.2.2.2 rfl rfl rfl (by decide) (wX8_clearTally_0 h)

def pX8_mostInTally_6 : Nat → Nat → Int32 → Int32 → Int32 → zMem → (Int32 → zMem → Prop) → (Nat → zMem → Prop) → Prop
  | 0, _, _, _, _, _, _, _ => False
  | n + 1, d, x1, x2, x3, μ, KI, X =>
  ((6 ≤ x3 → KI x2 μ) ∧
  (¬ (6 ≤ x3) → (vp_in x3 6) ∧ ((μ 103 x3.toNatClampNeg ≤ x1 → ∀ v1 : Int32, v1 = x3 + 1 → pX8_mostInTally_6 n d x1 x2 v1 μ KI X) ∧
    (¬ (μ 103 x3.toNatClampNeg ≤ x1) → (vp_in x3 6) ∧ ∀ v2 : Int32, v2 = μ 103 x3.toNatClampNeg → ∀ v3 : Int32, v3 = x3 + 1 → pX8_mostInTally_6 n d v2 x3 v3 μ KI X))))
set_option maxRecDepth 20000 in
theorem wX8_mostInTally_6 {d : Nat} {KI : Int32 → zMem → Prop} {X : Nat → zMem → Prop} : ∀ (n : Nat) (x1 : Int32) (x2 : Int32) (x3 : Int32) (μ : zMem), pX8_mostInTally_6 n d x1 x2 x3 μ KI X → Wr mX8_mostInTally (d + 1) 0 6 [(0, .ref 0), (1, .int x1), (2, .int x2), (3, .int x3)] [] μ (kI KI X) := by
  intro n
  induction n with
  | zero =>
    intro x1 x2 x3 μ h
    exact absurd h id
  | succ n ih =>
    intro x1 x2 x3 μ h
    unfold pX8_mostInTally_6 at h
    refine Wr_iload_n dX8_mostInTally_6 rfl 3 rfl ?_
    refine Wr_bipush (v := 6) dX8_mostInTally_7 (by decide) ?_
    refine Wr_icmp_ge 37 dX8_mostInTally_9 (by decide) (fun hc => ?_) (fun hc => ?_)
    · have h := h.1 hc
      refine Wr_iload_n dX8_mostInTally_37 rfl 2 rfl ?_
      exact Wr_iret .int dX8_mostInTally_38 rfl rfl ⟨rfl, h⟩
    · have h := h.2 hc
      refine Wr_aload_n dX8_mostInTally_12 rfl 0 rfl ?_
      refine Wr_getR 103 dX8_mostInTally_13 flX8_72 zl0 rfl (by decide) ?_
      refine Wr_iload_n dX8_mostInTally_16 rfl 3 rfl ?_
      obtain ⟨hi, h⟩ := h
      refine Wr_iald dX8_mostInTally_17 zl103 hi ?_
      refine Wr_iload_n dX8_mostInTally_18 rfl 1 rfl ?_
      refine Wr_icmp_le 31 dX8_mostInTally_19 (by decide) (fun hc => ?_) (fun hc => ?_)
      · have h := h.1 hc
        obtain ⟨v1, ev1⟩ : ∃ z : Int32, z = x3 + 1 := ⟨_, rfl⟩
        have h := h v1 ev1
        refine Wr_iinc (v := v1) dX8_mostInTally_31 (q := 3) rfl (by rw [ev1]; rfl) (by decide) rfl ?_
        refine Wr_goto 6 dX8_mostInTally_34 (by decide) ?_
        refine zsub [0, 1, 2, 3] rfl ?_
        exact ih _ _ _ _ h
      · have h := h.2 hc
        refine Wr_aload_n dX8_mostInTally_22 rfl 0 rfl ?_
        refine Wr_getR 103 dX8_mostInTally_23 flX8_72 zl0 rfl (by decide) ?_
        refine Wr_iload_n dX8_mostInTally_26 rfl 3 rfl ?_
        obtain ⟨hi, h⟩ := h
        refine Wr_iald dX8_mostInTally_27 zl103 hi ?_
        obtain ⟨v2, ev2⟩ : ∃ z : Int32, z = μ 103 x3.toNatClampNeg := ⟨_, rfl⟩
        have h := h v2 ev2
        refine Wr_top ev2 ?_
        refine Wr_istore_n dX8_mostInTally_28 rfl (by decide) rfl ?_
        refine Wr_iload_n dX8_mostInTally_29 rfl 3 rfl ?_
        refine Wr_istore_n dX8_mostInTally_30 rfl (by decide) rfl ?_
        obtain ⟨v3, ev3⟩ : ∃ z : Int32, z = x3 + 1 := ⟨_, rfl⟩
        have h := h v3 ev3
        refine Wr_iinc (v := v3) dX8_mostInTally_31 (q := 3) rfl (by rw [ev3]; rfl) (by decide) rfl ?_
        refine Wr_goto 6 dX8_mostInTally_34 (by decide) ?_
        refine zsub [0, 1, 2, 3] rfl ?_
        exact ih _ _ _ _ h
def pX8_mostInTally (d : Nat) (μ : zMem) (KI : Int32 → zMem → Prop) (X : Nat → zMem → Prop) : Prop :=
  ∃ n2 : Nat, pX8_mostInTally_6 n2 d 0 (-1) 0 μ KI X
set_option maxRecDepth 20000 in
theorem wX8_mostInTally_0 {d : Nat} {KI : Int32 → zMem → Prop} {X : Nat → zMem → Prop} {μ : zMem} (h : pX8_mostInTally d μ KI X) : Wr mX8_mostInTally (d + 1) 0 0 [(0, .ref 0)] [] μ (kI KI X) := by
  unfold pX8_mostInTally at h
  refine Wr_iconstv (v := 0) dX8_mostInTally_0 (by decide) ?_
  refine Wr_istore_n dX8_mostInTally_1 rfl (by decide) rfl ?_
  refine Wr_iconstv (v := (-1)) dX8_mostInTally_2 (by decide) ?_
  refine Wr_istore_n dX8_mostInTally_3 rfl (by decide) rfl ?_
  refine Wr_iconstv (v := 0) dX8_mostInTally_4 (by decide) ?_
  refine Wr_istore_n dX8_mostInTally_5 rfl (by decide) rfl ?_
  refine zsub [0, 1, 2, 3] rfl ?_
  obtain ⟨n9, h⟩ := h
  exact wX8_mostInTally_6 n9 _ _ _ _ h
theorem cX8_mostInTally_ {d : Nat} {μ : zMem} {KI : Int32 → zMem → Prop} {X : Nat → zMem → Prop} (h : pX8_mostInTally d μ KI X) : zcI (d + 1) mX8_mostInTally [.ref 0] μ KI X :=
  Ex_of (w := 1) mgX8_mostInTally.2.2.2.2.2 rfl rfl rfl (by decide) (wX8_mostInTally_0 h)

def pX8_winds_33 : Nat → Nat → Int32 → Int32 → Int32 → Int32 → Int32 → Int32 → Int32 → zMem → (Int32 → zMem → Prop) → (Nat → zMem → Prop) → Prop
  | 0, _, _, _, _, _, _, _, _, _, _, _ => False
  | n + 1, d, x1, x2, x3, x4, x5, x6, x7, μ, KI, X =>
  ((x4 < x7 → KI x5 μ) ∧
  (¬ (x4 < x7) → zcV d mX0_put [.ref 92, .ref (zsk μ 0 4), .ref 47, .int x1, .int x1, .int x7, .int 0] μ (fun m1 => zcV d mX0_put [.ref 92, .ref (zsk m1 0 4), .ref 47, .int x2, .int x2, .int x7, .int 0] m1 (fun m2 => (vp_in x2 36) ∧ (vp_in x1 36) ∧ ∀ v3 : Int32, v3 = (if m2 93 x1.toNatClampNeg ≤ m2 93 x2.toNatClampNeg then 0 else 1) → ((x7 ≤ x3 → ∀ v4 : Int32, v4 = x7 + 1 → pX8_winds_33 n d x1 x2 x3 x4 x5 v3 v4 m2 KI X) ∧
    (¬ (x7 ≤ x3) → ((v3 = x6 → ∀ v5 : Int32, v5 = x7 + 1 → pX8_winds_33 n d x1 x2 x3 x4 x5 v3 v5 m2 KI X) ∧
      (¬ (v3 = x6) → (vp_in x2 36) ∧ (vp_in x1 36) ∧ ((m2 94 x2.toNatClampNeg ≤ m2 94 x1.toNatClampNeg → ∀ v6 : Int32, v6 = x7 + 1 → pX8_winds_33 n d x1 x2 x3 x4 x5 v3 v6 m2 KI X) ∧
        (¬ (m2 94 x2.toNatClampNeg ≤ m2 94 x1.toNatClampNeg) → ∀ v7 : Int32, v7 = x5 + (if x6 = 0 then 1 else (-1)) → ∀ v8 : Int32, v8 = x7 + 1 → pX8_winds_33 n d x1 x2 x3 x4 v7 v3 v8 m2 KI X))))))) X) X))
set_option maxRecDepth 20000 in
theorem wX8_winds_33 {d : Nat} {KI : Int32 → zMem → Prop} {X : Nat → zMem → Prop} : ∀ (n : Nat) (x1 : Int32) (x2 : Int32) (x3 : Int32) (x4 : Int32) (x5 : Int32) (x6 : Int32) (x7 : Int32) (μ : zMem), pX8_winds_33 n d x1 x2 x3 x4 x5 x6 x7 μ KI X → Wr mX8_winds (d + 1) 0 33 [(0, .ref 0), (1, .int x1), (2, .int x2), (3, .int x3), (4, .int x4), (5, .int x5), (6, .int x6), (7, .int x7)] [] μ (kI KI X) := by
  intro n
  induction n with
  | zero =>
    intro x1 x2 x3 x4 x5 x6 x7 μ h
    exact absurd h id
  | succ n ih =>
    intro x1 x2 x3 x4 x5 x6 x7 μ h
    unfold pX8_winds_33 at h
    refine Wr_iload dX8_winds_33 7 rfl ?_
    refine Wr_iload dX8_winds_35 4 rfl ?_
    refine Wr_icmp_gt 173 dX8_winds_37 (by decide) (fun hc => ?_) (fun hc => ?_)
    · have h := h.1 hc
      refine Wr_iload dX8_winds_173 5 rfl ?_
      exact Wr_iret .int dX8_winds_175 rfl rfl ⟨rfl, h⟩
    · have h := h.2 hc
      refine Wr_aload_n dX8_winds_40 rfl 0 rfl ?_
      refine Wr_getR 92 dX8_winds_41 flX8_61 zl0 rfl (by decide) ?_
      refine Wr_aload_n dX8_winds_44 rfl 0 rfl ?_
      refine Wr_getT dX8_winds_45 flX8_30 zl0 (by decide) ?_
      refine Wr_aload_n dX8_winds_48 rfl 0 rfl ?_
      refine Wr_getR 46 dX8_winds_49 flX8_40 zl0 rfl (by decide) ?_
      refine Wr_getR 1 dX8_winds_52 flX8_116 zl46 rfl (by decide) ?_
      refine Wr_iload_n dX8_winds_55 rfl 1 rfl ?_
      refine Wr_iload_n dX8_winds_56 rfl 1 rfl ?_
      refine Wr_iload dX8_winds_57 7 rfl ?_
      refine Wr_iconstv (v := 0) dX8_winds_59 (by decide) ?_
      refine Wr_cVv [.ref (zsk μ 0 4), .ref 47, .int x1, .int x1, .int x7, .int 0] dX8_winds_60 mlX8_205 mgX0_put rfl mvX0_put (zrv zl92 _ rfl rfl) rfl rfl (Nat.le_of_ble_eq_true rfl) rfl (zcV.imp h (fun m1 h => ?_) (fun _ _ h => ⟨rfl, h⟩))
      refine Wr_aload_n dX8_winds_63 rfl 0 rfl ?_
      refine Wr_getR 92 dX8_winds_64 flX8_61 zl0 rfl (by decide) ?_
      refine Wr_aload_n dX8_winds_67 rfl 0 rfl ?_
      refine Wr_getT dX8_winds_68 flX8_30 zl0 (by decide) ?_
      refine Wr_aload_n dX8_winds_71 rfl 0 rfl ?_
      refine Wr_getR 46 dX8_winds_72 flX8_40 zl0 rfl (by decide) ?_
      refine Wr_getR 1 dX8_winds_75 flX8_116 zl46 rfl (by decide) ?_
      refine Wr_iload_n dX8_winds_78 rfl 2 rfl ?_
      refine Wr_iload_n dX8_winds_79 rfl 2 rfl ?_
      refine Wr_iload dX8_winds_80 7 rfl ?_
      refine Wr_iconstv (v := 0) dX8_winds_82 (by decide) ?_
      refine Wr_cVv [.ref (zsk m1 0 4), .ref 47, .int x2, .int x2, .int x7, .int 0] dX8_winds_83 mlX8_205 mgX0_put rfl mvX0_put (zrv zl92 _ rfl rfl) rfl rfl (Nat.le_of_ble_eq_true rfl) rfl (zcV.imp h (fun m2 h => ?_) (fun _ _ h => ⟨rfl, h⟩))
      refine Wr_aload_n dX8_winds_86 rfl 0 rfl ?_
      refine Wr_getR 92 dX8_winds_87 flX8_61 zl0 rfl (by decide) ?_
      refine Wr_getR 1 dX8_winds_90 flX8_209 zl92 rfl (by decide) ?_
      refine Wr_iload_n dX8_winds_93 rfl 2 rfl ?_
      obtain ⟨hi, h⟩ := h
      refine Wr_iald dX8_winds_94 zl93 hi ?_
      refine Wr_aload_n dX8_winds_95 rfl 0 rfl ?_
      refine Wr_getR 92 dX8_winds_96 flX8_61 zl0 rfl (by decide) ?_
      refine Wr_getR 1 dX8_winds_99 flX8_209 zl92 rfl (by decide) ?_
      refine Wr_iload_n dX8_winds_102 rfl 1 rfl ?_
      obtain ⟨hi, h⟩ := h
      refine Wr_iald dX8_winds_103 zl93 hi ?_
      have hj1 : Wr mX8_winds (d + 1) 0 112 [(0, .ref 0), (1, .int x1), (2, .int x2), (3, .int x3), (4, .int x4), (5, .int x5), (6, .int x6), (7, .int x7)] [.int (if m2 93 x1.toNatClampNeg ≤ m2 93 x2.toNatClampNeg then 0 else 1)] m2 (kI KI X) := by
        obtain ⟨v3, ev3⟩ : ∃ z : Int32, z = (if m2 93 x1.toNatClampNeg ≤ m2 93 x2.toNatClampNeg then 0 else 1) := ⟨_, rfl⟩
        have h := h v3 ev3
        refine Wr_top ev3 ?_
        refine Wr_istore dX8_winds_112 (by decide) rfl ?_
        refine Wr_iload dX8_winds_114 8 rfl ?_
        refine Wr_iload_n dX8_winds_116 rfl 4 rfl ?_
        refine Wr_icmp_le 163 dX8_winds_117 (by decide) (fun hc => ?_) (fun hc => ?_)
        · have h := h.1 hc
          refine Wr_iload dX8_winds_163 0 rfl ?_
          refine Wr_istore dX8_winds_165 (by decide) rfl ?_
          obtain ⟨v4, ev4⟩ : ∃ z : Int32, z = x7 + 1 := ⟨_, rfl⟩
          have h := h v4 ev4
          refine Wr_iinc (v := v4) dX8_winds_167 (q := 8) rfl (by rw [ev4]; rfl) (by decide) rfl ?_
          refine Wr_goto 33 dX8_winds_170 (by decide) ?_
          refine zsub [0, 1, 2, 3, 4, 5, 6, 7] rfl ?_
          exact ih _ _ _ _ _ _ _ _ h
        · have h := h.2 hc
          refine Wr_iload dX8_winds_120 0 rfl ?_
          refine Wr_iload dX8_winds_122 7 rfl ?_
          refine Wr_icmp_eq 163 dX8_winds_124 (by decide) (fun hc => ?_) (fun hc => ?_)
          · have h := h.1 hc
            refine Wr_iload dX8_winds_163 0 rfl ?_
            refine Wr_istore dX8_winds_165 (by decide) rfl ?_
            obtain ⟨v5, ev5⟩ : ∃ z : Int32, z = x7 + 1 := ⟨_, rfl⟩
            have h := h v5 ev5
            refine Wr_iinc (v := v5) dX8_winds_167 (q := 8) rfl (by rw [ev5]; rfl) (by decide) rfl ?_
            refine Wr_goto 33 dX8_winds_170 (by decide) ?_
            refine zsub [0, 1, 2, 3, 4, 5, 6, 7] rfl ?_
            exact ih _ _ _ _ _ _ _ _ h
          · have h := h.2 hc
            refine Wr_aload_n dX8_winds_127 rfl 1 rfl ?_
            refine Wr_getR 92 dX8_winds_128 flX8_61 zl0 rfl (by decide) ?_
            refine Wr_getR 2 dX8_winds_131 flX8_212 zl92 rfl (by decide) ?_
            refine Wr_iload_n dX8_winds_134 rfl 3 rfl ?_
            obtain ⟨hi, h⟩ := h
            refine Wr_iald dX8_winds_135 zl94 hi ?_
            refine Wr_aload_n dX8_winds_136 rfl 1 rfl ?_
            refine Wr_getR 92 dX8_winds_137 flX8_61 zl0 rfl (by decide) ?_
            refine Wr_getR 2 dX8_winds_140 flX8_212 zl92 rfl (by decide) ?_
            refine Wr_iload_n dX8_winds_143 rfl 2 rfl ?_
            obtain ⟨hi, h⟩ := h
            refine Wr_iald dX8_winds_144 zl94 hi ?_
            refine Wr_icmp_le 163 dX8_winds_145 (by decide) (fun hc => ?_) (fun hc => ?_)
            · have h := h.1 hc
              refine Wr_iload dX8_winds_163 0 rfl ?_
              refine Wr_istore dX8_winds_165 (by decide) rfl ?_
              obtain ⟨v6, ev6⟩ : ∃ z : Int32, z = x7 + 1 := ⟨_, rfl⟩
              have h := h v6 ev6
              refine Wr_iinc (v := v6) dX8_winds_167 (q := 8) rfl (by rw [ev6]; rfl) (by decide) rfl ?_
              refine Wr_goto 33 dX8_winds_170 (by decide) ?_
              refine zsub [0, 1, 2, 3, 4, 5, 6, 7] rfl ?_
              exact ih _ _ _ _ _ _ _ _ h
            · have h := h.2 hc
              refine Wr_iload dX8_winds_148 6 rfl ?_
              refine Wr_iload dX8_winds_150 7 rfl ?_
              have hj2 : Wr mX8_winds (d + 1) 0 160 [(8, .int v3), (0, .ref 0), (1, .int x1), (2, .int x2), (3, .int x3), (4, .int x4), (5, .int x5), (6, .int x6), (7, .int x7)] [.int (if x6 = 0 then 1 else (-1)), .int x5] m2 (kI KI X) := by
                refine Wr_iadd dX8_winds_160 ?_
                obtain ⟨v7, ev7⟩ : ∃ z : Int32, z = x5 + (if x6 = 0 then 1 else (-1)) := ⟨_, rfl⟩
                have h := h v7 ev7
                refine Wr_top ev7 ?_
                refine Wr_istore dX8_winds_161 (by decide) rfl ?_
                refine Wr_iload dX8_winds_163 1 rfl ?_
                refine Wr_istore dX8_winds_165 (by decide) rfl ?_
                obtain ⟨v8, ev8⟩ : ∃ z : Int32, z = x7 + 1 := ⟨_, rfl⟩
                have h := h v8 ev8
                refine Wr_iinc (v := v8) dX8_winds_167 (q := 8) rfl (by rw [ev8]; rfl) (by decide) rfl ?_
                refine Wr_goto 33 dX8_winds_170 (by decide) ?_
                refine zsub [0, 1, 2, 3, 4, 5, 6, 7] rfl ?_
                exact ih _ _ _ _ _ _ _ _ h
              refine Wr_if_eq 159 dX8_winds_152 (by decide) (fun hc0 => ?_) (fun hc0 => ?_)
              · skip
                refine Wr_iconstv (v := 1) dX8_winds_159 (by decide) ?_
                exact Wr_top (if_pos hc0) hj2
              · skip
                refine Wr_iconstv (v := (-1)) dX8_winds_155 (by decide) ?_
                refine Wr_goto 160 dX8_winds_156 (by decide) ?_
                exact Wr_top (if_neg hc0) hj2
      refine Wr_icmp_ge 111 dX8_winds_104 (by decide) (fun hc0 => ?_) (fun hc0 => ?_)
      · skip
        refine Wr_iconstv (v := 0) dX8_winds_111 (by decide) ?_
        exact Wr_top (if_pos hc0) hj1
      · skip
        refine Wr_iconstv (v := 1) dX8_winds_107 (by decide) ?_
        refine Wr_goto 112 dX8_winds_108 (by decide) ?_
        exact Wr_top (if_neg hc0) hj1
def pX8_winds (d : Nat) (x1 : Int32) (x2 : Int32) (x3 : Int32) (x4 : Int32) (μ : zMem) (KI : Int32 → zMem → Prop) (X : Nat → zMem → Prop) : Prop :=
  zcV d mX8_needIsle [.ref 0, .int x1] μ (fun m1 => zcV d mX8_needIsle [.ref 0, .int x2] m1 (fun m2 => zcV d mX8_needSpan [.int x3, .int x4, .int 168] m2 (fun m3 => zcV d mX8_needTwo [.int x1, .int x2] m3 (fun m4 => ∃ n2 : Nat, pX8_winds_33 n2 d x1 x2 x3 x4 0 0 x3 m4 KI X) X) X) X) X
set_option maxRecDepth 20000 in
theorem wX8_winds_0 {d : Nat} {KI : Int32 → zMem → Prop} {X : Nat → zMem → Prop} {x1 : Int32} {x2 : Int32} {x3 : Int32} {x4 : Int32} {μ : zMem} (h : pX8_winds d x1 x2 x3 x4 μ KI X) : Wr mX8_winds (d + 1) 0 0 [(0, .ref 0), (1, .int x1), (2, .int x2), (3, .int x3), (4, .int x4)] [] μ (kI KI X) := by
  unfold pX8_winds at h
  refine Wr_aload_n dX8_winds_0 rfl 0 rfl ?_
  refine Wr_iload_n dX8_winds_1 rfl 1 rfl ?_
  refine Wr_cVv [.int x1] dX8_winds_2 mlX8_146 mgX8_needIsle rfl mvX8_needIsle (zrv zl0 _ rfl rfl) rfl rfl (Nat.le_of_ble_eq_true rfl) rfl (zcV.imp h (fun m1 h => ?_) (fun _ _ h => ⟨rfl, h⟩))
  refine Wr_aload_n dX8_winds_5 rfl 0 rfl ?_
  refine Wr_iload_n dX8_winds_6 rfl 2 rfl ?_
  refine Wr_cVv [.int x2] dX8_winds_7 mlX8_146 mgX8_needIsle rfl mvX8_needIsle (zrv zl0 _ rfl rfl) rfl rfl (Nat.le_of_ble_eq_true rfl) rfl (zcV.imp h (fun m2 h => ?_) (fun _ _ h => ⟨rfl, h⟩))
  refine Wr_iload_n dX8_winds_10 rfl 3 rfl ?_
  refine Wr_iload dX8_winds_11 4 rfl ?_
  refine Wr_sipush (v := 168) dX8_winds_13 (by decide) ?_
  refine Wr_cSv [.int x3, .int x4, .int 168] dX8_winds_16 mlX8_266 mgX8_needSpan rfl msX8_needSpan  rfl rfl (Nat.le_of_ble_eq_true rfl) rfl (zcV.imp h (fun m3 h => ?_) (fun _ _ h => ⟨rfl, h⟩))
  refine Wr_iload_n dX8_winds_19 rfl 1 rfl ?_
  refine Wr_iload_n dX8_winds_20 rfl 2 rfl ?_
  refine Wr_cSv [.int x1, .int x2] dX8_winds_21 mlX8_227 mgX8_needTwo rfl msX8_needTwo  rfl rfl (Nat.le_of_ble_eq_true rfl) rfl (zcV.imp h (fun m4 h => ?_) (fun _ _ h => ⟨rfl, h⟩))
  refine Wr_iconstv (v := 0) dX8_winds_24 (by decide) ?_
  refine Wr_istore dX8_winds_25 (by decide) rfl ?_
  refine Wr_iconstv (v := 0) dX8_winds_27 (by decide) ?_
  refine Wr_istore dX8_winds_28 (by decide) rfl ?_
  refine Wr_iload_n dX8_winds_30 rfl 5 rfl ?_
  refine Wr_istore dX8_winds_31 (by decide) rfl ?_
  refine zsub [0, 1, 2, 3, 4, 5, 6, 7] rfl ?_
  obtain ⟨n9, h⟩ := h
  exact wX8_winds_33 n9 _ _ _ _ _ _ _ _ h
theorem cX8_winds_ {d : Nat} {x1 : Int32} {x2 : Int32} {x3 : Int32} {x4 : Int32} {μ : zMem} {KI : Int32 → zMem → Prop} {X : Nat → zMem → Prop} (h : pX8_winds d x1 x2 x3 x4 μ KI X) : zcI (d + 1) mX8_winds [.ref 0, .int x1, .int x2, .int x3, .int x4] μ KI X :=
  Ex_of (w := 5) mgX8_winds.2.2.2.2.2 rfl rfl rfl (by decide) (wX8_winds_0 h)

def pX8_least_77 : Nat → Nat → Int32 → Int32 → Int32 → Int32 → Int32 → Int32 → zMem → (Int32 → zMem → Prop) → (Nat → zMem → Prop) → (Int32 → Int32 → Int32 → Int32 → Int32 → zMem → Prop) → Prop
  | 0, _, _, _, _, _, _, _, _, _, _, _ => False
  | n + 1, d, x1, x2, x3, x4, x5, x6, μ, KI, X, C68 =>
  ((μ 80 0 ≤ x6 → zcV d mX7_markHour [.ref 98, .ref 92, .int (μ 80 0), .int x4, .int (x5 - x1)] μ (fun m1 => ∀ v2 : Int32, v2 = x5 + 1 → C68 x1 x2 x3 x4 v2 m1) X) ∧
  (¬ (μ 80 0 ≤ x6) → zcV d mX8_putRopes [.ref 0, .int x6, .int x3, .int x5] μ (fun m3 => ∀ v4 : Int32, v4 = x6 + 1 → pX8_least_77 n d x1 x2 x3 x4 x5 v4 m3 KI X C68) X))
set_option maxRecDepth 20000 in
theorem wX8_least_77 {d : Nat} {KI : Int32 → zMem → Prop} {X : Nat → zMem → Prop} {C68 : Int32 → Int32 → Int32 → Int32 → Int32 → zMem → Prop} (hC68 : ∀ (x1 : Int32) (x2 : Int32) (x3 : Int32) (x4 : Int32) (x5 : Int32) (μ : zMem), C68 x1 x2 x3 x4 x5 μ → Wr mX8_least (d + 1) 0 68 [(0, .ref 0), (1, .int x1), (2, .int x2), (3, .int x3), (4, .int x4), (5, .int x5)] [] μ (kI KI X)) : ∀ (n : Nat) (x1 : Int32) (x2 : Int32) (x3 : Int32) (x4 : Int32) (x5 : Int32) (x6 : Int32) (μ : zMem), pX8_least_77 n d x1 x2 x3 x4 x5 x6 μ KI X C68 → Wr mX8_least (d + 1) 0 77 [(0, .ref 0), (1, .int x1), (2, .int x2), (3, .int x3), (4, .int x4), (5, .int x5), (6, .int x6)] [] μ (kI KI X) := by
  intro n
  induction n with
  | zero =>
    intro x1 x2 x3 x4 x5 x6 μ h
    exact absurd h id
  | succ n ih =>
    intro x1 x2 x3 x4 x5 x6 μ h
    unfold pX8_least_77 at h
    refine Wr_iload dX8_least_77 6 rfl ?_
    refine Wr_aload_n dX8_least_79 rfl 0 rfl ?_
    refine Wr_getR 80 dX8_least_80 flX8_54 zl0 rfl (by decide) ?_
    refine Wr_getI dX8_least_83 flX8_117 zl80 rfl ?_
    refine Wr_icmp_ge 104 dX8_least_86 (by decide) (fun hc => ?_) (fun hc => ?_)
    · have h := h.1 hc
      refine Wr_aload_n dX8_least_104 rfl 0 rfl ?_
      refine Wr_getR 98 dX8_least_105 flX8_68 zl0 rfl (by decide) ?_
      refine Wr_aload_n dX8_least_108 rfl 0 rfl ?_
      refine Wr_getR 92 dX8_least_109 flX8_61 zl0 rfl (by decide) ?_
      refine Wr_aload_n dX8_least_112 rfl 0 rfl ?_
      refine Wr_getR 80 dX8_least_113 flX8_54 zl0 rfl (by decide) ?_
      refine Wr_getI dX8_least_116 flX8_117 zl80 rfl ?_
      refine Wr_iload dX8_least_119 4 rfl ?_
      refine Wr_iload dX8_least_121 5 rfl ?_
      refine Wr_iload_n dX8_least_123 rfl 1 rfl ?_
      refine Wr_isub dX8_least_124 ?_
      refine Wr_cVv [.ref 92, .int (μ 80 0), .int x4, .int (x5 - x1)] dX8_least_125 mlX8_291 mgX7_markHour rfl mvX7_markHour (zrv zl98 _ rfl rfl) rfl rfl (Nat.le_of_ble_eq_true rfl) rfl (zcV.imp h (fun m1 h => ?_) (fun _ _ h => ⟨rfl, h⟩))
      obtain ⟨v2, ev2⟩ : ∃ z : Int32, z = x5 + 1 := ⟨_, rfl⟩
      have h := h v2 ev2
      refine Wr_iinc (v := v2) dX8_least_128 (q := 5) rfl (by rw [ev2]; rfl) (by decide) rfl ?_
      refine Wr_goto 68 dX8_least_131 (by decide) ?_
      refine zsub [0, 1, 2, 3, 4, 5] rfl ?_
      exact hC68 _ _ _ _ _ _ h
    · have h := h.2 hc
      refine Wr_aload_n dX8_least_89 rfl 0 rfl ?_
      refine Wr_iload dX8_least_90 6 rfl ?_
      refine Wr_iload_n dX8_least_92 rfl 3 rfl ?_
      refine Wr_iload dX8_least_93 5 rfl ?_
      refine Wr_cVv [.int x6, .int x3, .int x5] dX8_least_95 mlX8_288 mgX8_putRopes rfl mvX8_putRopes (zrv zl0 _ rfl rfl) rfl rfl (Nat.le_of_ble_eq_true rfl) rfl (zcV.imp h (fun m3 h => ?_) (fun _ _ h => ⟨rfl, h⟩))
      obtain ⟨v4, ev4⟩ : ∃ z : Int32, z = x6 + 1 := ⟨_, rfl⟩
      have h := h v4 ev4
      refine Wr_iinc (v := v4) dX8_least_98 (q := 6) rfl (by rw [ev4]; rfl) (by decide) rfl ?_
      refine Wr_goto 77 dX8_least_101 (by decide) ?_
      refine zsub [0, 1, 2, 3, 4, 5, 6] rfl ?_
      exact ih _ _ _ _ _ _ _ h
def pX8_least_68 : Nat → Nat → Int32 → Int32 → Int32 → Int32 → Int32 → zMem → (Int32 → zMem → Prop) → (Nat → zMem → Prop) → Prop
  | 0, _, _, _, _, _, _, _, _, _ => False
  | n + 1, d, x1, x2, x3, x4, x5, μ, KI, X =>
  ((x2 < x5 → zcI d mX7_search [.ref 98, .ref 47, .int x3, .int (if x4 = 0 then 0 else μ (zsk μ 0 4) 7)] μ (fun u2 m1 => KI u2 m1) X) ∧
  (¬ (x2 < x5) → ∃ n2 : Nat, pX8_least_77 n2 d x1 x2 x3 x4 x5 0 μ KI X (fun z0 z1 z2 z3 z4 m => pX8_least_68 n d z0 z1 z2 z3 z4 m KI X)))
set_option maxRecDepth 20000 in
theorem wX8_least_68 {d : Nat} {KI : Int32 → zMem → Prop} {X : Nat → zMem → Prop} : ∀ (n : Nat) (x1 : Int32) (x2 : Int32) (x3 : Int32) (x4 : Int32) (x5 : Int32) (μ : zMem), pX8_least_68 n d x1 x2 x3 x4 x5 μ KI X → Wr mX8_least (d + 1) 0 68 [(0, .ref 0), (1, .int x1), (2, .int x2), (3, .int x3), (4, .int x4), (5, .int x5)] [] μ (kI KI X) := by
  intro n
  induction n with
  | zero =>
    intro x1 x2 x3 x4 x5 μ h
    exact absurd h id
  | succ n ih =>
    intro x1 x2 x3 x4 x5 μ h
    unfold pX8_least_68 at h
    refine Wr_iload dX8_least_68 5 rfl ?_
    refine Wr_iload_n dX8_least_70 rfl 2 rfl ?_
    refine Wr_icmp_gt 134 dX8_least_71 (by decide) (fun hc => ?_) (fun hc => ?_)
    · have h := h.1 hc
      refine Wr_aload_n dX8_least_134 rfl 0 rfl ?_
      refine Wr_getR 98 dX8_least_135 flX8_68 zl0 rfl (by decide) ?_
      refine Wr_aload_n dX8_least_138 rfl 0 rfl ?_
      refine Wr_getR 46 dX8_least_139 flX8_40 zl0 rfl (by decide) ?_
      refine Wr_getR 1 dX8_least_142 flX8_116 zl46 rfl (by decide) ?_
      refine Wr_iload_n dX8_least_145 rfl 3 rfl ?_
      refine Wr_iload dX8_least_146 4 rfl ?_
      have hj1 : Wr mX8_least (d + 1) 0 162 [(0, .ref 0), (1, .int x1), (2, .int x2), (3, .int x3), (4, .int x4), (5, .int x5)] [.int (if x4 = 0 then 0 else μ (zsk μ 0 4) 7), .int x3, .ref 47, .ref 98] μ (kI KI X) := by
        refine Wr_cVi [.ref 47, .int x3, .int (if x4 = 0 then 0 else μ (zsk μ 0 4) 7)] dX8_least_162 mlX8_295 mgX7_search rfl mvX7_search (zrv zl98 _ rfl rfl) rfl rfl (Nat.le_of_ble_eq_true rfl) rfl (zcI.imp h (fun u2 m1 h => ?_) (fun _ _ h => ⟨rfl, h⟩))
        exact Wr_iret .int dX8_least_165 rfl rfl ⟨rfl, h⟩
      refine Wr_if_eq 161 dX8_least_148 (by decide) (fun hc0 => ?_) (fun hc0 => ?_)
      · skip
        refine Wr_iconstv (v := 0) dX8_least_161 (by decide) ?_
        exact Wr_top (if_pos hc0) hj1
      · skip
        refine Wr_aload_n dX8_least_151 rfl 0 rfl ?_
        refine Wr_getT dX8_least_152 flX8_30 zl0 (by decide) ?_
        refine Wr_getI dX8_least_155 flX8_129 (zsk_sh μ 0 4) rfl ?_
        refine Wr_goto 162 dX8_least_158 (by decide) ?_
        exact Wr_top (if_neg hc0) hj1
    · have h := h.2 hc
      refine Wr_iconstv (v := 0) dX8_least_74 (by decide) ?_
      refine Wr_istore dX8_least_75 (by decide) rfl ?_
      refine zsub [0, 1, 2, 3, 4, 5, 6] rfl ?_
      obtain ⟨n9, h⟩ := h
      exact wX8_least_77 (fun z0 z1 z2 z3 z4 m h => ih z0 z1 z2 z3 z4 m h) n9 _ _ _ _ _ _ _ h
def pX8_least (d : Nat) (x1 : Int32) (x2 : Int32) (x3 : Int32) (x4 : Int32) (μ : zMem) (KI : Int32 → zMem → Prop) (X : Nat → zMem → Prop) : Prop :=
  zcV d mX8_needSpan [.int x1, .int x2, .int 24] μ (fun m1 => ((x3 < 0 → X 1 m1) ∧
  (¬ (x3 < 0) → ((x3 ≤ 4 → ((m1 47 0 ≤ 4 → zcV d mX1_copyFrom [.ref 80, .ref 47] m1 (fun m2 => zcV d mX7_clearMarks [.ref 98] m2 (fun m3 => ∃ n2 : Nat, pX8_least_68 n2 d x1 x2 x3 x4 x1 m3 KI X) X) X) ∧
      (¬ (m1 47 0 ≤ 4) → KI (-2) m1))) ∧
    (¬ (x3 ≤ 4) → X 1 m1))))) X
set_option maxRecDepth 20000 in
theorem wX8_least_0 {d : Nat} {KI : Int32 → zMem → Prop} {X : Nat → zMem → Prop} {x1 : Int32} {x2 : Int32} {x3 : Int32} {x4 : Int32} {μ : zMem} (h : pX8_least d x1 x2 x3 x4 μ KI X) : Wr mX8_least (d + 1) 0 0 [(0, .ref 0), (1, .int x1), (2, .int x2), (3, .int x3), (4, .int x4)] [] μ (kI KI X) := by
  unfold pX8_least at h
  refine Wr_iload_n dX8_least_0 rfl 1 rfl ?_
  refine Wr_iload_n dX8_least_1 rfl 2 rfl ?_
  refine Wr_bipush (v := 24) dX8_least_2 (by decide) ?_
  refine Wr_cSv [.int x1, .int x2, .int 24] dX8_least_4 mlX8_266 mgX8_needSpan rfl msX8_needSpan  rfl rfl (Nat.le_of_ble_eq_true rfl) rfl (zcV.imp h (fun m1 h => ?_) (fun _ _ h => ⟨rfl, h⟩))
  refine Wr_iload_n dX8_least_7 rfl 3 rfl ?_
  refine Wr_if_lt 16 dX8_least_8 (by decide) (fun hc => ?_) (fun hc => ?_)
  · have h := h.1 hc
    exact Wr_throw 23 (E := 1) (tx := "so many yards are not winched") (sn := 34) ⟨wGm 538 (by decide +kernel) rfl, wGm 120 (by decide +kernel) rfl, wGm 579 (by decide +kernel) rfl, zst 34 (by decide +kernel), by decide⟩ rfl (Nat.le_of_ble_eq_true rfl) dX8_least_16 dX8_least_19 (Or.inr ⟨dX8_least_20, rfl⟩) dX8_least_23 dX8_least_26 ⟨rfl, h⟩
  · have h := h.2 hc
    refine Wr_iload_n dX8_least_11 rfl 3 rfl ?_
    refine Wr_iconstv (v := 4) dX8_least_12 (by decide) ?_
    refine Wr_icmp_le 27 dX8_least_13 (by decide) (fun hc => ?_) (fun hc => ?_)
    · have h := h.1 hc
      refine Wr_aload_n dX8_least_27 rfl 0 rfl ?_
      refine Wr_getR 46 dX8_least_28 flX8_40 zl0 rfl (by decide) ?_
      refine Wr_getR 1 dX8_least_31 flX8_116 zl46 rfl (by decide) ?_
      refine Wr_getI dX8_least_34 flX8_117 zl47 rfl ?_
      refine Wr_iconstv (v := 4) dX8_least_37 (by decide) ?_
      refine Wr_icmp_le 44 dX8_least_38 (by decide) (fun hc => ?_) (fun hc => ?_)
      · have h := h.1 hc
        refine Wr_aload_n dX8_least_44 rfl 0 rfl ?_
        refine Wr_getR 80 dX8_least_45 flX8_54 zl0 rfl (by decide) ?_
        refine Wr_aload_n dX8_least_48 rfl 0 rfl ?_
        refine Wr_getR 46 dX8_least_49 flX8_40 zl0 rfl (by decide) ?_
        refine Wr_getR 1 dX8_least_52 flX8_116 zl46 rfl (by decide) ?_
        refine Wr_cVv [.ref 47] dX8_least_55 mlX8_282 mgX1_copyFrom rfl mvX1_copyFrom (zrv zl80 _ rfl rfl) rfl rfl (Nat.le_of_ble_eq_true rfl) rfl (zcV.imp h (fun m2 h => ?_) (fun _ _ h => ⟨rfl, h⟩))
        refine Wr_aload_n dX8_least_58 rfl 0 rfl ?_
        refine Wr_getR 98 dX8_least_59 flX8_68 zl0 rfl (by decide) ?_
        refine Wr_cVv [] dX8_least_62 mlX8_285 mgX7_clearMarks rfl mvX7_clearMarks (zrv zl98 _ rfl rfl) rfl rfl (Nat.le_of_ble_eq_true rfl) rfl (zcV.imp h (fun m3 h => ?_) (fun _ _ h => ⟨rfl, h⟩))
        refine Wr_iload_n dX8_least_65 rfl 1 rfl ?_
        refine Wr_istore dX8_least_66 (by decide) rfl ?_
        refine zsub [0, 1, 2, 3, 4, 5] rfl ?_
        obtain ⟨n9, h⟩ := h
        exact wX8_least_68 n9 _ _ _ _ _ _ h
      · have h := h.2 hc
        refine Wr_bipush (v := (-2)) dX8_least_41 (by decide) ?_
        exact Wr_iret .int dX8_least_43 rfl rfl ⟨rfl, h⟩
    · have h := h.2 hc
      exact Wr_throw 23 (E := 1) (tx := "so many yards are not winched") (sn := 34) ⟨wGm 538 (by decide +kernel) rfl, wGm 120 (by decide +kernel) rfl, wGm 579 (by decide +kernel) rfl, zst 34 (by decide +kernel), by decide⟩ rfl (Nat.le_of_ble_eq_true rfl) dX8_least_16 dX8_least_19 (Or.inr ⟨dX8_least_20, rfl⟩) dX8_least_23 dX8_least_26 ⟨rfl, h⟩
theorem cX8_least_ {d : Nat} {x1 : Int32} {x2 : Int32} {x3 : Int32} {x4 : Int32} {μ : zMem} {KI : Int32 → zMem → Prop} {X : Nat → zMem → Prop} (h : pX8_least d x1 x2 x3 x4 μ KI X) : zcI (d + 1) mX8_least [.ref 0, .int x1, .int x2, .int x3, .int x4] μ KI X :=
  Ex_of (w := 5) mgX8_least.2.2.2.2.2 rfl rfl rfl (by decide) (wX8_least_0 h)

def pX8_putRopes_18 : Nat → Nat → Int32 → Int32 → Int32 → Int32 → Int32 → zMem → (zMem → Prop) → (Nat → zMem → Prop) → Prop
  | 0, _, _, _, _, _, _, _, _, _ => False
  | n + 1, d, x1, x2, x3, x4, x5, μ, KV, X =>
  ((x2 < x5 → (vp_in x1 6) ∧ ∀ m1 : zMem, m1 = zw μ 84 x1.toNatClampNeg x4 → KV m1) ∧
  (¬ (x2 < x5) → (vp_in x1 6) ∧ ∀ m2 : zMem, m2 = zw μ 84 x1.toNatClampNeg (x4 + x5) → zcI d mX7_slotOf [.int x1, .int x5] m2 (fun u4 m3 => zcV d mX0_put [.ref 92, .ref (zsk m2 0 4), .ref 80, .int x1, .int u4, .int x3, .int 0] m3 (fun m5 => ∀ v6 : Int32, v6 = x5 + 1 → pX8_putRopes_18 n d x1 x2 x3 x4 v6 m5 KV X) X) X))
set_option maxRecDepth 20000 in
theorem wX8_putRopes_18 {d : Nat} {KV : zMem → Prop} {X : Nat → zMem → Prop} : ∀ (n : Nat) (x1 : Int32) (x2 : Int32) (x3 : Int32) (x4 : Int32) (x5 : Int32) (μ : zMem), pX8_putRopes_18 n d x1 x2 x3 x4 x5 μ KV X → Wr mX8_putRopes (d + 1) 0 18 [(0, .ref 0), (1, .int x1), (2, .int x2), (3, .int x3), (4, .int x4), (5, .int x5)] [] μ (kV KV X) := by
  intro n
  induction n with
  | zero =>
    intro x1 x2 x3 x4 x5 μ h
    exact absurd h id
  | succ n ih =>
    intro x1 x2 x3 x4 x5 μ h
    unfold pX8_putRopes_18 at h
    refine Wr_iload dX8_putRopes_18 5 rfl ?_
    refine Wr_iload_n dX8_putRopes_20 rfl 2 rfl ?_
    refine Wr_icmp_gt 68 dX8_putRopes_21 (by decide) (fun hc => ?_) (fun hc => ?_)
    · have h := h.1 hc
      refine Wr_aload_n dX8_putRopes_68 rfl 0 rfl ?_
      refine Wr_getR 80 dX8_putRopes_69 flX8_54 zl0 rfl (by decide) ?_
      refine Wr_getR 4 dX8_putRopes_72 flX8_161 zl80 rfl (by decide) ?_
      refine Wr_iload_n dX8_putRopes_75 rfl 1 rfl ?_
      refine Wr_iload dX8_putRopes_76 4 rfl ?_
      obtain ⟨him1, h⟩ := h
      obtain ⟨m1, em1⟩ : ∃ z : zMem, z = zw μ 84 x1.toNatClampNeg x4 := ⟨_, rfl⟩
      have h := h m1 em1
      refine Wr_iast dX8_putRopes_78 zl84 him1 ?_
      refine Wr_mu em1 ?_
      exact Wr_vret dX8_putRopes_79 rfl ⟨rfl, h⟩
    · have h := h.2 hc
      refine Wr_aload_n dX8_putRopes_24 rfl 0 rfl ?_
      refine Wr_getR 80 dX8_putRopes_25 flX8_54 zl0 rfl (by decide) ?_
      refine Wr_getR 4 dX8_putRopes_28 flX8_161 zl80 rfl (by decide) ?_
      refine Wr_iload_n dX8_putRopes_31 rfl 1 rfl ?_
      refine Wr_iload dX8_putRopes_32 4 rfl ?_
      refine Wr_iload dX8_putRopes_34 5 rfl ?_
      refine Wr_iadd dX8_putRopes_36 ?_
      obtain ⟨him2, h⟩ := h
      obtain ⟨m2, em2⟩ : ∃ z : zMem, z = zw μ 84 x1.toNatClampNeg (x4 + x5) := ⟨_, rfl⟩
      have h := h m2 em2
      refine Wr_iast dX8_putRopes_37 zl84 him2 ?_
      refine Wr_mu em2 ?_
      refine Wr_aload_n dX8_putRopes_38 rfl 0 rfl ?_
      refine Wr_getR 92 dX8_putRopes_39 flX8_61 zl0 rfl (by decide) ?_
      refine Wr_aload_n dX8_putRopes_42 rfl 0 rfl ?_
      refine Wr_getT dX8_putRopes_43 flX8_30 zl0 (by decide) ?_
      refine Wr_aload_n dX8_putRopes_46 rfl 0 rfl ?_
      refine Wr_getR 80 dX8_putRopes_47 flX8_54 zl0 rfl (by decide) ?_
      refine Wr_iload_n dX8_putRopes_50 rfl 1 rfl ?_
      refine Wr_iload_n dX8_putRopes_51 rfl 1 rfl ?_
      refine Wr_iload dX8_putRopes_52 5 rfl ?_
      refine Wr_cSi [.int x1, .int x5] dX8_putRopes_54 mlX8_299 mgX7_slotOf rfl msX7_slotOf  rfl rfl (Nat.le_of_ble_eq_true rfl) rfl (zcI.imp h (fun u4 m3 h => ?_) (fun _ _ h => ⟨rfl, h⟩))
      refine Wr_iload_n dX8_putRopes_57 rfl 3 rfl ?_
      refine Wr_iconstv (v := 0) dX8_putRopes_58 (by decide) ?_
      refine Wr_cVv [.ref (zsk m2 0 4), .ref 80, .int x1, .int u4, .int x3, .int 0] dX8_putRopes_59 mlX8_205 mgX0_put rfl mvX0_put (zrv zl92 _ rfl rfl) rfl rfl (Nat.le_of_ble_eq_true rfl) rfl (zcV.imp h (fun m5 h => ?_) (fun _ _ h => ⟨rfl, h⟩))
      obtain ⟨v6, ev6⟩ : ∃ z : Int32, z = x5 + 1 := ⟨_, rfl⟩
      have h := h v6 ev6
      refine Wr_iinc (v := v6) dX8_putRopes_62 (q := 5) rfl (by rw [ev6]; rfl) (by decide) rfl ?_
      refine Wr_goto 18 dX8_putRopes_65 (by decide) ?_
      refine zsub [0, 1, 2, 3, 4, 5] rfl ?_
      exact ih _ _ _ _ _ _ h
def pX8_putRopes (d : Nat) (x1 : Int32) (x2 : Int32) (x3 : Int32) (μ : zMem) (KV : zMem → Prop) (X : Nat → zMem → Prop) : Prop :=
  (vp_in x1 6) ∧ ∀ v1 : Int32, v1 = μ 51 x1.toNatClampNeg → ∃ n2 : Nat, pX8_putRopes_18 n2 d x1 x2 x3 v1 (-x2) μ KV X
set_option maxRecDepth 20000 in
theorem wX8_putRopes_0 {d : Nat} {KV : zMem → Prop} {X : Nat → zMem → Prop} {x1 : Int32} {x2 : Int32} {x3 : Int32} {μ : zMem} (h : pX8_putRopes d x1 x2 x3 μ KV X) : Wr mX8_putRopes (d + 1) 0 0 [(0, .ref 0), (1, .int x1), (2, .int x2), (3, .int x3)] [] μ (kV KV X) := by
  unfold pX8_putRopes at h
  refine Wr_aload_n dX8_putRopes_0 rfl 0 rfl ?_
  refine Wr_getR 46 dX8_putRopes_1 flX8_40 zl0 rfl (by decide) ?_
  refine Wr_getR 1 dX8_putRopes_4 flX8_116 zl46 rfl (by decide) ?_
  refine Wr_getR 4 dX8_putRopes_7 flX8_161 zl47 rfl (by decide) ?_
  refine Wr_iload_n dX8_putRopes_10 rfl 1 rfl ?_
  obtain ⟨hi, h⟩ := h
  refine Wr_iald dX8_putRopes_11 zl51 hi ?_
  obtain ⟨v1, ev1⟩ : ∃ z : Int32, z = μ 51 x1.toNatClampNeg := ⟨_, rfl⟩
  have h := h v1 ev1
  refine Wr_top ev1 ?_
  refine Wr_istore dX8_putRopes_12 (by decide) rfl ?_
  refine Wr_iload_n dX8_putRopes_14 rfl 3 rfl ?_
  refine Wr_ineg dX8_putRopes_15 ?_
  refine Wr_istore dX8_putRopes_16 (by decide) rfl ?_
  refine zsub [0, 1, 2, 3, 4, 5] rfl ?_
  obtain ⟨n9, h⟩ := h
  exact wX8_putRopes_18 n9 _ _ _ _ _ _ h
theorem cX8_putRopes_ {d : Nat} {x1 : Int32} {x2 : Int32} {x3 : Int32} {μ : zMem} {KV : zMem → Prop} {X : Nat → zMem → Prop} (h : pX8_putRopes d x1 x2 x3 μ KV X) : zcV (d + 1) mX8_putRopes [.ref 0, .int x1, .int x2, .int x3] μ KV X :=
  Ex_of (w := 4) mgX8_putRopes.2.2.2.2.2 rfl rfl rfl (by decide) (wX8_putRopes_0 h)

def pX8_rope (d : Nat) (x1 : Int32) (μ : zMem) (KI : Int32 → zMem → Prop) (X : Nat → zMem → Prop) : Prop :=
  zcV d mX8_needIsle [.ref 0, .int x1] μ (fun m1 => ((m1 98 4 = 0 → X 0 m1) ∧
  (¬ (m1 98 4 = 0) → ((x1 < 4 → (vp_in x1 4) ∧ KI (m1 102 x1.toNatClampNeg) m1) ∧
    (¬ (x1 < 4) → X 0 m1))))) X
set_option maxRecDepth 20000 in
theorem wX8_rope_0 {d : Nat} {KI : Int32 → zMem → Prop} {X : Nat → zMem → Prop} {x1 : Int32} {μ : zMem} (h : pX8_rope d x1 μ KI X) : Wr mX8_rope (d + 1) 0 0 [(0, .ref 0), (1, .int x1)] [] μ (kI KI X) := by
  unfold pX8_rope at h
  refine Wr_aload_n dX8_rope_0 rfl 0 rfl ?_
  refine Wr_iload_n dX8_rope_1 rfl 1 rfl ?_
  refine Wr_cVv [.int x1] dX8_rope_2 mlX8_146 mgX8_needIsle rfl mvX8_needIsle (zrv zl0 _ rfl rfl) rfl rfl (Nat.le_of_ble_eq_true rfl) rfl (zcV.imp h (fun m1 h => ?_) (fun _ _ h => ⟨rfl, h⟩))
  refine Wr_aload_n dX8_rope_5 rfl 0 rfl ?_
  refine Wr_getR 98 dX8_rope_6 flX8_68 zl0 rfl (by decide) ?_
  refine Wr_getI dX8_rope_9 flX8_302 zl98 rfl ?_
  refine Wr_if_eq 20 dX8_rope_12 (by decide) (fun hc => ?_) (fun hc => ?_)
  · have h := h.1 hc
    exact Wr_throw 27 (E := 0) (tx := "no ropes are kept") (sn := 35) ⟨wGm 890 (by decide +kernel) rfl, wGm 128 (by decide +kernel) rfl, wGm 900 (by decide +kernel) rfl, zst 35 (by decide +kernel), by decide⟩ rfl (Nat.le_of_ble_eq_true rfl) dX8_rope_20 dX8_rope_23 (Or.inr ⟨dX8_rope_24, rfl⟩) dX8_rope_27 dX8_rope_30 ⟨rfl, h⟩
  · have h := h.2 hc
    refine Wr_iload_n dX8_rope_15 rfl 1 rfl ?_
    refine Wr_iconstv (v := 4) dX8_rope_16 (by decide) ?_
    refine Wr_icmp_lt 31 dX8_rope_17 (by decide) (fun hc => ?_) (fun hc => ?_)
    · have h := h.1 hc
      refine Wr_aload_n dX8_rope_31 rfl 0 rfl ?_
      refine Wr_getR 98 dX8_rope_32 flX8_68 zl0 rfl (by decide) ?_
      refine Wr_getR 4 dX8_rope_35 flX8_307 zl98 rfl (by decide) ?_
      refine Wr_iload_n dX8_rope_38 rfl 1 rfl ?_
      obtain ⟨hi, h⟩ := h
      refine Wr_iald dX8_rope_39 zl102 hi ?_
      exact Wr_iret .int dX8_rope_40 rfl rfl ⟨rfl, h⟩
    · have h := h.2 hc
      exact Wr_throw 27 (E := 0) (tx := "no ropes are kept") (sn := 35) ⟨wGm 890 (by decide +kernel) rfl, wGm 128 (by decide +kernel) rfl, wGm 900 (by decide +kernel) rfl, zst 35 (by decide +kernel), by decide⟩ rfl (Nat.le_of_ble_eq_true rfl) dX8_rope_20 dX8_rope_23 (Or.inr ⟨dX8_rope_24, rfl⟩) dX8_rope_27 dX8_rope_30 ⟨rfl, h⟩
theorem cX8_rope_ {d : Nat} {x1 : Int32} {μ : zMem} {KI : Int32 → zMem → Prop} {X : Nat → zMem → Prop} (h : pX8_rope d x1 μ KI X) : zcI (d + 1) mX8_rope [.ref 0, .int x1] μ KI X :=
  Ex_of (w := 2) mgX8_rope.2.2.2.2.2 rfl rfl rfl (by decide) (wX8_rope_0 h)

def pX8_way_81 (d : Nat) (x2 : Int32) (x4 : Int32) (x5 : Int32) (μ : zMem) (KI : Int32 → zMem → Prop) (X : Nat → zMem → Prop) (C35 : Int32 → Int32 → Int32 → zMem → Prop) : Prop :=
  (vp_in x2 6) ∧ ((μ 103 x2.toNatClampNeg = (-1) → ∀ v1 : Int32, v1 = x5 + 1 → C35 x2 x4 v1 μ) ∧
  (¬ (μ 103 x2.toNatClampNeg = (-1)) → ((x4 = 0 → KI x5 μ) ∧
    (¬ (x4 = 0) → (vp_in x2 6) ∧ KI (μ 103 x2.toNatClampNeg) μ))))
set_option maxRecDepth 20000 in
theorem wX8_way_81 {d : Nat} {KI : Int32 → zMem → Prop} {X : Nat → zMem → Prop} {C35 : Int32 → Int32 → Int32 → zMem → Prop} {x2 : Int32} {x4 : Int32} {x5 : Int32} {μ : zMem} (hC35 : ∀ (x2 : Int32) (x4 : Int32) (x5 : Int32) (μ : zMem), C35 x2 x4 x5 μ → Wr mX8_way (d + 1) 0 35 [(0, .ref 0), (2, .int x2), (4, .int x4), (5, .int x5)] [] μ (kI KI X)) (h : pX8_way_81 d x2 x4 x5 μ KI X C35) : Wr mX8_way (d + 1) 0 81 [(0, .ref 0), (2, .int x2), (4, .int x4), (5, .int x5)] [] μ (kI KI X) := by
  unfold pX8_way_81 at h
  refine Wr_aload_n dX8_way_81 rfl 0 rfl ?_
  refine Wr_getR 103 dX8_way_82 flX8_72 zl0 rfl (by decide) ?_
  refine Wr_iload_n dX8_way_85 rfl 1 rfl ?_
  obtain ⟨hi, h⟩ := h
  refine Wr_iald dX8_way_86 zl103 hi ?_
  refine Wr_iconstv (v := (-1)) dX8_way_87 (by decide) ?_
  refine Wr_icmp_eq 108 dX8_way_88 (by decide) (fun hc => ?_) (fun hc => ?_)
  · have h := h.1 hc
    obtain ⟨v1, ev1⟩ : ∃ z : Int32, z = x5 + 1 := ⟨_, rfl⟩
    have h := h v1 ev1
    refine Wr_iinc (v := v1) dX8_way_108 (q := 3) rfl (by rw [ev1]; rfl) (by decide) rfl ?_
    refine Wr_goto 35 dX8_way_111 (by decide) ?_
    refine zsub [0, 2, 4, 5] rfl ?_
    exact hC35 _ _ _ _ h
  · have h := h.2 hc
    refine Wr_iload dX8_way_91 2 rfl ?_
    refine Wr_if_ne 101 dX8_way_93 (by decide) (fun hc => ?_) (fun hc => ?_)
    · have h := h.2 hc
      refine Wr_aload_n dX8_way_101 rfl 0 rfl ?_
      refine Wr_getR 103 dX8_way_102 flX8_72 zl0 rfl (by decide) ?_
      refine Wr_iload_n dX8_way_105 rfl 1 rfl ?_
      obtain ⟨hi, h⟩ := h
      refine Wr_iald dX8_way_106 zl103 hi ?_
      exact Wr_iret .int dX8_way_107 rfl rfl ⟨rfl, h⟩
    · have h := h.1 hc
      refine Wr_iload dX8_way_96 3 rfl ?_
      refine Wr_goto 107 dX8_way_98 (by decide) ?_
      exact Wr_iret .int dX8_way_107 rfl rfl ⟨rfl, h⟩
def pX8_way_35 : Nat → Nat → Int32 → Int32 → Int32 → zMem → (Int32 → zMem → Prop) → (Nat → zMem → Prop) → Prop
  | 0, _, _, _, _, _, _, _ => False
  | n + 1, d, x2, x4, x5, μ, KI, X =>
  ((168 ≤ x5 → KI (-1) μ) ∧
  (¬ (168 ≤ x5) → (vp_in x2 6) ∧ ((μ 103 x2.toNatClampNeg = (-1) → zcV d mX8_blow [.ref 0, .ref 47, .int x5, .int 0] μ (fun m1 => zcV d mX8_goOverBridges [.ref 0, .int (m1 47 0)] m1 (fun m2 => pX8_way_81 d x2 x4 x5 m2 KI X (fun z0 z1 z2 m => pX8_way_35 n d z0 z1 z2 m KI X)) X) X) ∧
    (¬ (μ 103 x2.toNatClampNeg = (-1)) → pX8_way_81 d x2 x4 x5 μ KI X (fun z0 z1 z2 m => pX8_way_35 n d z0 z1 z2 m KI X)))))
set_option maxRecDepth 20000 in
theorem wX8_way_35 {d : Nat} {KI : Int32 → zMem → Prop} {X : Nat → zMem → Prop} : ∀ (n : Nat) (x2 : Int32) (x4 : Int32) (x5 : Int32) (μ : zMem), pX8_way_35 n d x2 x4 x5 μ KI X → Wr mX8_way (d + 1) 0 35 [(0, .ref 0), (2, .int x2), (4, .int x4), (5, .int x5)] [] μ (kI KI X) := by
  intro n
  induction n with
  | zero =>
    intro x2 x4 x5 μ h
    exact absurd h id
  | succ n ih =>
    intro x2 x4 x5 μ h
    unfold pX8_way_35 at h
    refine Wr_iload dX8_way_35 3 rfl ?_
    refine Wr_sipush (v := 168) dX8_way_37 (by decide) ?_
    refine Wr_icmp_ge 114 dX8_way_40 (by decide) (fun hc => ?_) (fun hc => ?_)
    · have h := h.1 hc
      refine Wr_iconstv (v := (-1)) dX8_way_114 (by decide) ?_
      exact Wr_iret .int dX8_way_115 rfl rfl ⟨rfl, h⟩
    · have h := h.2 hc
      refine Wr_aload_n dX8_way_43 rfl 0 rfl ?_
      refine Wr_getR 103 dX8_way_44 flX8_72 zl0 rfl (by decide) ?_
      refine Wr_iload_n dX8_way_47 rfl 1 rfl ?_
      obtain ⟨hi, h⟩ := h
      refine Wr_iald dX8_way_48 zl103 hi ?_
      refine Wr_iconstv (v := (-1)) dX8_way_49 (by decide) ?_
      refine Wr_icmp_ne 81 dX8_way_50 (by decide) (fun hc => ?_) (fun hc => ?_)
      · have h := h.2 hc
        refine zsub [0, 2, 4, 5] rfl ?_
        exact wX8_way_81 (fun z0 z1 z2 m h => ih z0 z1 z2 m h) h
      · have h := h.1 hc
        refine Wr_aload_n dX8_way_53 rfl 0 rfl ?_
        refine Wr_aload_n dX8_way_54 rfl 0 rfl ?_
        refine Wr_getR 46 dX8_way_55 flX8_40 zl0 rfl (by decide) ?_
        refine Wr_getR 1 dX8_way_58 flX8_116 zl46 rfl (by decide) ?_
        refine Wr_iload dX8_way_61 3 rfl ?_
        refine Wr_iconstv (v := 0) dX8_way_63 (by decide) ?_
        refine Wr_cVv [.ref 47, .int x5, .int 0] dX8_way_64 mlX8_244 mgX8_blow rfl mvX8_blow (zrv zl0 _ rfl rfl) rfl rfl (Nat.le_of_ble_eq_true rfl) rfl (zcV.imp h (fun m1 h => ?_) (fun _ _ h => ⟨rfl, h⟩))
        refine Wr_aload_n dX8_way_67 rfl 0 rfl ?_
        refine Wr_aload_n dX8_way_68 rfl 0 rfl ?_
        refine Wr_getR 46 dX8_way_69 flX8_40 zl0 rfl (by decide) ?_
        refine Wr_getR 1 dX8_way_72 flX8_116 zl46 rfl (by decide) ?_
        refine Wr_getI dX8_way_75 flX8_117 zl47 rfl ?_
        refine Wr_cVv [.int (m1 47 0)] dX8_way_78 mlX8_310 mgX8_goOverBridges rfl mvX8_goOverBridges (zrv zl0 _ rfl rfl) rfl rfl (Nat.le_of_ble_eq_true rfl) rfl (zcV.imp h (fun m2 h => ?_) (fun _ _ h => ⟨rfl, h⟩))
        refine zsub [0, 2, 4, 5] rfl ?_
        exact wX8_way_81 (fun z0 z1 z2 m h => ih z0 z1 z2 m h) h
def pX8_way (d : Nat) (x1 : Int32) (x2 : Int32) (x3 : Int32) (x4 : Int32) (μ : zMem) (KI : Int32 → zMem → Prop) (X : Nat → zMem → Prop) : Prop :=
  zcV d mX8_needIsle [.ref 0, .int x1] μ (fun m1 => zcV d mX8_needIsle [.ref 0, .int x2] m1 (fun m2 => zcV d mX8_needHour [.int x3] m2 (fun m3 => zcV d mX8_needWhat [.int x4, .int 2] m3 (fun m4 => zcV d mX8_clearTally [.ref 0, .int (-1)] m4 (fun m5 => (vp_in x1 6) ∧ ∀ m6 : zMem, m6 = zw m5 103 x1.toNatClampNeg 0 → ∃ n2 : Nat, pX8_way_35 n2 d x2 x4 x3 m6 KI X) X) X) X) X) X
set_option maxRecDepth 20000 in
theorem wX8_way_0 {d : Nat} {KI : Int32 → zMem → Prop} {X : Nat → zMem → Prop} {x1 : Int32} {x2 : Int32} {x3 : Int32} {x4 : Int32} {μ : zMem} (h : pX8_way d x1 x2 x3 x4 μ KI X) : Wr mX8_way (d + 1) 0 0 [(0, .ref 0), (1, .int x1), (2, .int x2), (3, .int x3), (4, .int x4)] [] μ (kI KI X) := by
  unfold pX8_way at h
  refine Wr_aload_n dX8_way_0 rfl 0 rfl ?_
  refine Wr_iload_n dX8_way_1 rfl 1 rfl ?_
  refine Wr_cVv [.int x1] dX8_way_2 mlX8_146 mgX8_needIsle rfl mvX8_needIsle (zrv zl0 _ rfl rfl) rfl rfl (Nat.le_of_ble_eq_true rfl) rfl (zcV.imp h (fun m1 h => ?_) (fun _ _ h => ⟨rfl, h⟩))
  refine Wr_aload_n dX8_way_5 rfl 0 rfl ?_
  refine Wr_iload_n dX8_way_6 rfl 2 rfl ?_
  refine Wr_cVv [.int x2] dX8_way_7 mlX8_146 mgX8_needIsle rfl mvX8_needIsle (zrv zl0 _ rfl rfl) rfl rfl (Nat.le_of_ble_eq_true rfl) rfl (zcV.imp h (fun m2 h => ?_) (fun _ _ h => ⟨rfl, h⟩))
  refine Wr_iload_n dX8_way_10 rfl 3 rfl ?_
  refine Wr_cSv [.int x3] dX8_way_11 mlX8_192 mgX8_needHour rfl msX8_needHour  rfl rfl (Nat.le_of_ble_eq_true rfl) rfl (zcV.imp h (fun m3 h => ?_) (fun _ _ h => ⟨rfl, h⟩))
  refine Wr_iload dX8_way_14 4 rfl ?_
  refine Wr_iconstv (v := 2) dX8_way_16 (by decide) ?_
  refine Wr_cSv [.int x4, .int 2] dX8_way_17 mlX8_195 mgX8_needWhat rfl msX8_needWhat  rfl rfl (Nat.le_of_ble_eq_true rfl) rfl (zcV.imp h (fun m4 h => ?_) (fun _ _ h => ⟨rfl, h⟩))
  refine Wr_aload_n dX8_way_20 rfl 0 rfl ?_
  refine Wr_iconstv (v := (-1)) dX8_way_21 (by decide) ?_
  refine Wr_cVv [.int (-1)] dX8_way_22 mlX8_273 mgX8_clearTally rfl mvX8_clearTally (zrv zl0 _ rfl rfl) rfl rfl (Nat.le_of_ble_eq_true rfl) rfl (zcV.imp h (fun m5 h => ?_) (fun _ _ h => ⟨rfl, h⟩))
  refine Wr_aload_n dX8_way_25 rfl 0 rfl ?_
  refine Wr_getR 103 dX8_way_26 flX8_72 zl0 rfl (by decide) ?_
  refine Wr_iload_n dX8_way_29 rfl 1 rfl ?_
  refine Wr_iconstv (v := 0) dX8_way_30 (by decide) ?_
  obtain ⟨him6, h⟩ := h
  obtain ⟨m6, em6⟩ : ∃ z : zMem, z = zw m5 103 x1.toNatClampNeg 0 := ⟨_, rfl⟩
  have h := h m6 em6
  refine Wr_iast dX8_way_31 zl103 him6 ?_
  refine Wr_mu em6 ?_
  refine Wr_iload_n dX8_way_32 rfl 3 rfl ?_
  refine Wr_istore dX8_way_33 (by decide) rfl ?_
  refine zsub [0, 2, 4, 5] rfl ?_
  obtain ⟨n9, h⟩ := h
  exact wX8_way_35 n9 _ _ _ _ h
theorem cX8_way_ {d : Nat} {x1 : Int32} {x2 : Int32} {x3 : Int32} {x4 : Int32} {μ : zMem} {KI : Int32 → zMem → Prop} {X : Nat → zMem → Prop} (h : pX8_way d x1 x2 x3 x4 μ KI X) : zcI (d + 1) mX8_way [.ref 0, .int x1, .int x2, .int x3, .int x4] μ KI X :=
  Ex_of (w := 5) mgX8_way.2.2.2.2.2 rfl rfl rfl (by decide) (wX8_way_0 h)

def pX8_goOverBridges_17 : Nat → Nat → Int32 → Int32 → Int32 → Int32 → zMem → (zMem → Prop) → (Nat → zMem → Prop) → (Int32 → Int32 → zMem → Prop) → (Int32 → Int32 → Int32 → zMem → Prop) → Prop
  | 0, _, _, _, _, _, _, _, _, _, _ => False
  | n + 1, d, x1, x2, x3, x4, μ, KV, X, C2, C9 =>
  ((x1 ≤ x4 → ∀ v1 : Int32, v1 = x3 + 1 → C9 x1 x2 v1 μ) ∧
  (¬ (x1 ≤ x4) → zcI d mX8_isNearer [.ref 0, .int x3, .int x4] μ (fun u3 m2 => ((u3 = 0 → ∀ v4 : Int32, v4 = x4 + 1 → pX8_goOverBridges_17 n d x1 x2 x3 v4 m2 KV X C2 C9) ∧
    (¬ (u3 = 0) → zcI d mX0_hasBridge [.ref 92, .int x3, .int x4, .int (m2 (zsk m2 0 4) 6)] m2 (fun u6 m5 => ((u6 = 0 → ∀ v7 : Int32, v7 = x4 + 1 → pX8_goOverBridges_17 n d x1 x2 x3 v7 m5 KV X C2 C9) ∧
      (¬ (u6 = 0) → (vp_in x3 6) ∧ (vp_in x4 6) ∧ ∀ m8 : zMem, m8 = zw m5 103 x4.toNatClampNeg ((m5 103 x3.toNatClampNeg) + 1) → ∀ v9 : Int32, v9 = x4 + 1 → pX8_goOverBridges_17 n d x1 x2 x3 v9 m8 KV X C2 C9))) X))) X))
set_option maxRecDepth 20000 in
theorem wX8_goOverBridges_17 {d : Nat} {KV : zMem → Prop} {X : Nat → zMem → Prop} {C2 : Int32 → Int32 → zMem → Prop} {C9 : Int32 → Int32 → Int32 → zMem → Prop} (hC2 : ∀ (x1 : Int32) (x2 : Int32) (μ : zMem), C2 x1 x2 μ → Wr mX8_goOverBridges (d + 1) 0 2 [(0, .ref 0), (1, .int x1), (2, .int x2)] [] μ (kV KV X)) (hC9 : ∀ (x1 : Int32) (x2 : Int32) (x3 : Int32) (μ : zMem), C9 x1 x2 x3 μ → Wr mX8_goOverBridges (d + 1) 0 9 [(0, .ref 0), (1, .int x1), (2, .int x2), (3, .int x3)] [] μ (kV KV X)) : ∀ (n : Nat) (x1 : Int32) (x2 : Int32) (x3 : Int32) (x4 : Int32) (μ : zMem), pX8_goOverBridges_17 n d x1 x2 x3 x4 μ KV X C2 C9 → Wr mX8_goOverBridges (d + 1) 0 17 [(0, .ref 0), (1, .int x1), (2, .int x2), (3, .int x3), (4, .int x4)] [] μ (kV KV X) := by
  intro n
  induction n with
  | zero =>
    intro x1 x2 x3 x4 μ h
    exact absurd h id
  | succ n ih =>
    intro x1 x2 x3 x4 μ h
    unfold pX8_goOverBridges_17 at h
    refine Wr_iload dX8_goOverBridges_17 4 rfl ?_
    refine Wr_iload_n dX8_goOverBridges_19 rfl 1 rfl ?_
    refine Wr_icmp_ge 74 dX8_goOverBridges_20 (by decide) (fun hc => ?_) (fun hc => ?_)
    · have h := h.1 hc
      obtain ⟨v1, ev1⟩ : ∃ z : Int32, z = x3 + 1 := ⟨_, rfl⟩
      have h := h v1 ev1
      refine Wr_iinc (v := v1) dX8_goOverBridges_74 (q := 3) rfl (by rw [ev1]; rfl) (by decide) rfl ?_
      refine Wr_goto 9 dX8_goOverBridges_77 (by decide) ?_
      refine zsub [0, 1, 2, 3] rfl ?_
      exact hC9 _ _ _ _ h
    · have h := h.2 hc
      refine Wr_aload_n dX8_goOverBridges_23 rfl 0 rfl ?_
      refine Wr_iload_n dX8_goOverBridges_24 rfl 3 rfl ?_
      refine Wr_iload dX8_goOverBridges_25 4 rfl ?_
      refine Wr_cVi [.int x3, .int x4] dX8_goOverBridges_27 mlX8_313 mgX8_isNearer rfl mvX8_isNearer (zrv zl0 _ rfl rfl) rfl rfl (Nat.le_of_ble_eq_true rfl) rfl (zcI.imp h (fun u3 m2 h => ?_) (fun _ _ h => ⟨rfl, h⟩))
      refine Wr_if_eq 68 dX8_goOverBridges_30 (by decide) (fun hc => ?_) (fun hc => ?_)
      · have h := h.1 hc
        obtain ⟨v4, ev4⟩ : ∃ z : Int32, z = x4 + 1 := ⟨_, rfl⟩
        have h := h v4 ev4
        refine Wr_iinc (v := v4) dX8_goOverBridges_68 (q := 4) rfl (by rw [ev4]; rfl) (by decide) rfl ?_
        refine Wr_goto 17 dX8_goOverBridges_71 (by decide) ?_
        refine zsub [0, 1, 2, 3, 4] rfl ?_
        exact ih _ _ _ _ _ h
      · have h := h.2 hc
        refine Wr_aload_n dX8_goOverBridges_33 rfl 0 rfl ?_
        refine Wr_getR 92 dX8_goOverBridges_34 flX8_61 zl0 rfl (by decide) ?_
        refine Wr_iload_n dX8_goOverBridges_37 rfl 3 rfl ?_
        refine Wr_iload dX8_goOverBridges_38 4 rfl ?_
        refine Wr_aload_n dX8_goOverBridges_40 rfl 0 rfl ?_
        refine Wr_getT dX8_goOverBridges_41 flX8_30 zl0 (by decide) ?_
        refine Wr_getI dX8_goOverBridges_44 flX8_126 (zsk_sh m2 0 4) rfl ?_
        refine Wr_cVi [.int x3, .int x4, .int (m2 (zsk m2 0 4) 6)] dX8_goOverBridges_47 mlX8_241 mgX0_hasBridge rfl mvX0_hasBridge (zrv zl92 _ rfl rfl) rfl rfl (Nat.le_of_ble_eq_true rfl) rfl (zcI.imp h (fun u6 m5 h => ?_) (fun _ _ h => ⟨rfl, h⟩))
        refine Wr_if_eq 68 dX8_goOverBridges_50 (by decide) (fun hc => ?_) (fun hc => ?_)
        · have h := h.1 hc
          obtain ⟨v7, ev7⟩ : ∃ z : Int32, z = x4 + 1 := ⟨_, rfl⟩
          have h := h v7 ev7
          refine Wr_iinc (v := v7) dX8_goOverBridges_68 (q := 4) rfl (by rw [ev7]; rfl) (by decide) rfl ?_
          refine Wr_goto 17 dX8_goOverBridges_71 (by decide) ?_
          refine zsub [0, 1, 2, 3, 4] rfl ?_
          exact ih _ _ _ _ _ h
        · have h := h.2 hc
          refine Wr_aload_n dX8_goOverBridges_53 rfl 0 rfl ?_
          refine Wr_getR 103 dX8_goOverBridges_54 flX8_72 zl0 rfl (by decide) ?_
          refine Wr_iload dX8_goOverBridges_57 4 rfl ?_
          refine Wr_aload_n dX8_goOverBridges_59 rfl 0 rfl ?_
          refine Wr_getR 103 dX8_goOverBridges_60 flX8_72 zl0 rfl (by decide) ?_
          refine Wr_iload_n dX8_goOverBridges_63 rfl 3 rfl ?_
          obtain ⟨hi, h⟩ := h
          refine Wr_iald dX8_goOverBridges_64 zl103 hi ?_
          refine Wr_iconstv (v := 1) dX8_goOverBridges_65 (by decide) ?_
          refine Wr_iadd dX8_goOverBridges_66 ?_
          obtain ⟨him8, h⟩ := h
          obtain ⟨m8, em8⟩ : ∃ z : zMem, z = zw m5 103 x4.toNatClampNeg ((m5 103 x3.toNatClampNeg) + 1) := ⟨_, rfl⟩
          have h := h m8 em8
          refine Wr_iast dX8_goOverBridges_67 zl103 him8 ?_
          refine Wr_mu em8 ?_
          obtain ⟨v9, ev9⟩ : ∃ z : Int32, z = x4 + 1 := ⟨_, rfl⟩
          have h := h v9 ev9
          refine Wr_iinc (v := v9) dX8_goOverBridges_68 (q := 4) rfl (by rw [ev9]; rfl) (by decide) rfl ?_
          refine Wr_goto 17 dX8_goOverBridges_71 (by decide) ?_
          refine zsub [0, 1, 2, 3, 4] rfl ?_
          exact ih _ _ _ _ _ h
def pX8_goOverBridges_9 : Nat → Nat → Int32 → Int32 → Int32 → zMem → (zMem → Prop) → (Nat → zMem → Prop) → (Int32 → Int32 → zMem → Prop) → Prop
  | 0, _, _, _, _, _, _, _, _ => False
  | n + 1, d, x1, x2, x3, μ, KV, X, C2 =>
  ((x1 ≤ x3 → ∀ v1 : Int32, v1 = x2 + 1 → C2 x1 v1 μ) ∧
  (¬ (x1 ≤ x3) → ∃ n2 : Nat, pX8_goOverBridges_17 n2 d x1 x2 x3 0 μ KV X C2 (fun z0 z1 z2 m => pX8_goOverBridges_9 n d z0 z1 z2 m KV X C2)))
set_option maxRecDepth 20000 in
theorem wX8_goOverBridges_9 {d : Nat} {KV : zMem → Prop} {X : Nat → zMem → Prop} {C2 : Int32 → Int32 → zMem → Prop} (hC2 : ∀ (x1 : Int32) (x2 : Int32) (μ : zMem), C2 x1 x2 μ → Wr mX8_goOverBridges (d + 1) 0 2 [(0, .ref 0), (1, .int x1), (2, .int x2)] [] μ (kV KV X)) : ∀ (n : Nat) (x1 : Int32) (x2 : Int32) (x3 : Int32) (μ : zMem), pX8_goOverBridges_9 n d x1 x2 x3 μ KV X C2 → Wr mX8_goOverBridges (d + 1) 0 9 [(0, .ref 0), (1, .int x1), (2, .int x2), (3, .int x3)] [] μ (kV KV X) := by
  intro n
  induction n with
  | zero =>
    intro x1 x2 x3 μ h
    exact absurd h id
  | succ n ih =>
    intro x1 x2 x3 μ h
    unfold pX8_goOverBridges_9 at h
    refine Wr_iload_n dX8_goOverBridges_9 rfl 3 rfl ?_
    refine Wr_iload_n dX8_goOverBridges_10 rfl 1 rfl ?_
    refine Wr_icmp_ge 80 dX8_goOverBridges_11 (by decide) (fun hc => ?_) (fun hc => ?_)
    · have h := h.1 hc
      obtain ⟨v1, ev1⟩ : ∃ z : Int32, z = x2 + 1 := ⟨_, rfl⟩
      have h := h v1 ev1
      refine Wr_iinc (v := v1) dX8_goOverBridges_80 (q := 2) rfl (by rw [ev1]; rfl) (by decide) rfl ?_
      refine Wr_goto 2 dX8_goOverBridges_83 (by decide) ?_
      refine zsub [0, 1, 2] rfl ?_
      exact hC2 _ _ _ h
    · have h := h.2 hc
      refine Wr_iconstv (v := 0) dX8_goOverBridges_14 (by decide) ?_
      refine Wr_istore dX8_goOverBridges_15 (by decide) rfl ?_
      refine zsub [0, 1, 2, 3, 4] rfl ?_
      obtain ⟨n9, h⟩ := h
      exact wX8_goOverBridges_17 hC2 (fun z0 z1 z2 m h => ih z0 z1 z2 m h) n9 _ _ _ _ _ h
def pX8_goOverBridges_2 : Nat → Nat → Int32 → Int32 → zMem → (zMem → Prop) → (Nat → zMem → Prop) → Prop
  | 0, _, _, _, _, _, _ => False
  | n + 1, d, x1, x2, μ, KV, X =>
  ((x1 ≤ x2 → KV μ) ∧
  (¬ (x1 ≤ x2) → ∃ n2 : Nat, pX8_goOverBridges_9 n2 d x1 x2 0 μ KV X (fun z0 z1 m => pX8_goOverBridges_2 n d z0 z1 m KV X)))
set_option maxRecDepth 20000 in
theorem wX8_goOverBridges_2 {d : Nat} {KV : zMem → Prop} {X : Nat → zMem → Prop} : ∀ (n : Nat) (x1 : Int32) (x2 : Int32) (μ : zMem), pX8_goOverBridges_2 n d x1 x2 μ KV X → Wr mX8_goOverBridges (d + 1) 0 2 [(0, .ref 0), (1, .int x1), (2, .int x2)] [] μ (kV KV X) := by
  intro n
  induction n with
  | zero =>
    intro x1 x2 μ h
    exact absurd h id
  | succ n ih =>
    intro x1 x2 μ h
    unfold pX8_goOverBridges_2 at h
    refine Wr_iload_n dX8_goOverBridges_2 rfl 2 rfl ?_
    refine Wr_iload_n dX8_goOverBridges_3 rfl 1 rfl ?_
    refine Wr_icmp_ge 86 dX8_goOverBridges_4 (by decide) (fun hc => ?_) (fun hc => ?_)
    · have h := h.1 hc
      exact Wr_vret dX8_goOverBridges_86 rfl ⟨rfl, h⟩
    · have h := h.2 hc
      refine Wr_iconstv (v := 0) dX8_goOverBridges_7 (by decide) ?_
      refine Wr_istore_n dX8_goOverBridges_8 rfl (by decide) rfl ?_
      refine zsub [0, 1, 2, 3] rfl ?_
      obtain ⟨n9, h⟩ := h
      exact wX8_goOverBridges_9 (fun z0 z1 m h => ih z0 z1 m h) n9 _ _ _ _ h
def pX8_goOverBridges (d : Nat) (x1 : Int32) (μ : zMem) (KV : zMem → Prop) (X : Nat → zMem → Prop) : Prop :=
  ∃ n2 : Nat, pX8_goOverBridges_2 n2 d x1 1 μ KV X
set_option maxRecDepth 20000 in
theorem wX8_goOverBridges_0 {d : Nat} {KV : zMem → Prop} {X : Nat → zMem → Prop} {x1 : Int32} {μ : zMem} (h : pX8_goOverBridges d x1 μ KV X) : Wr mX8_goOverBridges (d + 1) 0 0 [(0, .ref 0), (1, .int x1)] [] μ (kV KV X) := by
  unfold pX8_goOverBridges at h
  refine Wr_iconstv (v := 1) dX8_goOverBridges_0 (by decide) ?_
  refine Wr_istore_n dX8_goOverBridges_1 rfl (by decide) rfl ?_
  refine zsub [0, 1, 2] rfl ?_
  obtain ⟨n9, h⟩ := h
  exact wX8_goOverBridges_2 n9 _ _ _ h
theorem cX8_goOverBridges_ {d : Nat} {x1 : Int32} {μ : zMem} {KV : zMem → Prop} {X : Nat → zMem → Prop} (h : pX8_goOverBridges d x1 μ KV X) : zcV (d + 1) mX8_goOverBridges [.ref 0, .int x1] μ KV X :=
  Ex_of (w := 2) mgX8_goOverBridges.2.2.2.2.2 rfl rfl rfl (by decide) (wX8_goOverBridges_0 h)

def pX8_isNearer (d : Nat) (x1 : Int32) (x2 : Int32) (μ : zMem) (KI : Int32 → zMem → Prop) (X : Nat → zMem → Prop) : Prop :=
  (vp_in x1 6) ∧ ((μ 103 x1.toNatClampNeg = (-1) → KI 0 μ) ∧
  (¬ (μ 103 x1.toNatClampNeg = (-1)) → (vp_in x2 6) ∧ ((μ 103 x2.toNatClampNeg = (-1) → KI 1 μ) ∧
    (¬ (μ 103 x2.toNatClampNeg = (-1)) → (vp_in x1 6) ∧ (vp_in x2 6) ∧ KI (if μ 103 x2.toNatClampNeg ≤ (μ 103 x1.toNatClampNeg) + 1 then 0 else 1) μ))))
set_option maxRecDepth 20000 in
theorem wX8_isNearer_0 {d : Nat} {KI : Int32 → zMem → Prop} {X : Nat → zMem → Prop} {x1 : Int32} {x2 : Int32} {μ : zMem} (h : pX8_isNearer d x1 x2 μ KI X) : Wr mX8_isNearer (d + 1) 0 0 [(0, .ref 0), (1, .int x1), (2, .int x2)] [] μ (kI KI X) := by
  unfold pX8_isNearer at h
  refine Wr_aload_n dX8_isNearer_0 rfl 0 rfl ?_
  refine Wr_getR 103 dX8_isNearer_1 flX8_72 zl0 rfl (by decide) ?_
  refine Wr_iload_n dX8_isNearer_4 rfl 1 rfl ?_
  obtain ⟨hi, h⟩ := h
  refine Wr_iald dX8_isNearer_5 zl103 hi ?_
  refine Wr_iconstv (v := (-1)) dX8_isNearer_6 (by decide) ?_
  refine Wr_icmp_eq 41 dX8_isNearer_7 (by decide) (fun hc => ?_) (fun hc => ?_)
  · have h := h.1 hc
    refine Wr_iconstv (v := 0) dX8_isNearer_41 (by decide) ?_
    exact Wr_iret .boolean dX8_isNearer_42 rfl rfl ⟨rfl, h⟩
  · have h := h.2 hc
    refine Wr_aload_n dX8_isNearer_10 rfl 0 rfl ?_
    refine Wr_getR 103 dX8_isNearer_11 flX8_72 zl0 rfl (by decide) ?_
    refine Wr_iload_n dX8_isNearer_14 rfl 2 rfl ?_
    obtain ⟨hi, h⟩ := h
    refine Wr_iald dX8_isNearer_15 zl103 hi ?_
    refine Wr_iconstv (v := (-1)) dX8_isNearer_16 (by decide) ?_
    refine Wr_icmp_eq 37 dX8_isNearer_17 (by decide) (fun hc => ?_) (fun hc => ?_)
    · have h := h.1 hc
      refine Wr_iconstv (v := 1) dX8_isNearer_37 (by decide) ?_
      refine Wr_goto 42 dX8_isNearer_38 (by decide) ?_
      exact Wr_iret .boolean dX8_isNearer_42 rfl rfl ⟨rfl, h⟩
    · have h := h.2 hc
      refine Wr_aload_n dX8_isNearer_20 rfl 0 rfl ?_
      refine Wr_getR 103 dX8_isNearer_21 flX8_72 zl0 rfl (by decide) ?_
      refine Wr_iload_n dX8_isNearer_24 rfl 1 rfl ?_
      obtain ⟨hi, h⟩ := h
      refine Wr_iald dX8_isNearer_25 zl103 hi ?_
      refine Wr_iconstv (v := 1) dX8_isNearer_26 (by decide) ?_
      refine Wr_iadd dX8_isNearer_27 ?_
      refine Wr_aload_n dX8_isNearer_28 rfl 0 rfl ?_
      refine Wr_getR 103 dX8_isNearer_29 flX8_72 zl0 rfl (by decide) ?_
      refine Wr_iload_n dX8_isNearer_32 rfl 2 rfl ?_
      obtain ⟨hi, h⟩ := h
      refine Wr_iald dX8_isNearer_33 zl103 hi ?_
      have hj1 : Wr mX8_isNearer (d + 1) 0 42 [(0, .ref 0), (1, .int x1), (2, .int x2)] [.int (if μ 103 x2.toNatClampNeg ≤ (μ 103 x1.toNatClampNeg) + 1 then 0 else 1)] μ (kI KI X) := by
        exact Wr_iret .boolean dX8_isNearer_42 rfl (znar (by (repeat' split) <;> simp)) ⟨rfl, h⟩
      refine Wr_icmp_ge 41 dX8_isNearer_34 (by decide) (fun hc0 => ?_) (fun hc0 => ?_)
      · skip
        refine Wr_iconstv (v := 0) dX8_isNearer_41 (by decide) ?_
        exact Wr_top (if_pos hc0) hj1
      · skip
        refine Wr_iconstv (v := 1) dX8_isNearer_37 (by decide) ?_
        refine Wr_goto 42 dX8_isNearer_38 (by decide) ?_
        exact Wr_top (if_neg hc0) hj1
theorem cX8_isNearer_ {d : Nat} {x1 : Int32} {x2 : Int32} {μ : zMem} {KI : Int32 → zMem → Prop} {X : Nat → zMem → Prop} (h : pX8_isNearer d x1 x2 μ KI X) : zcI (d + 1) mX8_isNearer [.ref 0, .int x1, .int x2] μ KI X :=
  Ex_of (w := 3) mgX8_isNearer.2.2.2.2.2 rfl rfl rfl (by decide) (wX8_isNearer_0 h)

def pX8_cross_32 (d : Nat) (μ : zMem) (KI : Int32 → zMem → Prop) (X : Nat → zMem → Prop) : Prop :=
  ∀ m1 : zMem, m1 = zw μ 62 2 ((μ 62 2) + 1) → KI (-1) m1
set_option maxRecDepth 20000 in
theorem wX8_cross_32 {d : Nat} {KI : Int32 → zMem → Prop} {X : Nat → zMem → Prop} {μ : zMem} (h : pX8_cross_32 d μ KI X) : Wr mX8_cross (d + 1) 0 32 [(0, .ref 0)] [] μ (kI KI X) := by
  unfold pX8_cross_32 at h
  refine Wr_aload_n dX8_cross_32 rfl 0 rfl ?_
  refine Wr_getR 46 dX8_cross_33 flX8_40 zl0 rfl (by decide) ?_
  refine Wr_getR 16 dX8_cross_36 flX8_100 zl46 rfl (by decide) ?_
  refine Wr_iconstv (v := 2) dX8_cross_39 (by decide) ?_
  refine Wr_dup2 dX8_cross_40 rfl rfl ?_
  refine Wr_iald dX8_cross_41 zl62 (by unfold vp_in; decide) ?_
  refine Wr_iconstv (v := 1) dX8_cross_42 (by decide) ?_
  refine Wr_iadd dX8_cross_43 ?_
  obtain ⟨m1, em1⟩ : ∃ z : zMem, z = zw μ 62 2 ((μ 62 2) + 1) := ⟨_, rfl⟩
  have h := h m1 em1
  refine Wr_iast dX8_cross_44 zl62 (by unfold vp_in; decide) ?_
  refine Wr_mu em1 ?_
  refine Wr_iconstv (v := (-1)) dX8_cross_45 (by decide) ?_
  exact Wr_iret .int dX8_cross_46 rfl rfl ⟨rfl, h⟩
def pX8_cross (d : Nat) (x1 : Int32) (x2 : Int32) (μ : zMem) (KI : Int32 → zMem → Prop) (X : Nat → zMem → Prop) : Prop :=
  ((40 ≤ μ 46 4 → pX8_cross_32 d μ KI X) ∧
  (¬ (40 ≤ μ 46 4) → ((x1 < 0 → pX8_cross_32 d μ KI X) ∧
    (¬ (x1 < 0) → ((x1 ≤ (μ 47 0) - 2 → (vp_in (μ 46 4) 40) ∧ ∀ m1 : zMem, m1 = zw μ 60 (μ 46 4).toNatClampNeg (if x2 = 0 then x1 else x1 + 10) → ∀ m2 : zMem, m2 = zw m1 46 4 ((m1 46 4) + 1) → KI (m2 46 4) m2) ∧
      (¬ (x1 ≤ (μ 47 0) - 2) → pX8_cross_32 d μ KI X))))))
set_option maxRecDepth 20000 in
theorem wX8_cross_0 {d : Nat} {KI : Int32 → zMem → Prop} {X : Nat → zMem → Prop} {x1 : Int32} {x2 : Int32} {μ : zMem} (h : pX8_cross d x1 x2 μ KI X) : Wr mX8_cross (d + 1) 0 0 [(0, .ref 0), (1, .int x1), (2, .int x2)] [] μ (kI KI X) := by
  unfold pX8_cross at h
  refine Wr_aload_n dX8_cross_0 rfl 0 rfl ?_
  refine Wr_getR 46 dX8_cross_1 flX8_40 zl0 rfl (by decide) ?_
  refine Wr_getI dX8_cross_4 flX8_135 zl46 rfl ?_
  refine Wr_bipush (v := 40) dX8_cross_7 (by decide) ?_
  refine Wr_icmp_ge 32 dX8_cross_9 (by decide) (fun hc => ?_) (fun hc => ?_)
  · have h := h.1 hc
    refine zsub [0] rfl ?_
    exact wX8_cross_32 h
  · have h := h.2 hc
    refine Wr_iload_n dX8_cross_12 rfl 1 rfl ?_
    refine Wr_if_lt 32 dX8_cross_13 (by decide) (fun hc => ?_) (fun hc => ?_)
    · have h := h.1 hc
      refine zsub [0] rfl ?_
      exact wX8_cross_32 h
    · have h := h.2 hc
      refine Wr_iload_n dX8_cross_16 rfl 1 rfl ?_
      refine Wr_aload_n dX8_cross_17 rfl 0 rfl ?_
      refine Wr_getR 46 dX8_cross_18 flX8_40 zl0 rfl (by decide) ?_
      refine Wr_getR 1 dX8_cross_21 flX8_116 zl46 rfl (by decide) ?_
      refine Wr_getI dX8_cross_24 flX8_117 zl47 rfl ?_
      refine Wr_iconstv (v := 2) dX8_cross_27 (by decide) ?_
      refine Wr_isub dX8_cross_28 ?_
      refine Wr_icmp_le 47 dX8_cross_29 (by decide) (fun hc => ?_) (fun hc => ?_)
      · have h := h.1 hc
        refine Wr_aload_n dX8_cross_47 rfl 0 rfl ?_
        refine Wr_getR 46 dX8_cross_48 flX8_40 zl0 rfl (by decide) ?_
        refine Wr_getR 14 dX8_cross_51 flX8_316 zl46 rfl (by decide) ?_
        refine Wr_aload_n dX8_cross_54 rfl 0 rfl ?_
        refine Wr_getR 46 dX8_cross_55 flX8_40 zl0 rfl (by decide) ?_
        refine Wr_getI dX8_cross_58 flX8_135 zl46 rfl ?_
        refine Wr_iload_n dX8_cross_61 rfl 2 rfl ?_
        have hj1 : Wr mX8_cross (d + 1) 0 73 [(0, .ref 0), (1, .int x1), (2, .int x2)] [.int (if x2 = 0 then x1 else x1 + 10), .int (μ 46 4), .ref 60] μ (kI KI X) := by
          obtain ⟨him1, h⟩ := h
          obtain ⟨m1, em1⟩ : ∃ z : zMem, z = zw μ 60 (μ 46 4).toNatClampNeg (if x2 = 0 then x1 else x1 + 10) := ⟨_, rfl⟩
          have h := h m1 em1
          refine Wr_iast dX8_cross_73 zl60 him1 ?_
          refine Wr_mu em1 ?_
          refine Wr_aload_n dX8_cross_74 rfl 0 rfl ?_
          refine Wr_getR 46 dX8_cross_75 flX8_40 zl0 rfl (by decide) ?_
          refine Wr_dup dX8_cross_78 rfl ?_
          refine Wr_getI dX8_cross_79 flX8_135 zl46 rfl ?_
          refine Wr_iconstv (v := 1) dX8_cross_82 (by decide) ?_
          refine Wr_iadd dX8_cross_83 ?_
          obtain ⟨m2, em2⟩ : ∃ z : zMem, z = zw m1 46 4 ((m1 46 4) + 1) := ⟨_, rfl⟩
          have h := h m2 em2
          refine Wr_putI dX8_cross_84 fpX8_135 zl46 rfl ?_
          refine Wr_mu em2 ?_
          refine Wr_aload_n dX8_cross_87 rfl 0 rfl ?_
          refine Wr_getR 46 dX8_cross_88 flX8_40 zl0 rfl (by decide) ?_
          refine Wr_getI dX8_cross_91 flX8_135 zl46 rfl ?_
          exact Wr_iret .int dX8_cross_94 rfl rfl ⟨rfl, h⟩
        refine Wr_if_eq 72 dX8_cross_62 (by decide) (fun hc0 => ?_) (fun hc0 => ?_)
        · skip
          refine Wr_iload_n dX8_cross_72 rfl 1 rfl ?_
          exact Wr_top (if_pos hc0) hj1
        · skip
          refine Wr_iload_n dX8_cross_65 rfl 1 rfl ?_
          refine Wr_bipush (v := 10) dX8_cross_66 (by decide) ?_
          refine Wr_iadd dX8_cross_68 ?_
          refine Wr_goto 73 dX8_cross_69 (by decide) ?_
          exact Wr_top (if_neg hc0) hj1
      · have h := h.2 hc
        refine zsub [0] rfl ?_
        exact wX8_cross_32 h
theorem cX8_cross_ {d : Nat} {x1 : Int32} {x2 : Int32} {μ : zMem} {KI : Int32 → zMem → Prop} {X : Nat → zMem → Prop} (h : pX8_cross d x1 x2 μ KI X) : zcI (d + 1) mX8_cross [.ref 0, .int x1, .int x2] μ KI X :=
  Ex_of (w := 3) mgX8_cross.2.2.2.2.2 rfl rfl rfl (by decide) (wX8_cross_0 h)
