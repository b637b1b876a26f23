def pX3_add (d : Nat) (o : Nat) (x1 : Int32) (μ : zMem) (KV : zMem → Prop) (X : Nat → zMem → Prop) : Prop :=
  ((700 ≤ μ o 1 → KV μ) ∧
  (¬ (700 ≤ μ o 1) → (vp_in (μ o 1) 700) ∧ ∀ m1 : zMem, m1 = zw μ (o + 1) (μ o 1).toNatClampNeg x1 → ∀ m2 : zMem, m2 = zw m1 o 1 ((m1 o 1) + 1) → KV m2))
set_option maxRecDepth 20000 in
theorem wX3_add_0 {d : Nat} {o : Nat} {KV : zMem → Prop} {X : Nat → zMem → Prop} {x1 : Int32} {μ : zMem} (ho : zsh o = .inr 3) (h : pX3_add d o x1 μ KV X) : Wr mX3_add (d + 1) 0 0 [(0, .ref o), (1, .int x1)] [] μ (kV KV X) := by
  unfold pX3_add at h
  refine Wr_aload_n dX3_add_0 rfl 0 rfl ?_
  refine Wr_getI dX3_add_1 flX3_15 ho rfl ?_
  refine Wr_aload_n dX3_add_4 rfl 0 rfl ?_
  refine Wr_getR 1 dX3_add_5 flX3_9 ho rfl (by decide) ?_
  refine Wr_alen dX3_add_8 (zo3_0 ho) (by decide) ?_
  refine Wr_icmp_ge 32 dX3_add_9 (by decide) (fun hc => ?_) (fun hc => ?_)
  · have h := h.1 hc
    exact Wr_vret dX3_add_32 rfl ⟨rfl, h⟩
  · have h := h.2 hc
    refine Wr_aload_n dX3_add_12 rfl 0 rfl ?_
    refine Wr_getR 1 dX3_add_13 flX3_9 ho rfl (by decide) ?_
    refine Wr_aload_n dX3_add_16 rfl 0 rfl ?_
    refine Wr_getI dX3_add_17 flX3_15 ho rfl ?_
    refine Wr_iload_n dX3_add_20 rfl 1 rfl ?_
    obtain ⟨him1, h⟩ := h
    obtain ⟨m1, em1⟩ : ∃ z : zMem, z = zw μ (o + 1) (μ o 1).toNatClampNeg x1 := ⟨_, rfl⟩
    have h := h m1 em1
    refine Wr_iast dX3_add_21 (zo3_0 ho) him1 ?_
    refine Wr_mu em1 ?_
    refine Wr_aload_n dX3_add_22 rfl 0 rfl ?_
    refine Wr_dup dX3_add_23 rfl ?_
    refine Wr_getI dX3_add_24 flX3_15 ho rfl ?_
    refine Wr_iconstv (v := 1) dX3_add_27 (by decide) ?_
    refine Wr_iadd dX3_add_28 ?_
    obtain ⟨m2, em2⟩ : ∃ z : zMem, z = zw m1 o 1 ((m1 o 1) + 1) := ⟨_, rfl⟩
    have h := h m2 em2
    refine Wr_putI dX3_add_29 fpX3_15 ho rfl ?_
    refine Wr_mu em2 ?_
    exact Wr_vret dX3_add_32 rfl ⟨rfl, h⟩
theorem cX3_add_ {d : Nat} {o : Nat} {x1 : Int32} {μ : zMem} {KV : zMem → Prop} {X : Nat → zMem → Prop} (ho : zsh o = .inr 3) (h : pX3_add d o x1 μ KV X) : zcV (d + 1) mX3_add [.ref o, .int x1] μ KV X :=
  Ex_of (w := 2) mgX3_add.2.2.2.2.2 rfl rfl rfl (by decide) (wX3_add_0 ho h)

def pX3_addValue (d : Nat) (o : Nat) (x1 : Int32) (μ : zMem) (KV : zMem → Prop) (X : Nat → zMem → Prop) : Prop :=
  zcV d mX3_add [.ref o, .int ((-1) - x1)] μ (fun m1 => KV m1) X
set_option maxRecDepth 20000 in
theorem wX3_addValue_0 {d : Nat} {o : Nat} {KV : zMem → Prop} {X : Nat → zMem → Prop} {x1 : Int32} {μ : zMem} (ho : zsh o = .inr 3) (h : pX3_addValue d o x1 μ KV X) : Wr mX3_addValue (d + 1) 0 0 [(0, .ref o), (1, .int x1)] [] μ (kV KV X) := by
  unfold pX3_addValue at h
  refine Wr_aload_n dX3_addValue_0 rfl 0 rfl ?_
  refine Wr_iconstv (v := (-1)) dX3_addValue_1 (by decide) ?_
  refine Wr_iload_n dX3_addValue_2 rfl 1 rfl ?_
  refine Wr_isub dX3_addValue_3 ?_
  refine Wr_cVv [.int ((-1) - x1)] dX3_addValue_4 mlX3_22 mgX3_add rfl mvX3_add (zrv ho _ rfl rfl) rfl rfl (Nat.le_of_ble_eq_true rfl) rfl (zcV.imp h (fun m1 h => ?_) (fun _ _ h => ⟨rfl, h⟩))
  exact Wr_vret dX3_addValue_7 rfl ⟨rfl, h⟩
theorem cX3_addValue_ {d : Nat} {o : Nat} {x1 : Int32} {μ : zMem} {KV : zMem → Prop} {X : Nat → zMem → Prop} (ho : zsh o = .inr 3) (h : pX3_addValue d o x1 μ KV X) : zcV (d + 1) mX3_addValue [.ref o, .int x1] μ KV X :=
  Ex_of (w := 2) mgX3_addValue.2.2.2.2.2 rfl rfl rfl (by decide) (wX3_addValue_0 ho h)

def pX3_addSign (d : Nat) (o : Nat) (x1 : Int32) (μ : zMem) (KV : zMem → Prop) (X : Nat → zMem → Prop) : Prop :=
  zcV d mX3_add [.ref o, .int (-x1)] μ (fun m1 => KV m1) X
set_option maxRecDepth 20000 in
theorem wX3_addSign_0 {d : Nat} {o : Nat} {KV : zMem → Prop} {X : Nat → zMem → Prop} {x1 : Int32} {μ : zMem} (ho : zsh o = .inr 3) (h : pX3_addSign d o x1 μ KV X) : Wr mX3_addSign (d + 1) 0 0 [(0, .ref o), (1, .int x1)] [] μ (kV KV X) := by
  unfold pX3_addSign at h
  refine Wr_aload_n dX3_addSign_0 rfl 0 rfl ?_
  refine Wr_iload_n dX3_addSign_1 rfl 1 rfl ?_
  refine Wr_ineg dX3_addSign_2 ?_
  refine Wr_cVv [.int (-x1)] dX3_addSign_3 mlX3_22 mgX3_add rfl mvX3_add (zrv ho _ rfl rfl) rfl rfl (Nat.le_of_ble_eq_true rfl) rfl (zcV.imp h (fun m1 h => ?_) (fun _ _ h => ⟨rfl, h⟩))
  exact Wr_vret dX3_addSign_6 rfl ⟨rfl, h⟩
theorem cX3_addSign_ {d : Nat} {o : Nat} {x1 : Int32} {μ : zMem} {KV : zMem → Prop} {X : Nat → zMem → Prop} (ho : zsh o = .inr 3) (h : pX3_addSign d o x1 μ KV X) : zcV (d + 1) mX3_addSign [.ref o, .int x1] μ KV X :=
  Ex_of (w := 2) mgX3_addSign.2.2.2.2.2 rfl rfl rfl (by decide) (wX3_addSign_0 ho h)

def pX3_worth_64 (d : Nat) (o : Nat) (r1 : Nat) (x2 : Int32) (x3 : Int32) (x4 : Int32) (x5 : Int32) (y0 : Int32) (y1 : Int32) (μ : zMem) (KI : Int32 → zMem → Prop) (X : Nat → zMem → Prop) (C6 : Int32 → Int32 → Int32 → Int32 → zMem → Prop) : Prop :=
  (vp_in y1 40) ∧ ∀ m1 : zMem, m1 = zw μ (o + 2) y1.toNatClampNeg y0 → ∀ v2 : Int32, v2 = x4 + 1 → ∀ v3 : Int32, v3 = x5 + 1 → C6 x2 x3 v2 v3 m1
set_option maxRecDepth 20000 in
theorem wX3_worth_64 {d : Nat} {o : Nat} {r1 : Nat} {KI : Int32 → zMem → Prop} {X : Nat → zMem → Prop} {C6 : Int32 → Int32 → Int32 → Int32 → zMem → Prop} {x2 : Int32} {x3 : Int32} {x4 : Int32} {x5 : Int32} {y0 : Int32} {y1 : Int32} {μ : zMem} (ho : zsh o = .inr 3) (hr1 : zsh r1 = .inr 1) (hC6 : ∀ (x2 : Int32) (x3 : Int32) (x4 : Int32) (x5 : Int32) (μ : zMem), C6 x2 x3 x4 x5 μ → Wr mX3_worth (d + 1) 0 6 [(0, .ref o), (1, .ref r1), (2, .int x2), (3, .int x3), (4, .int x4), (5, .int x5)] [] μ (kI KI X)) (h : pX3_worth_64 d o r1 x2 x3 x4 x5 y0 y1 μ KI X C6) : Wr mX3_worth (d + 1) 0 64 [(0, .ref o), (1, .ref r1), (2, .int x2), (3, .int x3), (4, .int x4), (5, .int x5)] [.int y0, .int y1, .ref (o + 2)] μ (kI KI X) := by
  unfold pX3_worth_64 at h
  obtain ⟨him1, h⟩ := h
  obtain ⟨m1, em1⟩ : ∃ z : zMem, z = zw μ (o + 2) y1.toNatClampNeg y0 := ⟨_, rfl⟩
  have h := h m1 em1
  refine Wr_iast dX3_worth_64 (zo3_2 ho) him1 ?_
  refine Wr_mu em1 ?_
  obtain ⟨v2, ev2⟩ : ∃ z : Int32, z = x4 + 1 := ⟨_, rfl⟩
  have h := h v2 ev2
  refine Wr_iinc (v := v2) dX3_worth_65 (q := 4) rfl (by rw [ev2]; rfl) (by decide) rfl ?_
  refine Wr_goto 152 dX3_worth_68 (by decide) ?_
  obtain ⟨v3, ev3⟩ : ∃ z : Int32, z = x5 + 1 := ⟨_, rfl⟩
  have h := h v3 ev3
  refine Wr_iinc (v := v3) dX3_worth_152 (q := 5) rfl (by rw [ev3]; rfl) (by decide) rfl ?_
  refine Wr_goto 6 dX3_worth_155 (by decide) ?_
  refine zsub [0, 1, 2, 3, 4, 5] rfl ?_
  exact hC6 _ _ _ _ _ h
def pX3_worth_113 (d : Nat) (o : Nat) (r1 : Nat) (x2 : Int32) (x3 : Int32) (x4 : Int32) (x5 : Int32) (x6 : Int32) (μ : zMem) (KI : Int32 → zMem → Prop) (X : Nat → zMem → Prop) (C6 : Int32 → Int32 → Int32 → Int32 → zMem → Prop) : Prop :=
  ((x4 < 2 → ∀ v1 : Int32, v1 = x5 + 1 → C6 x2 x3 x4 v1 μ) ∧
  (¬ (x4 < 2) → ∀ v2 : Int32, v2 = x4 + (-1) → (vp_in (v2 - 1) 40) ∧ (vp_in v2 40) ∧ zcI d mX3_join [.int x6, .int (μ (o + 2) (v2 - 1).toNatClampNeg), .int (μ (o + 2) v2.toNatClampNeg)] μ (fun u4 m3 => (vp_in (v2 - 1) 40) ∧ ∀ m5 : zMem, m5 = zw m3 (o + 2) (v2 - 1).toNatClampNeg u4 → ∀ v6 : Int32, v6 = x5 + 1 → C6 x2 x3 v2 v6 m5) X))
set_option maxRecDepth 20000 in
theorem wX3_worth_113 {d : Nat} {o : Nat} {r1 : Nat} {KI : Int32 → zMem → Prop} {X : Nat → zMem → Prop} {C6 : Int32 → Int32 → Int32 → Int32 → zMem → Prop} {x2 : Int32} {x3 : Int32} {x4 : Int32} {x5 : Int32} {x6 : Int32} {μ : zMem} (ho : zsh o = .inr 3) (hr1 : zsh r1 = .inr 1) (hC6 : ∀ (x2 : Int32) (x3 : Int32) (x4 : Int32) (x5 : Int32) (μ : zMem), C6 x2 x3 x4 x5 μ → Wr mX3_worth (d + 1) 0 6 [(0, .ref o), (1, .ref r1), (2, .int x2), (3, .int x3), (4, .int x4), (5, .int x5)] [] μ (kI KI X)) (h : pX3_worth_113 d o r1 x2 x3 x4 x5 x6 μ KI X C6) : Wr mX3_worth (d + 1) 0 113 [(0, .ref o), (1, .ref r1), (2, .int x2), (3, .int x3), (4, .int x4), (5, .int x5), (6, .int x6)] [] μ (kI KI X) := by
  unfold pX3_worth_113 at h
  refine Wr_iload dX3_worth_113 4 rfl ?_
  refine Wr_iconstv (v := 2) dX3_worth_115 (by decide) ?_
  refine Wr_icmp_lt 152 dX3_worth_116 (by decide) (fun hc => ?_) (fun hc => ?_)
  · have h := h.1 hc
    obtain ⟨v1, ev1⟩ : ∃ z : Int32, z = x5 + 1 := ⟨_, rfl⟩
    have h := h v1 ev1
    refine Wr_iinc (v := v1) dX3_worth_152 (q := 5) rfl (by rw [ev1]; rfl) (by decide) rfl ?_
    refine Wr_goto 6 dX3_worth_155 (by decide) ?_
    refine zsub [0, 1, 2, 3, 4, 5] rfl ?_
    exact hC6 _ _ _ _ _ h
  · have h := h.2 hc
    obtain ⟨v2, ev2⟩ : ∃ z : Int32, z = x4 + (-1) := ⟨_, rfl⟩
    have h := h v2 ev2
    refine Wr_iinc (v := v2) dX3_worth_119 (q := 4) rfl (by rw [ev2]; rfl) (by decide) rfl ?_
    refine Wr_aload_n dX3_worth_122 rfl 1 rfl ?_
    refine Wr_getR 2 dX3_worth_123 flX3_19 ho rfl (by decide) ?_
    refine Wr_iload dX3_worth_126 0 rfl ?_
    refine Wr_iconstv (v := 1) dX3_worth_128 (by decide) ?_
    refine Wr_isub dX3_worth_129 ?_
    refine Wr_iload dX3_worth_130 6 rfl ?_
    refine Wr_aload_n dX3_worth_132 rfl 1 rfl ?_
    refine Wr_getR 2 dX3_worth_133 flX3_19 ho rfl (by decide) ?_
    refine Wr_iload dX3_worth_136 0 rfl ?_
    refine Wr_iconstv (v := 1) dX3_worth_138 (by decide) ?_
    refine Wr_isub dX3_worth_139 ?_
    obtain ⟨hi, h⟩ := h
    refine Wr_iald dX3_worth_140 (zo3_2 ho) hi ?_
    refine Wr_aload_n dX3_worth_141 rfl 1 rfl ?_
    refine Wr_getR 2 dX3_worth_142 flX3_19 ho rfl (by decide) ?_
    refine Wr_iload dX3_worth_145 0 rfl ?_
    obtain ⟨hi, h⟩ := h
    refine Wr_iald dX3_worth_147 (zo3_2 ho) hi ?_
    refine Wr_cSi [.int x6, .int (μ (o + 2) (v2 - 1).toNatClampNeg), .int (μ (o + 2) v2.toNatClampNeg)] dX3_worth_148 mlX3_30 mgX3_join rfl msX3_join  rfl rfl (Nat.le_of_ble_eq_true rfl) rfl (zcI.imp h (fun u4 m3 h => ?_) (fun _ _ h => ⟨rfl, h⟩))
    obtain ⟨him5, h⟩ := h
    obtain ⟨m5, em5⟩ : ∃ z : zMem, z = zw m3 (o + 2) (v2 - 1).toNatClampNeg u4 := ⟨_, rfl⟩
    have h := h m5 em5
    refine Wr_iast dX3_worth_151 (zo3_2 ho) him5 ?_
    refine Wr_mu em5 ?_
    obtain ⟨v6, ev6⟩ : ∃ z : Int32, z = x5 + 1 := ⟨_, rfl⟩
    have h := h v6 ev6
    refine Wr_iinc (v := v6) dX3_worth_152 (q := 5) rfl (by rw [ev6]; rfl) (by decide) rfl ?_
    refine Wr_goto 6 dX3_worth_155 (by decide) ?_
    refine zsub [0, 1, 2, 3, 4, 5] rfl ?_
    exact hC6 _ _ _ _ _ h
def pX3_worth_71 (d : Nat) (o : Nat) (r1 : Nat) (x2 : Int32) (x3 : Int32) (x4 : Int32) (x5 : Int32) (x6 : Int32) (μ : zMem) (KI : Int32 → zMem → Prop) (X : Nat → zMem → Prop) (C6 : Int32 → Int32 → Int32 → Int32 → zMem → Prop) : Prop :=
  ((x6 = (-100) → ((x4 < 1 → pX3_worth_113 d o r1 x2 x3 x4 x5 x6 μ KI X C6) ∧
    (¬ (x4 < 1) → (vp_in (x4 - 1) 40) ∧ (vp_in (x4 - 1) 40) ∧ ∀ m1 : zMem, m1 = zw μ (o + 2) (x4 - 1).toNatClampNeg (if μ (o + 2) (x4 - 1).toNatClampNeg = 0 then 1 else 0) → ∀ v2 : Int32, v2 = x5 + 1 → C6 x2 x3 x4 v2 m1))) ∧
  (¬ (x6 = (-100)) → pX3_worth_113 d o r1 x2 x3 x4 x5 x6 μ KI X C6))
set_option maxRecDepth 20000 in
theorem wX3_worth_71 {d : Nat} {o : Nat} {r1 : Nat} {KI : Int32 → zMem → Prop} {X : Nat → zMem → Prop} {C6 : Int32 → Int32 → Int32 → Int32 → zMem → Prop} {x2 : Int32} {x3 : Int32} {x4 : Int32} {x5 : Int32} {x6 : Int32} {μ : zMem} (ho : zsh o = .inr 3) (hr1 : zsh r1 = .inr 1) (hC6 : ∀ (x2 : Int32) (x3 : Int32) (x4 : Int32) (x5 : Int32) (μ : zMem), C6 x2 x3 x4 x5 μ → Wr mX3_worth (d + 1) 0 6 [(0, .ref o), (1, .ref r1), (2, .int x2), (3, .int x3), (4, .int x4), (5, .int x5)] [] μ (kI KI X)) (h : pX3_worth_71 d o r1 x2 x3 x4 x5 x6 μ KI X C6) : Wr mX3_worth (d + 1) 0 71 [(0, .ref o), (1, .ref r1), (2, .int x2), (3, .int x3), (4, .int x4), (5, .int x5), (6, .int x6)] [] μ (kI KI X) := by
  unfold pX3_worth_71 at h
  refine Wr_iload dX3_worth_71 6 rfl ?_
  refine Wr_bipush (v := (-100)) dX3_worth_73 (by decide) ?_
  refine Wr_icmp_ne 113 dX3_worth_75 (by decide) (fun hc => ?_) (fun hc => ?_)
  · have h := h.2 hc
    refine zsub [0, 1, 2, 3, 4, 5, 6] rfl ?_
    exact wX3_worth_113 ho hr1 hC6 h
  · have h := h.1 hc
    refine Wr_iload dX3_worth_78 4 rfl ?_
    refine Wr_iconstv (v := 1) dX3_worth_80 (by decide) ?_
    refine Wr_icmp_lt 113 dX3_worth_81 (by decide) (fun hc => ?_) (fun hc => ?_)
    · have h := h.1 hc
      refine zsub [0, 1, 2, 3, 4, 5, 6] rfl ?_
      exact wX3_worth_113 ho hr1 hC6 h
    · have h := h.2 hc
      refine Wr_aload_n dX3_worth_84 rfl 0 rfl ?_
      refine Wr_getR 2 dX3_worth_85 flX3_19 ho rfl (by decide) ?_
      refine Wr_iload dX3_worth_88 4 rfl ?_
      refine Wr_iconstv (v := 1) dX3_worth_90 (by decide) ?_
      refine Wr_isub dX3_worth_91 ?_
      refine Wr_aload_n dX3_worth_92 rfl 0 rfl ?_
      refine Wr_getR 2 dX3_worth_93 flX3_19 ho rfl (by decide) ?_
      refine Wr_iload dX3_worth_96 4 rfl ?_
      refine Wr_iconstv (v := 1) dX3_worth_98 (by decide) ?_
      refine Wr_isub dX3_worth_99 ?_
      obtain ⟨hi, h⟩ := h
      refine Wr_iald dX3_worth_100 (zo3_2 ho) hi ?_
      have hj1 : Wr mX3_worth (d + 1) 0 109 [(0, .ref o), (1, .ref r1), (2, .int x2), (3, .int x3), (4, .int x4), (5, .int x5), (6, .int x6)] [.int (if μ (o + 2) (x4 - 1).toNatClampNeg = 0 then 1 else 0), .int (x4 - 1), .ref (o + 2)] μ (kI KI X) := by
        obtain ⟨him1, h⟩ := h
        obtain ⟨m1, em1⟩ : ∃ z : zMem, z = zw μ (o + 2) (x4 - 1).toNatClampNeg (if μ (o + 2) (x4 - 1).toNatClampNeg = 0 then 1 else 0) := ⟨_, rfl⟩
        have h := h m1 em1
        refine Wr_iast dX3_worth_109 (zo3_2 ho) him1 ?_
        refine Wr_mu em1 ?_
        refine Wr_goto 152 dX3_worth_110 (by decide) ?_
        obtain ⟨v2, ev2⟩ : ∃ z : Int32, z = x5 + 1 := ⟨_, rfl⟩
        have h := h v2 ev2
        refine Wr_iinc (v := v2) dX3_worth_152 (q := 5) rfl (by rw [ev2]; rfl) (by decide) rfl ?_
        refine Wr_goto 6 dX3_worth_155 (by decide) ?_
        refine zsub [0, 1, 2, 3, 4, 5] rfl ?_
        exact hC6 _ _ _ _ _ h
      refine Wr_if_ne 108 dX3_worth_101 (by decide) (fun hc0 => ?_) (fun hc0 => ?_)
      · skip
        refine Wr_iconstv (v := 0) dX3_worth_108 (by decide) ?_
        exact Wr_top (if_neg hc0) hj1
      · skip
        refine Wr_iconstv (v := 1) dX3_worth_104 (by decide) ?_
        refine Wr_goto 109 dX3_worth_105 (by decide) ?_
        exact Wr_top (if_pos hc0) hj1
def pX3_worth_6 : Nat → Nat → Nat → Nat → Int32 → Int32 → Int32 → Int32 → zMem → (Int32 → zMem → Prop) → (Nat → zMem → Prop) → Prop
  | 0, _, _, _, _, _, _, _, _, _, _ => False
  | n + 1, d, o, r1, x2, x3, x4, x5, μ, KI, X =>
  ((μ o 1 ≤ x5 → KI (μ (o + 2) 0) μ) ∧
  (¬ (μ o 1 ≤ x5) → (vp_in x5 700) ∧ ∀ v1 : Int32, v1 = μ (o + 1) x5.toNatClampNeg → ((v1 < (-8) → pX3_worth_71 d o r1 x2 x3 x4 x5 v1 μ KI X (fun z0 z1 z2 z3 m => pX3_worth_6 n d o r1 z0 z1 z2 z3 m KI X)) ∧
    (¬ (v1 < (-8)) → ((40 ≤ x4 → pX3_worth_71 d o r1 x2 x3 x4 x5 v1 μ KI X (fun z0 z1 z2 z3 m => pX3_worth_6 n d o r1 z0 z1 z2 z3 m KI X)) ∧
      (¬ (40 ≤ x4) → ((v1 < 0 → zcI d mX3_valueOf [.int ((-1) - v1), .ref r1, .int x2, .int x3] μ (fun u3 m2 => pX3_worth_64 d o r1 x2 x3 x4 x5 u3 x4 m2 KI X (fun z0 z1 z2 z3 m => pX3_worth_6 n d o r1 z0 z1 z2 z3 m KI X)) X) ∧
        (¬ (v1 < 0) → pX3_worth_64 d o r1 x2 x3 x4 x5 v1 x4 μ KI X (fun z0 z1 z2 z3 m => pX3_worth_6 n d o r1 z0 z1 z2 z3 m KI X)))))))))
set_option maxRecDepth 20000 in
theorem wX3_worth_6 {d : Nat} {o : Nat} {r1 : Nat} {KI : Int32 → zMem → Prop} {X : Nat → zMem → Prop} (ho : zsh o = .inr 3) (hr1 : zsh r1 = .inr 1) : ∀ (n : Nat) (x2 : Int32) (x3 : Int32) (x4 : Int32) (x5 : Int32) (μ : zMem), pX3_worth_6 n d o r1 x2 x3 x4 x5 μ KI X → Wr mX3_worth (d + 1) 0 6 [(0, .ref o), (1, .ref r1), (2, .int x2), (3, .int x3), (4, .int x4), (5, .int x5)] [] μ (kI KI X) := by
  intro n
  induction n with
  | zero =>
    intro x2 x3 x4 x5 μ h
    exact absurd h id
  | succ n ih =>
    intro x2 x3 x4 x5 μ h
    unfold pX3_worth_6 at h
    refine Wr_iload dX3_worth_6 5 rfl ?_
    refine Wr_aload_n dX3_worth_8 rfl 0 rfl ?_
    refine Wr_getI dX3_worth_9 flX3_15 ho rfl ?_
    refine Wr_icmp_ge 158 dX3_worth_12 (by decide) (fun hc => ?_) (fun hc => ?_)
    · have h := h.1 hc
      refine Wr_aload_n dX3_worth_158 rfl 0 rfl ?_
      refine Wr_getR 2 dX3_worth_159 flX3_19 ho rfl (by decide) ?_
      refine Wr_iconstv (v := 0) dX3_worth_162 (by decide) ?_
      refine Wr_iald dX3_worth_163 (zo3_2 ho) (by unfold vp_in; decide) ?_
      exact Wr_iret .int dX3_worth_164 rfl rfl ⟨rfl, h⟩
    · have h := h.2 hc
      refine Wr_aload_n dX3_worth_15 rfl 0 rfl ?_
      refine Wr_getR 1 dX3_worth_16 flX3_9 ho rfl (by decide) ?_
      refine Wr_iload dX3_worth_19 5 rfl ?_
      obtain ⟨hi, h⟩ := h
      refine Wr_iald dX3_worth_21 (zo3_0 ho) hi ?_
      obtain ⟨v1, ev1⟩ : ∃ z : Int32, z = μ (o + 1) x5.toNatClampNeg := ⟨_, rfl⟩
      have h := h v1 ev1
      refine Wr_top ev1 ?_
      refine Wr_istore dX3_worth_22 (by decide) rfl ?_
      refine Wr_iload dX3_worth_24 0 rfl ?_
      refine Wr_bipush (v := (-8)) dX3_worth_26 (by decide) ?_
      refine Wr_icmp_lt 71 dX3_worth_28 (by decide) (fun hc => ?_) (fun hc => ?_)
      · have h := h.1 hc
        refine zsub [0, 1, 2, 3, 4, 5, 6] rfl ?_
        exact wX3_worth_71 ho hr1 (fun z0 z1 z2 z3 m h => ih z0 z1 z2 z3 m h) h
      · have h := h.2 hc
        refine Wr_iload dX3_worth_31 5 rfl ?_
        refine Wr_bipush (v := 40) dX3_worth_33 (by decide) ?_
        refine Wr_icmp_ge 71 dX3_worth_35 (by decide) (fun hc => ?_) (fun hc => ?_)
        · have h := h.1 hc
          refine zsub [0, 1, 2, 3, 4, 5, 6] rfl ?_
          exact wX3_worth_71 ho hr1 (fun z0 z1 z2 z3 m h => ih z0 z1 z2 z3 m h) h
        · have h := h.2 hc
          refine Wr_aload_n dX3_worth_38 rfl 1 rfl ?_
          refine Wr_getR 2 dX3_worth_39 flX3_19 ho rfl (by decide) ?_
          refine Wr_iload dX3_worth_42 5 rfl ?_
          refine Wr_iload dX3_worth_44 0 rfl ?_
          refine Wr_if_lt 54 dX3_worth_46 (by decide) (fun hc => ?_) (fun hc => ?_)
          · have h := h.1 hc
            refine Wr_iconstv (v := (-1)) dX3_worth_54 (by decide) ?_
            refine Wr_iload dX3_worth_55 0 rfl ?_
            refine Wr_isub dX3_worth_57 ?_
            refine Wr_aload_n dX3_worth_58 rfl 2 rfl ?_
            refine Wr_iload_n dX3_worth_59 rfl 3 rfl ?_
            refine Wr_iload_n dX3_worth_60 rfl 4 rfl ?_
            refine Wr_cSi [.int ((-1) - v1), .ref r1, .int x2, .int x3] dX3_worth_61 mlX3_26 mgX3_valueOf rfl msX3_valueOf  rfl rfl (Nat.le_of_ble_eq_true rfl) rfl (zcI.imp h (fun u3 m2 h => ?_) (fun _ _ h => ⟨rfl, h⟩))
            refine zsub [0, 1, 2, 3, 4, 5] rfl ?_
            exact wX3_worth_64 ho hr1 (fun z0 z1 z2 z3 m h => ih z0 z1 z2 z3 m h) h
          · have h := h.2 hc
            refine Wr_iload dX3_worth_49 0 rfl ?_
            refine Wr_goto 64 dX3_worth_51 (by decide) ?_
            refine zsub [0, 1, 2, 3, 4, 5] rfl ?_
            exact wX3_worth_64 ho hr1 (fun z0 z1 z2 z3 m h => ih z0 z1 z2 z3 m h) h
def pX3_worth (d : Nat) (o : Nat) (r1 : Nat) (x2 : Int32) (x3 : Int32) (μ : zMem) (KI : Int32 → zMem → Prop) (X : Nat → zMem → Prop) : Prop :=
  ∃ n2 : Nat, pX3_worth_6 n2 d o r1 x2 x3 0 0 μ KI X
set_option maxRecDepth 20000 in
theorem wX3_worth_0 {d : Nat} {o : Nat} {r1 : Nat} {KI : Int32 → zMem → Prop} {X : Nat → zMem → Prop} {x2 : Int32} {x3 : Int32} {μ : zMem} (ho : zsh o = .inr 3) (hr1 : zsh r1 = .inr 1) (h : pX3_worth d o r1 x2 x3 μ KI X) : Wr mX3_worth (d + 1) 0 0 [(0, .ref o), (1, .ref r1), (2, .int x2), (3, .int x3)] [] μ (kI KI X) := by
  unfold pX3_worth at h
  refine Wr_iconstv (v := 0) dX3_worth_0 (by decide) ?_
  refine Wr_istore dX3_worth_1 (by decide) rfl ?_
  refine Wr_iconstv (v := 0) dX3_worth_3 (by decide) ?_
  refine Wr_istore dX3_worth_4 (by decide) rfl ?_
  refine zsub [0, 1, 2, 3, 4, 5] rfl ?_
  obtain ⟨n9, h⟩ := h
  exact wX3_worth_6 ho hr1 n9 _ _ _ _ _ h
theorem cX3_worth_ {d : Nat} {o : Nat} {r1 : Nat} {x2 : Int32} {x3 : Int32} {μ : zMem} {KI : Int32 → zMem → Prop} {X : Nat → zMem → Prop} (ho : zsh o = .inr 3) (hr1 : zsh r1 = .inr 1) (h : pX3_worth d o r1 x2 x3 μ KI X) : zcI (d + 1) mX3_worth [.ref o, .ref r1, .int x2, .int x3] μ KI X :=
  Ex_of (w := 4) mgX3_worth.2.2.2.2.2 rfl rfl rfl (by decide) (wX3_worth_0 ho hr1 h)

def pX3_valueOf (d : Nat) (r1 : Nat) (x0 : Int32) (x2 : Int32) (x3 : Int32) (μ : zMem) (KI : Int32 → zMem → Prop) (X : Nat → zMem → Prop) : Prop :=
  ((x0 = 0 → (vp_in x2 6) ∧ KI (μ (r1 + 5) x2.toNatClampNeg) μ) ∧
  (x0 = 1 → zcI d mX1_weight [.ref r1, .int x2] μ (fun u2 m1 => KI u2 m1) X) ∧
  (x0 = 2 → (vp_in x2 6) ∧ KI (μ (r1 + 4) x2.toNatClampNeg) μ) ∧
  (x0 = 3 → (vp_in x2 6) ∧ KI (μ (r1 + 10) x2.toNatClampNeg) μ) ∧
  (x0 = 4 → (vp_in x2 6) ∧ KI (μ (r1 + 7) x2.toNatClampNeg) μ) ∧
  (x0 = 5 → KI (x3 - x3 / 24 * 24) μ) ∧
  (x0 = 6 → KI (x3 / 24) μ) ∧
  (¬ x0 = 0 → ¬ x0 = 1 → ¬ x0 = 2 → ¬ x0 = 3 → ¬ x0 = 4 → ¬ x0 = 5 → ¬ x0 = 6 → (vp_in x2 6) ∧ KI (μ (r1 + 6) x2.toNatClampNeg) μ))
set_option maxRecDepth 20000 in
theorem wX3_valueOf_0 {d : Nat} {r1 : Nat} {KI : Int32 → zMem → Prop} {X : Nat → zMem → Prop} {x0 : Int32} {x2 : Int32} {x3 : Int32} {μ : zMem} (hr1 : zsh r1 = .inr 1) (h : pX3_valueOf d r1 x0 x2 x3 μ KI X) : Wr mX3_valueOf (d + 1) 0 0 [(0, .int x0), (1, .ref r1), (2, .int x2), (3, .int x3)] [] μ (kI KI X) := by
  unfold pX3_valueOf at h
  refine Wr_iload_n dX3_valueOf_0 rfl 0 rfl ?_
  by_cases hq0 : x0 = 0
  · have h := h.1 hq0
    refine Wr_tswC 0 43 44 hq0 dX3_valueOf_1 (by decide) (by decide) (by decide) (by decide) ?_
    refine Wr_aload_n dX3_valueOf_44 rfl 1 rfl ?_
    refine Wr_getR 5 dX3_valueOf_45 flX3_34 hr1 rfl (by decide) ?_
    refine Wr_iload_n dX3_valueOf_48 rfl 2 rfl ?_
    obtain ⟨hi, h⟩ := h
    refine Wr_iald dX3_valueOf_49 (zo1_5 hr1) hi ?_
    exact Wr_iret .int dX3_valueOf_50 rfl rfl ⟨rfl, h⟩
  have h := h.2
  by_cases hq1 : x0 = 1
  · have h := h.1 hq1
    refine Wr_tswC 1 50 51 hq1 dX3_valueOf_1 (by decide) (by decide) (by decide) (by decide) ?_
    refine Wr_aload_n dX3_valueOf_51 rfl 1 rfl ?_
    refine Wr_iload_n dX3_valueOf_52 rfl 2 rfl ?_
    refine Wr_cVi [.int x2] dX3_valueOf_53 mlX3_39 mgX1_weight rfl mvX1_weight (zrv hr1 _ rfl rfl) rfl rfl (Nat.le_of_ble_eq_true rfl) rfl (zcI.imp h (fun u2 m1 h => ?_) (fun _ _ h => ⟨rfl, h⟩))
    exact Wr_iret .int dX3_valueOf_56 rfl rfl ⟨rfl, h⟩
  have h := h.2
  by_cases hq2 : x0 = 2
  · have h := h.1 hq2
    refine Wr_tswC 2 56 57 hq2 dX3_valueOf_1 (by decide) (by decide) (by decide) (by decide) ?_
    refine Wr_aload_n dX3_valueOf_57 rfl 1 rfl ?_
    refine Wr_getR 4 dX3_valueOf_58 flX3_43 hr1 rfl (by decide) ?_
    refine Wr_iload_n dX3_valueOf_61 rfl 2 rfl ?_
    obtain ⟨hi, h⟩ := h
    refine Wr_iald dX3_valueOf_62 (zo1_4 hr1) hi ?_
    exact Wr_iret .int dX3_valueOf_63 rfl rfl ⟨rfl, h⟩
  have h := h.2
  by_cases hq3 : x0 = 3
  · have h := h.1 hq3
    refine Wr_tswC 3 63 64 hq3 dX3_valueOf_1 (by decide) (by decide) (by decide) (by decide) ?_
    refine Wr_aload_n dX3_valueOf_64 rfl 1 rfl ?_
    refine Wr_getR 10 dX3_valueOf_65 flX3_46 hr1 rfl (by decide) ?_
    refine Wr_iload_n dX3_valueOf_68 rfl 2 rfl ?_
    obtain ⟨hi, h⟩ := h
    refine Wr_iald dX3_valueOf_69 (zo1_10 hr1) hi ?_
    exact Wr_iret .int dX3_valueOf_70 rfl rfl ⟨rfl, h⟩
  have h := h.2
  by_cases hq4 : x0 = 4
  · have h := h.1 hq4
    refine Wr_tswC 4 70 71 hq4 dX3_valueOf_1 (by decide) (by decide) (by decide) (by decide) ?_
    refine Wr_aload_n dX3_valueOf_71 rfl 1 rfl ?_
    refine Wr_getR 7 dX3_valueOf_72 flX3_49 hr1 rfl (by decide) ?_
    refine Wr_iload_n dX3_valueOf_75 rfl 2 rfl ?_
    obtain ⟨hi, h⟩ := h
    refine Wr_iald dX3_valueOf_76 (zo1_7 hr1) hi ?_
    exact Wr_iret .int dX3_valueOf_77 rfl rfl ⟨rfl, h⟩
  have h := h.2
  by_cases hq5 : x0 = 5
  · have h := h.1 hq5
    refine Wr_tswC 5 77 78 hq5 dX3_valueOf_1 (by decide) (by decide) (by decide) (by decide) ?_
    refine Wr_iload_n dX3_valueOf_78 rfl 3 rfl ?_
    refine Wr_bipush (v := 24) dX3_valueOf_79 (by decide) ?_
    refine Wr_irem dX3_valueOf_81 (by decide) ?_
    exact Wr_iret .int dX3_valueOf_82 rfl rfl ⟨rfl, h⟩
  have h := h.2
  by_cases hq6 : x0 = 6
  · have h := h.1 hq6
    refine Wr_tswC 6 82 83 hq6 dX3_valueOf_1 (by decide) (by decide) (by decide) (by decide) ?_
    refine Wr_iload_n dX3_valueOf_83 rfl 3 rfl ?_
    refine Wr_bipush (v := 24) dX3_valueOf_84 (by decide) ?_
    refine Wr_idiv dX3_valueOf_86 (by decide) ?_
    exact Wr_iret .int dX3_valueOf_87 rfl rfl ⟨rfl, h⟩
  have h := h.2
  have h := h hq0 hq1 hq2 hq3 hq4 hq5 hq6
  refine Wr_tswD 88 (by have := zne hq0 (c := 0) (by decide); have := zne hq1 (c := 1) (by decide); have := zne hq2 (c := 2) (by decide); have := zne hq3 (c := 3) (by decide); have := zne hq4 (c := 4) (by decide); have := zne hq5 (c := 5) (by decide); have := zne hq6 (c := 6) (by decide); omega) dX3_valueOf_1 (by decide) ?_
  refine Wr_aload_n dX3_valueOf_88 rfl 1 rfl ?_
  refine Wr_getR 6 dX3_valueOf_89 flX3_52 hr1 rfl (by decide) ?_
  refine Wr_iload_n dX3_valueOf_92 rfl 2 rfl ?_
  obtain ⟨hi, h⟩ := h
  refine Wr_iald dX3_valueOf_93 (zo1_6 hr1) hi ?_
  exact Wr_iret .int dX3_valueOf_94 rfl rfl ⟨rfl, h⟩
theorem cX3_valueOf_ {d : Nat} {r1 : Nat} {x0 : Int32} {x2 : Int32} {x3 : Int32} {μ : zMem} {KI : Int32 → zMem → Prop} {X : Nat → zMem → Prop} (hr1 : zsh r1 = .inr 1) (h : pX3_valueOf d r1 x0 x2 x3 μ KI X) : zcI (d + 1) mX3_valueOf [.int x0, .ref r1, .int x2, .int x3] μ KI X :=
  Ex_of (w := 4) mgX3_valueOf.2.2.2.2.2 rfl rfl rfl (by decide) (wX3_valueOf_0 hr1 h)

def pX3_join (d : Nat) (x0 : Int32) (x1 : Int32) (x2 : Int32) (μ : zMem) (KI : Int32 → zMem → Prop) (X : Nat → zMem → Prop) : Prop :=
  ((x0 = (-101) → KI (if x1 = 0 then 0 else (if x2 = 0 then 0 else 1)) μ) ∧
  (x0 = (-61) → KI (if x1 = x2 then 1 else 0) μ) ∧
  (x0 = (-60) → KI (if x2 ≤ x1 then 0 else 1) μ) ∧
  (x0 = (-47) → ((x2 = 0 → KI 0 μ) ∧
    (¬ (x2 = 0) → (¬ x2 = 0) ∧ KI (x1 / x2) μ))) ∧
  (x0 = (-45) → KI (x1 - x2) μ) ∧
  (x0 = (-43) → KI (x1 + x2) μ) ∧
  (x0 = (-42) → KI (x1 * x2) μ) ∧
  (¬ x0 = (-101) → ¬ x0 = (-61) → ¬ x0 = (-60) → ¬ x0 = (-47) → ¬ x0 = (-45) → ¬ x0 = (-43) → ¬ x0 = (-42) → KI (if x1 = 0 then (if x2 = 0 then 0 else 1) else 1) μ))
set_option maxRecDepth 20000 in
theorem wX3_join_0 {d : Nat} {KI : Int32 → zMem → Prop} {X : Nat → zMem → Prop} {x0 : Int32} {x1 : Int32} {x2 : Int32} {μ : zMem} (h : pX3_join d x0 x1 x2 μ KI X) : Wr mX3_join (d + 1) 0 0 [(0, .int x0), (1, .int x1), (2, .int x2)] [] μ (kI KI X) := by
  unfold pX3_join at h
  refine Wr_iload_n dX3_join_0 rfl 0 rfl ?_
  by_cases hq0 : x0 = (-101)
  · have h := h.1 hq0
    refine Wr_lswC (-101) 113 114 hq0 dX3_join_1 (by decide) (by decide) (by decide) ?_
    refine Wr_iload_n dX3_join_114 rfl 1 rfl ?_
    have hj1 : Wr mX3_join (d + 1) 0 127 [(0, .int x0), (1, .int x1), (2, .int x2)] [.int (if x1 = 0 then 0 else (if x2 = 0 then 0 else 1))] μ (kI KI X) := by
      exact Wr_iret .int dX3_join_127 rfl rfl ⟨rfl, h⟩
    refine Wr_if_eq 126 dX3_join_115 (by decide) (fun hc0 => ?_) (fun hc0 => ?_)
    · skip
      refine Wr_iconstv (v := 0) dX3_join_126 (by decide) ?_
      exact Wr_top (if_pos hc0) hj1
    · skip
      refine Wr_iload_n dX3_join_118 rfl 2 rfl ?_
      refine Wr_if_eq 126 dX3_join_119 (by decide) (fun hc1 => ?_) (fun hc1 => ?_)
      · skip
        refine Wr_iconstv (v := 0) dX3_join_126 (by decide) ?_
        exact Wr_top ((if_neg hc0).trans (if_pos hc1)) hj1
      · skip
        refine Wr_iconstv (v := 1) dX3_join_122 (by decide) ?_
        refine Wr_goto 127 dX3_join_123 (by decide) ?_
        exact Wr_top ((if_neg hc0).trans (if_neg hc1)) hj1
  have h := h.2
  by_cases hq1 : x0 = (-61)
  · have h := h.1 hq1
    refine Wr_lswC (-61) 102 103 hq1 dX3_join_1 (by decide) (by decide) (by decide) ?_
    refine Wr_iload_n dX3_join_103 rfl 1 rfl ?_
    refine Wr_iload_n dX3_join_104 rfl 2 rfl ?_
    have hj2 : Wr mX3_join (d + 1) 0 113 [(0, .int x0), (1, .int x1), (2, .int x2)] [.int (if x1 = x2 then 1 else 0)] μ (kI KI X) := by
      exact Wr_iret .int dX3_join_113 rfl rfl ⟨rfl, h⟩
    refine Wr_icmp_ne 112 dX3_join_105 (by decide) (fun hc0 => ?_) (fun hc0 => ?_)
    · skip
      refine Wr_iconstv (v := 0) dX3_join_112 (by decide) ?_
      exact Wr_top (if_neg hc0) hj2
    · skip
      refine Wr_iconstv (v := 1) dX3_join_108 (by decide) ?_
      refine Wr_goto 113 dX3_join_109 (by decide) ?_
      exact Wr_top (if_pos hc0) hj2
  have h := h.2
  by_cases hq2 : x0 = (-60)
  · have h := h.1 hq2
    refine Wr_lswC (-60) 91 92 hq2 dX3_join_1 (by decide) (by decide) (by decide) ?_
    refine Wr_iload_n dX3_join_92 rfl 1 rfl ?_
    refine Wr_iload_n dX3_join_93 rfl 2 rfl ?_
    have hj3 : Wr mX3_join (d + 1) 0 102 [(0, .int x0), (1, .int x1), (2, .int x2)] [.int (if x2 ≤ x1 then 0 else 1)] μ (kI KI X) := by
      exact Wr_iret .int dX3_join_102 rfl rfl ⟨rfl, h⟩
    refine Wr_icmp_ge 101 dX3_join_94 (by decide) (fun hc0 => ?_) (fun hc0 => ?_)
    · skip
      refine Wr_iconstv (v := 0) dX3_join_101 (by decide) ?_
      exact Wr_top (if_pos hc0) hj3
    · skip
      refine Wr_iconstv (v := 1) dX3_join_97 (by decide) ?_
      refine Wr_goto 102 dX3_join_98 (by decide) ?_
      exact Wr_top (if_neg hc0) hj3
  have h := h.2
  by_cases hq3 : x0 = (-47)
  · have h := h.1 hq3
    refine Wr_lswC (-47) 79 80 hq3 dX3_join_1 (by decide) (by decide) (by decide) ?_
    refine Wr_iload_n dX3_join_80 rfl 2 rfl ?_
    refine Wr_if_ne 88 dX3_join_81 (by decide) (fun hc => ?_) (fun hc => ?_)
    · have h := h.2 hc
      refine Wr_iload_n dX3_join_88 rfl 1 rfl ?_
      refine Wr_iload_n dX3_join_89 rfl 2 rfl ?_
      obtain ⟨hi, h⟩ := h
      refine Wr_idiv dX3_join_90 hi ?_
      exact Wr_iret .int dX3_join_91 rfl rfl ⟨rfl, h⟩
    · have h := h.1 hc
      refine Wr_iconstv (v := 0) dX3_join_84 (by decide) ?_
      refine Wr_goto 91 dX3_join_85 (by decide) ?_
      exact Wr_iret .int dX3_join_91 rfl rfl ⟨rfl, h⟩
  have h := h.2
  by_cases hq4 : x0 = (-45)
  · have h := h.1 hq4
    refine Wr_lswC (-45) 71 72 hq4 dX3_join_1 (by decide) (by decide) (by decide) ?_
    refine Wr_iload_n dX3_join_72 rfl 1 rfl ?_
    refine Wr_iload_n dX3_join_73 rfl 2 rfl ?_
    refine Wr_isub dX3_join_74 ?_
    exact Wr_iret .int dX3_join_75 rfl rfl ⟨rfl, h⟩
  have h := h.2
  by_cases hq5 : x0 = (-43)
  · have h := h.1 hq5
    refine Wr_lswC (-43) 67 68 hq5 dX3_join_1 (by decide) (by decide) (by decide) ?_
    refine Wr_iload_n dX3_join_68 rfl 1 rfl ?_
    refine Wr_iload_n dX3_join_69 rfl 2 rfl ?_
    refine Wr_iadd dX3_join_70 ?_
    exact Wr_iret .int dX3_join_71 rfl rfl ⟨rfl, h⟩
  have h := h.2
  by_cases hq6 : x0 = (-42)
  · have h := h.1 hq6
    refine Wr_lswC (-42) 75 76 hq6 dX3_join_1 (by decide) (by decide) (by decide) ?_
    refine Wr_iload_n dX3_join_76 rfl 1 rfl ?_
    refine Wr_iload_n dX3_join_77 rfl 2 rfl ?_
    refine Wr_imul dX3_join_78 ?_
    exact Wr_iret .int dX3_join_79 rfl rfl ⟨rfl, h⟩
  have h := h.2
  have h := h hq0 hq1 hq2 hq3 hq4 hq5 hq6
  refine Wr_lsw 127 128 dX3_join_1 (by decide) (by have := zne hq0 (c := (-101)) (by decide); have := zne hq1 (c := (-61)) (by decide); have := zne hq2 (c := (-60)) (by decide); have := zne hq3 (c := (-47)) (by decide); have := zne hq4 (c := (-45)) (by decide); have := zne hq5 (c := (-43)) (by decide); have := zne hq6 (c := (-42)) (by decide); simp only [Op.lookupswitch.offset]; rw [if_neg (by omega)]; rw [if_neg (by omega)]; rw [if_neg (by omega)]; rw [if_neg (by omega)]; rw [if_neg (by omega)]; rw [if_neg (by omega)]; rw [if_neg (by omega)]) (by decide) ?_
  refine Wr_iload_n dX3_join_128 rfl 1 rfl ?_
  have hj4 : Wr mX3_join (d + 1) 0 141 [(0, .int x0), (1, .int x1), (2, .int x2)] [.int (if x1 = 0 then (if x2 = 0 then 0 else 1) else 1)] μ (kI KI X) := by
    exact Wr_iret .int dX3_join_141 rfl rfl ⟨rfl, h⟩
  refine Wr_if_ne 136 dX3_join_129 (by decide) (fun hc0 => ?_) (fun hc0 => ?_)
  · skip
    refine Wr_iconstv (v := 1) dX3_join_136 (by decide) ?_
    refine Wr_goto 141 dX3_join_137 (by decide) ?_
    exact Wr_top (if_neg hc0) hj4
  · skip
    refine Wr_iload_n dX3_join_132 rfl 2 rfl ?_
    refine Wr_if_eq 140 dX3_join_133 (by decide) (fun hc1 => ?_) (fun hc1 => ?_)
    · skip
      refine Wr_iconstv (v := 0) dX3_join_140 (by decide) ?_
      exact Wr_top ((if_pos hc0).trans (if_pos hc1)) hj4
    · skip
      refine Wr_iconstv (v := 1) dX3_join_136 (by decide) ?_
      refine Wr_goto 141 dX3_join_137 (by decide) ?_
      exact Wr_top ((if_pos hc0).trans (if_neg hc1)) hj4
theorem cX3_join_ {d : Nat} {x0 : Int32} {x1 : Int32} {x2 : Int32} {μ : zMem} {KI : Int32 → zMem → Prop} {X : Nat → zMem → Prop} (h : pX3_join d x0 x1 x2 μ KI X) : zcI (d + 1) mX3_join [.int x0, .int x1, .int x2] μ KI X :=
  Ex_of (w := 3) mgX3_join.2.2.2.2.2 rfl rfl rfl (by decide) (wX3_join_0 h)
