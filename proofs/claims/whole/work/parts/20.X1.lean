def pX1_has (d : Nat) (o : Nat) (x1 : Int32) (μ : zMem) (KI : Int32 → zMem → Prop) (X : Nat → zMem → Prop) : Prop :=
  KI (if x1 < 0 then 0 else (if μ o 0 ≤ x1 then 0 else (if 6 ≤ x1 then 0 else 1))) μ
set_option maxRecDepth 20000 in
theorem wX1_has_0 {d : Nat} {o : Nat} {KI : Int32 → zMem → Prop} {X : Nat → zMem → Prop} {x1 : Int32} {μ : zMem} (ho : zsh o = .inr 1) (h : pX1_has d o x1 μ KI X) : Wr mX1_has (d + 1) 0 0 [(0, .ref o), (1, .int x1)] [] μ (kI KI X) := by
  unfold pX1_has at h
  refine Wr_iload_n dX1_has_0 rfl 1 rfl ?_
  have hj1 : Wr mX1_has (d + 1) 0 23 [(0, .ref o), (1, .int x1)] [.int (if x1 < 0 then 0 else (if μ o 0 ≤ x1 then 0 else (if 6 ≤ x1 then 0 else 1)))] μ (kI KI X) := by
    exact Wr_iret .boolean dX1_has_23 rfl (znar (by (repeat' split) <;> simp)) ⟨rfl, h⟩
  refine Wr_if_lt 22 dX1_has_1 (by decide) (fun hc0 => ?_) (fun hc0 => ?_)
  · skip
    refine Wr_iconstv (v := 0) dX1_has_22 (by decide) ?_
    exact Wr_top (if_pos hc0) hj1
  · skip
    refine Wr_iload_n dX1_has_4 rfl 1 rfl ?_
    refine Wr_aload_n dX1_has_5 rfl 0 rfl ?_
    refine Wr_getI dX1_has_6 flX1_9 ho rfl ?_
    refine Wr_icmp_ge 22 dX1_has_9 (by decide) (fun hc1 => ?_) (fun hc1 => ?_)
    · skip
      refine Wr_iconstv (v := 0) dX1_has_22 (by decide) ?_
      exact Wr_top ((if_neg hc0).trans (if_pos hc1)) hj1
    · skip
      refine Wr_iload_n dX1_has_12 rfl 1 rfl ?_
      refine Wr_bipush (v := 6) dX1_has_13 (by decide) ?_
      refine Wr_icmp_ge 22 dX1_has_15 (by decide) (fun hc2 => ?_) (fun hc2 => ?_)
      · skip
        refine Wr_iconstv (v := 0) dX1_has_22 (by decide) ?_
        exact Wr_top ((if_neg hc0).trans ((if_neg hc1).trans (if_pos hc2))) hj1
      · skip
        refine Wr_iconstv (v := 1) dX1_has_18 (by decide) ?_
        refine Wr_goto 23 dX1_has_19 (by decide) ?_
        exact Wr_top ((if_neg hc0).trans ((if_neg hc1).trans (if_neg hc2))) hj1
theorem cX1_has_ {d : Nat} {o : Nat} {x1 : Int32} {μ : zMem} {KI : Int32 → zMem → Prop} {X : Nat → zMem → Prop} (ho : zsh o = .inr 1) (h : pX1_has d o x1 μ KI X) : zcI (d + 1) mX1_has [.ref o, .int x1] μ KI X :=
  Ex_of (w := 2) mgX1_has.2.2.2.2.2 rfl rfl rfl (by decide) (wX1_has_0 ho h)

def pX1_isPost_2 : Nat → Nat → Nat → Int32 → Int32 → Int32 → zMem → (Int32 → zMem → Prop) → (Nat → zMem → Prop) → Prop
  | 0, _, _, _, _, _, _, _, _ => False
  | n + 1, d, o, x1, x2, x3, μ, KI, X =>
  ((μ o 0 ≤ x3 → KI 0 μ) ∧
  (¬ (μ o 0 ≤ x3) → (vp_in x3 6) ∧ ((μ (o + 2) x3.toNatClampNeg = x1 → (vp_in x3 6) ∧ ((μ (o + 3) x3.toNatClampNeg = x2 → KI 1 μ) ∧
      (¬ (μ (o + 3) x3.toNatClampNeg = x2) → ∀ v2 : Int32, v2 = x3 + 1 → pX1_isPost_2 n d o x1 x2 v2 μ KI X))) ∧
    (¬ (μ (o + 2) x3.toNatClampNeg = x1) → ∀ v1 : Int32, v1 = x3 + 1 → pX1_isPost_2 n d o x1 x2 v1 μ KI X))))
set_option maxRecDepth 20000 in
theorem wX1_isPost_2 {d : Nat} {o : Nat} {KI : Int32 → zMem → Prop} {X : Nat → zMem → Prop} (ho : zsh o = .inr 1) : ∀ (n : Nat) (x1 : Int32) (x2 : Int32) (x3 : Int32) (μ : zMem), pX1_isPost_2 n d o x1 x2 x3 μ KI X → Wr mX1_isPost (d + 1) 0 2 [(0, .ref o), (1, .int x1), (2, .int x2), (3, .int x3)] [] μ (kI KI X) := by
  intro n
  induction n with
  | zero =>
    intro x1 x2 x3 μ h
    exact absurd h id
  | succ n ih =>
    intro x1 x2 x3 μ h
    unfold pX1_isPost_2 at h
    refine Wr_iload_n dX1_isPost_2 rfl 3 rfl ?_
    refine Wr_aload_n dX1_isPost_3 rfl 0 rfl ?_
    refine Wr_getI dX1_isPost_4 flX1_9 ho rfl ?_
    refine Wr_icmp_ge 38 dX1_isPost_7 (by decide) (fun hc => ?_) (fun hc => ?_)
    · have h := h.1 hc
      refine Wr_iconstv (v := 0) dX1_isPost_38 (by decide) ?_
      exact Wr_iret .boolean dX1_isPost_39 rfl rfl ⟨rfl, h⟩
    · have h := h.2 hc
      refine Wr_aload_n dX1_isPost_10 rfl 0 rfl ?_
      refine Wr_getR 2 dX1_isPost_11 flX1_19 ho rfl (by decide) ?_
      refine Wr_iload_n dX1_isPost_14 rfl 3 rfl ?_
      obtain ⟨hi, h⟩ := h
      refine Wr_iald dX1_isPost_15 (zo1_2 ho) hi ?_
      refine Wr_iload_n dX1_isPost_16 rfl 1 rfl ?_
      refine Wr_icmp_ne 32 dX1_isPost_17 (by decide) (fun hc => ?_) (fun hc => ?_)
      · have h := h.2 hc
        obtain ⟨v1, ev1⟩ : ∃ z : Int32, z = x3 + 1 := ⟨_, rfl⟩
        have h := h v1 ev1
        refine Wr_iinc (v := v1) dX1_isPost_32 (q := 3) rfl (by rw [ev1]; rfl) (by decide) rfl ?_
        refine Wr_goto 2 dX1_isPost_35 (by decide) ?_
        refine zsub [0, 1, 2, 3] rfl ?_
        exact ih _ _ _ _ h
      · have h := h.1 hc
        refine Wr_aload_n dX1_isPost_20 rfl 0 rfl ?_
        refine Wr_getR 3 dX1_isPost_21 flX1_22 ho rfl (by decide) ?_
        refine Wr_iload_n dX1_isPost_24 rfl 3 rfl ?_
        obtain ⟨hi, h⟩ := h
        refine Wr_iald dX1_isPost_25 (zo1_3 ho) hi ?_
        refine Wr_iload_n dX1_isPost_26 rfl 2 rfl ?_
        refine Wr_icmp_ne 32 dX1_isPost_27 (by decide) (fun hc => ?_) (fun hc => ?_)
        · have h := h.2 hc
          obtain ⟨v2, ev2⟩ : ∃ z : Int32, z = x3 + 1 := ⟨_, rfl⟩
          have h := h v2 ev2
          refine Wr_iinc (v := v2) dX1_isPost_32 (q := 3) rfl (by rw [ev2]; rfl) (by decide) rfl ?_
          refine Wr_goto 2 dX1_isPost_35 (by decide) ?_
          refine zsub [0, 1, 2, 3] rfl ?_
          exact ih _ _ _ _ h
        · have h := h.1 hc
          refine Wr_iconstv (v := 1) dX1_isPost_30 (by decide) ?_
          exact Wr_iret .boolean dX1_isPost_31 rfl rfl ⟨rfl, h⟩
def pX1_isPost (d : Nat) (o : Nat) (x1 : Int32) (x2 : Int32) (μ : zMem) (KI : Int32 → zMem → Prop) (X : Nat → zMem → Prop) : Prop :=
  ∃ n2 : Nat, pX1_isPost_2 n2 d o x1 x2 0 μ KI X
set_option maxRecDepth 20000 in
theorem wX1_isPost_0 {d : Nat} {o : Nat} {KI : Int32 → zMem → Prop} {X : Nat → zMem → Prop} {x1 : Int32} {x2 : Int32} {μ : zMem} (ho : zsh o = .inr 1) (h : pX1_isPost d o x1 x2 μ KI X) : Wr mX1_isPost (d + 1) 0 0 [(0, .ref o), (1, .int x1), (2, .int x2)] [] μ (kI KI X) := by
  unfold pX1_isPost at h
  refine Wr_iconstv (v := 0) dX1_isPost_0 (by decide) ?_
  refine Wr_istore_n dX1_isPost_1 rfl (by decide) rfl ?_
  refine zsub [0, 1, 2, 3] rfl ?_
  obtain ⟨n9, h⟩ := h
  exact wX1_isPost_2 ho n9 _ _ _ _ h
theorem cX1_isPost_ {d : Nat} {o : Nat} {x1 : Int32} {x2 : Int32} {μ : zMem} {KI : Int32 → zMem → Prop} {X : Nat → zMem → Prop} (ho : zsh o = .inr 1) (h : pX1_isPost d o x1 x2 μ KI X) : zcI (d + 1) mX1_isPost [.ref o, .int x1, .int x2] μ KI X :=
  Ex_of (w := 3) mgX1_isPost.2.2.2.2.2 rfl rfl rfl (by decide) (wX1_isPost_0 ho h)

def pX1_settle_9 : Nat → Nat → Nat → Int32 → Int32 → Int32 → zMem → (zMem → Prop) → (Nat → zMem → Prop) → Prop
  | 0, _, _, _, _, _, _, _, _ => False
  | n + 1, d, o, x1, x2, x3, μ, KV, X =>
  ((4 ≤ x3 → KV μ) ∧
  (¬ (4 ≤ x3) → (vp_in ((x1 * 4) + x3) 24) ∧ ∀ m1 : zMem, m1 = zw μ (o + 11) ((x1 * 4) + x3).toNatClampNeg ((x2 / 4) + (if x2 - x2 / 4 * 4 ≤ x3 then 0 else 1)) → ∀ v2 : Int32, v2 = x3 + 1 → pX1_settle_9 n d o x1 x2 v2 m1 KV X))
set_option maxRecDepth 20000 in
theorem wX1_settle_9 {d : Nat} {o : Nat} {KV : zMem → Prop} {X : Nat → zMem → Prop} (ho : zsh o = .inr 1) : ∀ (n : Nat) (x1 : Int32) (x2 : Int32) (x3 : Int32) (μ : zMem), pX1_settle_9 n d o x1 x2 x3 μ KV X → Wr mX1_settle (d + 1) 0 9 [(0, .ref o), (1, .int x1), (2, .int x2), (3, .int x3)] [] μ (kV KV X) := by
  intro n
  induction n with
  | zero =>
    intro x1 x2 x3 μ h
    exact absurd h id
  | succ n ih =>
    intro x1 x2 x3 μ h
    unfold pX1_settle_9 at h
    refine Wr_iload_n dX1_settle_9 rfl 3 rfl ?_
    refine Wr_iconstv (v := 4) dX1_settle_10 (by decide) ?_
    refine Wr_icmp_ge 46 dX1_settle_11 (by decide) (fun hc => ?_) (fun hc => ?_)
    · have h := h.1 hc
      exact Wr_vret dX1_settle_46 rfl ⟨rfl, h⟩
    · have h := h.2 hc
      refine Wr_aload_n dX1_settle_14 rfl 0 rfl ?_
      refine Wr_getR 11 dX1_settle_15 flX1_46 ho rfl (by decide) ?_
      refine Wr_iload_n dX1_settle_18 rfl 1 rfl ?_
      refine Wr_iconstv (v := 4) dX1_settle_19 (by decide) ?_
      refine Wr_imul dX1_settle_20 ?_
      refine Wr_iload_n dX1_settle_21 rfl 3 rfl ?_
      refine Wr_iadd dX1_settle_22 ?_
      refine Wr_iload_n dX1_settle_23 rfl 2 rfl ?_
      refine Wr_iconstv (v := 4) dX1_settle_24 (by decide) ?_
      refine Wr_idiv dX1_settle_25 (by decide) ?_
      refine Wr_iload_n dX1_settle_26 rfl 3 rfl ?_
      refine Wr_iload_n dX1_settle_27 rfl 2 rfl ?_
      refine Wr_iconstv (v := 4) dX1_settle_28 (by decide) ?_
      refine Wr_irem dX1_settle_29 (by decide) ?_
      have hj1 : Wr mX1_settle (d + 1) 0 38 [(0, .ref o), (1, .int x1), (2, .int x2), (3, .int x3)] [.int (if x2 - x2 / 4 * 4 ≤ x3 then 0 else 1), .int (x2 / 4), .int ((x1 * 4) + x3), .ref (o + 11)] μ (kV KV X) := by
        refine Wr_iadd dX1_settle_38 ?_
        obtain ⟨him1, h⟩ := h
        obtain ⟨m1, em1⟩ : ∃ z : zMem, z = zw μ (o + 11) ((x1 * 4) + x3).toNatClampNeg ((x2 / 4) + (if x2 - x2 / 4 * 4 ≤ x3 then 0 else 1)) := ⟨_, rfl⟩
        have h := h m1 em1
        refine Wr_iast dX1_settle_39 (zo1_11 ho) him1 ?_
        refine Wr_mu em1 ?_
        obtain ⟨v2, ev2⟩ : ∃ z : Int32, z = x3 + 1 := ⟨_, rfl⟩
        have h := h v2 ev2
        refine Wr_iinc (v := v2) dX1_settle_40 (q := 3) rfl (by rw [ev2]; rfl) (by decide) rfl ?_
        refine Wr_goto 9 dX1_settle_43 (by decide) ?_
        refine zsub [0, 1, 2, 3] rfl ?_
        exact ih _ _ _ _ h
      refine Wr_icmp_ge 37 dX1_settle_30 (by decide) (fun hc0 => ?_) (fun hc0 => ?_)
      · skip
        refine Wr_iconstv (v := 0) dX1_settle_37 (by decide) ?_
        exact Wr_top (if_pos hc0) hj1
      · skip
        refine Wr_iconstv (v := 1) dX1_settle_33 (by decide) ?_
        refine Wr_goto 38 dX1_settle_34 (by decide) ?_
        exact Wr_top (if_neg hc0) hj1
def pX1_settle (d : Nat) (o : Nat) (x1 : Int32) (x2 : Int32) (μ : zMem) (KV : zMem → Prop) (X : Nat → zMem → Prop) : Prop :=
  (vp_in x1 6) ∧ ∀ m1 : zMem, m1 = zw μ (o + 7) x1.toNatClampNeg x2 → ∃ n2 : Nat, pX1_settle_9 n2 d o x1 x2 0 m1 KV X
set_option maxRecDepth 20000 in
theorem wX1_settle_0 {d : Nat} {o : Nat} {KV : zMem → Prop} {X : Nat → zMem → Prop} {x1 : Int32} {x2 : Int32} {μ : zMem} (ho : zsh o = .inr 1) (h : pX1_settle d o x1 x2 μ KV X) : Wr mX1_settle (d + 1) 0 0 [(0, .ref o), (1, .int x1), (2, .int x2)] [] μ (kV KV X) := by
  unfold pX1_settle at h
  refine Wr_aload_n dX1_settle_0 rfl 0 rfl ?_
  refine Wr_getR 7 dX1_settle_1 flX1_34 ho rfl (by decide) ?_
  refine Wr_iload_n dX1_settle_4 rfl 1 rfl ?_
  refine Wr_iload_n dX1_settle_5 rfl 2 rfl ?_
  obtain ⟨him1, h⟩ := h
  obtain ⟨m1, em1⟩ : ∃ z : zMem, z = zw μ (o + 7) x1.toNatClampNeg x2 := ⟨_, rfl⟩
  have h := h m1 em1
  refine Wr_iast dX1_settle_6 (zo1_7 ho) him1 ?_
  refine Wr_mu em1 ?_
  refine Wr_iconstv (v := 0) dX1_settle_7 (by decide) ?_
  refine Wr_istore_n dX1_settle_8 rfl (by decide) rfl ?_
  refine zsub [0, 1, 2, 3] rfl ?_
  obtain ⟨n9, h⟩ := h
  exact wX1_settle_9 ho n9 _ _ _ _ h
theorem cX1_settle_ {d : Nat} {o : Nat} {x1 : Int32} {x2 : Int32} {μ : zMem} {KV : zMem → Prop} {X : Nat → zMem → Prop} (ho : zsh o = .inr 1) (h : pX1_settle d o x1 x2 μ KV X) : zcV (d + 1) mX1_settle [.ref o, .int x1, .int x2] μ KV X :=
  Ex_of (w := 3) mgX1_settle.2.2.2.2.2 rfl rfl rfl (by decide) (wX1_settle_0 ho h)

def pX1_weight (d : Nat) (o : Nat) (x1 : Int32) (μ : zMem) (KI : Int32 → zMem → Prop) (X : Nat → zMem → Prop) : Prop :=
  (vp_in x1 6) ∧ ∀ v1 : Int32, v1 = (if μ (o + 1) x1.toNatClampNeg = 1 then 5 else 0) → (vp_in x1 6) ∧ (vp_in x1 6) ∧ (vp_in x1 6) ∧ KI ((((μ (o + 7) x1.toNatClampNeg) + (μ (o + 8) x1.toNatClampNeg)) + (2 * (μ (o + 9) x1.toNatClampNeg))) + v1) μ
set_option maxRecDepth 20000 in
theorem wX1_weight_0 {d : Nat} {o : Nat} {KI : Int32 → zMem → Prop} {X : Nat → zMem → Prop} {x1 : Int32} {μ : zMem} (ho : zsh o = .inr 1) (h : pX1_weight d o x1 μ KI X) : Wr mX1_weight (d + 1) 0 0 [(0, .ref o), (1, .int x1)] [] μ (kI KI X) := by
  unfold pX1_weight at h
  refine Wr_aload_n dX1_weight_0 rfl 0 rfl ?_
  refine Wr_getR 1 dX1_weight_1 flX1_15 ho rfl (by decide) ?_
  refine Wr_iload_n dX1_weight_4 rfl 1 rfl ?_
  obtain ⟨hi, h⟩ := h
  refine Wr_iald dX1_weight_5 (zo1_1 ho) hi ?_
  refine Wr_iconstv (v := 1) dX1_weight_6 (by decide) ?_
  have hj1 : Wr mX1_weight (d + 1) 0 15 [(0, .ref o), (1, .int x1)] [.int (if μ (o + 1) x1.toNatClampNeg = 1 then 5 else 0)] μ (kI KI X) := by
    obtain ⟨v1, ev1⟩ : ∃ z : Int32, z = (if μ (o + 1) x1.toNatClampNeg = 1 then 5 else 0) := ⟨_, rfl⟩
    have h := h v1 ev1
    refine Wr_top ev1 ?_
    refine Wr_istore_n dX1_weight_15 rfl (by decide) rfl ?_
    refine Wr_aload_n dX1_weight_16 rfl 1 rfl ?_
    refine Wr_getR 7 dX1_weight_17 flX1_34 ho rfl (by decide) ?_
    refine Wr_iload_n dX1_weight_20 rfl 2 rfl ?_
    obtain ⟨hi, h⟩ := h
    refine Wr_iald dX1_weight_21 (zo1_7 ho) hi ?_
    refine Wr_aload_n dX1_weight_22 rfl 1 rfl ?_
    refine Wr_getR 8 dX1_weight_23 flX1_37 ho rfl (by decide) ?_
    refine Wr_iload_n dX1_weight_26 rfl 2 rfl ?_
    obtain ⟨hi, h⟩ := h
    refine Wr_iald dX1_weight_27 (zo1_8 ho) hi ?_
    refine Wr_iadd dX1_weight_28 ?_
    refine Wr_iconstv (v := 2) dX1_weight_29 (by decide) ?_
    refine Wr_aload_n dX1_weight_30 rfl 1 rfl ?_
    refine Wr_getR 9 dX1_weight_31 flX1_40 ho rfl (by decide) ?_
    refine Wr_iload_n dX1_weight_34 rfl 2 rfl ?_
    obtain ⟨hi, h⟩ := h
    refine Wr_iald dX1_weight_35 (zo1_9 ho) hi ?_
    refine Wr_imul dX1_weight_36 ?_
    refine Wr_iadd dX1_weight_37 ?_
    refine Wr_iload_n dX1_weight_38 rfl 0 rfl ?_
    refine Wr_iadd dX1_weight_39 ?_
    exact Wr_iret .int dX1_weight_40 rfl rfl ⟨rfl, h⟩
  refine Wr_icmp_ne 14 dX1_weight_7 (by decide) (fun hc0 => ?_) (fun hc0 => ?_)
  · skip
    refine Wr_iconstv (v := 0) dX1_weight_14 (by decide) ?_
    exact Wr_top (if_neg hc0) hj1
  · skip
    refine Wr_iconstv (v := 5) dX1_weight_10 (by decide) ?_
    refine Wr_goto 15 dX1_weight_11 (by decide) ?_
    exact Wr_top (if_pos hc0) hj1
theorem cX1_weight_ {d : Nat} {o : Nat} {x1 : Int32} {μ : zMem} {KI : Int32 → zMem → Prop} {X : Nat → zMem → Prop} (ho : zsh o = .inr 1) (h : pX1_weight d o x1 μ KI X) : zcI (d + 1) mX1_weight [.ref o, .int x1] μ KI X :=
  Ex_of (w := 2) mgX1_weight.2.2.2.2.2 rfl rfl rfl (by decide) (wX1_weight_0 ho h)

def pX1_line (d : Nat) (o : Nat) (x1 : Int32) (μ : zMem) (KI : Int32 → zMem → Prop) (X : Nat → zMem → Prop) : Prop :=
  (vp_in x1 6) ∧ (vp_in x1 6) ∧ KI (zmax ((μ (o + 4) x1.toNatClampNeg) - (μ (o + 10) x1.toNatClampNeg)) 0) μ
set_option maxRecDepth 20000 in
theorem wX1_line_0 {d : Nat} {o : Nat} {KI : Int32 → zMem → Prop} {X : Nat → zMem → Prop} {x1 : Int32} {μ : zMem} (ho : zsh o = .inr 1) (h : pX1_line d o x1 μ KI X) : Wr mX1_line (d + 1) 0 0 [(0, .ref o), (1, .int x1)] [] μ (kI KI X) := by
  unfold pX1_line at h
  refine Wr_aload_n dX1_line_0 rfl 0 rfl ?_
  refine Wr_getR 4 dX1_line_1 flX1_25 ho rfl (by decide) ?_
  refine Wr_iload_n dX1_line_4 rfl 1 rfl ?_
  obtain ⟨hi, h⟩ := h
  refine Wr_iald dX1_line_5 (zo1_4 ho) hi ?_
  refine Wr_aload_n dX1_line_6 rfl 0 rfl ?_
  refine Wr_getR 10 dX1_line_7 flX1_43 ho rfl (by decide) ?_
  refine Wr_iload_n dX1_line_10 rfl 1 rfl ?_
  obtain ⟨hi, h⟩ := h
  refine Wr_iald dX1_line_11 (zo1_10 ho) hi ?_
  refine Wr_isub dX1_line_12 ?_
  refine Wr_iconstv (v := 0) dX1_line_13 (by decide) ?_
  refine Wr_mmax dX1_line_14 mlX1_49 (Nat.le_of_ble_eq_true rfl) ?_
  exact Wr_iret .int dX1_line_17 rfl rfl ⟨rfl, h⟩
theorem cX1_line_ {d : Nat} {o : Nat} {x1 : Int32} {μ : zMem} {KI : Int32 → zMem → Prop} {X : Nat → zMem → Prop} (ho : zsh o = .inr 1) (h : pX1_line d o x1 μ KI X) : zcI (d + 1) mX1_line [.ref o, .int x1] μ KI X :=
  Ex_of (w := 2) mgX1_line.2.2.2.2.2 rfl rfl rfl (by decide) (wX1_line_0 ho h)

def pX1_floats (d : Nat) (o : Nat) (x1 : Int32) (μ : zMem) (KI : Int32 → zMem → Prop) (X : Nat → zMem → Prop) : Prop :=
  (vp_in x1 6) ∧ zcI d mX1_weight [.ref o, .int x1] μ (fun u2 m1 => ((μ (o + 5) x1.toNatClampNeg ≤ u2 → KI 0 m1) ∧
  (¬ (μ (o + 5) x1.toNatClampNeg ≤ u2) → zcI d mX1_line [.ref o, .int x1] m1 (fun u4 m3 => KI (if u4 = 0 then 0 else 1) m3) X))) X
set_option maxRecDepth 20000 in
theorem wX1_floats_0 {d : Nat} {o : Nat} {KI : Int32 → zMem → Prop} {X : Nat → zMem → Prop} {x1 : Int32} {μ : zMem} (ho : zsh o = .inr 1) (h : pX1_floats d o x1 μ KI X) : Wr mX1_floats (d + 1) 0 0 [(0, .ref o), (1, .int x1)] [] μ (kI KI X) := by
  unfold pX1_floats at h
  refine Wr_aload_n dX1_floats_0 rfl 0 rfl ?_
  refine Wr_getR 5 dX1_floats_1 flX1_28 ho rfl (by decide) ?_
  refine Wr_iload_n dX1_floats_4 rfl 1 rfl ?_
  obtain ⟨hi, h⟩ := h
  refine Wr_iald dX1_floats_5 (zo1_5 ho) hi ?_
  refine Wr_aload_n dX1_floats_6 rfl 0 rfl ?_
  refine Wr_iload_n dX1_floats_7 rfl 1 rfl ?_
  refine Wr_cVi [.int x1] dX1_floats_8 mlX1_55 mgX1_weight rfl mvX1_weight (zrv ho _ rfl rfl) rfl rfl (Nat.le_of_ble_eq_true rfl) rfl (zcI.imp h (fun u2 m1 h => ?_) (fun _ _ h => ⟨rfl, h⟩))
  refine Wr_icmp_le 26 dX1_floats_11 (by decide) (fun hc => ?_) (fun hc => ?_)
  · have h := h.1 hc
    refine Wr_iconstv (v := 0) dX1_floats_26 (by decide) ?_
    exact Wr_iret .boolean dX1_floats_27 rfl rfl ⟨rfl, h⟩
  · have h := h.2 hc
    refine Wr_aload_n dX1_floats_14 rfl 0 rfl ?_
    refine Wr_iload_n dX1_floats_15 rfl 1 rfl ?_
    refine Wr_cVi [.int x1] dX1_floats_16 mlX1_59 mgX1_line rfl mvX1_line (zrv ho _ rfl rfl) rfl rfl (Nat.le_of_ble_eq_true rfl) rfl (zcI.imp h (fun u4 m3 h => ?_) (fun _ _ h => ⟨rfl, h⟩))
    have hj1 : Wr mX1_floats (d + 1) 0 27 [(0, .ref o), (1, .int x1)] [.int (if u4 = 0 then 0 else 1)] m3 (kI KI X) := by
      exact Wr_iret .boolean dX1_floats_27 rfl (znar (by (repeat' split) <;> simp)) ⟨rfl, h⟩
    refine Wr_if_eq 26 dX1_floats_19 (by decide) (fun hc0 => ?_) (fun hc0 => ?_)
    · skip
      refine Wr_iconstv (v := 0) dX1_floats_26 (by decide) ?_
      exact Wr_top (if_pos hc0) hj1
    · skip
      refine Wr_iconstv (v := 1) dX1_floats_22 (by decide) ?_
      refine Wr_goto 27 dX1_floats_23 (by decide) ?_
      exact Wr_top (if_neg hc0) hj1
theorem cX1_floats_ {d : Nat} {o : Nat} {x1 : Int32} {μ : zMem} {KI : Int32 → zMem → Prop} {X : Nat → zMem → Prop} (ho : zsh o = .inr 1) (h : pX1_floats d o x1 μ KI X) : zcI (d + 1) mX1_floats [.ref o, .int x1] μ KI X :=
  Ex_of (w := 2) mgX1_floats.2.2.2.2.2 rfl rfl rfl (by decide) (wX1_floats_0 ho h)

def pX1_leaning (d : Nat) (o : Nat) (x1 : Int32) (μ : zMem) (KI : Int32 → zMem → Prop) (X : Nat → zMem → Prop) : Prop :=
  (vp_in (x1 * 4) 24) ∧ (vp_in ((x1 * 4) + 2) 24) ∧ ∀ v1 : Int32, v1 = zabs ((μ (o + 11) (x1 * 4).toNatClampNeg) - (μ (o + 11) ((x1 * 4) + 2).toNatClampNeg)) → (vp_in ((x1 * 4) + 1) 24) ∧ (vp_in ((x1 * 4) + 3) 24) ∧ ∀ v2 : Int32, v2 = zabs ((μ (o + 11) ((x1 * 4) + 1).toNatClampNeg) - (μ (o + 11) ((x1 * 4) + 3).toNatClampNeg)) → KI (zmax v1 v2) μ
set_option maxRecDepth 20000 in
theorem wX1_leaning_0 {d : Nat} {o : Nat} {KI : Int32 → zMem → Prop} {X : Nat → zMem → Prop} {x1 : Int32} {μ : zMem} (ho : zsh o = .inr 1) (h : pX1_leaning d o x1 μ KI X) : Wr mX1_leaning (d + 1) 0 0 [(0, .ref o), (1, .int x1)] [] μ (kI KI X) := by
  unfold pX1_leaning at h
  refine Wr_iload_n dX1_leaning_0 rfl 1 rfl ?_
  refine Wr_iconstv (v := 4) dX1_leaning_1 (by decide) ?_
  refine Wr_imul dX1_leaning_2 ?_
  refine Wr_istore_n dX1_leaning_3 rfl (by decide) rfl ?_
  refine Wr_aload_n dX1_leaning_4 rfl 1 rfl ?_
  refine Wr_getR 11 dX1_leaning_5 flX1_46 ho rfl (by decide) ?_
  refine Wr_iload_n dX1_leaning_8 rfl 0 rfl ?_
  obtain ⟨hi, h⟩ := h
  refine Wr_iald dX1_leaning_9 (zo1_11 ho) hi ?_
  refine Wr_aload_n dX1_leaning_10 rfl 1 rfl ?_
  refine Wr_getR 11 dX1_leaning_11 flX1_46 ho rfl (by decide) ?_
  refine Wr_iload_n dX1_leaning_14 rfl 0 rfl ?_
  refine Wr_iconstv (v := 2) dX1_leaning_15 (by decide) ?_
  refine Wr_iadd dX1_leaning_16 ?_
  obtain ⟨hi, h⟩ := h
  refine Wr_iald dX1_leaning_17 (zo1_11 ho) hi ?_
  refine Wr_isub dX1_leaning_18 ?_
  refine Wr_mabs dX1_leaning_19 mlX1_62 (Nat.le_of_ble_eq_true rfl) ?_
  obtain ⟨v1, ev1⟩ : ∃ z : Int32, z = zabs ((μ (o + 11) (x1 * 4).toNatClampNeg) - (μ (o + 11) ((x1 * 4) + 2).toNatClampNeg)) := ⟨_, rfl⟩
  have h := h v1 ev1
  refine Wr_top ev1 ?_
  refine Wr_istore_n dX1_leaning_22 rfl (by decide) rfl ?_
  refine Wr_aload_n dX1_leaning_23 rfl 2 rfl ?_
  refine Wr_getR 11 dX1_leaning_24 flX1_46 ho rfl (by decide) ?_
  refine Wr_iload_n dX1_leaning_27 rfl 1 rfl ?_
  refine Wr_iconstv (v := 1) dX1_leaning_28 (by decide) ?_
  refine Wr_iadd dX1_leaning_29 ?_
  obtain ⟨hi, h⟩ := h
  refine Wr_iald dX1_leaning_30 (zo1_11 ho) hi ?_
  refine Wr_aload_n dX1_leaning_31 rfl 2 rfl ?_
  refine Wr_getR 11 dX1_leaning_32 flX1_46 ho rfl (by decide) ?_
  refine Wr_iload_n dX1_leaning_35 rfl 1 rfl ?_
  refine Wr_iconstv (v := 3) dX1_leaning_36 (by decide) ?_
  refine Wr_iadd dX1_leaning_37 ?_
  obtain ⟨hi, h⟩ := h
  refine Wr_iald dX1_leaning_38 (zo1_11 ho) hi ?_
  refine Wr_isub dX1_leaning_39 ?_
  refine Wr_mabs dX1_leaning_40 mlX1_62 (Nat.le_of_ble_eq_true rfl) ?_
  obtain ⟨v2, ev2⟩ : ∃ z : Int32, z = zabs ((μ (o + 11) ((x1 * 4) + 1).toNatClampNeg) - (μ (o + 11) ((x1 * 4) + 3).toNatClampNeg)) := ⟨_, rfl⟩
  have h := h v2 ev2
  refine Wr_top ev2 ?_
  refine Wr_istore dX1_leaning_43 (by decide) rfl ?_
  refine Wr_iload_n dX1_leaning_45 rfl 1 rfl ?_
  refine Wr_iload dX1_leaning_46 0 rfl ?_
  refine Wr_mmax dX1_leaning_48 mlX1_49 (Nat.le_of_ble_eq_true rfl) ?_
  exact Wr_iret .int dX1_leaning_51 rfl rfl ⟨rfl, h⟩
theorem cX1_leaning_ {d : Nat} {o : Nat} {x1 : Int32} {μ : zMem} {KI : Int32 → zMem → Prop} {X : Nat → zMem → Prop} (ho : zsh o = .inr 1) (h : pX1_leaning d o x1 μ KI X) : zcI (d + 1) mX1_leaning [.ref o, .int x1] μ KI X :=
  Ex_of (w := 2) mgX1_leaning.2.2.2.2.2 rfl rfl rfl (by decide) (wX1_leaning_0 ho h)

def pX1_copyFrom_10 : Nat → Nat → Nat → Nat → Int32 → zMem → (zMem → Prop) → (Nat → zMem → Prop) → Prop
  | 0, _, _, _, _, _, _, _ => False
  | n + 1, d, o, r1, x2, μ, KV, X =>
  ((6 ≤ x2 → ∀ m1 : zMem, m1 = zcp μ (r1 + 11) 0 (o + 11) 0 24 → KV m1) ∧
  (¬ (6 ≤ x2) → (vp_in x2 6) ∧ (vp_in x2 6) ∧ ∀ m2 : zMem, m2 = zw μ (o + 1) x2.toNatClampNeg (μ (r1 + 1) x2.toNatClampNeg) → (vp_in x2 6) ∧ (vp_in x2 6) ∧ ∀ m3 : zMem, m3 = zw m2 (o + 2) x2.toNatClampNeg (m2 (r1 + 2) x2.toNatClampNeg) → (vp_in x2 6) ∧ (vp_in x2 6) ∧ ∀ m4 : zMem, m4 = zw m3 (o + 3) x2.toNatClampNeg (m3 (r1 + 3) x2.toNatClampNeg) → (vp_in x2 6) ∧ (vp_in x2 6) ∧ ∀ m5 : zMem, m5 = zw m4 (o + 4) x2.toNatClampNeg (m4 (r1 + 4) x2.toNatClampNeg) → (vp_in x2 6) ∧ (vp_in x2 6) ∧ ∀ m6 : zMem, m6 = zw m5 (o + 5) x2.toNatClampNeg (m5 (r1 + 5) x2.toNatClampNeg) → (vp_in x2 6) ∧ (vp_in x2 6) ∧ ∀ m7 : zMem, m7 = zw m6 (o + 6) x2.toNatClampNeg (m6 (r1 + 6) x2.toNatClampNeg) → (vp_in x2 6) ∧ (vp_in x2 6) ∧ ∀ m8 : zMem, m8 = zw m7 (o + 7) x2.toNatClampNeg (m7 (r1 + 7) x2.toNatClampNeg) → (vp_in x2 6) ∧ (vp_in x2 6) ∧ ∀ m9 : zMem, m9 = zw m8 (o + 8) x2.toNatClampNeg (m8 (r1 + 8) x2.toNatClampNeg) → (vp_in x2 6) ∧ (vp_in x2 6) ∧ ∀ m10 : zMem, m10 = zw m9 (o + 9) x2.toNatClampNeg (m9 (r1 + 9) x2.toNatClampNeg) → (vp_in x2 6) ∧ (vp_in x2 6) ∧ ∀ m11 : zMem, m11 = zw m10 (o + 10) x2.toNatClampNeg (m10 (r1 + 10) x2.toNatClampNeg) → ∀ v12 : Int32, v12 = x2 + 1 → pX1_copyFrom_10 n d o r1 v12 m11 KV X))
set_option maxRecDepth 20000 in
theorem wX1_copyFrom_10 {d : Nat} {o : Nat} {r1 : Nat} {KV : zMem → Prop} {X : Nat → zMem → Prop} (ho : zsh o = .inr 1) (hr1 : zsh r1 = .inr 1) : ∀ (n : Nat) (x2 : Int32) (μ : zMem), pX1_copyFrom_10 n d o r1 x2 μ KV X → Wr mX1_copyFrom (d + 1) 0 10 [(0, .ref o), (1, .ref r1), (2, .int x2)] [] μ (kV KV X) := by
  intro n
  induction n with
  | zero =>
    intro x2 μ h
    exact absurd h id
  | succ n ih =>
    intro x2 μ h
    unfold pX1_copyFrom_10 at h
    refine Wr_iload_n dX1_copyFrom_10 rfl 2 rfl ?_
    refine Wr_bipush (v := 6) dX1_copyFrom_11 (by decide) ?_
    refine Wr_icmp_ge 142 dX1_copyFrom_13 (by decide) (fun hc => ?_) (fun hc => ?_)
    · have h := h.1 hc
      refine Wr_aload_n dX1_copyFrom_142 rfl 1 rfl ?_
      refine Wr_getR 11 dX1_copyFrom_143 flX1_46 hr1 rfl (by decide) ?_
      refine Wr_iconstv (v := 0) dX1_copyFrom_146 (by decide) ?_
      refine Wr_aload_n dX1_copyFrom_147 rfl 0 rfl ?_
      refine Wr_getR 11 dX1_copyFrom_148 flX1_46 ho rfl (by decide) ?_
      refine Wr_iconstv (v := 0) dX1_copyFrom_151 (by decide) ?_
      refine Wr_bipush (v := 24) dX1_copyFrom_152 (by decide) ?_
      obtain ⟨m1, em1⟩ : ∃ z : zMem, z = zcp μ (r1 + 11) 0 (o + 11) 0 24 := ⟨_, rfl⟩
      have h := h m1 em1
      refine Wr_acopy dX1_copyFrom_154 mlX1_65 macN macS macI (zo1_11 hr1) (zo1_11 ho) (by decide) (by decide) (by decide) (by decide) (by decide) (Nat.le_of_ble_eq_true rfl) ?_
      refine Wr_mu em1 ?_
      exact Wr_vret dX1_copyFrom_157 rfl ⟨rfl, h⟩
    · have h := h.2 hc
      refine Wr_aload_n dX1_copyFrom_16 rfl 0 rfl ?_
      refine Wr_getR 1 dX1_copyFrom_17 flX1_15 ho rfl (by decide) ?_
      refine Wr_iload_n dX1_copyFrom_20 rfl 2 rfl ?_
      refine Wr_aload_n dX1_copyFrom_21 rfl 1 rfl ?_
      refine Wr_getR 1 dX1_copyFrom_22 flX1_15 hr1 rfl (by decide) ?_
      refine Wr_iload_n dX1_copyFrom_25 rfl 2 rfl ?_
      obtain ⟨hi, h⟩ := h
      refine Wr_iald dX1_copyFrom_26 (zo1_1 hr1) hi ?_
      obtain ⟨him2, h⟩ := h
      obtain ⟨m2, em2⟩ : ∃ z : zMem, z = zw μ (o + 1) x2.toNatClampNeg (μ (r1 + 1) x2.toNatClampNeg) := ⟨_, rfl⟩
      have h := h m2 em2
      refine Wr_iast dX1_copyFrom_27 (zo1_1 ho) him2 ?_
      refine Wr_mu em2 ?_
      refine Wr_aload_n dX1_copyFrom_28 rfl 0 rfl ?_
      refine Wr_getR 2 dX1_copyFrom_29 flX1_19 ho rfl (by decide) ?_
      refine Wr_iload_n dX1_copyFrom_32 rfl 2 rfl ?_
      refine Wr_aload_n dX1_copyFrom_33 rfl 1 rfl ?_
      refine Wr_getR 2 dX1_copyFrom_34 flX1_19 hr1 rfl (by decide) ?_
      refine Wr_iload_n dX1_copyFrom_37 rfl 2 rfl ?_
      obtain ⟨hi, h⟩ := h
      refine Wr_iald dX1_copyFrom_38 (zo1_2 hr1) hi ?_
      obtain ⟨him3, h⟩ := h
      obtain ⟨m3, em3⟩ : ∃ z : zMem, z = zw m2 (o + 2) x2.toNatClampNeg (m2 (r1 + 2) x2.toNatClampNeg) := ⟨_, rfl⟩
      have h := h m3 em3
      refine Wr_iast dX1_copyFrom_39 (zo1_2 ho) him3 ?_
      refine Wr_mu em3 ?_
      refine Wr_aload_n dX1_copyFrom_40 rfl 0 rfl ?_
      refine Wr_getR 3 dX1_copyFrom_41 flX1_22 ho rfl (by decide) ?_
      refine Wr_iload_n dX1_copyFrom_44 rfl 2 rfl ?_
      refine Wr_aload_n dX1_copyFrom_45 rfl 1 rfl ?_
      refine Wr_getR 3 dX1_copyFrom_46 flX1_22 hr1 rfl (by decide) ?_
      refine Wr_iload_n dX1_copyFrom_49 rfl 2 rfl ?_
      obtain ⟨hi, h⟩ := h
      refine Wr_iald dX1_copyFrom_50 (zo1_3 hr1) hi ?_
      obtain ⟨him4, h⟩ := h
      obtain ⟨m4, em4⟩ : ∃ z : zMem, z = zw m3 (o + 3) x2.toNatClampNeg (m3 (r1 + 3) x2.toNatClampNeg) := ⟨_, rfl⟩
      have h := h m4 em4
      refine Wr_iast dX1_copyFrom_51 (zo1_3 ho) him4 ?_
      refine Wr_mu em4 ?_
      refine Wr_aload_n dX1_copyFrom_52 rfl 0 rfl ?_
      refine Wr_getR 4 dX1_copyFrom_53 flX1_25 ho rfl (by decide) ?_
      refine Wr_iload_n dX1_copyFrom_56 rfl 2 rfl ?_
      refine Wr_aload_n dX1_copyFrom_57 rfl 1 rfl ?_
      refine Wr_getR 4 dX1_copyFrom_58 flX1_25 hr1 rfl (by decide) ?_
      refine Wr_iload_n dX1_copyFrom_61 rfl 2 rfl ?_
      obtain ⟨hi, h⟩ := h
      refine Wr_iald dX1_copyFrom_62 (zo1_4 hr1) hi ?_
      obtain ⟨him5, h⟩ := h
      obtain ⟨m5, em5⟩ : ∃ z : zMem, z = zw m4 (o + 4) x2.toNatClampNeg (m4 (r1 + 4) x2.toNatClampNeg) := ⟨_, rfl⟩
      have h := h m5 em5
      refine Wr_iast dX1_copyFrom_63 (zo1_4 ho) him5 ?_
      refine Wr_mu em5 ?_
      refine Wr_aload_n dX1_copyFrom_64 rfl 0 rfl ?_
      refine Wr_getR 5 dX1_copyFrom_65 flX1_28 ho rfl (by decide) ?_
      refine Wr_iload_n dX1_copyFrom_68 rfl 2 rfl ?_
      refine Wr_aload_n dX1_copyFrom_69 rfl 1 rfl ?_
      refine Wr_getR 5 dX1_copyFrom_70 flX1_28 hr1 rfl (by decide) ?_
      refine Wr_iload_n dX1_copyFrom_73 rfl 2 rfl ?_
      obtain ⟨hi, h⟩ := h
      refine Wr_iald dX1_copyFrom_74 (zo1_5 hr1) hi ?_
      obtain ⟨him6, h⟩ := h
      obtain ⟨m6, em6⟩ : ∃ z : zMem, z = zw m5 (o + 5) x2.toNatClampNeg (m5 (r1 + 5) x2.toNatClampNeg) := ⟨_, rfl⟩
      have h := h m6 em6
      refine Wr_iast dX1_copyFrom_75 (zo1_5 ho) him6 ?_
      refine Wr_mu em6 ?_
      refine Wr_aload_n dX1_copyFrom_76 rfl 0 rfl ?_
      refine Wr_getR 6 dX1_copyFrom_77 flX1_31 ho rfl (by decide) ?_
      refine Wr_iload_n dX1_copyFrom_80 rfl 2 rfl ?_
      refine Wr_aload_n dX1_copyFrom_81 rfl 1 rfl ?_
      refine Wr_getR 6 dX1_copyFrom_82 flX1_31 hr1 rfl (by decide) ?_
      refine Wr_iload_n dX1_copyFrom_85 rfl 2 rfl ?_
      obtain ⟨hi, h⟩ := h
      refine Wr_iald dX1_copyFrom_86 (zo1_6 hr1) hi ?_
      obtain ⟨him7, h⟩ := h
      obtain ⟨m7, em7⟩ : ∃ z : zMem, z = zw m6 (o + 6) x2.toNatClampNeg (m6 (r1 + 6) x2.toNatClampNeg) := ⟨_, rfl⟩
      have h := h m7 em7
      refine Wr_iast dX1_copyFrom_87 (zo1_6 ho) him7 ?_
      refine Wr_mu em7 ?_
      refine Wr_aload_n dX1_copyFrom_88 rfl 0 rfl ?_
      refine Wr_getR 7 dX1_copyFrom_89 flX1_34 ho rfl (by decide) ?_
      refine Wr_iload_n dX1_copyFrom_92 rfl 2 rfl ?_
      refine Wr_aload_n dX1_copyFrom_93 rfl 1 rfl ?_
      refine Wr_getR 7 dX1_copyFrom_94 flX1_34 hr1 rfl (by decide) ?_
      refine Wr_iload_n dX1_copyFrom_97 rfl 2 rfl ?_
      obtain ⟨hi, h⟩ := h
      refine Wr_iald dX1_copyFrom_98 (zo1_7 hr1) hi ?_
      obtain ⟨him8, h⟩ := h
      obtain ⟨m8, em8⟩ : ∃ z : zMem, z = zw m7 (o + 7) x2.toNatClampNeg (m7 (r1 + 7) x2.toNatClampNeg) := ⟨_, rfl⟩
      have h := h m8 em8
      refine Wr_iast dX1_copyFrom_99 (zo1_7 ho) him8 ?_
      refine Wr_mu em8 ?_
      refine Wr_aload_n dX1_copyFrom_100 rfl 0 rfl ?_
      refine Wr_getR 8 dX1_copyFrom_101 flX1_37 ho rfl (by decide) ?_
      refine Wr_iload_n dX1_copyFrom_104 rfl 2 rfl ?_
      refine Wr_aload_n dX1_copyFrom_105 rfl 1 rfl ?_
      refine Wr_getR 8 dX1_copyFrom_106 flX1_37 hr1 rfl (by decide) ?_
      refine Wr_iload_n dX1_copyFrom_109 rfl 2 rfl ?_
      obtain ⟨hi, h⟩ := h
      refine Wr_iald dX1_copyFrom_110 (zo1_8 hr1) hi ?_
      obtain ⟨him9, h⟩ := h
      obtain ⟨m9, em9⟩ : ∃ z : zMem, z = zw m8 (o + 8) x2.toNatClampNeg (m8 (r1 + 8) x2.toNatClampNeg) := ⟨_, rfl⟩
      have h := h m9 em9
      refine Wr_iast dX1_copyFrom_111 (zo1_8 ho) him9 ?_
      refine Wr_mu em9 ?_
      refine Wr_aload_n dX1_copyFrom_112 rfl 0 rfl ?_
      refine Wr_getR 9 dX1_copyFrom_113 flX1_40 ho rfl (by decide) ?_
      refine Wr_iload_n dX1_copyFrom_116 rfl 2 rfl ?_
      refine Wr_aload_n dX1_copyFrom_117 rfl 1 rfl ?_
      refine Wr_getR 9 dX1_copyFrom_118 flX1_40 hr1 rfl (by decide) ?_
      refine Wr_iload_n dX1_copyFrom_121 rfl 2 rfl ?_
      obtain ⟨hi, h⟩ := h
      refine Wr_iald dX1_copyFrom_122 (zo1_9 hr1) hi ?_
      obtain ⟨him10, h⟩ := h
      obtain ⟨m10, em10⟩ : ∃ z : zMem, z = zw m9 (o + 9) x2.toNatClampNeg (m9 (r1 + 9) x2.toNatClampNeg) := ⟨_, rfl⟩
      have h := h m10 em10
      refine Wr_iast dX1_copyFrom_123 (zo1_9 ho) him10 ?_
      refine Wr_mu em10 ?_
      refine Wr_aload_n dX1_copyFrom_124 rfl 0 rfl ?_
      refine Wr_getR 10 dX1_copyFrom_125 flX1_43 ho rfl (by decide) ?_
      refine Wr_iload_n dX1_copyFrom_128 rfl 2 rfl ?_
      refine Wr_aload_n dX1_copyFrom_129 rfl 1 rfl ?_
      refine Wr_getR 10 dX1_copyFrom_130 flX1_43 hr1 rfl (by decide) ?_
      refine Wr_iload_n dX1_copyFrom_133 rfl 2 rfl ?_
      obtain ⟨hi, h⟩ := h
      refine Wr_iald dX1_copyFrom_134 (zo1_10 hr1) hi ?_
      obtain ⟨him11, h⟩ := h
      obtain ⟨m11, em11⟩ : ∃ z : zMem, z = zw m10 (o + 10) x2.toNatClampNeg (m10 (r1 + 10) x2.toNatClampNeg) := ⟨_, rfl⟩
      have h := h m11 em11
      refine Wr_iast dX1_copyFrom_135 (zo1_10 ho) him11 ?_
      refine Wr_mu em11 ?_
      obtain ⟨v12, ev12⟩ : ∃ z : Int32, z = x2 + 1 := ⟨_, rfl⟩
      have h := h v12 ev12
      refine Wr_iinc (v := v12) dX1_copyFrom_136 (q := 2) rfl (by rw [ev12]; rfl) (by decide) rfl ?_
      refine Wr_goto 10 dX1_copyFrom_139 (by decide) ?_
      refine zsub [0, 1, 2] rfl ?_
      exact ih _ _ h
def pX1_copyFrom (d : Nat) (o : Nat) (r1 : Nat) (μ : zMem) (KV : zMem → Prop) (X : Nat → zMem → Prop) : Prop :=
  ∀ m1 : zMem, m1 = zw μ o 0 (μ r1 0) → ∃ n2 : Nat, pX1_copyFrom_10 n2 d o r1 0 m1 KV X
set_option maxRecDepth 20000 in
theorem wX1_copyFrom_0 {d : Nat} {o : Nat} {r1 : Nat} {KV : zMem → Prop} {X : Nat → zMem → Prop} {μ : zMem} (ho : zsh o = .inr 1) (hr1 : zsh r1 = .inr 1) (h : pX1_copyFrom d o r1 μ KV X) : Wr mX1_copyFrom (d + 1) 0 0 [(0, .ref o), (1, .ref r1)] [] μ (kV KV X) := by
  unfold pX1_copyFrom at h
  refine Wr_aload_n dX1_copyFrom_0 rfl 0 rfl ?_
  refine Wr_aload_n dX1_copyFrom_1 rfl 1 rfl ?_
  refine Wr_getI dX1_copyFrom_2 flX1_9 hr1 rfl ?_
  obtain ⟨m1, em1⟩ : ∃ z : zMem, z = zw μ o 0 (μ r1 0) := ⟨_, rfl⟩
  have h := h m1 em1
  refine Wr_putI dX1_copyFrom_5 fpX1_9 ho rfl ?_
  refine Wr_mu em1 ?_
  refine Wr_iconstv (v := 0) dX1_copyFrom_8 (by decide) ?_
  refine Wr_istore_n dX1_copyFrom_9 rfl (by decide) rfl ?_
  refine zsub [0, 1, 2] rfl ?_
  obtain ⟨n9, h⟩ := h
  exact wX1_copyFrom_10 ho hr1 n9 _ _ h
theorem cX1_copyFrom_ {d : Nat} {o : Nat} {r1 : Nat} {μ : zMem} {KV : zMem → Prop} {X : Nat → zMem → Prop} (ho : zsh o = .inr 1) (hr1 : zsh r1 = .inr 1) (h : pX1_copyFrom d o r1 μ KV X) : zcV (d + 1) mX1_copyFrom [.ref o, .ref r1] μ KV X :=
  Ex_of (w := 2) mgX1_copyFrom.2.2.2.2.2 rfl rfl rfl (by decide) (wX1_copyFrom_0 ho hr1 h)
