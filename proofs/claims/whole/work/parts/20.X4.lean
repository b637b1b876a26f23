def pX4_clear_38 : Nat → Nat → Nat → Int32 → zMem → (zMem → Prop) → (Nat → zMem → Prop) → Prop
  | 0, _, _, _, _, _, _ => False
  | n + 1, d, o, x1, μ, KV, X =>
  ((4 ≤ x1 → ∀ m1 : zMem, m1 = zw μ (o + 17) 1 0 → KV m1) ∧
  (¬ (4 ≤ x1) → (vp_in x1 4) ∧ ∀ m2 : zMem, m2 = zw μ (o + 16) x1.toNatClampNeg 0 → ∀ v3 : Int32, v3 = x1 + 1 → pX4_clear_38 n d o v3 m2 KV X))
set_option maxRecDepth 20000 in
theorem wX4_clear_38 {d : Nat} {o : Nat} {KV : zMem → Prop} {X : Nat → zMem → Prop} (ho : zsh o = .inr 4) : ∀ (n : Nat) (x1 : Int32) (μ : zMem), pX4_clear_38 n d o x1 μ KV X → Wr mX4_clear (d + 1) 0 38 [(0, .ref o), (1, .int x1)] [] μ (kV KV X) := by
  intro n
  induction n with
  | zero =>
    intro x1 μ h
    exact absurd h id
  | succ n ih =>
    intro x1 μ h
    unfold pX4_clear_38 at h
    refine Wr_iload_n dX4_clear_38 rfl 1 rfl ?_
    refine Wr_iconstv (v := 4) dX4_clear_39 (by decide) ?_
    refine Wr_icmp_ge 56 dX4_clear_40 (by decide) (fun hc => ?_) (fun hc => ?_)
    · have h := h.1 hc
      refine Wr_aload_n dX4_clear_56 rfl 0 rfl ?_
      refine Wr_getR 17 dX4_clear_57 flX4_47 ho rfl (by decide) ?_
      refine Wr_iconstv (v := 0) dX4_clear_60 (by decide) ?_
      obtain ⟨m1, em1⟩ : ∃ z : zMem, z = zw μ (o + 17) 1 0 := ⟨_, rfl⟩
      have h := h m1 em1
      refine Wr_putI dX4_clear_61 fpX4_54 (zo4_9 ho) rfl ?_
      refine Wr_mu em1 ?_
      exact Wr_vret dX4_clear_64 rfl ⟨rfl, h⟩
    · have h := h.2 hc
      refine Wr_aload_n dX4_clear_43 rfl 0 rfl ?_
      refine Wr_getR 16 dX4_clear_44 flX4_41 ho rfl (by decide) ?_
      refine Wr_iload_n dX4_clear_47 rfl 1 rfl ?_
      refine Wr_iconstv (v := 0) dX4_clear_48 (by decide) ?_
      obtain ⟨him2, h⟩ := h
      obtain ⟨m2, em2⟩ : ∃ z : zMem, z = zw μ (o + 16) x1.toNatClampNeg 0 := ⟨_, rfl⟩
      have h := h m2 em2
      refine Wr_iast dX4_clear_49 (zo4_8 ho) him2 ?_
      refine Wr_mu em2 ?_
      obtain ⟨v3, ev3⟩ : ∃ z : Int32, z = x1 + 1 := ⟨_, rfl⟩
      have h := h v3 ev3
      refine Wr_iinc (v := v3) dX4_clear_50 (q := 1) rfl (by rw [ev3]; rfl) (by decide) rfl ?_
      refine Wr_goto 38 dX4_clear_53 (by decide) ?_
      refine zsub [0, 1] rfl ?_
      exact ih _ _ h
def pX4_clear (d : Nat) (o : Nat) (μ : zMem) (KV : zMem → Prop) (X : Nat → zMem → Prop) : Prop :=
  ∀ m1 : zMem, m1 = zw μ (o + 1) 0 0 → ∀ m2 : zMem, m2 = zw m1 o 1 0 → ∀ m3 : zMem, m3 = zw m2 o 5 0 → ∀ m4 : zMem, m4 = zw m3 o 6 2 → ∀ m5 : zMem, m5 = zw m4 o 7 8 → ∀ m6 : zMem, m6 = zw m5 (o + 16) 0 1 → ∃ n2 : Nat, pX4_clear_38 n2 d o 1 m6 KV X
set_option maxRecDepth 20000 in
theorem wX4_clear_0 {d : Nat} {o : Nat} {KV : zMem → Prop} {X : Nat → zMem → Prop} {μ : zMem} (ho : zsh o = .inr 4) (h : pX4_clear d o μ KV X) : Wr mX4_clear (d + 1) 0 0 [(0, .ref o)] [] μ (kV KV X) := by
  unfold pX4_clear at h
  refine Wr_aload_n dX4_clear_0 rfl 0 rfl ?_
  refine Wr_getR 1 dX4_clear_1 flX4_12 ho rfl (by decide) ?_
  refine Wr_iconstv (v := 0) dX4_clear_4 (by decide) ?_
  obtain ⟨m1, em1⟩ : ∃ z : zMem, z = zw μ (o + 1) 0 0 := ⟨_, rfl⟩
  have h := h m1 em1
  refine Wr_putI dX4_clear_5 fpX4_51 (zo4_0 ho) rfl ?_
  refine Wr_mu em1 ?_
  refine Wr_aload_n dX4_clear_8 rfl 0 rfl ?_
  refine Wr_iconstv (v := 0) dX4_clear_9 (by decide) ?_
  obtain ⟨m2, em2⟩ : ∃ z : zMem, z = zw m1 o 1 0 := ⟨_, rfl⟩
  have h := h m2 em2
  refine Wr_putI dX4_clear_10 fpX4_18 ho rfl ?_
  refine Wr_mu em2 ?_
  refine Wr_aload_n dX4_clear_13 rfl 0 rfl ?_
  refine Wr_iconstv (v := 0) dX4_clear_14 (by decide) ?_
  obtain ⟨m3, em3⟩ : ∃ z : zMem, z = zw m2 o 5 0 := ⟨_, rfl⟩
  have h := h m3 em3
  refine Wr_putI dX4_clear_15 fpX4_32 ho rfl ?_
  refine Wr_mu em3 ?_
  refine Wr_aload_n dX4_clear_18 rfl 0 rfl ?_
  refine Wr_iconstv (v := 2) dX4_clear_19 (by decide) ?_
  obtain ⟨m4, em4⟩ : ∃ z : zMem, z = zw m3 o 6 2 := ⟨_, rfl⟩
  have h := h m4 em4
  refine Wr_putI dX4_clear_20 fpX4_35 ho rfl ?_
  refine Wr_mu em4 ?_
  refine Wr_aload_n dX4_clear_23 rfl 0 rfl ?_
  refine Wr_bipush (v := 8) dX4_clear_24 (by decide) ?_
  obtain ⟨m5, em5⟩ : ∃ z : zMem, z = zw m4 o 7 8 := ⟨_, rfl⟩
  have h := h m5 em5
  refine Wr_putI dX4_clear_26 fpX4_38 ho rfl ?_
  refine Wr_mu em5 ?_
  refine Wr_aload_n dX4_clear_29 rfl 0 rfl ?_
  refine Wr_getR 16 dX4_clear_30 flX4_41 ho rfl (by decide) ?_
  refine Wr_iconstv (v := 0) dX4_clear_33 (by decide) ?_
  refine Wr_iconstv (v := 1) dX4_clear_34 (by decide) ?_
  obtain ⟨m6, em6⟩ : ∃ z : zMem, z = zw m5 (o + 16) 0 1 := ⟨_, rfl⟩
  have h := h m6 em6
  refine Wr_iast dX4_clear_35 (zo4_8 ho) (by unfold vp_in; decide) ?_
  refine Wr_mu em6 ?_
  refine Wr_iconstv (v := 1) dX4_clear_36 (by decide) ?_
  refine Wr_istore_n dX4_clear_37 rfl (by decide) rfl ?_
  refine zsub [0, 1] rfl ?_
  obtain ⟨n9, h⟩ := h
  exact wX4_clear_38 ho n9 _ _ h
theorem cX4_clear_ {d : Nat} {o : Nat} {μ : zMem} {KV : zMem → Prop} {X : Nat → zMem → Prop} (ho : zsh o = .inr 4) (h : pX4_clear d o μ KV X) : zcV (d + 1) mX4_clear [.ref o] μ KV X :=
  Ex_of (w := 1) mgX4_clear.2.2.2.2.2 rfl rfl rfl (by decide) (wX4_clear_0 ho h)

def pX4_hasWindFrom_2 : Nat → Nat → Nat → Int32 → Int32 → zMem → (Int32 → zMem → Prop) → (Nat → zMem → Prop) → Prop
  | 0, _, _, _, _, _, _, _ => False
  | n + 1, d, o, x1, x2, μ, KI, X =>
  ((μ o 1 ≤ x2 → KI 0 μ) ∧
  (¬ (μ o 1 ≤ x2) → (vp_in x2 12) ∧ ((μ (o + 13) x2.toNatClampNeg = x1 → KI 1 μ) ∧
    (¬ (μ (o + 13) x2.toNatClampNeg = x1) → ∀ v1 : Int32, v1 = x2 + 1 → pX4_hasWindFrom_2 n d o x1 v1 μ KI X))))
set_option maxRecDepth 20000 in
theorem wX4_hasWindFrom_2 {d : Nat} {o : Nat} {KI : Int32 → zMem → Prop} {X : Nat → zMem → Prop} (ho : zsh o = .inr 4) : ∀ (n : Nat) (x1 : Int32) (x2 : Int32) (μ : zMem), pX4_hasWindFrom_2 n d o x1 x2 μ KI X → Wr mX4_hasWindFrom (d + 1) 0 2 [(0, .ref o), (1, .int x1), (2, .int x2)] [] μ (kI KI X) := by
  intro n
  induction n with
  | zero =>
    intro x1 x2 μ h
    exact absurd h id
  | succ n ih =>
    intro x1 x2 μ h
    unfold pX4_hasWindFrom_2 at h
    refine Wr_iload_n dX4_hasWindFrom_2 rfl 2 rfl ?_
    refine Wr_aload_n dX4_hasWindFrom_3 rfl 0 rfl ?_
    refine Wr_getI dX4_hasWindFrom_4 flX4_18 ho rfl ?_
    refine Wr_icmp_ge 28 dX4_hasWindFrom_7 (by decide) (fun hc => ?_) (fun hc => ?_)
    · have h := h.1 hc
      refine Wr_iconstv (v := 0) dX4_hasWindFrom_28 (by decide) ?_
      exact Wr_iret .boolean dX4_hasWindFrom_29 rfl rfl ⟨rfl, h⟩
    · have h := h.2 hc
      refine Wr_aload_n dX4_hasWindFrom_10 rfl 0 rfl ?_
      refine Wr_getR 13 dX4_hasWindFrom_11 flX4_22 ho rfl (by decide) ?_
      refine Wr_iload_n dX4_hasWindFrom_14 rfl 2 rfl ?_
      obtain ⟨hi, h⟩ := h
      refine Wr_iald dX4_hasWindFrom_15 (zo4_2 ho) hi ?_
      refine Wr_iload_n dX4_hasWindFrom_16 rfl 1 rfl ?_
      refine Wr_icmp_ne 22 dX4_hasWindFrom_17 (by decide) (fun hc => ?_) (fun hc => ?_)
      · have h := h.2 hc
        obtain ⟨v1, ev1⟩ : ∃ z : Int32, z = x2 + 1 := ⟨_, rfl⟩
        have h := h v1 ev1
        refine Wr_iinc (v := v1) dX4_hasWindFrom_22 (q := 2) rfl (by rw [ev1]; rfl) (by decide) rfl ?_
        refine Wr_goto 2 dX4_hasWindFrom_25 (by decide) ?_
        refine zsub [0, 1, 2] rfl ?_
        exact ih _ _ _ h
      · have h := h.1 hc
        refine Wr_iconstv (v := 1) dX4_hasWindFrom_20 (by decide) ?_
        exact Wr_iret .boolean dX4_hasWindFrom_21 rfl rfl ⟨rfl, h⟩
def pX4_hasWindFrom (d : Nat) (o : Nat) (x1 : Int32) (μ : zMem) (KI : Int32 → zMem → Prop) (X : Nat → zMem → Prop) : Prop :=
  ∃ n2 : Nat, pX4_hasWindFrom_2 n2 d o x1 0 μ KI X
set_option maxRecDepth 20000 in
theorem wX4_hasWindFrom_0 {d : Nat} {o : Nat} {KI : Int32 → zMem → Prop} {X : Nat → zMem → Prop} {x1 : Int32} {μ : zMem} (ho : zsh o = .inr 4) (h : pX4_hasWindFrom d o x1 μ KI X) : Wr mX4_hasWindFrom (d + 1) 0 0 [(0, .ref o), (1, .int x1)] [] μ (kI KI X) := by
  unfold pX4_hasWindFrom at h
  refine Wr_iconstv (v := 0) dX4_hasWindFrom_0 (by decide) ?_
  refine Wr_istore_n dX4_hasWindFrom_1 rfl (by decide) rfl ?_
  refine zsub [0, 1, 2] rfl ?_
  obtain ⟨n9, h⟩ := h
  exact wX4_hasWindFrom_2 ho n9 _ _ _ h
theorem cX4_hasWindFrom_ {d : Nat} {o : Nat} {x1 : Int32} {μ : zMem} {KI : Int32 → zMem → Prop} {X : Nat → zMem → Prop} (ho : zsh o = .inr 4) (h : pX4_hasWindFrom d o x1 μ KI X) : zcI (d + 1) mX4_hasWindFrom [.ref o, .int x1] μ KI X :=
  Ex_of (w := 2) mgX4_hasWindFrom.2.2.2.2.2 rfl rfl rfl (by decide) (wX4_hasWindFrom_0 ho h)

def pX4_windAlongX (d : Nat) (o : Nat) (x1 : Int32) (μ : zMem) (KI : Int32 → zMem → Prop) (X : Nat → zMem → Prop) : Prop :=
  zcI d mX4_latestWind [.ref o, .int x1] μ (fun u2 m1 => ((u2 = (-1) → KI 0 m1) ∧
  (¬ (u2 = (-1)) → (vp_in u2 12) ∧ KI (m1 (o + 14) u2.toNatClampNeg) m1))) X
set_option maxRecDepth 20000 in
theorem wX4_windAlongX_0 {d : Nat} {o : Nat} {KI : Int32 → zMem → Prop} {X : Nat → zMem → Prop} {x1 : Int32} {μ : zMem} (ho : zsh o = .inr 4) (h : pX4_windAlongX d o x1 μ KI X) : Wr mX4_windAlongX (d + 1) 0 0 [(0, .ref o), (1, .int x1)] [] μ (kI KI X) := by
  unfold pX4_windAlongX at h
  refine Wr_aload_n dX4_windAlongX_0 rfl 0 rfl ?_
  refine Wr_iload_n dX4_windAlongX_1 rfl 1 rfl ?_
  refine Wr_cVi [.int x1] dX4_windAlongX_2 mlX4_57 mgX4_latestWind rfl mvX4_latestWind (zrv ho _ rfl rfl) rfl rfl (Nat.le_of_ble_eq_true rfl) rfl (zcI.imp h (fun u2 m1 h => ?_) (fun _ _ h => ⟨rfl, h⟩))
  refine Wr_istore_n dX4_windAlongX_5 rfl (by decide) rfl ?_
  refine Wr_iload_n dX4_windAlongX_6 rfl 0 rfl ?_
  refine Wr_iconstv (v := (-1)) dX4_windAlongX_7 (by decide) ?_
  refine Wr_icmp_ne 15 dX4_windAlongX_8 (by decide) (fun hc => ?_) (fun hc => ?_)
  · have h := h.2 hc
    refine Wr_aload_n dX4_windAlongX_15 rfl 1 rfl ?_
    refine Wr_getR 14 dX4_windAlongX_16 flX4_26 ho rfl (by decide) ?_
    refine Wr_iload_n dX4_windAlongX_19 rfl 0 rfl ?_
    obtain ⟨hi, h⟩ := h
    refine Wr_iald dX4_windAlongX_20 (zo4_3 ho) hi ?_
    exact Wr_iret .int dX4_windAlongX_21 rfl rfl ⟨rfl, h⟩
  · have h := h.1 hc
    refine Wr_iconstv (v := 0) dX4_windAlongX_11 (by decide) ?_
    refine Wr_goto 21 dX4_windAlongX_12 (by decide) ?_
    exact Wr_iret .int dX4_windAlongX_21 rfl rfl ⟨rfl, h⟩
theorem cX4_windAlongX_ {d : Nat} {o : Nat} {x1 : Int32} {μ : zMem} {KI : Int32 → zMem → Prop} {X : Nat → zMem → Prop} (ho : zsh o = .inr 4) (h : pX4_windAlongX d o x1 μ KI X) : zcI (d + 1) mX4_windAlongX [.ref o, .int x1] μ KI X :=
  Ex_of (w := 2) mgX4_windAlongX.2.2.2.2.2 rfl rfl rfl (by decide) (wX4_windAlongX_0 ho h)

def pX4_windAlongY (d : Nat) (o : Nat) (x1 : Int32) (μ : zMem) (KI : Int32 → zMem → Prop) (X : Nat → zMem → Prop) : Prop :=
  zcI d mX4_latestWind [.ref o, .int x1] μ (fun u2 m1 => ((u2 = (-1) → KI 0 m1) ∧
  (¬ (u2 = (-1)) → (vp_in u2 12) ∧ KI (m1 (o + 15) u2.toNatClampNeg) m1))) X
set_option maxRecDepth 20000 in
theorem wX4_windAlongY_0 {d : Nat} {o : Nat} {KI : Int32 → zMem → Prop} {X : Nat → zMem → Prop} {x1 : Int32} {μ : zMem} (ho : zsh o = .inr 4) (h : pX4_windAlongY d o x1 μ KI X) : Wr mX4_windAlongY (d + 1) 0 0 [(0, .ref o), (1, .int x1)] [] μ (kI KI X) := by
  unfold pX4_windAlongY at h
  refine Wr_aload_n dX4_windAlongY_0 rfl 0 rfl ?_
  refine Wr_iload_n dX4_windAlongY_1 rfl 1 rfl ?_
  refine Wr_cVi [.int x1] dX4_windAlongY_2 mlX4_57 mgX4_latestWind rfl mvX4_latestWind (zrv ho _ rfl rfl) rfl rfl (Nat.le_of_ble_eq_true rfl) rfl (zcI.imp h (fun u2 m1 h => ?_) (fun _ _ h => ⟨rfl, h⟩))
  refine Wr_istore_n dX4_windAlongY_5 rfl (by decide) rfl ?_
  refine Wr_iload_n dX4_windAlongY_6 rfl 0 rfl ?_
  refine Wr_iconstv (v := (-1)) dX4_windAlongY_7 (by decide) ?_
  refine Wr_icmp_ne 15 dX4_windAlongY_8 (by decide) (fun hc => ?_) (fun hc => ?_)
  · have h := h.2 hc
    refine Wr_aload_n dX4_windAlongY_15 rfl 1 rfl ?_
    refine Wr_getR 15 dX4_windAlongY_16 flX4_29 ho rfl (by decide) ?_
    refine Wr_iload_n dX4_windAlongY_19 rfl 0 rfl ?_
    obtain ⟨hi, h⟩ := h
    refine Wr_iald dX4_windAlongY_20 (zo4_4 ho) hi ?_
    exact Wr_iret .int dX4_windAlongY_21 rfl rfl ⟨rfl, h⟩
  · have h := h.1 hc
    refine Wr_iconstv (v := 0) dX4_windAlongY_11 (by decide) ?_
    refine Wr_goto 21 dX4_windAlongY_12 (by decide) ?_
    exact Wr_iret .int dX4_windAlongY_21 rfl rfl ⟨rfl, h⟩
theorem cX4_windAlongY_ {d : Nat} {o : Nat} {x1 : Int32} {μ : zMem} {KI : Int32 → zMem → Prop} {X : Nat → zMem → Prop} (ho : zsh o = .inr 4) (h : pX4_windAlongY d o x1 μ KI X) : zcI (d + 1) mX4_windAlongY [.ref o, .int x1] μ KI X :=
  Ex_of (w := 2) mgX4_windAlongY.2.2.2.2.2 rfl rfl rfl (by decide) (wX4_windAlongY_0 ho h)

def pX4_latestWind_4 : Nat → Nat → Nat → Int32 → Int32 → Int32 → zMem → (Int32 → zMem → Prop) → (Nat → zMem → Prop) → Prop
  | 0, _, _, _, _, _, _, _, _ => False
  | n + 1, d, o, x1, x2, x3, μ, KI, X =>
  ((μ o 1 ≤ x3 → KI x2 μ) ∧
  (¬ (μ o 1 ≤ x3) → (vp_in x3 12) ∧ ((x1 < μ (o + 13) x3.toNatClampNeg → ∀ v1 : Int32, v1 = x3 + 1 → pX4_latestWind_4 n d o x1 x2 v1 μ KI X) ∧
    (¬ (x1 < μ (o + 13) x3.toNatClampNeg) → ((x2 = (-1) → ∀ v2 : Int32, v2 = x3 + 1 → pX4_latestWind_4 n d o x1 x3 v2 μ KI X) ∧
      (¬ (x2 = (-1)) → (vp_in x3 12) ∧ (vp_in x2 12) ∧ ((μ (o + 13) x3.toNatClampNeg ≤ μ (o + 13) x2.toNatClampNeg → ∀ v3 : Int32, v3 = x3 + 1 → pX4_latestWind_4 n d o x1 x2 v3 μ KI X) ∧
        (¬ (μ (o + 13) x3.toNatClampNeg ≤ μ (o + 13) x2.toNatClampNeg) → ∀ v4 : Int32, v4 = x3 + 1 → pX4_latestWind_4 n d o x1 x3 v4 μ KI X))))))))
set_option maxRecDepth 20000 in
theorem wX4_latestWind_4 {d : Nat} {o : Nat} {KI : Int32 → zMem → Prop} {X : Nat → zMem → Prop} (ho : zsh o = .inr 4) : ∀ (n : Nat) (x1 : Int32) (x2 : Int32) (x3 : Int32) (μ : zMem), pX4_latestWind_4 n d o x1 x2 x3 μ KI X → Wr mX4_latestWind (d + 1) 0 4 [(0, .ref o), (1, .int x1), (2, .int x2), (3, .int x3)] [] μ (kI KI X) := by
  intro n
  induction n with
  | zero =>
    intro x1 x2 x3 μ h
    exact absurd h id
  | succ n ih =>
    intro x1 x2 x3 μ h
    unfold pX4_latestWind_4 at h
    refine Wr_iload_n dX4_latestWind_4 rfl 3 rfl ?_
    refine Wr_aload_n dX4_latestWind_5 rfl 0 rfl ?_
    refine Wr_getI dX4_latestWind_6 flX4_18 ho rfl ?_
    refine Wr_icmp_ge 50 dX4_latestWind_9 (by decide) (fun hc => ?_) (fun hc => ?_)
    · have h := h.1 hc
      refine Wr_iload_n dX4_latestWind_50 rfl 2 rfl ?_
      exact Wr_iret .int dX4_latestWind_51 rfl rfl ⟨rfl, h⟩
    · have h := h.2 hc
      refine Wr_aload_n dX4_latestWind_12 rfl 0 rfl ?_
      refine Wr_getR 13 dX4_latestWind_13 flX4_22 ho rfl (by decide) ?_
      refine Wr_iload_n dX4_latestWind_16 rfl 3 rfl ?_
      obtain ⟨hi, h⟩ := h
      refine Wr_iald dX4_latestWind_17 (zo4_2 ho) hi ?_
      refine Wr_iload_n dX4_latestWind_18 rfl 1 rfl ?_
      refine Wr_icmp_gt 44 dX4_latestWind_19 (by decide) (fun hc => ?_) (fun hc => ?_)
      · have h := h.1 hc
        obtain ⟨v1, ev1⟩ : ∃ z : Int32, z = x3 + 1 := ⟨_, rfl⟩
        have h := h v1 ev1
        refine Wr_iinc (v := v1) dX4_latestWind_44 (q := 3) rfl (by rw [ev1]; rfl) (by decide) rfl ?_
        refine Wr_goto 4 dX4_latestWind_47 (by decide) ?_
        refine zsub [0, 1, 2, 3] rfl ?_
        exact ih _ _ _ _ h
      · have h := h.2 hc
        refine Wr_iload_n dX4_latestWind_22 rfl 2 rfl ?_
        refine Wr_iconstv (v := (-1)) dX4_latestWind_23 (by decide) ?_
        refine Wr_icmp_eq 42 dX4_latestWind_24 (by decide) (fun hc => ?_) (fun hc => ?_)
        · have h := h.1 hc
          refine Wr_iload_n dX4_latestWind_42 rfl 3 rfl ?_
          refine Wr_istore_n dX4_latestWind_43 rfl (by decide) rfl ?_
          obtain ⟨v2, ev2⟩ : ∃ z : Int32, z = x3 + 1 := ⟨_, rfl⟩
          have h := h v2 ev2
          refine Wr_iinc (v := v2) dX4_latestWind_44 (q := 3) rfl (by rw [ev2]; rfl) (by decide) rfl ?_
          refine Wr_goto 4 dX4_latestWind_47 (by decide) ?_
          refine zsub [0, 1, 2, 3] rfl ?_
          exact ih _ _ _ _ h
        · have h := h.2 hc
          refine Wr_aload_n dX4_latestWind_27 rfl 0 rfl ?_
          refine Wr_getR 13 dX4_latestWind_28 flX4_22 ho rfl (by decide) ?_
          refine Wr_iload_n dX4_latestWind_31 rfl 3 rfl ?_
          obtain ⟨hi, h⟩ := h
          refine Wr_iald dX4_latestWind_32 (zo4_2 ho) hi ?_
          refine Wr_aload_n dX4_latestWind_33 rfl 0 rfl ?_
          refine Wr_getR 13 dX4_latestWind_34 flX4_22 ho rfl (by decide) ?_
          refine Wr_iload_n dX4_latestWind_37 rfl 2 rfl ?_
          obtain ⟨hi, h⟩ := h
          refine Wr_iald dX4_latestWind_38 (zo4_2 ho) hi ?_
          refine Wr_icmp_le 44 dX4_latestWind_39 (by decide) (fun hc => ?_) (fun hc => ?_)
          · have h := h.1 hc
            obtain ⟨v3, ev3⟩ : ∃ z : Int32, z = x3 + 1 := ⟨_, rfl⟩
            have h := h v3 ev3
            refine Wr_iinc (v := v3) dX4_latestWind_44 (q := 3) rfl (by rw [ev3]; rfl) (by decide) rfl ?_
            refine Wr_goto 4 dX4_latestWind_47 (by decide) ?_
            refine zsub [0, 1, 2, 3] rfl ?_
            exact ih _ _ _ _ h
          · have h := h.2 hc
            refine Wr_iload_n dX4_latestWind_42 rfl 3 rfl ?_
            refine Wr_istore_n dX4_latestWind_43 rfl (by decide) rfl ?_
            obtain ⟨v4, ev4⟩ : ∃ z : Int32, z = x3 + 1 := ⟨_, rfl⟩
            have h := h v4 ev4
            refine Wr_iinc (v := v4) dX4_latestWind_44 (q := 3) rfl (by rw [ev4]; rfl) (by decide) rfl ?_
            refine Wr_goto 4 dX4_latestWind_47 (by decide) ?_
            refine zsub [0, 1, 2, 3] rfl ?_
            exact ih _ _ _ _ h
def pX4_latestWind (d : Nat) (o : Nat) (x1 : Int32) (μ : zMem) (KI : Int32 → zMem → Prop) (X : Nat → zMem → Prop) : Prop :=
  ∃ n2 : Nat, pX4_latestWind_4 n2 d o x1 (-1) 0 μ KI X
set_option maxRecDepth 20000 in
theorem wX4_latestWind_0 {d : Nat} {o : Nat} {KI : Int32 → zMem → Prop} {X : Nat → zMem → Prop} {x1 : Int32} {μ : zMem} (ho : zsh o = .inr 4) (h : pX4_latestWind d o x1 μ KI X) : Wr mX4_latestWind (d + 1) 0 0 [(0, .ref o), (1, .int x1)] [] μ (kI KI X) := by
  unfold pX4_latestWind at h
  refine Wr_iconstv (v := (-1)) dX4_latestWind_0 (by decide) ?_
  refine Wr_istore_n dX4_latestWind_1 rfl (by decide) rfl ?_
  refine Wr_iconstv (v := 0) dX4_latestWind_2 (by decide) ?_
  refine Wr_istore_n dX4_latestWind_3 rfl (by decide) rfl ?_
  refine zsub [0, 1, 2, 3] rfl ?_
  obtain ⟨n9, h⟩ := h
  exact wX4_latestWind_4 ho n9 _ _ _ _ h
theorem cX4_latestWind_ {d : Nat} {o : Nat} {x1 : Int32} {μ : zMem} {KI : Int32 → zMem → Prop} {X : Nat → zMem → Prop} (ho : zsh o = .inr 4) (h : pX4_latestWind d o x1 μ KI X) : zcI (d + 1) mX4_latestWind [.ref o, .int x1] μ KI X :=
  Ex_of (w := 2) mgX4_latestWind.2.2.2.2.2 rfl rfl rfl (by decide) (wX4_latestWind_0 ho h)

def pX4_allWeights_4 : Nat → Nat → Nat → Int32 → Int32 → zMem → (Int32 → zMem → Prop) → (Nat → zMem → Prop) → Prop
  | 0, _, _, _, _, _, _, _ => False
  | n + 1, d, o, x1, x2, μ, KI, X =>
  ((4 ≤ x2 → KI x1 μ) ∧
  (¬ (4 ≤ x2) → (vp_in x2 4) ∧ ∀ v1 : Int32, v1 = x1 + (μ (o + 16) x2.toNatClampNeg) → ∀ v2 : Int32, v2 = x2 + 1 → pX4_allWeights_4 n d o v1 v2 μ KI X))
set_option maxRecDepth 20000 in
theorem wX4_allWeights_4 {d : Nat} {o : Nat} {KI : Int32 → zMem → Prop} {X : Nat → zMem → Prop} (ho : zsh o = .inr 4) : ∀ (n : Nat) (x1 : Int32) (x2 : Int32) (μ : zMem), pX4_allWeights_4 n d o x1 x2 μ KI X → Wr mX4_allWeights (d + 1) 0 4 [(0, .ref o), (1, .int x1), (2, .int x2)] [] μ (kI KI X) := by
  intro n
  induction n with
  | zero =>
    intro x1 x2 μ h
    exact absurd h id
  | succ n ih =>
    intro x1 x2 μ h
    unfold pX4_allWeights_4 at h
    refine Wr_iload_n dX4_allWeights_4 rfl 2 rfl ?_
    refine Wr_iconstv (v := 4) dX4_allWeights_5 (by decide) ?_
    refine Wr_icmp_ge 24 dX4_allWeights_6 (by decide) (fun hc => ?_) (fun hc => ?_)
    · have h := h.1 hc
      refine Wr_iload_n dX4_allWeights_24 rfl 1 rfl ?_
      exact Wr_iret .int dX4_allWeights_25 rfl rfl ⟨rfl, h⟩
    · have h := h.2 hc
      refine Wr_iload_n dX4_allWeights_9 rfl 1 rfl ?_
      refine Wr_aload_n dX4_allWeights_10 rfl 0 rfl ?_
      refine Wr_getR 16 dX4_allWeights_11 flX4_41 ho rfl (by decide) ?_
      refine Wr_iload_n dX4_allWeights_14 rfl 2 rfl ?_
      obtain ⟨hi, h⟩ := h
      refine Wr_iald dX4_allWeights_15 (zo4_8 ho) hi ?_
      refine Wr_iadd dX4_allWeights_16 ?_
      obtain ⟨v1, ev1⟩ : ∃ z : Int32, z = x1 + (μ (o + 16) x2.toNatClampNeg) := ⟨_, rfl⟩
      have h := h v1 ev1
      refine Wr_top ev1 ?_
      refine Wr_istore_n dX4_allWeights_17 rfl (by decide) rfl ?_
      obtain ⟨v2, ev2⟩ : ∃ z : Int32, z = x2 + 1 := ⟨_, rfl⟩
      have h := h v2 ev2
      refine Wr_iinc (v := v2) dX4_allWeights_18 (q := 2) rfl (by rw [ev2]; rfl) (by decide) rfl ?_
      refine Wr_goto 4 dX4_allWeights_21 (by decide) ?_
      refine zsub [0, 1, 2] rfl ?_
      exact ih _ _ _ h
def pX4_allWeights (d : Nat) (o : Nat) (μ : zMem) (KI : Int32 → zMem → Prop) (X : Nat → zMem → Prop) : Prop :=
  ∃ n2 : Nat, pX4_allWeights_4 n2 d o 0 0 μ KI X
set_option maxRecDepth 20000 in
theorem wX4_allWeights_0 {d : Nat} {o : Nat} {KI : Int32 → zMem → Prop} {X : Nat → zMem → Prop} {μ : zMem} (ho : zsh o = .inr 4) (h : pX4_allWeights d o μ KI X) : Wr mX4_allWeights (d + 1) 0 0 [(0, .ref o)] [] μ (kI KI X) := by
  unfold pX4_allWeights at h
  refine Wr_iconstv (v := 0) dX4_allWeights_0 (by decide) ?_
  refine Wr_istore_n dX4_allWeights_1 rfl (by decide) rfl ?_
  refine Wr_iconstv (v := 0) dX4_allWeights_2 (by decide) ?_
  refine Wr_istore_n dX4_allWeights_3 rfl (by decide) rfl ?_
  refine zsub [0, 1, 2] rfl ?_
  obtain ⟨n9, h⟩ := h
  exact wX4_allWeights_4 ho n9 _ _ _ h
theorem cX4_allWeights_ {d : Nat} {o : Nat} {μ : zMem} {KI : Int32 → zMem → Prop} {X : Nat → zMem → Prop} (ho : zsh o = .inr 4) (h : pX4_allWeights d o μ KI X) : zcI (d + 1) mX4_allWeights [.ref o] μ KI X :=
  Ex_of (w := 1) mgX4_allWeights.2.2.2.2.2 rfl rfl rfl (by decide) (wX4_allWeights_0 ho h)

def pX4_pushOf_25 (d : Nat) (o : Nat) (r1 : Nat) (x2 : Int32) (x4 : Int32) (y0 : Int32) (μ : zMem) (KI : Int32 → zMem → Prop) (X : Nat → zMem → Prop) : Prop :=
  ∀ v1 : Int32, v1 = zmin (zmax y0 0) 100 → ∀ v2 : Int32, v2 = zmin (v1 + (20 * x4)) 100 → (vp_in x2 6) ∧ ((μ (r1 + 1) x2.toNatClampNeg = 2 → KI (v2 / 2) μ) ∧
  (¬ (μ (r1 + 1) x2.toNatClampNeg = 2) → KI v2 μ))
set_option maxRecDepth 20000 in
theorem wX4_pushOf_25 {d : Nat} {o : Nat} {r1 : Nat} {KI : Int32 → zMem → Prop} {X : Nat → zMem → Prop} {x2 : Int32} {x4 : Int32} {y0 : Int32} {μ : zMem} (ho : zsh o = .inr 4) (hr1 : zsh r1 = .inr 1) (h : pX4_pushOf_25 d o r1 x2 x4 y0 μ KI X) : Wr mX4_pushOf (d + 1) 0 25 [(1, .ref r1), (2, .int x2), (4, .int x4)] [.int y0] μ (kI KI X) := by
  unfold pX4_pushOf_25 at h
  refine Wr_istore dX4_pushOf_25 (by decide) rfl ?_
  refine Wr_iload dX4_pushOf_27 0 rfl ?_
  refine Wr_iconstv (v := 0) dX4_pushOf_29 (by decide) ?_
  refine Wr_mmax dX4_pushOf_30 mlX4_65 (Nat.le_of_ble_eq_true rfl) ?_
  refine Wr_bipush (v := 100) dX4_pushOf_33 (by decide) ?_
  refine Wr_mmin dX4_pushOf_35 mlX4_71 (Nat.le_of_ble_eq_true rfl) ?_
  obtain ⟨v1, ev1⟩ : ∃ z : Int32, z = zmin (zmax y0 0) 100 := ⟨_, rfl⟩
  have h := h v1 ev1
  refine Wr_top ev1 ?_
  refine Wr_istore dX4_pushOf_38 (by decide) rfl ?_
  refine Wr_iload dX4_pushOf_40 0 rfl ?_
  refine Wr_bipush (v := 20) dX4_pushOf_42 (by decide) ?_
  refine Wr_iload dX4_pushOf_44 4 rfl ?_
  refine Wr_imul dX4_pushOf_46 ?_
  refine Wr_iadd dX4_pushOf_47 ?_
  refine Wr_bipush (v := 100) dX4_pushOf_48 (by decide) ?_
  refine Wr_mmin dX4_pushOf_50 mlX4_71 (Nat.le_of_ble_eq_true rfl) ?_
  obtain ⟨v2, ev2⟩ : ∃ z : Int32, z = zmin (v1 + (20 * x4)) 100 := ⟨_, rfl⟩
  have h := h v2 ev2
  refine Wr_top ev2 ?_
  refine Wr_istore dX4_pushOf_53 (by decide) rfl ?_
  refine Wr_aload_n dX4_pushOf_55 rfl 3 rfl ?_
  refine Wr_getR 1 dX4_pushOf_56 flX4_74 hr1 rfl (by decide) ?_
  refine Wr_iload_n dX4_pushOf_59 rfl 4 rfl ?_
  obtain ⟨hi, h⟩ := h
  refine Wr_iald dX4_pushOf_60 (zo1_1 hr1) hi ?_
  refine Wr_iconstv (v := 2) dX4_pushOf_61 (by decide) ?_
  refine Wr_icmp_ne 72 dX4_pushOf_62 (by decide) (fun hc => ?_) (fun hc => ?_)
  · have h := h.2 hc
    refine Wr_iload dX4_pushOf_72 0 rfl ?_
    exact Wr_iret .int dX4_pushOf_74 rfl rfl ⟨rfl, h⟩
  · have h := h.1 hc
    refine Wr_iload dX4_pushOf_65 0 rfl ?_
    refine Wr_iconstv (v := 2) dX4_pushOf_67 (by decide) ?_
    refine Wr_idiv dX4_pushOf_68 (by decide) ?_
    refine Wr_goto 74 dX4_pushOf_69 (by decide) ?_
    exact Wr_iret .int dX4_pushOf_74 rfl rfl ⟨rfl, h⟩
def pX4_pushOf (d : Nat) (o : Nat) (r1 : Nat) (x2 : Int32) (x3 : Int32) (x4 : Int32) (μ : zMem) (KI : Int32 → zMem → Prop) (X : Nat → zMem → Prop) : Prop :=
  ((μ (o + 17) 1 = 0 → pX4_pushOf_25 d o r1 x2 x4 50 μ KI X) ∧
  (¬ (μ (o + 17) 1 = 0) → zcI d mX3_worth [.ref (o + 17), .ref r1, .int x2, .int x3] μ (fun u2 m1 => pX4_pushOf_25 d o r1 x2 x4 u2 m1 KI X) X))
set_option maxRecDepth 20000 in
theorem wX4_pushOf_0 {d : Nat} {o : Nat} {r1 : Nat} {KI : Int32 → zMem → Prop} {X : Nat → zMem → Prop} {x2 : Int32} {x3 : Int32} {x4 : Int32} {μ : zMem} (ho : zsh o = .inr 4) (hr1 : zsh r1 = .inr 1) (h : pX4_pushOf d o r1 x2 x3 x4 μ KI X) : Wr mX4_pushOf (d + 1) 0 0 [(0, .ref o), (1, .ref r1), (2, .int x2), (3, .int x3), (4, .int x4)] [] μ (kI KI X) := by
  unfold pX4_pushOf at h
  refine Wr_aload_n dX4_pushOf_0 rfl 0 rfl ?_
  refine Wr_getR 17 dX4_pushOf_1 flX4_47 ho rfl (by decide) ?_
  refine Wr_getI dX4_pushOf_4 flX4_54 (zo4_9 ho) rfl ?_
  refine Wr_if_ne 15 dX4_pushOf_7 (by decide) (fun hc => ?_) (fun hc => ?_)
  · have h := h.2 hc
    refine Wr_aload_n dX4_pushOf_15 rfl 0 rfl ?_
    refine Wr_getR 17 dX4_pushOf_16 flX4_47 ho rfl (by decide) ?_
    refine Wr_aload_n dX4_pushOf_19 rfl 1 rfl ?_
    refine Wr_iload_n dX4_pushOf_20 rfl 2 rfl ?_
    refine Wr_iload_n dX4_pushOf_21 rfl 3 rfl ?_
    refine Wr_cVi [.ref r1, .int x2, .int x3] dX4_pushOf_22 mlX4_61 mgX3_worth rfl mvX3_worth (zrv (zo4_9 ho) _ rfl rfl) rfl rfl (Nat.le_of_ble_eq_true rfl) rfl (zcI.imp h (fun u2 m1 h => ?_) (fun _ _ h => ⟨rfl, h⟩))
    refine zsub [1, 2, 4] rfl ?_
    exact wX4_pushOf_25 ho hr1 h
  · have h := h.1 hc
    refine Wr_bipush (v := 50) dX4_pushOf_10 (by decide) ?_
    refine Wr_goto 25 dX4_pushOf_12 (by decide) ?_
    refine zsub [1, 2, 4] rfl ?_
    exact wX4_pushOf_25 ho hr1 h
theorem cX4_pushOf_ {d : Nat} {o : Nat} {r1 : Nat} {x2 : Int32} {x3 : Int32} {x4 : Int32} {μ : zMem} {KI : Int32 → zMem → Prop} {X : Nat → zMem → Prop} (ho : zsh o = .inr 4) (hr1 : zsh r1 = .inr 1) (h : pX4_pushOf d o r1 x2 x3 x4 μ KI X) : zcI (d + 1) mX4_pushOf [.ref o, .ref r1, .int x2, .int x3, .int x4] μ KI X :=
  Ex_of (w := 5) mgX4_pushOf.2.2.2.2.2 rfl rfl rfl (by decide) (wX4_pushOf_0 ho hr1 h)
