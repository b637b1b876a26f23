def pX2_readText_44 : Nat → Nat → Nat → Nat → Nat → Nat → Int32 → Int32 → zMem → (Int32 → zMem → Prop) → (Nat → zMem → Prop) → Prop
  | 0, _, _, _, _, _, _, _, _, _, _ => False
  | n + 1, d, o, a1, n1, r3, x2, x4, μ, KI, X =>
  ((x2 < x4 → KI (μ o 2) μ) ∧
  (¬ (x2 < x4) → ((μ o 2 = 0 → ((μ (o + 1) 4 = 0 → KI (μ o 2) μ) ∧
      (¬ (μ (o + 1) 4 = 0) → zcI d mX2_readLine [.ref o, .ref r3] μ (fun u2 m1 => ((u2 = 0 → ∀ v3 : Int32, v3 = x4 + 1 → pX2_readText_44 n d o a1 n1 r3 x2 v3 m1 KI X) ∧
        (¬ (u2 = 0) → zcI d mX2_takeSign [.ref o, .int 59] m1 (fun u5 m4 => ∀ v6 : Int32, v6 = x4 + 1 → pX2_readText_44 n d o a1 n1 r3 x2 v6 m4 KI X) X))) X))) ∧
    (¬ (μ o 2 = 0) → KI (μ o 2) μ))))
set_option maxRecDepth 20000 in
theorem wX2_readText_44 {d : Nat} {o : Nat} {a1 : Nat} {n1 : Nat} {r3 : Nat} {KI : Int32 → zMem → Prop} {X : Nat → zMem → Prop} (ho : zsh o = .inr 2) (ha1 : zsh a1 = .inl (1, n1)) (hr3 : zsh r3 = .inr 4) : ∀ (n : Nat) (x2 : Int32) (x4 : Int32) (μ : zMem), pX2_readText_44 n d o a1 n1 r3 x2 x4 μ KI X → Wr mX2_readText (d + 1) 0 44 [(0, .ref o), (2, .int x2), (3, .ref r3), (4, .int x4)] [] μ (kI KI X) := by
  intro n
  induction n with
  | zero =>
    intro x2 x4 μ h
    exact absurd h id
  | succ n ih =>
    intro x2 x4 μ h
    unfold pX2_readText_44 at h
    refine Wr_iload dX2_readText_44 3 rfl ?_
    refine Wr_iload_n dX2_readText_46 rfl 1 rfl ?_
    refine Wr_icmp_gt 88 dX2_readText_47 (by decide) (fun hc => ?_) (fun hc => ?_)
    · have h := h.1 hc
      refine Wr_aload_n dX2_readText_88 rfl 0 rfl ?_
      refine Wr_getI dX2_readText_89 flX2_22 ho rfl ?_
      exact Wr_iret .int dX2_readText_92 rfl rfl ⟨rfl, h⟩
    · have h := h.2 hc
      refine Wr_aload_n dX2_readText_50 rfl 0 rfl ?_
      refine Wr_getI dX2_readText_51 flX2_22 ho rfl ?_
      refine Wr_if_ne 88 dX2_readText_54 (by decide) (fun hc => ?_) (fun hc => ?_)
      · have h := h.2 hc
        refine Wr_aload_n dX2_readText_88 rfl 0 rfl ?_
        refine Wr_getI dX2_readText_89 flX2_22 ho rfl ?_
        exact Wr_iret .int dX2_readText_92 rfl rfl ⟨rfl, h⟩
      · have h := h.1 hc
        refine Wr_aload_n dX2_readText_57 rfl 0 rfl ?_
        refine Wr_getR 1 dX2_readText_58 flX2_12 ho rfl (by decide) ?_
        refine Wr_getI dX2_readText_61 flX2_41 (zo2_0 ho) rfl ?_
        refine Wr_if_eq 88 dX2_readText_64 (by decide) (fun hc => ?_) (fun hc => ?_)
        · have h := h.1 hc
          refine Wr_aload_n dX2_readText_88 rfl 0 rfl ?_
          refine Wr_getI dX2_readText_89 flX2_22 ho rfl ?_
          exact Wr_iret .int dX2_readText_92 rfl rfl ⟨rfl, h⟩
        · have h := h.2 hc
          refine Wr_aload_n dX2_readText_67 rfl 0 rfl ?_
          refine Wr_aload_n dX2_readText_68 rfl 2 rfl ?_
          refine Wr_cVi [.ref r3] dX2_readText_69 mlX2_44 mgX2_readLine rfl mvX2_readLine (zrv ho _ rfl rfl) rfl rfl (Nat.le_of_ble_eq_true rfl) rfl (zcI.imp h (fun u2 m1 h => ?_) (fun _ _ h => ⟨rfl, h⟩))
          refine Wr_if_eq 82 dX2_readText_72 (by decide) (fun hc => ?_) (fun hc => ?_)
          · have h := h.1 hc
            obtain ⟨v3, ev3⟩ : ∃ z : Int32, z = x4 + 1 := ⟨_, rfl⟩
            have h := h v3 ev3
            refine Wr_iinc (v := v3) dX2_readText_82 (q := 3) rfl (by rw [ev3]; rfl) (by decide) rfl ?_
            refine Wr_goto 44 dX2_readText_85 (by decide) ?_
            refine zsub [0, 2, 3, 4] rfl ?_
            exact ih _ _ _ h
          · have h := h.2 hc
            refine Wr_aload_n dX2_readText_75 rfl 0 rfl ?_
            refine Wr_bipush (v := 59) dX2_readText_76 (by decide) ?_
            refine Wr_cVi [.int 59] dX2_readText_78 mlX2_48 mgX2_takeSign rfl mvX2_takeSign (zrv ho _ rfl rfl) rfl rfl (Nat.le_of_ble_eq_true rfl) rfl (zcI.imp h (fun u5 m4 h => ?_) (fun _ _ h => ⟨rfl, h⟩))
            refine Wr_pop dX2_readText_81 rfl ?_
            obtain ⟨v6, ev6⟩ : ∃ z : Int32, z = x4 + 1 := ⟨_, rfl⟩
            have h := h v6 ev6
            refine Wr_iinc (v := v6) dX2_readText_82 (q := 3) rfl (by rw [ev6]; rfl) (by decide) rfl ?_
            refine Wr_goto 44 dX2_readText_85 (by decide) ?_
            refine zsub [0, 2, 3, 4] rfl ?_
            exact ih _ _ _ h
def pX2_readText_12 : Nat → Nat → Nat → Nat → Nat → Nat → Int32 → Int32 → zMem → (Int32 → zMem → Prop) → (Nat → zMem → Prop) → Prop
  | 0, _, _, _, _, _, _, _, _, _, _ => False
  | n + 1, d, o, a1, n1, r3, x2, x4, μ, KI, X =>
  ((5 ≤ x4 → zcV d mX6_begin [.ref (o + 1), .ref a1, .int x2] μ (fun m1 => ∃ n2 : Nat, pX2_readText_44 n2 d o a1 n1 r3 x2 0 m1 KI X) X) ∧
  (¬ (5 ≤ x4) → (vp_in x4 5) ∧ ∀ m2 : zMem, m2 = zw μ (o + 3) x4.toNatClampNeg (vp_nar .boolean 0) → ∀ v3 : Int32, v3 = x4 + 1 → pX2_readText_12 n d o a1 n1 r3 x2 v3 m2 KI X))
set_option maxRecDepth 20000 in
theorem wX2_readText_12 {d : Nat} {o : Nat} {a1 : Nat} {n1 : Nat} {r3 : Nat} {KI : Int32 → zMem → Prop} {X : Nat → zMem → Prop} (ho : zsh o = .inr 2) (ha1 : zsh a1 = .inl (1, n1)) (hr3 : zsh r3 = .inr 4) : ∀ (n : Nat) (x2 : Int32) (x4 : Int32) (μ : zMem), pX2_readText_12 n d o a1 n1 r3 x2 x4 μ KI X → Wr mX2_readText (d + 1) 0 12 [(0, .ref o), (1, .ref a1), (2, .int x2), (3, .ref r3), (4, .int x4)] [] μ (kI KI X) := by
  intro n
  induction n with
  | zero =>
    intro x2 x4 μ h
    exact absurd h id
  | succ n ih =>
    intro x2 x4 μ h
    unfold pX2_readText_12 at h
    refine Wr_iload dX2_readText_12 4 rfl ?_
    refine Wr_iconstv (v := 5) dX2_readText_14 (by decide) ?_
    refine Wr_icmp_ge 32 dX2_readText_15 (by decide) (fun hc => ?_) (fun hc => ?_)
    · have h := h.1 hc
      refine Wr_aload_n dX2_readText_32 rfl 0 rfl ?_
      refine Wr_getR 1 dX2_readText_33 flX2_12 ho rfl (by decide) ?_
      refine Wr_aload_n dX2_readText_36 rfl 1 rfl ?_
      refine Wr_iload_n dX2_readText_37 rfl 2 rfl ?_
      refine Wr_cVv [.ref a1, .int x2] dX2_readText_38 mlX2_37 mgX6_begin rfl mvX6_begin (zrv (zo2_0 ho) _ rfl rfl) rfl rfl (Nat.le_of_ble_eq_true rfl) rfl (zcV.imp h (fun m1 h => ?_) (fun _ _ h => ⟨rfl, h⟩))
      refine Wr_iconstv (v := 0) dX2_readText_41 (by decide) ?_
      refine Wr_istore dX2_readText_42 (by decide) rfl ?_
      refine zsub [0, 2, 3, 4] rfl ?_
      obtain ⟨n9, h⟩ := h
      exact wX2_readText_44 ho ha1 hr3 n9 _ _ _ h
    · have h := h.2 hc
      refine Wr_aload_n dX2_readText_18 rfl 0 rfl ?_
      refine Wr_getR 3 dX2_readText_19 flX2_18 ho rfl (by decide) ?_
      refine Wr_iload dX2_readText_22 4 rfl ?_
      refine Wr_iconstv (v := 0) dX2_readText_24 (by decide) ?_
      obtain ⟨him2, h⟩ := h
      obtain ⟨m2, em2⟩ : ∃ z : zMem, z = zw μ (o + 3) x4.toNatClampNeg (vp_nar .boolean 0) := ⟨_, rfl⟩
      have h := h m2 em2
      refine Wr_zast dX2_readText_25 (zo2_1 ho) him2 ?_
      refine Wr_mu em2 ?_
      obtain ⟨v3, ev3⟩ : ∃ z : Int32, z = x4 + 1 := ⟨_, rfl⟩
      have h := h v3 ev3
      refine Wr_iinc (v := v3) dX2_readText_26 (q := 4) rfl (by rw [ev3]; rfl) (by decide) rfl ?_
      refine Wr_goto 12 dX2_readText_29 (by decide) ?_
      refine zsub [0, 1, 2, 3, 4] rfl ?_
      exact ih _ _ _ h
def pX2_readText (d : Nat) (o : Nat) (a1 : Nat) (n1 : Nat) (r3 : Nat) (x2 : Int32) (μ : zMem) (KI : Int32 → zMem → Prop) (X : Nat → zMem → Prop) : Prop :=
  ∀ m1 : zMem, m1 = zw μ o 2 0 → zcV d mX4_clear [.ref r3] m1 (fun m2 => ∃ n2 : Nat, pX2_readText_12 n2 d o a1 n1 r3 x2 0 m2 KI X) X
set_option maxRecDepth 20000 in
theorem wX2_readText_0 {d : Nat} {o : Nat} {a1 : Nat} {n1 : Nat} {r3 : Nat} {KI : Int32 → zMem → Prop} {X : Nat → zMem → Prop} {x2 : Int32} {μ : zMem} (ho : zsh o = .inr 2) (ha1 : zsh a1 = .inl (1, n1)) (hr3 : zsh r3 = .inr 4) (h : pX2_readText d o a1 n1 r3 x2 μ KI X) : Wr mX2_readText (d + 1) 0 0 [(0, .ref o), (1, .ref a1), (2, .int x2), (3, .ref r3)] [] μ (kI KI X) := by
  unfold pX2_readText at h
  refine Wr_aload_n dX2_readText_0 rfl 0 rfl ?_
  refine Wr_iconstv (v := 0) dX2_readText_1 (by decide) ?_
  obtain ⟨m1, em1⟩ : ∃ z : zMem, z = zw μ o 2 0 := ⟨_, rfl⟩
  have h := h m1 em1
  refine Wr_putI dX2_readText_2 fpX2_22 ho rfl ?_
  refine Wr_mu em1 ?_
  refine Wr_aload_n dX2_readText_5 rfl 3 rfl ?_
  refine Wr_cVv [] dX2_readText_6 mlX2_32 mgX4_clear rfl mvX4_clear (zrv hr3 _ rfl rfl) rfl rfl (Nat.le_of_ble_eq_true rfl) rfl (zcV.imp h (fun m2 h => ?_) (fun _ _ h => ⟨rfl, h⟩))
  refine Wr_iconstv (v := 0) dX2_readText_9 (by decide) ?_
  refine Wr_istore dX2_readText_10 (by decide) rfl ?_
  refine zsub [0, 1, 2, 3, 4] rfl ?_
  obtain ⟨n9, h⟩ := h
  exact wX2_readText_12 ho ha1 hr3 n9 _ _ _ h
theorem cX2_readText_ {d : Nat} {o : Nat} {a1 : Nat} {n1 : Nat} {r3 : Nat} {x2 : Int32} {μ : zMem} {KI : Int32 → zMem → Prop} {X : Nat → zMem → Prop} (ho : zsh o = .inr 2) (ha1 : zsh a1 = .inl (1, n1)) (hr3 : zsh r3 = .inr 4) (h : pX2_readText d o a1 n1 r3 x2 μ KI X) : zcI (d + 1) mX2_readText [.ref o, .ref a1, .int x2, .ref r3] μ KI X :=
  Ex_of (w := 4) mgX2_readText.2.2.2.2.2 rfl rfl rfl (by decide) (wX2_readText_0 ho ha1 hr3 h)

def pX2_refuse (d : Nat) (o : Nat) (x1 : Int32) (μ : zMem) (KI : Int32 → zMem → Prop) (X : Nat → zMem → Prop) : Prop :=
  ∀ m1 : zMem, m1 = zw μ o 2 x1 → ∀ m2 : zMem, m2 = zw m1 o 4 (m1 (o + 1) 3) → KI 0 m2
set_option maxRecDepth 20000 in
theorem wX2_refuse_0 {d : Nat} {o : Nat} {KI : Int32 → zMem → Prop} {X : Nat → zMem → Prop} {x1 : Int32} {μ : zMem} (ho : zsh o = .inr 2) (h : pX2_refuse d o x1 μ KI X) : Wr mX2_refuse (d + 1) 0 0 [(0, .ref o), (1, .int x1)] [] μ (kI KI X) := by
  unfold pX2_refuse at h
  refine Wr_aload_n dX2_refuse_0 rfl 0 rfl ?_
  refine Wr_iload_n dX2_refuse_1 rfl 1 rfl ?_
  obtain ⟨m1, em1⟩ : ∃ z : zMem, z = zw μ o 2 x1 := ⟨_, rfl⟩
  have h := h m1 em1
  refine Wr_putI dX2_refuse_2 fpX2_22 ho rfl ?_
  refine Wr_mu em1 ?_
  refine Wr_aload_n dX2_refuse_5 rfl 0 rfl ?_
  refine Wr_aload_n dX2_refuse_6 rfl 0 rfl ?_
  refine Wr_getR 1 dX2_refuse_7 flX2_12 ho rfl (by decide) ?_
  refine Wr_getI dX2_refuse_10 flX2_52 (zo2_0 ho) rfl ?_
  obtain ⟨m2, em2⟩ : ∃ z : zMem, z = zw m1 o 4 (m1 (o + 1) 3) := ⟨_, rfl⟩
  have h := h m2 em2
  refine Wr_putI dX2_refuse_13 fpX2_29 ho rfl ?_
  refine Wr_mu em2 ?_
  refine Wr_iconstv (v := 0) dX2_refuse_16 (by decide) ?_
  exact Wr_iret .boolean dX2_refuse_17 rfl rfl ⟨rfl, h⟩
theorem cX2_refuse_ {d : Nat} {o : Nat} {x1 : Int32} {μ : zMem} {KI : Int32 → zMem → Prop} {X : Nat → zMem → Prop} (ho : zsh o = .inr 2) (h : pX2_refuse d o x1 μ KI X) : zcI (d + 1) mX2_refuse [.ref o, .int x1] μ KI X :=
  Ex_of (w := 2) mgX2_refuse.2.2.2.2.2 rfl rfl rfl (by decide) (wX2_refuse_0 ho h)

def pX2_takeSign (d : Nat) (o : Nat) (x1 : Int32) (μ : zMem) (KI : Int32 → zMem → Prop) (X : Nat → zMem → Prop) : Prop :=
  ((μ (o + 1) 4 = x1 → zcV d mX6_step [.ref (o + 1)] μ (fun m1 => KI 1 m1) X) ∧
  (¬ (μ (o + 1) 4 = x1) → zcI d mX2_refuse [.ref o, .int 1] μ (fun u3 m2 => (u3 = 0 ∨ u3 = 1) ∧ KI u3 m2) X))
set_option maxRecDepth 20000 in
theorem wX2_takeSign_0 {d : Nat} {o : Nat} {KI : Int32 → zMem → Prop} {X : Nat → zMem → Prop} {x1 : Int32} {μ : zMem} (ho : zsh o = .inr 2) (h : pX2_takeSign d o x1 μ KI X) : Wr mX2_takeSign (d + 1) 0 0 [(0, .ref o), (1, .int x1)] [] μ (kI KI X) := by
  unfold pX2_takeSign at h
  refine Wr_aload_n dX2_takeSign_0 rfl 0 rfl ?_
  refine Wr_getR 1 dX2_takeSign_1 flX2_12 ho rfl (by decide) ?_
  refine Wr_getI dX2_takeSign_4 flX2_41 (zo2_0 ho) rfl ?_
  refine Wr_iload_n dX2_takeSign_7 rfl 1 rfl ?_
  refine Wr_icmp_eq 17 dX2_takeSign_8 (by decide) (fun hc => ?_) (fun hc => ?_)
  · have h := h.1 hc
    refine Wr_aload_n dX2_takeSign_17 rfl 0 rfl ?_
    refine Wr_getR 1 dX2_takeSign_18 flX2_12 ho rfl (by decide) ?_
    refine Wr_cVv [] dX2_takeSign_21 mlX2_58 mgX6_step rfl mvX6_step (zrv (zo2_0 ho) _ rfl rfl) rfl rfl (Nat.le_of_ble_eq_true rfl) rfl (zcV.imp h (fun m1 h => ?_) (fun _ _ h => ⟨rfl, h⟩))
    refine Wr_iconstv (v := 1) dX2_takeSign_24 (by decide) ?_
    exact Wr_iret .boolean dX2_takeSign_25 rfl rfl ⟨rfl, h⟩
  · have h := h.2 hc
    refine Wr_aload_n dX2_takeSign_11 rfl 0 rfl ?_
    refine Wr_iconstv (v := 1) dX2_takeSign_12 (by decide) ?_
    refine Wr_cVi [.int 1] dX2_takeSign_13 mlX2_55 mgX2_refuse rfl mvX2_refuse (zrv ho _ rfl rfl) rfl rfl (Nat.le_of_ble_eq_true rfl) rfl (zcI.imp h (fun u3 m2 h => ?_) (fun _ _ h => ⟨rfl, h⟩))
    exact Wr_iret .boolean dX2_takeSign_16 rfl (znar h.1) ⟨rfl, h.2⟩
theorem cX2_takeSign_ {d : Nat} {o : Nat} {x1 : Int32} {μ : zMem} {KI : Int32 → zMem → Prop} {X : Nat → zMem → Prop} (ho : zsh o = .inr 2) (h : pX2_takeSign d o x1 μ KI X) : zcI (d + 1) mX2_takeSign [.ref o, .int x1] μ KI X :=
  Ex_of (w := 2) mgX2_takeSign.2.2.2.2.2 rfl rfl rfl (by decide) (wX2_takeSign_0 ho h)

def pX2_isNumber_39 (d : Nat) (o : Nat) (μ : zMem) (KI : Int32 → zMem → Prop) (X : Nat → zMem → Prop) : Prop :=
  zcI d mX2_refuse [.ref o, .int 2] μ (fun u2 m1 => (u2 = 0 ∨ u2 = 1) ∧ KI u2 m1) X
set_option maxRecDepth 20000 in
theorem wX2_isNumber_39 {d : Nat} {o : Nat} {KI : Int32 → zMem → Prop} {X : Nat → zMem → Prop} {μ : zMem} (ho : zsh o = .inr 2) (h : pX2_isNumber_39 d o μ KI X) : Wr mX2_isNumber (d + 1) 0 39 [(0, .ref o)] [] μ (kI KI X) := by
  unfold pX2_isNumber_39 at h
  refine Wr_aload_n dX2_isNumber_39 rfl 0 rfl ?_
  refine Wr_iconstv (v := 2) dX2_isNumber_40 (by decide) ?_
  refine Wr_cVi [.int 2] dX2_isNumber_41 mlX2_55 mgX2_refuse rfl mvX2_refuse (zrv ho _ rfl rfl) rfl rfl (Nat.le_of_ble_eq_true rfl) rfl (zcI.imp h (fun u2 m1 h => ?_) (fun _ _ h => ⟨rfl, h⟩))
  exact Wr_iret .boolean dX2_isNumber_44 rfl (znar h.1) ⟨rfl, h.2⟩
def pX2_isNumber (d : Nat) (o : Nat) (x1 : Int32) (x2 : Int32) (μ : zMem) (KI : Int32 → zMem → Prop) (X : Nat → zMem → Prop) : Prop :=
  ((μ (o + 1) 4 = 2 → ((μ (o + 1) 5 < x1 → pX2_isNumber_39 d o μ KI X) ∧
    (¬ (μ (o + 1) 5 < x1) → ((μ (o + 1) 5 ≤ x2 → ∀ m1 : zMem, m1 = zw μ o 3 (μ (o + 1) 5) → KI 1 m1) ∧
      (¬ (μ (o + 1) 5 ≤ x2) → pX2_isNumber_39 d o μ KI X))))) ∧
  (¬ (μ (o + 1) 4 = 2) → zcI d mX2_refuse [.ref o, .int 1] μ (fun u3 m2 => (u3 = 0 ∨ u3 = 1) ∧ KI u3 m2) X))
set_option maxRecDepth 20000 in
theorem wX2_isNumber_0 {d : Nat} {o : Nat} {KI : Int32 → zMem → Prop} {X : Nat → zMem → Prop} {x1 : Int32} {x2 : Int32} {μ : zMem} (ho : zsh o = .inr 2) (h : pX2_isNumber d o x1 x2 μ KI X) : Wr mX2_isNumber (d + 1) 0 0 [(0, .ref o), (1, .int x1), (2, .int x2)] [] μ (kI KI X) := by
  unfold pX2_isNumber at h
  refine Wr_aload_n dX2_isNumber_0 rfl 0 rfl ?_
  refine Wr_getR 1 dX2_isNumber_1 flX2_12 ho rfl (by decide) ?_
  refine Wr_getI dX2_isNumber_4 flX2_41 (zo2_0 ho) rfl ?_
  refine Wr_iconstv (v := 2) dX2_isNumber_7 (by decide) ?_
  refine Wr_icmp_eq 17 dX2_isNumber_8 (by decide) (fun hc => ?_) (fun hc => ?_)
  · have h := h.1 hc
    refine Wr_aload_n dX2_isNumber_17 rfl 0 rfl ?_
    refine Wr_getR 1 dX2_isNumber_18 flX2_12 ho rfl (by decide) ?_
    refine Wr_getI dX2_isNumber_21 flX2_61 (zo2_0 ho) rfl ?_
    refine Wr_iload_n dX2_isNumber_24 rfl 1 rfl ?_
    refine Wr_icmp_lt 39 dX2_isNumber_25 (by decide) (fun hc => ?_) (fun hc => ?_)
    · have h := h.1 hc
      refine zsub [0] rfl ?_
      exact wX2_isNumber_39 ho h
    · have h := h.2 hc
      refine Wr_aload_n dX2_isNumber_28 rfl 0 rfl ?_
      refine Wr_getR 1 dX2_isNumber_29 flX2_12 ho rfl (by decide) ?_
      refine Wr_getI dX2_isNumber_32 flX2_61 (zo2_0 ho) rfl ?_
      refine Wr_iload_n dX2_isNumber_35 rfl 2 rfl ?_
      refine Wr_icmp_le 45 dX2_isNumber_36 (by decide) (fun hc => ?_) (fun hc => ?_)
      · have h := h.1 hc
        refine Wr_aload_n dX2_isNumber_45 rfl 0 rfl ?_
        refine Wr_aload_n dX2_isNumber_46 rfl 0 rfl ?_
        refine Wr_getR 1 dX2_isNumber_47 flX2_12 ho rfl (by decide) ?_
        refine Wr_getI dX2_isNumber_50 flX2_61 (zo2_0 ho) rfl ?_
        obtain ⟨m1, em1⟩ : ∃ z : zMem, z = zw μ o 3 (μ (o + 1) 5) := ⟨_, rfl⟩
        have h := h m1 em1
        refine Wr_putI dX2_isNumber_53 fpX2_26 ho rfl ?_
        refine Wr_mu em1 ?_
        refine Wr_iconstv (v := 1) dX2_isNumber_56 (by decide) ?_
        exact Wr_iret .boolean dX2_isNumber_57 rfl rfl ⟨rfl, h⟩
      · have h := h.2 hc
        refine zsub [0] rfl ?_
        exact wX2_isNumber_39 ho h
  · have h := h.2 hc
    refine Wr_aload_n dX2_isNumber_11 rfl 0 rfl ?_
    refine Wr_iconstv (v := 1) dX2_isNumber_12 (by decide) ?_
    refine Wr_cVi [.int 1] dX2_isNumber_13 mlX2_55 mgX2_refuse rfl mvX2_refuse (zrv ho _ rfl rfl) rfl rfl (Nat.le_of_ble_eq_true rfl) rfl (zcI.imp h (fun u3 m2 h => ?_) (fun _ _ h => ⟨rfl, h⟩))
    exact Wr_iret .boolean dX2_isNumber_16 rfl (znar h.1) ⟨rfl, h.2⟩
theorem cX2_isNumber_ {d : Nat} {o : Nat} {x1 : Int32} {x2 : Int32} {μ : zMem} {KI : Int32 → zMem → Prop} {X : Nat → zMem → Prop} (ho : zsh o = .inr 2) (h : pX2_isNumber d o x1 x2 μ KI X) : zcI (d + 1) mX2_isNumber [.ref o, .int x1, .int x2] μ KI X :=
  Ex_of (w := 3) mgX2_isNumber.2.2.2.2.2 rfl rfl rfl (by decide) (wX2_isNumber_0 ho h)

def pX2_takeNumber (d : Nat) (o : Nat) (x1 : Int32) (x2 : Int32) (μ : zMem) (KI : Int32 → zMem → Prop) (X : Nat → zMem → Prop) : Prop :=
  zcI d mX2_isNumber [.ref o, .int x1, .int x2] μ (fun u2 m1 => ((u2 = 0 → KI 0 m1) ∧
  (¬ (u2 = 0) → zcV d mX6_step [.ref (o + 1)] m1 (fun m3 => KI 1 m3) X))) X
set_option maxRecDepth 20000 in
theorem wX2_takeNumber_0 {d : Nat} {o : Nat} {KI : Int32 → zMem → Prop} {X : Nat → zMem → Prop} {x1 : Int32} {x2 : Int32} {μ : zMem} (ho : zsh o = .inr 2) (h : pX2_takeNumber d o x1 x2 μ KI X) : Wr mX2_takeNumber (d + 1) 0 0 [(0, .ref o), (1, .int x1), (2, .int x2)] [] μ (kI KI X) := by
  unfold pX2_takeNumber at h
  refine Wr_aload_n dX2_takeNumber_0 rfl 0 rfl ?_
  refine Wr_iload_n dX2_takeNumber_1 rfl 1 rfl ?_
  refine Wr_iload_n dX2_takeNumber_2 rfl 2 rfl ?_
  refine Wr_cVi [.int x1, .int x2] dX2_takeNumber_3 mlX2_64 mgX2_isNumber rfl mvX2_isNumber (zrv ho _ rfl rfl) rfl rfl (Nat.le_of_ble_eq_true rfl) rfl (zcI.imp h (fun u2 m1 h => ?_) (fun _ _ h => ⟨rfl, h⟩))
  refine Wr_if_ne 11 dX2_takeNumber_6 (by decide) (fun hc => ?_) (fun hc => ?_)
  · have h := h.2 hc
    refine Wr_aload_n dX2_takeNumber_11 rfl 0 rfl ?_
    refine Wr_getR 1 dX2_takeNumber_12 flX2_12 ho rfl (by decide) ?_
    refine Wr_cVv [] dX2_takeNumber_15 mlX2_58 mgX6_step rfl mvX6_step (zrv (zo2_0 ho) _ rfl rfl) rfl rfl (Nat.le_of_ble_eq_true rfl) rfl (zcV.imp h (fun m3 h => ?_) (fun _ _ h => ⟨rfl, h⟩))
    refine Wr_iconstv (v := 1) dX2_takeNumber_18 (by decide) ?_
    exact Wr_iret .boolean dX2_takeNumber_19 rfl rfl ⟨rfl, h⟩
  · have h := h.1 hc
    refine Wr_iconstv (v := 0) dX2_takeNumber_9 (by decide) ?_
    exact Wr_iret .boolean dX2_takeNumber_10 rfl rfl ⟨rfl, h⟩
theorem cX2_takeNumber_ {d : Nat} {o : Nat} {x1 : Int32} {x2 : Int32} {μ : zMem} {KI : Int32 → zMem → Prop} {X : Nat → zMem → Prop} (ho : zsh o = .inr 2) (h : pX2_takeNumber d o x1 x2 μ KI X) : zcI (d + 1) mX2_takeNumber [.ref o, .int x1, .int x2] μ KI X :=
  Ex_of (w := 3) mgX2_takeNumber.2.2.2.2.2 rfl rfl rfl (by decide) (wX2_takeNumber_0 ho h)

def pX2_takeSigned_29 (d : Nat) (o : Nat) (x1 : Int32) (μ : zMem) (KI : Int32 → zMem → Prop) (X : Nat → zMem → Prop) : Prop :=
  zcI d mX2_takeNumber [.ref o, .int 0, .int 9] μ (fun u2 m1 => ((u2 = 0 → KI 0 m1) ∧
  (¬ (u2 = 0) → ∀ m3 : zMem, m3 = zw m1 o 3 (if x1 = 0 then m1 o 3 else -(m1 o 3)) → KI 1 m3))) X
set_option maxRecDepth 20000 in
theorem wX2_takeSigned_29 {d : Nat} {o : Nat} {KI : Int32 → zMem → Prop} {X : Nat → zMem → Prop} {x1 : Int32} {μ : zMem} (ho : zsh o = .inr 2) (h : pX2_takeSigned_29 d o x1 μ KI X) : Wr mX2_takeSigned (d + 1) 0 29 [(0, .ref o), (1, .int x1)] [] μ (kI KI X) := by
  unfold pX2_takeSigned_29 at h
  refine Wr_aload_n dX2_takeSigned_29 rfl 0 rfl ?_
  refine Wr_iconstv (v := 0) dX2_takeSigned_30 (by decide) ?_
  refine Wr_bipush (v := 9) dX2_takeSigned_31 (by decide) ?_
  refine Wr_cVi [.int 0, .int 9] dX2_takeSigned_33 mlX2_68 mgX2_takeNumber rfl mvX2_takeNumber (zrv ho _ rfl rfl) rfl rfl (Nat.le_of_ble_eq_true rfl) rfl (zcI.imp h (fun u2 m1 h => ?_) (fun _ _ h => ⟨rfl, h⟩))
  refine Wr_if_ne 41 dX2_takeSigned_36 (by decide) (fun hc => ?_) (fun hc => ?_)
  · have h := h.2 hc
    refine Wr_aload_n dX2_takeSigned_41 rfl 0 rfl ?_
    refine Wr_iload_n dX2_takeSigned_42 rfl 1 rfl ?_
    have hj2 : Wr mX2_takeSigned (d + 1) 0 58 [(0, .ref o), (1, .int x1)] [.int (if x1 = 0 then m1 o 3 else -(m1 o 3)), .ref o] m1 (kI KI X) := by
      obtain ⟨m3, em3⟩ : ∃ z : zMem, z = zw m1 o 3 (if x1 = 0 then m1 o 3 else -(m1 o 3)) := ⟨_, rfl⟩
      have h := h m3 em3
      refine Wr_putI dX2_takeSigned_58 fpX2_26 ho rfl ?_
      refine Wr_mu em3 ?_
      refine Wr_iconstv (v := 1) dX2_takeSigned_61 (by decide) ?_
      exact Wr_iret .boolean dX2_takeSigned_62 rfl rfl ⟨rfl, h⟩
    refine Wr_if_eq 54 dX2_takeSigned_43 (by decide) (fun hc0 => ?_) (fun hc0 => ?_)
    · skip
      refine Wr_aload_n dX2_takeSigned_54 rfl 0 rfl ?_
      refine Wr_getI dX2_takeSigned_55 flX2_26 ho rfl ?_
      exact Wr_top (if_pos hc0) hj2
    · skip
      refine Wr_aload_n dX2_takeSigned_46 rfl 0 rfl ?_
      refine Wr_getI dX2_takeSigned_47 flX2_26 ho rfl ?_
      refine Wr_ineg dX2_takeSigned_50 ?_
      refine Wr_goto 58 dX2_takeSigned_51 (by decide) ?_
      exact Wr_top (if_neg hc0) hj2
  · have h := h.1 hc
    refine Wr_iconstv (v := 0) dX2_takeSigned_39 (by decide) ?_
    exact Wr_iret .boolean dX2_takeSigned_40 rfl rfl ⟨rfl, h⟩
def pX2_takeSigned (d : Nat) (o : Nat) (μ : zMem) (KI : Int32 → zMem → Prop) (X : Nat → zMem → Prop) : Prop :=
  ∀ v1 : Int32, v1 = (if μ (o + 1) 4 = 45 then 1 else 0) → ((v1 = 0 → pX2_takeSigned_29 d o v1 μ KI X) ∧
  (¬ (v1 = 0) → zcV d mX6_step [.ref (o + 1)] μ (fun m2 => pX2_takeSigned_29 d o v1 m2 KI X) X))
set_option maxRecDepth 20000 in
theorem wX2_takeSigned_0 {d : Nat} {o : Nat} {KI : Int32 → zMem → Prop} {X : Nat → zMem → Prop} {μ : zMem} (ho : zsh o = .inr 2) (h : pX2_takeSigned d o μ KI X) : Wr mX2_takeSigned (d + 1) 0 0 [(0, .ref o)] [] μ (kI KI X) := by
  unfold pX2_takeSigned at h
  refine Wr_aload_n dX2_takeSigned_0 rfl 0 rfl ?_
  refine Wr_getR 1 dX2_takeSigned_1 flX2_12 ho rfl (by decide) ?_
  refine Wr_getI dX2_takeSigned_4 flX2_41 (zo2_0 ho) rfl ?_
  refine Wr_bipush (v := 45) dX2_takeSigned_7 (by decide) ?_
  have hj1 : Wr mX2_takeSigned (d + 1) 0 17 [(0, .ref o)] [.int (if μ (o + 1) 4 = 45 then 1 else 0)] μ (kI KI X) := by
    obtain ⟨v1, ev1⟩ : ∃ z : Int32, z = (if μ (o + 1) 4 = 45 then 1 else 0) := ⟨_, rfl⟩
    have h := h v1 ev1
    refine Wr_top ev1 ?_
    refine Wr_istore_n dX2_takeSigned_17 rfl (by decide) rfl ?_
    refine Wr_iload_n dX2_takeSigned_18 rfl 0 rfl ?_
    refine Wr_if_eq 29 dX2_takeSigned_19 (by decide) (fun hc => ?_) (fun hc => ?_)
    · have h := h.1 hc
      refine zsub [0, 1] rfl ?_
      exact wX2_takeSigned_29 ho h
    · have h := h.2 hc
      refine Wr_aload_n dX2_takeSigned_22 rfl 1 rfl ?_
      refine Wr_getR 1 dX2_takeSigned_23 flX2_12 ho rfl (by decide) ?_
      refine Wr_cVv [] dX2_takeSigned_26 mlX2_58 mgX6_step rfl mvX6_step (zrv (zo2_0 ho) _ rfl rfl) rfl rfl (Nat.le_of_ble_eq_true rfl) rfl (zcV.imp h (fun m2 h => ?_) (fun _ _ h => ⟨rfl, h⟩))
      refine zsub [0, 1] rfl ?_
      exact wX2_takeSigned_29 ho h
  refine Wr_icmp_ne 16 dX2_takeSigned_9 (by decide) (fun hc0 => ?_) (fun hc0 => ?_)
  · skip
    refine Wr_iconstv (v := 0) dX2_takeSigned_16 (by decide) ?_
    exact Wr_top (if_neg hc0) hj1
  · skip
    refine Wr_iconstv (v := 1) dX2_takeSigned_12 (by decide) ?_
    refine Wr_goto 17 dX2_takeSigned_13 (by decide) ?_
    exact Wr_top (if_pos hc0) hj1
theorem cX2_takeSigned_ {d : Nat} {o : Nat} {μ : zMem} {KI : Int32 → zMem → Prop} {X : Nat → zMem → Prop} (ho : zsh o = .inr 2) (h : pX2_takeSigned d o μ KI X) : zcI (d + 1) mX2_takeSigned [.ref o] μ KI X :=
  Ex_of (w := 1) mgX2_takeSigned.2.2.2.2.2 rfl rfl rfl (by decide) (wX2_takeSigned_0 ho h)

def pX2_readLine_56 (d : Nat) (o : Nat) (r1 : Nat) (x2 : Int32) (μ : zMem) (KI : Int32 → zMem → Prop) (X : Nat → zMem → Prop) : Prop :=
  ((x2 = 3 → zcI d mX2_readWind [.ref o, .ref r1] μ (fun u2 m1 => (u2 = 0 ∨ u2 = 1) ∧ KI u2 m1) X) ∧
  (x2 = 4 → zcI d mX2_readChurch [.ref o, .ref r1] μ (fun u4 m3 => (u4 = 0 ∨ u4 = 1) ∧ KI u4 m3) X) ∧
  (x2 = 5 → zcI d mX2_readGusts [.ref o, .ref r1] μ (fun u6 m5 => (u6 = 0 ∨ u6 = 1) ∧ KI u6 m5) X) ∧
  (x2 = 6 → zcI d mX2_readReach [.ref o, .ref r1] μ (fun u8 m7 => (u8 = 0 ∨ u8 = 1) ∧ KI u8 m7) X) ∧
  (x2 = 7 → zcI d mX2_readLight [.ref o, .ref r1] μ (fun u10 m9 => (u10 = 0 ∨ u10 = 1) ∧ KI u10 m9) X) ∧
  (x2 = 8 → zcI d mX2_readPush [.ref o, .ref (r1 + 17)] μ (fun u12 m11 => (u12 = 0 ∨ u12 = 1) ∧ KI u12 m11) X) ∧
  (¬ x2 = 3 → ¬ x2 = 4 → ¬ x2 = 5 → ¬ x2 = 6 → ¬ x2 = 7 → ¬ x2 = 8 → zcI d mX2_readIsle [.ref o, .ref (r1 + 1), .int x2] μ (fun u14 m13 => (u14 = 0 ∨ u14 = 1) ∧ KI u14 m13) X))
set_option maxRecDepth 20000 in
theorem wX2_readLine_56 {d : Nat} {o : Nat} {r1 : Nat} {KI : Int32 → zMem → Prop} {X : Nat → zMem → Prop} {x2 : Int32} {μ : zMem} (ho : zsh o = .inr 2) (hr1 : zsh r1 = .inr 4) (h : pX2_readLine_56 d o r1 x2 μ KI X) : Wr mX2_readLine (d + 1) 0 56 [(0, .ref o), (1, .ref r1), (2, .int x2)] [] μ (kI KI X) := by
  unfold pX2_readLine_56 at h
  refine Wr_iload_n dX2_readLine_56 rfl 2 rfl ?_
  by_cases hq0 : x2 = 3
  · have h := h.1 hq0
    refine Wr_tswC 3 39 96 hq0 dX2_readLine_57 (by decide) (by decide) (by decide) (by decide) ?_
    refine Wr_aload_n dX2_readLine_96 rfl 0 rfl ?_
    refine Wr_aload_n dX2_readLine_97 rfl 1 rfl ?_
    refine Wr_cVi [.ref r1] dX2_readLine_98 mlX2_77 mgX2_readWind rfl mvX2_readWind (zrv ho _ rfl rfl) rfl rfl (Nat.le_of_ble_eq_true rfl) rfl (zcI.imp h (fun u2 m1 h => ?_) (fun _ _ h => ⟨rfl, h⟩))
    exact Wr_iret .boolean dX2_readLine_101 rfl (znar h.1) ⟨rfl, h.2⟩
  have h := h.2
  by_cases hq1 : x2 = 4
  · have h := h.1 hq1
    refine Wr_tswC 4 45 102 hq1 dX2_readLine_57 (by decide) (by decide) (by decide) (by decide) ?_
    refine Wr_aload_n dX2_readLine_102 rfl 0 rfl ?_
    refine Wr_aload_n dX2_readLine_103 rfl 1 rfl ?_
    refine Wr_cVi [.ref r1] dX2_readLine_104 mlX2_80 mgX2_readChurch rfl mvX2_readChurch (zrv ho _ rfl rfl) rfl rfl (Nat.le_of_ble_eq_true rfl) rfl (zcI.imp h (fun u4 m3 h => ?_) (fun _ _ h => ⟨rfl, h⟩))
    exact Wr_iret .boolean dX2_readLine_107 rfl (znar h.1) ⟨rfl, h.2⟩
  have h := h.2
  by_cases hq2 : x2 = 5
  · have h := h.1 hq2
    refine Wr_tswC 5 51 108 hq2 dX2_readLine_57 (by decide) (by decide) (by decide) (by decide) ?_
    refine Wr_aload_n dX2_readLine_108 rfl 0 rfl ?_
    refine Wr_aload_n dX2_readLine_109 rfl 1 rfl ?_
    refine Wr_cVi [.ref r1] dX2_readLine_110 mlX2_83 mgX2_readGusts rfl mvX2_readGusts (zrv ho _ rfl rfl) rfl rfl (Nat.le_of_ble_eq_true rfl) rfl (zcI.imp h (fun u6 m5 h => ?_) (fun _ _ h => ⟨rfl, h⟩))
    exact Wr_iret .boolean dX2_readLine_113 rfl (znar h.1) ⟨rfl, h.2⟩
  have h := h.2
  by_cases hq3 : x2 = 6
  · have h := h.1 hq3
    refine Wr_tswC 6 57 114 hq3 dX2_readLine_57 (by decide) (by decide) (by decide) (by decide) ?_
    refine Wr_aload_n dX2_readLine_114 rfl 0 rfl ?_
    refine Wr_aload_n dX2_readLine_115 rfl 1 rfl ?_
    refine Wr_cVi [.ref r1] dX2_readLine_116 mlX2_86 mgX2_readReach rfl mvX2_readReach (zrv ho _ rfl rfl) rfl rfl (Nat.le_of_ble_eq_true rfl) rfl (zcI.imp h (fun u8 m7 h => ?_) (fun _ _ h => ⟨rfl, h⟩))
    exact Wr_iret .boolean dX2_readLine_119 rfl (znar h.1) ⟨rfl, h.2⟩
  have h := h.2
  by_cases hq4 : x2 = 7
  · have h := h.1 hq4
    refine Wr_tswC 7 63 120 hq4 dX2_readLine_57 (by decide) (by decide) (by decide) (by decide) ?_
    refine Wr_aload_n dX2_readLine_120 rfl 0 rfl ?_
    refine Wr_aload_n dX2_readLine_121 rfl 1 rfl ?_
    refine Wr_cVi [.ref r1] dX2_readLine_122 mlX2_89 mgX2_readLight rfl mvX2_readLight (zrv ho _ rfl rfl) rfl rfl (Nat.le_of_ble_eq_true rfl) rfl (zcI.imp h (fun u10 m9 h => ?_) (fun _ _ h => ⟨rfl, h⟩))
    exact Wr_iret .boolean dX2_readLine_125 rfl (znar h.1) ⟨rfl, h.2⟩
  have h := h.2
  by_cases hq5 : x2 = 8
  · have h := h.1 hq5
    refine Wr_tswC 8 69 126 hq5 dX2_readLine_57 (by decide) (by decide) (by decide) (by decide) ?_
    refine Wr_aload_n dX2_readLine_126 rfl 0 rfl ?_
    refine Wr_aload_n dX2_readLine_127 rfl 1 rfl ?_
    refine Wr_getR 17 dX2_readLine_128 flX2_92 hr1 rfl (by decide) ?_
    refine Wr_cVi [.ref (r1 + 17)] dX2_readLine_131 mlX2_96 mgX2_readPush rfl mvX2_readPush (zrv ho _ rfl rfl) rfl rfl (Nat.le_of_ble_eq_true rfl) rfl (zcI.imp h (fun u12 m11 h => ?_) (fun _ _ h => ⟨rfl, h⟩))
    exact Wr_iret .boolean dX2_readLine_134 rfl (znar h.1) ⟨rfl, h.2⟩
  have h := h.2
  have h := h hq0 hq1 hq2 hq3 hq4 hq5
  refine Wr_tswD 135 (by have := zne hq0 (c := 3) (by decide); have := zne hq1 (c := 4) (by decide); have := zne hq2 (c := 5) (by decide); have := zne hq3 (c := 6) (by decide); have := zne hq4 (c := 7) (by decide); have := zne hq5 (c := 8) (by decide); omega) dX2_readLine_57 (by decide) ?_
  refine Wr_aload_n dX2_readLine_135 rfl 0 rfl ?_
  refine Wr_aload_n dX2_readLine_136 rfl 1 rfl ?_
  refine Wr_getR 1 dX2_readLine_137 flX2_100 hr1 rfl (by decide) ?_
  refine Wr_iload_n dX2_readLine_140 rfl 2 rfl ?_
  refine Wr_cVi [.ref (r1 + 1), .int x2] dX2_readLine_141 mlX2_104 mgX2_readIsle rfl mvX2_readIsle (zrv ho _ rfl rfl) rfl rfl (Nat.le_of_ble_eq_true rfl) rfl (zcI.imp h (fun u14 m13 h => ?_) (fun _ _ h => ⟨rfl, h⟩))
  exact Wr_iret .boolean dX2_readLine_144 rfl (znar h.1) ⟨rfl, h.2⟩
def pX2_readLine (d : Nat) (o : Nat) (r1 : Nat) (μ : zMem) (KI : Int32 → zMem → Prop) (X : Nat → zMem → Prop) : Prop :=
  zcI d mX6_among [.ref (o + 1), .ref (1000 + 0)] μ (fun u2 m1 => ((u2 = (-1) → zcI d mX2_refuse [.ref o, .int 1] m1 (fun u7 m6 => (u7 = 0 ∨ u7 = 1) ∧ KI u7 m6) X) ∧
  (¬ (u2 = (-1)) → ((u2 - 4 < 0 → pX2_readLine_56 d o r1 u2 m1 KI X) ∧
    (¬ (u2 - 4 < 0) → ((5 ≤ u2 - 4 → pX2_readLine_56 d o r1 u2 m1 KI X) ∧
      (¬ (5 ≤ u2 - 4) → (vp_in (u2 - 4) 5) ∧ ((m1 (o + 3) (u2 - 4).toNatClampNeg = 0 → (vp_in (u2 - 4) 5) ∧ ∀ m3 : zMem, m3 = zw m1 (o + 3) (u2 - 4).toNatClampNeg (vp_nar .boolean 1) → pX2_readLine_56 d o r1 u2 m3 KI X) ∧
        (¬ (m1 (o + 3) (u2 - 4).toNatClampNeg = 0) → zcI d mX2_refuse [.ref o, .int 5] m1 (fun u5 m4 => (u5 = 0 ∨ u5 = 1) ∧ KI u5 m4) X))))))))) X
set_option maxRecDepth 20000 in
theorem wX2_readLine_0 {d : Nat} {o : Nat} {r1 : Nat} {KI : Int32 → zMem → Prop} {X : Nat → zMem → Prop} {μ : zMem} (ho : zsh o = .inr 2) (hr1 : zsh r1 = .inr 4) (h : pX2_readLine d o r1 μ KI X) : Wr mX2_readLine (d + 1) 0 0 [(0, .ref o), (1, .ref r1)] [] μ (kI KI X) := by
  unfold pX2_readLine at h
  refine Wr_aload_n dX2_readLine_0 rfl 0 rfl ?_
  refine Wr_getR 1 dX2_readLine_1 flX2_12 ho rfl (by decide) ?_
  refine Wr_ldcS (sn := 0) (tx := "isle hill reef wind church gusts reach light push ") dX2_readLine_4 (zst 0 (by decide +kernel)) ?_
  refine Wr_cVi [.ref (1000 + 0)] dX2_readLine_6 mlX2_73 mgX6_among rfl mvX6_among (zrv (zo2_0 ho) _ rfl rfl) rfl rfl (Nat.le_of_ble_eq_true rfl) rfl (zcI.imp h (fun u2 m1 h => ?_) (fun _ _ h => ⟨rfl, h⟩))
  refine Wr_istore_n dX2_readLine_9 rfl (by decide) rfl ?_
  refine Wr_iload_n dX2_readLine_10 rfl 0 rfl ?_
  refine Wr_iconstv (v := (-1)) dX2_readLine_11 (by decide) ?_
  refine Wr_icmp_ne 21 dX2_readLine_12 (by decide) (fun hc => ?_) (fun hc => ?_)
  · have h := h.2 hc
    refine Wr_iload_n dX2_readLine_21 rfl 0 rfl ?_
    refine Wr_iconstv (v := 4) dX2_readLine_22 (by decide) ?_
    refine Wr_isub dX2_readLine_23 ?_
    refine Wr_istore_n dX2_readLine_24 rfl (by decide) rfl ?_
    refine Wr_iload_n dX2_readLine_25 rfl 0 rfl ?_
    refine Wr_if_lt 56 dX2_readLine_26 (by decide) (fun hc => ?_) (fun hc => ?_)
    · have h := h.1 hc
      refine zsub [0, 1, 2] rfl ?_
      exact wX2_readLine_56 ho hr1 h
    · have h := h.2 hc
      refine Wr_iload_n dX2_readLine_29 rfl 0 rfl ?_
      refine Wr_iconstv (v := 5) dX2_readLine_30 (by decide) ?_
      refine Wr_icmp_ge 56 dX2_readLine_31 (by decide) (fun hc => ?_) (fun hc => ?_)
      · have h := h.1 hc
        refine zsub [0, 1, 2] rfl ?_
        exact wX2_readLine_56 ho hr1 h
      · have h := h.2 hc
        refine Wr_aload_n dX2_readLine_34 rfl 2 rfl ?_
        refine Wr_getR 3 dX2_readLine_35 flX2_18 ho rfl (by decide) ?_
        refine Wr_iload_n dX2_readLine_38 rfl 0 rfl ?_
        obtain ⟨hi, h⟩ := h
        refine Wr_zald dX2_readLine_39 (zo2_1 ho) hi ?_
        refine Wr_if_eq 49 dX2_readLine_40 (by decide) (fun hc => ?_) (fun hc => ?_)
        · have h := h.1 hc
          refine Wr_aload_n dX2_readLine_49 rfl 2 rfl ?_
          refine Wr_getR 3 dX2_readLine_50 flX2_18 ho rfl (by decide) ?_
          refine Wr_iload_n dX2_readLine_53 rfl 0 rfl ?_
          refine Wr_iconstv (v := 1) dX2_readLine_54 (by decide) ?_
          obtain ⟨him3, h⟩ := h
          obtain ⟨m3, em3⟩ : ∃ z : zMem, z = zw m1 (o + 3) (u2 - 4).toNatClampNeg (vp_nar .boolean 1) := ⟨_, rfl⟩
          have h := h m3 em3
          refine Wr_zast dX2_readLine_55 (zo2_1 ho) him3 ?_
          refine Wr_mu em3 ?_
          refine zsub [0, 1, 2] rfl ?_
          exact wX2_readLine_56 ho hr1 h
        · have h := h.2 hc
          refine Wr_aload_n dX2_readLine_43 rfl 2 rfl ?_
          refine Wr_iconstv (v := 5) dX2_readLine_44 (by decide) ?_
          refine Wr_cVi [.int 5] dX2_readLine_45 mlX2_55 mgX2_refuse rfl mvX2_refuse (zrv ho _ rfl rfl) rfl rfl (Nat.le_of_ble_eq_true rfl) rfl (zcI.imp h (fun u5 m4 h => ?_) (fun _ _ h => ⟨rfl, h⟩))
          exact Wr_iret .boolean dX2_readLine_48 rfl (znar h.1) ⟨rfl, h.2⟩
  · have h := h.1 hc
    refine Wr_aload_n dX2_readLine_15 rfl 1 rfl ?_
    refine Wr_iconstv (v := 1) dX2_readLine_16 (by decide) ?_
    refine Wr_cVi [.int 1] dX2_readLine_17 mlX2_55 mgX2_refuse rfl mvX2_refuse (zrv ho _ rfl rfl) rfl rfl (Nat.le_of_ble_eq_true rfl) rfl (zcI.imp h (fun u7 m6 h => ?_) (fun _ _ h => ⟨rfl, h⟩))
    exact Wr_iret .boolean dX2_readLine_20 rfl (znar h.1) ⟨rfl, h.2⟩
theorem cX2_readLine_ {d : Nat} {o : Nat} {r1 : Nat} {μ : zMem} {KI : Int32 → zMem → Prop} {X : Nat → zMem → Prop} (ho : zsh o = .inr 2) (hr1 : zsh r1 = .inr 4) (h : pX2_readLine d o r1 μ KI X) : zcI (d + 1) mX2_readLine [.ref o, .ref r1] μ KI X :=
  Ex_of (w := 2) mgX2_readLine.2.2.2.2.2 rfl rfl rfl (by decide) (wX2_readLine_0 ho hr1 h)

def pX2_readIsle (d : Nat) (o : Nat) (r1 : Nat) (x2 : Int32) (μ : zMem) (KI : Int32 → zMem → Prop) (X : Nat → zMem → Prop) : Prop :=
  ((μ r1 0 < 6 → zcV d mX6_step [.ref (o + 1)] μ (fun m1 => (vp_in (μ r1 0) 6) ∧ ∀ m2 : zMem, m2 = zw m1 (r1 + 1) (μ r1 0).toNatClampNeg x2 → (vp_in (μ r1 0) 6) ∧ ∀ m3 : zMem, m3 = zw m2 (r1 + 10) (μ r1 0).toNatClampNeg 0 → zcI d mX2_readPost [.ref o, .ref r1, .int (μ r1 0)] m3 (fun u5 m4 => ((u5 = 0 → KI 0 m4) ∧
    (¬ (u5 = 0) → zcI d mX2_readBuild [.ref o, .ref r1, .int (μ r1 0)] m4 (fun u7 m6 => ((u7 = 0 → KI 0 m6) ∧
      (¬ (u7 = 0) → zcI d mX2_readFreight [.ref o, .ref r1, .int (μ r1 0)] m6 (fun u9 m8 => ((u9 = 0 → KI 0 m8) ∧
        (¬ (u9 = 0) → ∀ m10 : zMem, m10 = zw m8 r1 0 ((m8 r1 0) + 1) → KI 1 m10))) X))) X))) X) X) ∧
  (¬ (μ r1 0 < 6) → zcI d mX2_refuse [.ref o, .int 2] μ (fun u12 m11 => (u12 = 0 ∨ u12 = 1) ∧ KI u12 m11) X))
set_option maxRecDepth 20000 in
theorem wX2_readIsle_0 {d : Nat} {o : Nat} {r1 : Nat} {KI : Int32 → zMem → Prop} {X : Nat → zMem → Prop} {x2 : Int32} {μ : zMem} (ho : zsh o = .inr 2) (hr1 : zsh r1 = .inr 1) (h : pX2_readIsle d o r1 x2 μ KI X) : Wr mX2_readIsle (d + 1) 0 0 [(0, .ref o), (1, .ref r1), (2, .int x2)] [] μ (kI KI X) := by
  unfold pX2_readIsle at h
  refine Wr_aload_n dX2_readIsle_0 rfl 1 rfl ?_
  refine Wr_getI dX2_readIsle_1 flX2_108 hr1 rfl ?_
  refine Wr_istore_n dX2_readIsle_4 rfl (by decide) rfl ?_
  refine Wr_iload_n dX2_readIsle_5 rfl 0 rfl ?_
  refine Wr_bipush (v := 6) dX2_readIsle_6 (by decide) ?_
  refine Wr_icmp_lt 17 dX2_readIsle_8 (by decide) (fun hc => ?_) (fun hc => ?_)
  · have h := h.1 hc
    refine Wr_aload_n dX2_readIsle_17 rfl 1 rfl ?_
    refine Wr_getR 1 dX2_readIsle_18 flX2_12 ho rfl (by decide) ?_
    refine Wr_cVv [] dX2_readIsle_21 mlX2_58 mgX6_step rfl mvX6_step (zrv (zo2_0 ho) _ rfl rfl) rfl rfl (Nat.le_of_ble_eq_true rfl) rfl (zcV.imp h (fun m1 h => ?_) (fun _ _ h => ⟨rfl, h⟩))
    refine Wr_aload_n dX2_readIsle_24 rfl 2 rfl ?_
    refine Wr_getR 1 dX2_readIsle_25 flX2_113 hr1 rfl (by decide) ?_
    refine Wr_iload_n dX2_readIsle_28 rfl 0 rfl ?_
    refine Wr_iload_n dX2_readIsle_29 rfl 3 rfl ?_
    obtain ⟨him2, h⟩ := h
    obtain ⟨m2, em2⟩ : ∃ z : zMem, z = zw m1 (r1 + 1) (μ r1 0).toNatClampNeg x2 := ⟨_, rfl⟩
    have h := h m2 em2
    refine Wr_iast dX2_readIsle_30 (zo1_1 hr1) him2 ?_
    refine Wr_mu em2 ?_
    refine Wr_aload_n dX2_readIsle_31 rfl 2 rfl ?_
    refine Wr_getR 10 dX2_readIsle_32 flX2_116 hr1 rfl (by decide) ?_
    refine Wr_iload_n dX2_readIsle_35 rfl 0 rfl ?_
    refine Wr_iconstv (v := 0) dX2_readIsle_36 (by decide) ?_
    obtain ⟨him3, h⟩ := h
    obtain ⟨m3, em3⟩ : ∃ z : zMem, z = zw m2 (r1 + 10) (μ r1 0).toNatClampNeg 0 := ⟨_, rfl⟩
    have h := h m3 em3
    refine Wr_iast dX2_readIsle_37 (zo1_10 hr1) him3 ?_
    refine Wr_mu em3 ?_
    refine Wr_aload_n dX2_readIsle_38 rfl 1 rfl ?_
    refine Wr_aload_n dX2_readIsle_39 rfl 2 rfl ?_
    refine Wr_iload_n dX2_readIsle_40 rfl 0 rfl ?_
    refine Wr_cVi [.ref r1, .int (μ r1 0)] dX2_readIsle_41 mlX2_119 mgX2_readPost rfl mvX2_readPost (zrv ho _ rfl rfl) rfl rfl (Nat.le_of_ble_eq_true rfl) rfl (zcI.imp h (fun u5 m4 h => ?_) (fun _ _ h => ⟨rfl, h⟩))
    refine Wr_if_eq 65 dX2_readIsle_44 (by decide) (fun hc => ?_) (fun hc => ?_)
    · have h := h.1 hc
      refine Wr_iconstv (v := 0) dX2_readIsle_65 (by decide) ?_
      exact Wr_iret .boolean dX2_readIsle_66 rfl rfl ⟨rfl, h⟩
    · have h := h.2 hc
      refine Wr_aload_n dX2_readIsle_47 rfl 1 rfl ?_
      refine Wr_aload_n dX2_readIsle_48 rfl 2 rfl ?_
      refine Wr_iload_n dX2_readIsle_49 rfl 0 rfl ?_
      refine Wr_cVi [.ref r1, .int (μ r1 0)] dX2_readIsle_50 mlX2_122 mgX2_readBuild rfl mvX2_readBuild (zrv ho _ rfl rfl) rfl rfl (Nat.le_of_ble_eq_true rfl) rfl (zcI.imp h (fun u7 m6 h => ?_) (fun _ _ h => ⟨rfl, h⟩))
      refine Wr_if_eq 65 dX2_readIsle_53 (by decide) (fun hc => ?_) (fun hc => ?_)
      · have h := h.1 hc
        refine Wr_iconstv (v := 0) dX2_readIsle_65 (by decide) ?_
        exact Wr_iret .boolean dX2_readIsle_66 rfl rfl ⟨rfl, h⟩
      · have h := h.2 hc
        refine Wr_aload_n dX2_readIsle_56 rfl 1 rfl ?_
        refine Wr_aload_n dX2_readIsle_57 rfl 2 rfl ?_
        refine Wr_iload_n dX2_readIsle_58 rfl 0 rfl ?_
        refine Wr_cVi [.ref r1, .int (μ r1 0)] dX2_readIsle_59 mlX2_125 mgX2_readFreight rfl mvX2_readFreight (zrv ho _ rfl rfl) rfl rfl (Nat.le_of_ble_eq_true rfl) rfl (zcI.imp h (fun u9 m8 h => ?_) (fun _ _ h => ⟨rfl, h⟩))
        refine Wr_if_ne 67 dX2_readIsle_62 (by decide) (fun hc => ?_) (fun hc => ?_)
        · have h := h.2 hc
          refine Wr_aload_n dX2_readIsle_67 rfl 2 rfl ?_
          refine Wr_dup dX2_readIsle_68 rfl ?_
          refine Wr_getI dX2_readIsle_69 flX2_108 hr1 rfl ?_
          refine Wr_iconstv (v := 1) dX2_readIsle_72 (by decide) ?_
          refine Wr_iadd dX2_readIsle_73 ?_
          obtain ⟨m10, em10⟩ : ∃ z : zMem, z = zw m8 r1 0 ((m8 r1 0) + 1) := ⟨_, rfl⟩
          have h := h m10 em10
          refine Wr_putI dX2_readIsle_74 fpX2_108 hr1 rfl ?_
          refine Wr_mu em10 ?_
          refine Wr_iconstv (v := 1) dX2_readIsle_77 (by decide) ?_
          exact Wr_iret .boolean dX2_readIsle_78 rfl rfl ⟨rfl, h⟩
        · have h := h.1 hc
          refine Wr_iconstv (v := 0) dX2_readIsle_65 (by decide) ?_
          exact Wr_iret .boolean dX2_readIsle_66 rfl rfl ⟨rfl, h⟩
  · have h := h.2 hc
    refine Wr_aload_n dX2_readIsle_11 rfl 1 rfl ?_
    refine Wr_iconstv (v := 2) dX2_readIsle_12 (by decide) ?_
    refine Wr_cVi [.int 2] dX2_readIsle_13 mlX2_55 mgX2_refuse rfl mvX2_refuse (zrv ho _ rfl rfl) rfl rfl (Nat.le_of_ble_eq_true rfl) rfl (zcI.imp h (fun u12 m11 h => ?_) (fun _ _ h => ⟨rfl, h⟩))
    exact Wr_iret .boolean dX2_readIsle_16 rfl (znar h.1) ⟨rfl, h.2⟩
theorem cX2_readIsle_ {d : Nat} {o : Nat} {r1 : Nat} {x2 : Int32} {μ : zMem} {KI : Int32 → zMem → Prop} {X : Nat → zMem → Prop} (ho : zsh o = .inr 2) (hr1 : zsh r1 = .inr 1) (h : pX2_readIsle d o r1 x2 μ KI X) : zcI (d + 1) mX2_readIsle [.ref o, .ref r1, .int x2] μ KI X :=
  Ex_of (w := 3) mgX2_readIsle.2.2.2.2.2 rfl rfl rfl (by decide) (wX2_readIsle_0 ho hr1 h)

def pX2_readPost (d : Nat) (o : Nat) (r1 : Nat) (x2 : Int32) (μ : zMem) (KI : Int32 → zMem → Prop) (X : Nat → zMem → Prop) : Prop :=
  zcI d mX2_takeNumber [.ref o, .int 0, .int 60] μ (fun u2 m1 => ((u2 = 0 → KI 0 m1) ∧
  (¬ (u2 = 0) → (vp_in x2 6) ∧ ∀ m3 : zMem, m3 = zw m1 (r1 + 2) x2.toNatClampNeg (m1 o 3) → zcI d mX2_isNumber [.ref o, .int 0, .int 60] m3 (fun u5 m4 => ((u5 = 0 → KI 0 m4) ∧
    (¬ (u5 = 0) → (vp_in x2 6) ∧ zcI d mX1_isPost [.ref r1, .int (m4 (r1 + 2) x2.toNatClampNeg), .int (m4 o 3)] m4 (fun u7 m6 => ((u7 = 0 → (vp_in x2 6) ∧ ∀ m8 : zMem, m8 = zw m6 (r1 + 3) x2.toNatClampNeg (m6 o 3) → zcV d mX6_step [.ref (o + 1)] m8 (fun m9 => KI 1 m9) X) ∧
      (¬ (u7 = 0) → zcI d mX2_refuse [.ref o, .int 4] m6 (fun u11 m10 => (u11 = 0 ∨ u11 = 1) ∧ KI u11 m10) X))) X))) X))) X
set_option maxRecDepth 20000 in
theorem wX2_readPost_0 {d : Nat} {o : Nat} {r1 : Nat} {KI : Int32 → zMem → Prop} {X : Nat → zMem → Prop} {x2 : Int32} {μ : zMem} (ho : zsh o = .inr 2) (hr1 : zsh r1 = .inr 1) (h : pX2_readPost d o r1 x2 μ KI X) : Wr mX2_readPost (d + 1) 0 0 [(0, .ref o), (1, .ref r1), (2, .int x2)] [] μ (kI KI X) := by
  unfold pX2_readPost at h
  refine Wr_aload_n dX2_readPost_0 rfl 0 rfl ?_
  refine Wr_iconstv (v := 0) dX2_readPost_1 (by decide) ?_
  refine Wr_bipush (v := 60) dX2_readPost_2 (by decide) ?_
  refine Wr_cVi [.int 0, .int 60] dX2_readPost_4 mlX2_68 mgX2_takeNumber rfl mvX2_takeNumber (zrv ho _ rfl rfl) rfl rfl (Nat.le_of_ble_eq_true rfl) rfl (zcI.imp h (fun u2 m1 h => ?_) (fun _ _ h => ⟨rfl, h⟩))
  refine Wr_if_ne 12 dX2_readPost_7 (by decide) (fun hc => ?_) (fun hc => ?_)
  · have h := h.2 hc
    refine Wr_aload_n dX2_readPost_12 rfl 1 rfl ?_
    refine Wr_getR 2 dX2_readPost_13 flX2_128 hr1 rfl (by decide) ?_
    refine Wr_iload_n dX2_readPost_16 rfl 2 rfl ?_
    refine Wr_aload_n dX2_readPost_17 rfl 0 rfl ?_
    refine Wr_getI dX2_readPost_18 flX2_26 ho rfl ?_
    obtain ⟨him3, h⟩ := h
    obtain ⟨m3, em3⟩ : ∃ z : zMem, z = zw m1 (r1 + 2) x2.toNatClampNeg (m1 o 3) := ⟨_, rfl⟩
    have h := h m3 em3
    refine Wr_iast dX2_readPost_21 (zo1_2 hr1) him3 ?_
    refine Wr_mu em3 ?_
    refine Wr_aload_n dX2_readPost_22 rfl 0 rfl ?_
    refine Wr_iconstv (v := 0) dX2_readPost_23 (by decide) ?_
    refine Wr_bipush (v := 60) dX2_readPost_24 (by decide) ?_
    refine Wr_cVi [.int 0, .int 60] dX2_readPost_26 mlX2_64 mgX2_isNumber rfl mvX2_isNumber (zrv ho _ rfl rfl) rfl rfl (Nat.le_of_ble_eq_true rfl) rfl (zcI.imp h (fun u5 m4 h => ?_) (fun _ _ h => ⟨rfl, h⟩))
    refine Wr_if_ne 34 dX2_readPost_29 (by decide) (fun hc => ?_) (fun hc => ?_)
    · have h := h.2 hc
      refine Wr_aload_n dX2_readPost_34 rfl 1 rfl ?_
      refine Wr_aload_n dX2_readPost_35 rfl 1 rfl ?_
      refine Wr_getR 2 dX2_readPost_36 flX2_128 hr1 rfl (by decide) ?_
      refine Wr_iload_n dX2_readPost_39 rfl 2 rfl ?_
      obtain ⟨hi, h⟩ := h
      refine Wr_iald dX2_readPost_40 (zo1_2 hr1) hi ?_
      refine Wr_aload_n dX2_readPost_41 rfl 0 rfl ?_
      refine Wr_getI dX2_readPost_42 flX2_26 ho rfl ?_
      refine Wr_cVi [.int (m4 (r1 + 2) x2.toNatClampNeg), .int (m4 o 3)] dX2_readPost_45 mlX2_131 mgX1_isPost rfl mvX1_isPost (zrv hr1 _ rfl rfl) rfl rfl (Nat.le_of_ble_eq_true rfl) rfl (zcI.imp h (fun u7 m6 h => ?_) (fun _ _ h => ⟨rfl, h⟩))
      refine Wr_if_eq 57 dX2_readPost_48 (by decide) (fun hc => ?_) (fun hc => ?_)
      · have h := h.1 hc
        refine Wr_aload_n dX2_readPost_57 rfl 1 rfl ?_
        refine Wr_getR 3 dX2_readPost_58 flX2_134 hr1 rfl (by decide) ?_
        refine Wr_iload_n dX2_readPost_61 rfl 2 rfl ?_
        refine Wr_aload_n dX2_readPost_62 rfl 0 rfl ?_
        refine Wr_getI dX2_readPost_63 flX2_26 ho rfl ?_
        obtain ⟨him8, h⟩ := h
        obtain ⟨m8, em8⟩ : ∃ z : zMem, z = zw m6 (r1 + 3) x2.toNatClampNeg (m6 o 3) := ⟨_, rfl⟩
        have h := h m8 em8
        refine Wr_iast dX2_readPost_66 (zo1_3 hr1) him8 ?_
        refine Wr_mu em8 ?_
        refine Wr_aload_n dX2_readPost_67 rfl 0 rfl ?_
        refine Wr_getR 1 dX2_readPost_68 flX2_12 ho rfl (by decide) ?_
        refine Wr_cVv [] dX2_readPost_71 mlX2_58 mgX6_step rfl mvX6_step (zrv (zo2_0 ho) _ rfl rfl) rfl rfl (Nat.le_of_ble_eq_true rfl) rfl (zcV.imp h (fun m9 h => ?_) (fun _ _ h => ⟨rfl, h⟩))
        refine Wr_iconstv (v := 1) dX2_readPost_74 (by decide) ?_
        exact Wr_iret .boolean dX2_readPost_75 rfl rfl ⟨rfl, h⟩
      · have h := h.2 hc
        refine Wr_aload_n dX2_readPost_51 rfl 0 rfl ?_
        refine Wr_iconstv (v := 4) dX2_readPost_52 (by decide) ?_
        refine Wr_cVi [.int 4] dX2_readPost_53 mlX2_55 mgX2_refuse rfl mvX2_refuse (zrv ho _ rfl rfl) rfl rfl (Nat.le_of_ble_eq_true rfl) rfl (zcI.imp h (fun u11 m10 h => ?_) (fun _ _ h => ⟨rfl, h⟩))
        exact Wr_iret .boolean dX2_readPost_56 rfl (znar h.1) ⟨rfl, h.2⟩
    · have h := h.1 hc
      refine Wr_iconstv (v := 0) dX2_readPost_32 (by decide) ?_
      exact Wr_iret .boolean dX2_readPost_33 rfl rfl ⟨rfl, h⟩
  · have h := h.1 hc
    refine Wr_iconstv (v := 0) dX2_readPost_10 (by decide) ?_
    exact Wr_iret .boolean dX2_readPost_11 rfl rfl ⟨rfl, h⟩
theorem cX2_readPost_ {d : Nat} {o : Nat} {r1 : Nat} {x2 : Int32} {μ : zMem} {KI : Int32 → zMem → Prop} {X : Nat → zMem → Prop} (ho : zsh o = .inr 2) (hr1 : zsh r1 = .inr 1) (h : pX2_readPost d o r1 x2 μ KI X) : zcI (d + 1) mX2_readPost [.ref o, .ref r1, .int x2] μ KI X :=
  Ex_of (w := 3) mgX2_readPost.2.2.2.2.2 rfl rfl rfl (by decide) (wX2_readPost_0 ho hr1 h)

def pX2_readBuild (d : Nat) (o : Nat) (r1 : Nat) (x2 : Int32) (μ : zMem) (KI : Int32 → zMem → Prop) (X : Nat → zMem → Prop) : Prop :=
  zcI d mX2_takeNumber [.ref o, .int 1, .int 60] μ (fun u2 m1 => ((u2 = 0 → KI 0 m1) ∧
  (¬ (u2 = 0) → (vp_in x2 6) ∧ ∀ m3 : zMem, m3 = zw m1 (r1 + 4) x2.toNatClampNeg (m1 o 3) → zcI d mX2_takeNumber [.ref o, .int 1, .int 99] m3 (fun u5 m4 => ((u5 = 0 → KI 0 m4) ∧
    (¬ (u5 = 0) → (vp_in x2 6) ∧ ∀ m6 : zMem, m6 = zw m4 (r1 + 5) x2.toNatClampNeg (m4 o 3) → zcI d mX2_takeNumber [.ref o, .int 1, .int 6] m6 (fun u8 m7 => ((u8 = 0 → KI 0 m7) ∧
      (¬ (u8 = 0) → (vp_in x2 6) ∧ ∀ m9 : zMem, m9 = zw m7 (r1 + 6) x2.toNatClampNeg (m7 o 3) → KI 1 m9))) X))) X))) X
set_option maxRecDepth 20000 in
theorem wX2_readBuild_0 {d : Nat} {o : Nat} {r1 : Nat} {KI : Int32 → zMem → Prop} {X : Nat → zMem → Prop} {x2 : Int32} {μ : zMem} (ho : zsh o = .inr 2) (hr1 : zsh r1 = .inr 1) (h : pX2_readBuild d o r1 x2 μ KI X) : Wr mX2_readBuild (d + 1) 0 0 [(0, .ref o), (1, .ref r1), (2, .int x2)] [] μ (kI KI X) := by
  unfold pX2_readBuild at h
  refine Wr_aload_n dX2_readBuild_0 rfl 0 rfl ?_
  refine Wr_iconstv (v := 1) dX2_readBuild_1 (by decide) ?_
  refine Wr_bipush (v := 60) dX2_readBuild_2 (by decide) ?_
  refine Wr_cVi [.int 1, .int 60] dX2_readBuild_4 mlX2_68 mgX2_takeNumber rfl mvX2_takeNumber (zrv ho _ rfl rfl) rfl rfl (Nat.le_of_ble_eq_true rfl) rfl (zcI.imp h (fun u2 m1 h => ?_) (fun _ _ h => ⟨rfl, h⟩))
  refine Wr_if_ne 12 dX2_readBuild_7 (by decide) (fun hc => ?_) (fun hc => ?_)
  · have h := h.2 hc
    refine Wr_aload_n dX2_readBuild_12 rfl 1 rfl ?_
    refine Wr_getR 4 dX2_readBuild_13 flX2_137 hr1 rfl (by decide) ?_
    refine Wr_iload_n dX2_readBuild_16 rfl 2 rfl ?_
    refine Wr_aload_n dX2_readBuild_17 rfl 0 rfl ?_
    refine Wr_getI dX2_readBuild_18 flX2_26 ho rfl ?_
    obtain ⟨him3, h⟩ := h
    obtain ⟨m3, em3⟩ : ∃ z : zMem, z = zw m1 (r1 + 4) x2.toNatClampNeg (m1 o 3) := ⟨_, rfl⟩
    have h := h m3 em3
    refine Wr_iast dX2_readBuild_21 (zo1_4 hr1) him3 ?_
    refine Wr_mu em3 ?_
    refine Wr_aload_n dX2_readBuild_22 rfl 0 rfl ?_
    refine Wr_iconstv (v := 1) dX2_readBuild_23 (by decide) ?_
    refine Wr_bipush (v := 99) dX2_readBuild_24 (by decide) ?_
    refine Wr_cVi [.int 1, .int 99] dX2_readBuild_26 mlX2_68 mgX2_takeNumber rfl mvX2_takeNumber (zrv ho _ rfl rfl) rfl rfl (Nat.le_of_ble_eq_true rfl) rfl (zcI.imp h (fun u5 m4 h => ?_) (fun _ _ h => ⟨rfl, h⟩))
    refine Wr_if_ne 34 dX2_readBuild_29 (by decide) (fun hc => ?_) (fun hc => ?_)
    · have h := h.2 hc
      refine Wr_aload_n dX2_readBuild_34 rfl 1 rfl ?_
      refine Wr_getR 5 dX2_readBuild_35 flX2_140 hr1 rfl (by decide) ?_
      refine Wr_iload_n dX2_readBuild_38 rfl 2 rfl ?_
      refine Wr_aload_n dX2_readBuild_39 rfl 0 rfl ?_
      refine Wr_getI dX2_readBuild_40 flX2_26 ho rfl ?_
      obtain ⟨him6, h⟩ := h
      obtain ⟨m6, em6⟩ : ∃ z : zMem, z = zw m4 (r1 + 5) x2.toNatClampNeg (m4 o 3) := ⟨_, rfl⟩
      have h := h m6 em6
      refine Wr_iast dX2_readBuild_43 (zo1_5 hr1) him6 ?_
      refine Wr_mu em6 ?_
      refine Wr_aload_n dX2_readBuild_44 rfl 0 rfl ?_
      refine Wr_iconstv (v := 1) dX2_readBuild_45 (by decide) ?_
      refine Wr_bipush (v := 6) dX2_readBuild_46 (by decide) ?_
      refine Wr_cVi [.int 1, .int 6] dX2_readBuild_48 mlX2_68 mgX2_takeNumber rfl mvX2_takeNumber (zrv ho _ rfl rfl) rfl rfl (Nat.le_of_ble_eq_true rfl) rfl (zcI.imp h (fun u8 m7 h => ?_) (fun _ _ h => ⟨rfl, h⟩))
      refine Wr_if_ne 56 dX2_readBuild_51 (by decide) (fun hc => ?_) (fun hc => ?_)
      · have h := h.2 hc
        refine Wr_aload_n dX2_readBuild_56 rfl 1 rfl ?_
        refine Wr_getR 6 dX2_readBuild_57 flX2_143 hr1 rfl (by decide) ?_
        refine Wr_iload_n dX2_readBuild_60 rfl 2 rfl ?_
        refine Wr_aload_n dX2_readBuild_61 rfl 0 rfl ?_
        refine Wr_getI dX2_readBuild_62 flX2_26 ho rfl ?_
        obtain ⟨him9, h⟩ := h
        obtain ⟨m9, em9⟩ : ∃ z : zMem, z = zw m7 (r1 + 6) x2.toNatClampNeg (m7 o 3) := ⟨_, rfl⟩
        have h := h m9 em9
        refine Wr_iast dX2_readBuild_65 (zo1_6 hr1) him9 ?_
        refine Wr_mu em9 ?_
        refine Wr_iconstv (v := 1) dX2_readBuild_66 (by decide) ?_
        exact Wr_iret .boolean dX2_readBuild_67 rfl rfl ⟨rfl, h⟩
      · have h := h.1 hc
        refine Wr_iconstv (v := 0) dX2_readBuild_54 (by decide) ?_
        exact Wr_iret .boolean dX2_readBuild_55 rfl rfl ⟨rfl, h⟩
    · have h := h.1 hc
      refine Wr_iconstv (v := 0) dX2_readBuild_32 (by decide) ?_
      exact Wr_iret .boolean dX2_readBuild_33 rfl rfl ⟨rfl, h⟩
  · have h := h.1 hc
    refine Wr_iconstv (v := 0) dX2_readBuild_10 (by decide) ?_
    exact Wr_iret .boolean dX2_readBuild_11 rfl rfl ⟨rfl, h⟩
theorem cX2_readBuild_ {d : Nat} {o : Nat} {r1 : Nat} {x2 : Int32} {μ : zMem} {KI : Int32 → zMem → Prop} {X : Nat → zMem → Prop} (ho : zsh o = .inr 2) (hr1 : zsh r1 = .inr 1) (h : pX2_readBuild d o r1 x2 μ KI X) : zcI (d + 1) mX2_readBuild [.ref o, .ref r1, .int x2] μ KI X :=
  Ex_of (w := 3) mgX2_readBuild.2.2.2.2.2 rfl rfl rfl (by decide) (wX2_readBuild_0 ho hr1 h)

def pX2_readFreight (d : Nat) (o : Nat) (r1 : Nat) (x2 : Int32) (μ : zMem) (KI : Int32 → zMem → Prop) (X : Nat → zMem → Prop) : Prop :=
  zcI d mX2_takeNumber [.ref o, .int 0, .int 20] μ (fun u2 m1 => ((u2 = 0 → KI 0 m1) ∧
  (¬ (u2 = 0) → zcV d mX1_settle [.ref r1, .int x2, .int (m1 o 3)] m1 (fun m3 => zcI d mX2_takeNumber [.ref o, .int 0, .int 60] m3 (fun u5 m4 => ((u5 = 0 → KI 0 m4) ∧
    (¬ (u5 = 0) → (vp_in x2 6) ∧ ∀ m6 : zMem, m6 = zw m4 (r1 + 8) x2.toNatClampNeg (m4 o 3) → zcI d mX2_takeNumber [.ref o, .int 0, .int 9] m6 (fun u8 m7 => ((u8 = 0 → KI 0 m7) ∧
      (¬ (u8 = 0) → (vp_in x2 6) ∧ ∀ m9 : zMem, m9 = zw m7 (r1 + 9) x2.toNatClampNeg (m7 o 3) → KI 1 m9))) X))) X) X))) X
set_option maxRecDepth 20000 in
theorem wX2_readFreight_0 {d : Nat} {o : Nat} {r1 : Nat} {KI : Int32 → zMem → Prop} {X : Nat → zMem → Prop} {x2 : Int32} {μ : zMem} (ho : zsh o = .inr 2) (hr1 : zsh r1 = .inr 1) (h : pX2_readFreight d o r1 x2 μ KI X) : Wr mX2_readFreight (d + 1) 0 0 [(0, .ref o), (1, .ref r1), (2, .int x2)] [] μ (kI KI X) := by
  unfold pX2_readFreight at h
  refine Wr_aload_n dX2_readFreight_0 rfl 0 rfl ?_
  refine Wr_iconstv (v := 0) dX2_readFreight_1 (by decide) ?_
  refine Wr_bipush (v := 20) dX2_readFreight_2 (by decide) ?_
  refine Wr_cVi [.int 0, .int 20] dX2_readFreight_4 mlX2_68 mgX2_takeNumber rfl mvX2_takeNumber (zrv ho _ rfl rfl) rfl rfl (Nat.le_of_ble_eq_true rfl) rfl (zcI.imp h (fun u2 m1 h => ?_) (fun _ _ h => ⟨rfl, h⟩))
  refine Wr_if_ne 12 dX2_readFreight_7 (by decide) (fun hc => ?_) (fun hc => ?_)
  · have h := h.2 hc
    refine Wr_aload_n dX2_readFreight_12 rfl 1 rfl ?_
    refine Wr_iload_n dX2_readFreight_13 rfl 2 rfl ?_
    refine Wr_aload_n dX2_readFreight_14 rfl 0 rfl ?_
    refine Wr_getI dX2_readFreight_15 flX2_26 ho rfl ?_
    refine Wr_cVv [.int x2, .int (m1 o 3)] dX2_readFreight_18 mlX2_146 mgX1_settle rfl mvX1_settle (zrv hr1 _ rfl rfl) rfl rfl (Nat.le_of_ble_eq_true rfl) rfl (zcV.imp h (fun m3 h => ?_) (fun _ _ h => ⟨rfl, h⟩))
    refine Wr_aload_n dX2_readFreight_21 rfl 0 rfl ?_
    refine Wr_iconstv (v := 0) dX2_readFreight_22 (by decide) ?_
    refine Wr_bipush (v := 60) dX2_readFreight_23 (by decide) ?_
    refine Wr_cVi [.int 0, .int 60] dX2_readFreight_25 mlX2_68 mgX2_takeNumber rfl mvX2_takeNumber (zrv ho _ rfl rfl) rfl rfl (Nat.le_of_ble_eq_true rfl) rfl (zcI.imp h (fun u5 m4 h => ?_) (fun _ _ h => ⟨rfl, h⟩))
    refine Wr_if_ne 33 dX2_readFreight_28 (by decide) (fun hc => ?_) (fun hc => ?_)
    · have h := h.2 hc
      refine Wr_aload_n dX2_readFreight_33 rfl 1 rfl ?_
      refine Wr_getR 8 dX2_readFreight_34 flX2_150 hr1 rfl (by decide) ?_
      refine Wr_iload_n dX2_readFreight_37 rfl 2 rfl ?_
      refine Wr_aload_n dX2_readFreight_38 rfl 0 rfl ?_
      refine Wr_getI dX2_readFreight_39 flX2_26 ho rfl ?_
      obtain ⟨him6, h⟩ := h
      obtain ⟨m6, em6⟩ : ∃ z : zMem, z = zw m4 (r1 + 8) x2.toNatClampNeg (m4 o 3) := ⟨_, rfl⟩
      have h := h m6 em6
      refine Wr_iast dX2_readFreight_42 (zo1_8 hr1) him6 ?_
      refine Wr_mu em6 ?_
      refine Wr_aload_n dX2_readFreight_43 rfl 0 rfl ?_
      refine Wr_iconstv (v := 0) dX2_readFreight_44 (by decide) ?_
      refine Wr_bipush (v := 9) dX2_readFreight_45 (by decide) ?_
      refine Wr_cVi [.int 0, .int 9] dX2_readFreight_47 mlX2_68 mgX2_takeNumber rfl mvX2_takeNumber (zrv ho _ rfl rfl) rfl rfl (Nat.le_of_ble_eq_true rfl) rfl (zcI.imp h (fun u8 m7 h => ?_) (fun _ _ h => ⟨rfl, h⟩))
      refine Wr_if_ne 55 dX2_readFreight_50 (by decide) (fun hc => ?_) (fun hc => ?_)
      · have h := h.2 hc
        refine Wr_aload_n dX2_readFreight_55 rfl 1 rfl ?_
        refine Wr_getR 9 dX2_readFreight_56 flX2_153 hr1 rfl (by decide) ?_
        refine Wr_iload_n dX2_readFreight_59 rfl 2 rfl ?_
        refine Wr_aload_n dX2_readFreight_60 rfl 0 rfl ?_
        refine Wr_getI dX2_readFreight_61 flX2_26 ho rfl ?_
        obtain ⟨him9, h⟩ := h
        obtain ⟨m9, em9⟩ : ∃ z : zMem, z = zw m7 (r1 + 9) x2.toNatClampNeg (m7 o 3) := ⟨_, rfl⟩
        have h := h m9 em9
        refine Wr_iast dX2_readFreight_64 (zo1_9 hr1) him9 ?_
        refine Wr_mu em9 ?_
        refine Wr_iconstv (v := 1) dX2_readFreight_65 (by decide) ?_
        exact Wr_iret .boolean dX2_readFreight_66 rfl rfl ⟨rfl, h⟩
      · have h := h.1 hc
        refine Wr_iconstv (v := 0) dX2_readFreight_53 (by decide) ?_
        exact Wr_iret .boolean dX2_readFreight_54 rfl rfl ⟨rfl, h⟩
    · have h := h.1 hc
      refine Wr_iconstv (v := 0) dX2_readFreight_31 (by decide) ?_
      exact Wr_iret .boolean dX2_readFreight_32 rfl rfl ⟨rfl, h⟩
  · have h := h.1 hc
    refine Wr_iconstv (v := 0) dX2_readFreight_10 (by decide) ?_
    exact Wr_iret .boolean dX2_readFreight_11 rfl rfl ⟨rfl, h⟩
theorem cX2_readFreight_ {d : Nat} {o : Nat} {r1 : Nat} {x2 : Int32} {μ : zMem} {KI : Int32 → zMem → Prop} {X : Nat → zMem → Prop} (ho : zsh o = .inr 2) (hr1 : zsh r1 = .inr 1) (h : pX2_readFreight d o r1 x2 μ KI X) : zcI (d + 1) mX2_readFreight [.ref o, .ref r1, .int x2] μ KI X :=
  Ex_of (w := 3) mgX2_readFreight.2.2.2.2.2 rfl rfl rfl (by decide) (wX2_readFreight_0 ho hr1 h)

def pX2_readWind (d : Nat) (o : Nat) (r1 : Nat) (μ : zMem) (KI : Int32 → zMem → Prop) (X : Nat → zMem → Prop) : Prop :=
  ((μ r1 1 < 12 → zcV d mX6_step [.ref (o + 1)] μ (fun m1 => zcI d mX2_isNumber [.ref o, .int 0, .int 167] m1 (fun u3 m2 => ((u3 = 0 → KI 0 m2) ∧
    (¬ (u3 = 0) → zcI d mX4_hasWindFrom [.ref r1, .int (m2 o 3)] m2 (fun u5 m4 => ((u5 = 0 → (vp_in (μ r1 1) 12) ∧ ∀ m6 : zMem, m6 = zw m4 (r1 + 13) (μ r1 1).toNatClampNeg (m4 o 3) → zcV d mX6_step [.ref (o + 1)] m6 (fun m7 => zcI d mX2_takeSigned [.ref o] m7 (fun u9 m8 => ((u9 = 0 → KI 0 m8) ∧
        (¬ (u9 = 0) → (vp_in (μ r1 1) 12) ∧ ∀ m10 : zMem, m10 = zw m8 (r1 + 14) (μ r1 1).toNatClampNeg (m8 o 3) → zcI d mX2_takeSigned [.ref o] m10 (fun u12 m11 => ((u12 = 0 → KI 0 m11) ∧
          (¬ (u12 = 0) → (vp_in (μ r1 1) 12) ∧ ∀ m13 : zMem, m13 = zw m11 (r1 + 15) (μ r1 1).toNatClampNeg (m11 o 3) → ∀ m14 : zMem, m14 = zw m13 r1 1 ((m13 r1 1) + 1) → KI 1 m14))) X))) X) X) ∧
      (¬ (u5 = 0) → zcI d mX2_refuse [.ref o, .int 4] m4 (fun u16 m15 => (u16 = 0 ∨ u16 = 1) ∧ KI u16 m15) X))) X))) X) X) ∧
  (¬ (μ r1 1 < 12) → zcI d mX2_refuse [.ref o, .int 2] μ (fun u18 m17 => (u18 = 0 ∨ u18 = 1) ∧ KI u18 m17) X))
set_option maxRecDepth 20000 in
theorem wX2_readWind_0 {d : Nat} {o : Nat} {r1 : Nat} {KI : Int32 → zMem → Prop} {X : Nat → zMem → Prop} {μ : zMem} (ho : zsh o = .inr 2) (hr1 : zsh r1 = .inr 4) (h : pX2_readWind d o r1 μ KI X) : Wr mX2_readWind (d + 1) 0 0 [(0, .ref o), (1, .ref r1)] [] μ (kI KI X) := by
  unfold pX2_readWind at h
  refine Wr_aload_n dX2_readWind_0 rfl 1 rfl ?_
  refine Wr_getI dX2_readWind_1 flX2_156 hr1 rfl ?_
  refine Wr_istore_n dX2_readWind_4 rfl (by decide) rfl ?_
  refine Wr_iload_n dX2_readWind_5 rfl 0 rfl ?_
  refine Wr_bipush (v := 12) dX2_readWind_6 (by decide) ?_
  refine Wr_icmp_lt 17 dX2_readWind_8 (by decide) (fun hc => ?_) (fun hc => ?_)
  · have h := h.1 hc
    refine Wr_aload_n dX2_readWind_17 rfl 1 rfl ?_
    refine Wr_getR 1 dX2_readWind_18 flX2_12 ho rfl (by decide) ?_
    refine Wr_cVv [] dX2_readWind_21 mlX2_58 mgX6_step rfl mvX6_step (zrv (zo2_0 ho) _ rfl rfl) rfl rfl (Nat.le_of_ble_eq_true rfl) rfl (zcV.imp h (fun m1 h => ?_) (fun _ _ h => ⟨rfl, h⟩))
    refine Wr_aload_n dX2_readWind_24 rfl 1 rfl ?_
    refine Wr_iconstv (v := 0) dX2_readWind_25 (by decide) ?_
    refine Wr_sipush (v := 167) dX2_readWind_26 (by decide) ?_
    refine Wr_cVi [.int 0, .int 167] dX2_readWind_29 mlX2_64 mgX2_isNumber rfl mvX2_isNumber (zrv ho _ rfl rfl) rfl rfl (Nat.le_of_ble_eq_true rfl) rfl (zcI.imp h (fun u3 m2 h => ?_) (fun _ _ h => ⟨rfl, h⟩))
    refine Wr_if_ne 37 dX2_readWind_32 (by decide) (fun hc => ?_) (fun hc => ?_)
    · have h := h.2 hc
      refine Wr_aload_n dX2_readWind_37 rfl 2 rfl ?_
      refine Wr_aload_n dX2_readWind_38 rfl 1 rfl ?_
      refine Wr_getI dX2_readWind_39 flX2_26 ho rfl ?_
      refine Wr_cVi [.int (m2 o 3)] dX2_readWind_42 mlX2_159 mgX4_hasWindFrom rfl mvX4_hasWindFrom (zrv hr1 _ rfl rfl) rfl rfl (Nat.le_of_ble_eq_true rfl) rfl (zcI.imp h (fun u5 m4 h => ?_) (fun _ _ h => ⟨rfl, h⟩))
      refine Wr_if_eq 54 dX2_readWind_45 (by decide) (fun hc => ?_) (fun hc => ?_)
      · have h := h.1 hc
        refine Wr_aload_n dX2_readWind_54 rfl 2 rfl ?_
        refine Wr_getR 13 dX2_readWind_55 flX2_162 hr1 rfl (by decide) ?_
        refine Wr_iload_n dX2_readWind_58 rfl 0 rfl ?_
        refine Wr_aload_n dX2_readWind_59 rfl 1 rfl ?_
        refine Wr_getI dX2_readWind_60 flX2_26 ho rfl ?_
        obtain ⟨him6, h⟩ := h
        obtain ⟨m6, em6⟩ : ∃ z : zMem, z = zw m4 (r1 + 13) (μ r1 1).toNatClampNeg (m4 o 3) := ⟨_, rfl⟩
        have h := h m6 em6
        refine Wr_iast dX2_readWind_63 (zo4_2 hr1) him6 ?_
        refine Wr_mu em6 ?_
        refine Wr_aload_n dX2_readWind_64 rfl 1 rfl ?_
        refine Wr_getR 1 dX2_readWind_65 flX2_12 ho rfl (by decide) ?_
        refine Wr_cVv [] dX2_readWind_68 mlX2_58 mgX6_step rfl mvX6_step (zrv (zo2_0 ho) _ rfl rfl) rfl rfl (Nat.le_of_ble_eq_true rfl) rfl (zcV.imp h (fun m7 h => ?_) (fun _ _ h => ⟨rfl, h⟩))
        refine Wr_aload_n dX2_readWind_71 rfl 1 rfl ?_
        refine Wr_cVi [] dX2_readWind_72 mlX2_165 mgX2_takeSigned rfl mvX2_takeSigned (zrv ho _ rfl rfl) rfl rfl (Nat.le_of_ble_eq_true rfl) rfl (zcI.imp h (fun u9 m8 h => ?_) (fun _ _ h => ⟨rfl, h⟩))
        refine Wr_if_ne 80 dX2_readWind_75 (by decide) (fun hc => ?_) (fun hc => ?_)
        · have h := h.2 hc
          refine Wr_aload_n dX2_readWind_80 rfl 2 rfl ?_
          refine Wr_getR 14 dX2_readWind_81 flX2_169 hr1 rfl (by decide) ?_
          refine Wr_iload_n dX2_readWind_84 rfl 0 rfl ?_
          refine Wr_aload_n dX2_readWind_85 rfl 1 rfl ?_
          refine Wr_getI dX2_readWind_86 flX2_26 ho rfl ?_
          obtain ⟨him10, h⟩ := h
          obtain ⟨m10, em10⟩ : ∃ z : zMem, z = zw m8 (r1 + 14) (μ r1 1).toNatClampNeg (m8 o 3) := ⟨_, rfl⟩
          have h := h m10 em10
          refine Wr_iast dX2_readWind_89 (zo4_3 hr1) him10 ?_
          refine Wr_mu em10 ?_
          refine Wr_aload_n dX2_readWind_90 rfl 1 rfl ?_
          refine Wr_cVi [] dX2_readWind_91 mlX2_165 mgX2_takeSigned rfl mvX2_takeSigned (zrv ho _ rfl rfl) rfl rfl (Nat.le_of_ble_eq_true rfl) rfl (zcI.imp h (fun u12 m11 h => ?_) (fun _ _ h => ⟨rfl, h⟩))
          refine Wr_if_ne 99 dX2_readWind_94 (by decide) (fun hc => ?_) (fun hc => ?_)
          · have h := h.2 hc
            refine Wr_aload_n dX2_readWind_99 rfl 2 rfl ?_
            refine Wr_getR 15 dX2_readWind_100 flX2_172 hr1 rfl (by decide) ?_
            refine Wr_iload_n dX2_readWind_103 rfl 0 rfl ?_
            refine Wr_aload_n dX2_readWind_104 rfl 1 rfl ?_
            refine Wr_getI dX2_readWind_105 flX2_26 ho rfl ?_
            obtain ⟨him13, h⟩ := h
            obtain ⟨m13, em13⟩ : ∃ z : zMem, z = zw m11 (r1 + 15) (μ r1 1).toNatClampNeg (m11 o 3) := ⟨_, rfl⟩
            have h := h m13 em13
            refine Wr_iast dX2_readWind_108 (zo4_4 hr1) him13 ?_
            refine Wr_mu em13 ?_
            refine Wr_aload_n dX2_readWind_109 rfl 2 rfl ?_
            refine Wr_dup dX2_readWind_110 rfl ?_
            refine Wr_getI dX2_readWind_111 flX2_156 hr1 rfl ?_
            refine Wr_iconstv (v := 1) dX2_readWind_114 (by decide) ?_
            refine Wr_iadd dX2_readWind_115 ?_
            obtain ⟨m14, em14⟩ : ∃ z : zMem, z = zw m13 r1 1 ((m13 r1 1) + 1) := ⟨_, rfl⟩
            have h := h m14 em14
            refine Wr_putI dX2_readWind_116 fpX2_156 hr1 rfl ?_
            refine Wr_mu em14 ?_
            refine Wr_iconstv (v := 1) dX2_readWind_119 (by decide) ?_
            exact Wr_iret .boolean dX2_readWind_120 rfl rfl ⟨rfl, h⟩
          · have h := h.1 hc
            refine Wr_iconstv (v := 0) dX2_readWind_97 (by decide) ?_
            exact Wr_iret .boolean dX2_readWind_98 rfl rfl ⟨rfl, h⟩
        · have h := h.1 hc
          refine Wr_iconstv (v := 0) dX2_readWind_78 (by decide) ?_
          exact Wr_iret .boolean dX2_readWind_79 rfl rfl ⟨rfl, h⟩
      · have h := h.2 hc
        refine Wr_aload_n dX2_readWind_48 rfl 1 rfl ?_
        refine Wr_iconstv (v := 4) dX2_readWind_49 (by decide) ?_
        refine Wr_cVi [.int 4] dX2_readWind_50 mlX2_55 mgX2_refuse rfl mvX2_refuse (zrv ho _ rfl rfl) rfl rfl (Nat.le_of_ble_eq_true rfl) rfl (zcI.imp h (fun u16 m15 h => ?_) (fun _ _ h => ⟨rfl, h⟩))
        exact Wr_iret .boolean dX2_readWind_53 rfl (znar h.1) ⟨rfl, h.2⟩
    · have h := h.1 hc
      refine Wr_iconstv (v := 0) dX2_readWind_35 (by decide) ?_
      exact Wr_iret .boolean dX2_readWind_36 rfl rfl ⟨rfl, h⟩
  · have h := h.2 hc
    refine Wr_aload_n dX2_readWind_11 rfl 1 rfl ?_
    refine Wr_iconstv (v := 2) dX2_readWind_12 (by decide) ?_
    refine Wr_cVi [.int 2] dX2_readWind_13 mlX2_55 mgX2_refuse rfl mvX2_refuse (zrv ho _ rfl rfl) rfl rfl (Nat.le_of_ble_eq_true rfl) rfl (zcI.imp h (fun u18 m17 h => ?_) (fun _ _ h => ⟨rfl, h⟩))
    exact Wr_iret .boolean dX2_readWind_16 rfl (znar h.1) ⟨rfl, h.2⟩
theorem cX2_readWind_ {d : Nat} {o : Nat} {r1 : Nat} {μ : zMem} {KI : Int32 → zMem → Prop} {X : Nat → zMem → Prop} (ho : zsh o = .inr 2) (hr1 : zsh r1 = .inr 4) (h : pX2_readWind d o r1 μ KI X) : zcI (d + 1) mX2_readWind [.ref o, .ref r1] μ KI X :=
  Ex_of (w := 2) mgX2_readWind.2.2.2.2.2 rfl rfl rfl (by decide) (wX2_readWind_0 ho hr1 h)

def pX2_readChurch (d : Nat) (o : Nat) (r1 : Nat) (μ : zMem) (KI : Int32 → zMem → Prop) (X : Nat → zMem → Prop) : Prop :=
  zcV d mX6_step [.ref (o + 1)] μ (fun m1 => zcI d mX6_among [.ref (o + 1), .ref (1000 + 1)] m1 (fun u3 m2 => ((u3 = (-1) → zcI d mX2_refuse [.ref o, .int 1] m2 (fun u7 m6 => (u7 = 0 ∨ u7 = 1) ∧ KI u7 m6) X) ∧
  (¬ (u3 = (-1)) → ∀ m4 : zMem, m4 = zw m2 r1 5 u3 → zcV d mX6_step [.ref (o + 1)] m4 (fun m5 => KI 1 m5) X))) X) X
set_option maxRecDepth 20000 in
theorem wX2_readChurch_0 {d : Nat} {o : Nat} {r1 : Nat} {KI : Int32 → zMem → Prop} {X : Nat → zMem → Prop} {μ : zMem} (ho : zsh o = .inr 2) (hr1 : zsh r1 = .inr 4) (h : pX2_readChurch d o r1 μ KI X) : Wr mX2_readChurch (d + 1) 0 0 [(0, .ref o), (1, .ref r1)] [] μ (kI KI X) := by
  unfold pX2_readChurch at h
  refine Wr_aload_n dX2_readChurch_0 rfl 0 rfl ?_
  refine Wr_getR 1 dX2_readChurch_1 flX2_12 ho rfl (by decide) ?_
  refine Wr_cVv [] dX2_readChurch_4 mlX2_58 mgX6_step rfl mvX6_step (zrv (zo2_0 ho) _ rfl rfl) rfl rfl (Nat.le_of_ble_eq_true rfl) rfl (zcV.imp h (fun m1 h => ?_) (fun _ _ h => ⟨rfl, h⟩))
  refine Wr_aload_n dX2_readChurch_7 rfl 0 rfl ?_
  refine Wr_getR 1 dX2_readChurch_8 flX2_12 ho rfl (by decide) ?_
  refine Wr_ldcS (sn := 1) (tx := "north east south west ") dX2_readChurch_11 (zst 1 (by decide +kernel)) ?_
  refine Wr_cVi [.ref (1000 + 1)] dX2_readChurch_13 mlX2_73 mgX6_among rfl mvX6_among (zrv (zo2_0 ho) _ rfl rfl) rfl rfl (Nat.le_of_ble_eq_true rfl) rfl (zcI.imp h (fun u3 m2 h => ?_) (fun _ _ h => ⟨rfl, h⟩))
  refine Wr_istore_n dX2_readChurch_16 rfl (by decide) rfl ?_
  refine Wr_iload_n dX2_readChurch_17 rfl 0 rfl ?_
  refine Wr_iconstv (v := (-1)) dX2_readChurch_18 (by decide) ?_
  refine Wr_icmp_ne 28 dX2_readChurch_19 (by decide) (fun hc => ?_) (fun hc => ?_)
  · have h := h.2 hc
    refine Wr_aload_n dX2_readChurch_28 rfl 2 rfl ?_
    refine Wr_iload_n dX2_readChurch_29 rfl 0 rfl ?_
    obtain ⟨m4, em4⟩ : ∃ z : zMem, z = zw m2 r1 5 u3 := ⟨_, rfl⟩
    have h := h m4 em4
    refine Wr_putI dX2_readChurch_30 fpX2_177 hr1 rfl ?_
    refine Wr_mu em4 ?_
    refine Wr_aload_n dX2_readChurch_33 rfl 1 rfl ?_
    refine Wr_getR 1 dX2_readChurch_34 flX2_12 ho rfl (by decide) ?_
    refine Wr_cVv [] dX2_readChurch_37 mlX2_58 mgX6_step rfl mvX6_step (zrv (zo2_0 ho) _ rfl rfl) rfl rfl (Nat.le_of_ble_eq_true rfl) rfl (zcV.imp h (fun m5 h => ?_) (fun _ _ h => ⟨rfl, h⟩))
    refine Wr_iconstv (v := 1) dX2_readChurch_40 (by decide) ?_
    exact Wr_iret .boolean dX2_readChurch_41 rfl rfl ⟨rfl, h⟩
  · have h := h.1 hc
    refine Wr_aload_n dX2_readChurch_22 rfl 1 rfl ?_
    refine Wr_iconstv (v := 1) dX2_readChurch_23 (by decide) ?_
    refine Wr_cVi [.int 1] dX2_readChurch_24 mlX2_55 mgX2_refuse rfl mvX2_refuse (zrv ho _ rfl rfl) rfl rfl (Nat.le_of_ble_eq_true rfl) rfl (zcI.imp h (fun u7 m6 h => ?_) (fun _ _ h => ⟨rfl, h⟩))
    exact Wr_iret .boolean dX2_readChurch_27 rfl (znar h.1) ⟨rfl, h.2⟩
theorem cX2_readChurch_ {d : Nat} {o : Nat} {r1 : Nat} {μ : zMem} {KI : Int32 → zMem → Prop} {X : Nat → zMem → Prop} (ho : zsh o = .inr 2) (hr1 : zsh r1 = .inr 4) (h : pX2_readChurch d o r1 μ KI X) : zcI (d + 1) mX2_readChurch [.ref o, .ref r1] μ KI X :=
  Ex_of (w := 2) mgX2_readChurch.2.2.2.2.2 rfl rfl rfl (by decide) (wX2_readChurch_0 ho hr1 h)

def pX2_readGusts_50 (d : Nat) (o : Nat) (r1 : Nat) (x2 : Int32) (x3 : Int32) (μ : zMem) (KI : Int32 → zMem → Prop) (X : Nat → zMem → Prop) (C11 : Int32 → Int32 → zMem → Prop) : Prop :=
  (vp_in x3 4) ∧ ∀ m1 : zMem, m1 = zw μ (r1 + 16) x3.toNatClampNeg (μ o 3) → zcV d mX6_step [.ref (o + 1)] m1 (fun m2 => ∀ v3 : Int32, v3 = x3 + 1 → C11 x2 v3 m2) X
set_option maxRecDepth 20000 in
theorem wX2_readGusts_50 {d : Nat} {o : Nat} {r1 : Nat} {KI : Int32 → zMem → Prop} {X : Nat → zMem → Prop} {C11 : Int32 → Int32 → zMem → Prop} {x2 : Int32} {x3 : Int32} {μ : zMem} (ho : zsh o = .inr 2) (hr1 : zsh r1 = .inr 4) (hC11 : ∀ (x2 : Int32) (x3 : Int32) (μ : zMem), C11 x2 x3 μ → Wr mX2_readGusts (d + 1) 0 11 [(0, .ref o), (1, .ref r1), (2, .int x2), (3, .int x3)] [] μ (kI KI X)) (h : pX2_readGusts_50 d o r1 x2 x3 μ KI X C11) : Wr mX2_readGusts (d + 1) 0 50 [(0, .ref o), (1, .ref r1), (2, .int x2), (3, .int x3)] [] μ (kI KI X) := by
  unfold pX2_readGusts_50 at h
  refine Wr_aload_n dX2_readGusts_50 rfl 1 rfl ?_
  refine Wr_getR 16 dX2_readGusts_51 flX2_180 hr1 rfl (by decide) ?_
  refine Wr_iload_n dX2_readGusts_54 rfl 3 rfl ?_
  refine Wr_aload_n dX2_readGusts_55 rfl 0 rfl ?_
  refine Wr_getI dX2_readGusts_56 flX2_26 ho rfl ?_
  obtain ⟨him1, h⟩ := h
  obtain ⟨m1, em1⟩ : ∃ z : zMem, z = zw μ (r1 + 16) x3.toNatClampNeg (μ o 3) := ⟨_, rfl⟩
  have h := h m1 em1
  refine Wr_iast dX2_readGusts_59 (zo4_8 hr1) him1 ?_
  refine Wr_mu em1 ?_
  refine Wr_aload_n dX2_readGusts_60 rfl 0 rfl ?_
  refine Wr_getR 1 dX2_readGusts_61 flX2_12 ho rfl (by decide) ?_
  refine Wr_cVv [] dX2_readGusts_64 mlX2_58 mgX6_step rfl mvX6_step (zrv (zo2_0 ho) _ rfl rfl) rfl rfl (Nat.le_of_ble_eq_true rfl) rfl (zcV.imp h (fun m2 h => ?_) (fun _ _ h => ⟨rfl, h⟩))
  obtain ⟨v3, ev3⟩ : ∃ z : Int32, z = x3 + 1 := ⟨_, rfl⟩
  have h := h v3 ev3
  refine Wr_iinc (v := v3) dX2_readGusts_67 (q := 3) rfl (by rw [ev3]; rfl) (by decide) rfl ?_
  refine Wr_goto 11 dX2_readGusts_70 (by decide) ?_
  refine zsub [0, 1, 2, 3] rfl ?_
  exact hC11 _ _ _ h
def pX2_readGusts_11 : Nat → Nat → Nat → Nat → Int32 → Int32 → zMem → (Int32 → zMem → Prop) → (Nat → zMem → Prop) → Prop
  | 0, _, _, _, _, _, _, _, _ => False
  | n + 1, d, o, r1, x2, x3, μ, KI, X =>
  ((4 ≤ x3 → KI 1 μ) ∧
  (¬ (4 ≤ x3) → zcI d mX2_isNumber [.ref o, .int 0, .int 9] μ (fun u2 m1 => ((u2 = 0 → KI 0 m1) ∧
    (¬ (u2 = 0) → ((x3 = 3 → ((x2 + (m1 o 3) = 0 → zcI d mX2_refuse [.ref o, .int 2] m1 (fun u4 m3 => (u4 = 0 ∨ u4 = 1) ∧ KI u4 m3) X) ∧
        (¬ (x2 + (m1 o 3) = 0) → pX2_readGusts_50 d o r1 (x2 + (m1 o 3)) x3 m1 KI X (fun z0 z1 m => pX2_readGusts_11 n d o r1 z0 z1 m KI X)))) ∧
      (¬ (x3 = 3) → pX2_readGusts_50 d o r1 (x2 + (m1 o 3)) x3 m1 KI X (fun z0 z1 m => pX2_readGusts_11 n d o r1 z0 z1 m KI X)))))) X))
set_option maxRecDepth 20000 in
theorem wX2_readGusts_11 {d : Nat} {o : Nat} {r1 : Nat} {KI : Int32 → zMem → Prop} {X : Nat → zMem → Prop} (ho : zsh o = .inr 2) (hr1 : zsh r1 = .inr 4) : ∀ (n : Nat) (x2 : Int32) (x3 : Int32) (μ : zMem), pX2_readGusts_11 n d o r1 x2 x3 μ KI X → Wr mX2_readGusts (d + 1) 0 11 [(0, .ref o), (1, .ref r1), (2, .int x2), (3, .int x3)] [] μ (kI KI X) := by
  intro n
  induction n with
  | zero =>
    intro x2 x3 μ h
    exact absurd h id
  | succ n ih =>
    intro x2 x3 μ h
    unfold pX2_readGusts_11 at h
    refine Wr_iload_n dX2_readGusts_11 rfl 3 rfl ?_
    refine Wr_iconstv (v := 4) dX2_readGusts_12 (by decide) ?_
    refine Wr_icmp_ge 73 dX2_readGusts_13 (by decide) (fun hc => ?_) (fun hc => ?_)
    · have h := h.1 hc
      refine Wr_iconstv (v := 1) dX2_readGusts_73 (by decide) ?_
      exact Wr_iret .boolean dX2_readGusts_74 rfl rfl ⟨rfl, h⟩
    · have h := h.2 hc
      refine Wr_aload_n dX2_readGusts_16 rfl 0 rfl ?_
      refine Wr_iconstv (v := 0) dX2_readGusts_17 (by decide) ?_
      refine Wr_bipush (v := 9) dX2_readGusts_18 (by decide) ?_
      refine Wr_cVi [.int 0, .int 9] dX2_readGusts_20 mlX2_64 mgX2_isNumber rfl mvX2_isNumber (zrv ho _ rfl rfl) rfl rfl (Nat.le_of_ble_eq_true rfl) rfl (zcI.imp h (fun u2 m1 h => ?_) (fun _ _ h => ⟨rfl, h⟩))
      refine Wr_if_ne 28 dX2_readGusts_23 (by decide) (fun hc => ?_) (fun hc => ?_)
      · have h := h.2 hc
        refine Wr_iload_n dX2_readGusts_28 rfl 2 rfl ?_
        refine Wr_aload_n dX2_readGusts_29 rfl 0 rfl ?_
        refine Wr_getI dX2_readGusts_30 flX2_26 ho rfl ?_
        refine Wr_iadd dX2_readGusts_33 ?_
        refine Wr_istore_n dX2_readGusts_34 rfl (by decide) rfl ?_
        refine Wr_iload_n dX2_readGusts_35 rfl 3 rfl ?_
        refine Wr_iconstv (v := 3) dX2_readGusts_36 (by decide) ?_
        refine Wr_icmp_ne 50 dX2_readGusts_37 (by decide) (fun hc => ?_) (fun hc => ?_)
        · have h := h.2 hc
          refine zsub [0, 1, 2, 3] rfl ?_
          exact wX2_readGusts_50 ho hr1 (fun z0 z1 m h => ih z0 z1 m h) h
        · have h := h.1 hc
          refine Wr_iload_n dX2_readGusts_40 rfl 0 rfl ?_
          refine Wr_if_ne 50 dX2_readGusts_41 (by decide) (fun hc => ?_) (fun hc => ?_)
          · have h := h.2 hc
            refine zsub [0, 1, 2, 3] rfl ?_
            exact wX2_readGusts_50 ho hr1 (fun z0 z1 m h => ih z0 z1 m h) h
          · have h := h.1 hc
            refine Wr_aload_n dX2_readGusts_44 rfl 1 rfl ?_
            refine Wr_iconstv (v := 2) dX2_readGusts_45 (by decide) ?_
            refine Wr_cVi [.int 2] dX2_readGusts_46 mlX2_55 mgX2_refuse rfl mvX2_refuse (zrv ho _ rfl rfl) rfl rfl (Nat.le_of_ble_eq_true rfl) rfl (zcI.imp h (fun u4 m3 h => ?_) (fun _ _ h => ⟨rfl, h⟩))
            exact Wr_iret .boolean dX2_readGusts_49 rfl (znar h.1) ⟨rfl, h.2⟩
      · have h := h.1 hc
        refine Wr_iconstv (v := 0) dX2_readGusts_26 (by decide) ?_
        exact Wr_iret .boolean dX2_readGusts_27 rfl rfl ⟨rfl, h⟩
def pX2_readGusts (d : Nat) (o : Nat) (r1 : Nat) (μ : zMem) (KI : Int32 → zMem → Prop) (X : Nat → zMem → Prop) : Prop :=
  zcV d mX6_step [.ref (o + 1)] μ (fun m1 => ∃ n2 : Nat, pX2_readGusts_11 n2 d o r1 0 0 m1 KI X) X
set_option maxRecDepth 20000 in
theorem wX2_readGusts_0 {d : Nat} {o : Nat} {r1 : Nat} {KI : Int32 → zMem → Prop} {X : Nat → zMem → Prop} {μ : zMem} (ho : zsh o = .inr 2) (hr1 : zsh r1 = .inr 4) (h : pX2_readGusts d o r1 μ KI X) : Wr mX2_readGusts (d + 1) 0 0 [(0, .ref o), (1, .ref r1)] [] μ (kI KI X) := by
  unfold pX2_readGusts at h
  refine Wr_aload_n dX2_readGusts_0 rfl 0 rfl ?_
  refine Wr_getR 1 dX2_readGusts_1 flX2_12 ho rfl (by decide) ?_
  refine Wr_cVv [] dX2_readGusts_4 mlX2_58 mgX6_step rfl mvX6_step (zrv (zo2_0 ho) _ rfl rfl) rfl rfl (Nat.le_of_ble_eq_true rfl) rfl (zcV.imp h (fun m1 h => ?_) (fun _ _ h => ⟨rfl, h⟩))
  refine Wr_iconstv (v := 0) dX2_readGusts_7 (by decide) ?_
  refine Wr_istore_n dX2_readGusts_8 rfl (by decide) rfl ?_
  refine Wr_iconstv (v := 0) dX2_readGusts_9 (by decide) ?_
  refine Wr_istore_n dX2_readGusts_10 rfl (by decide) rfl ?_
  refine zsub [0, 1, 2, 3] rfl ?_
  obtain ⟨n9, h⟩ := h
  exact wX2_readGusts_11 ho hr1 n9 _ _ _ h
theorem cX2_readGusts_ {d : Nat} {o : Nat} {r1 : Nat} {μ : zMem} {KI : Int32 → zMem → Prop} {X : Nat → zMem → Prop} (ho : zsh o = .inr 2) (hr1 : zsh r1 = .inr 4) (h : pX2_readGusts d o r1 μ KI X) : zcI (d + 1) mX2_readGusts [.ref o, .ref r1] μ KI X :=
  Ex_of (w := 2) mgX2_readGusts.2.2.2.2.2 rfl rfl rfl (by decide) (wX2_readGusts_0 ho hr1 h)

def pX2_readReach (d : Nat) (o : Nat) (r1 : Nat) (μ : zMem) (KI : Int32 → zMem → Prop) (X : Nat → zMem → Prop) : Prop :=
  zcV d mX6_step [.ref (o + 1)] μ (fun m1 => zcI d mX2_takeNumber [.ref o, .int 0, .int 20] m1 (fun u3 m2 => ((u3 = 0 → KI 0 m2) ∧
  (¬ (u3 = 0) → ∀ m4 : zMem, m4 = zw m2 r1 6 (m2 o 3) → KI 1 m4))) X) X
set_option maxRecDepth 20000 in
theorem wX2_readReach_0 {d : Nat} {o : Nat} {r1 : Nat} {KI : Int32 → zMem → Prop} {X : Nat → zMem → Prop} {μ : zMem} (ho : zsh o = .inr 2) (hr1 : zsh r1 = .inr 4) (h : pX2_readReach d o r1 μ KI X) : Wr mX2_readReach (d + 1) 0 0 [(0, .ref o), (1, .ref r1)] [] μ (kI KI X) := by
  unfold pX2_readReach at h
  refine Wr_aload_n dX2_readReach_0 rfl 0 rfl ?_
  refine Wr_getR 1 dX2_readReach_1 flX2_12 ho rfl (by decide) ?_
  refine Wr_cVv [] dX2_readReach_4 mlX2_58 mgX6_step rfl mvX6_step (zrv (zo2_0 ho) _ rfl rfl) rfl rfl (Nat.le_of_ble_eq_true rfl) rfl (zcV.imp h (fun m1 h => ?_) (fun _ _ h => ⟨rfl, h⟩))
  refine Wr_aload_n dX2_readReach_7 rfl 0 rfl ?_
  refine Wr_iconstv (v := 0) dX2_readReach_8 (by decide) ?_
  refine Wr_bipush (v := 20) dX2_readReach_9 (by decide) ?_
  refine Wr_cVi [.int 0, .int 20] dX2_readReach_11 mlX2_68 mgX2_takeNumber rfl mvX2_takeNumber (zrv ho _ rfl rfl) rfl rfl (Nat.le_of_ble_eq_true rfl) rfl (zcI.imp h (fun u3 m2 h => ?_) (fun _ _ h => ⟨rfl, h⟩))
  refine Wr_if_ne 19 dX2_readReach_14 (by decide) (fun hc => ?_) (fun hc => ?_)
  · have h := h.2 hc
    refine Wr_aload_n dX2_readReach_19 rfl 1 rfl ?_
    refine Wr_aload_n dX2_readReach_20 rfl 0 rfl ?_
    refine Wr_getI dX2_readReach_21 flX2_26 ho rfl ?_
    obtain ⟨m4, em4⟩ : ∃ z : zMem, z = zw m2 r1 6 (m2 o 3) := ⟨_, rfl⟩
    have h := h m4 em4
    refine Wr_putI dX2_readReach_24 fpX2_183 hr1 rfl ?_
    refine Wr_mu em4 ?_
    refine Wr_iconstv (v := 1) dX2_readReach_27 (by decide) ?_
    exact Wr_iret .boolean dX2_readReach_28 rfl rfl ⟨rfl, h⟩
  · have h := h.1 hc
    refine Wr_iconstv (v := 0) dX2_readReach_17 (by decide) ?_
    exact Wr_iret .boolean dX2_readReach_18 rfl rfl ⟨rfl, h⟩
theorem cX2_readReach_ {d : Nat} {o : Nat} {r1 : Nat} {μ : zMem} {KI : Int32 → zMem → Prop} {X : Nat → zMem → Prop} (ho : zsh o = .inr 2) (hr1 : zsh r1 = .inr 4) (h : pX2_readReach d o r1 μ KI X) : zcI (d + 1) mX2_readReach [.ref o, .ref r1] μ KI X :=
  Ex_of (w := 2) mgX2_readReach.2.2.2.2.2 rfl rfl rfl (by decide) (wX2_readReach_0 ho hr1 h)

def pX2_readLight (d : Nat) (o : Nat) (r1 : Nat) (μ : zMem) (KI : Int32 → zMem → Prop) (X : Nat → zMem → Prop) : Prop :=
  zcV d mX6_step [.ref (o + 1)] μ (fun m1 => zcI d mX2_takeNumber [.ref o, .int 0, .int 24] m1 (fun u3 m2 => ((u3 = 0 → KI 0 m2) ∧
  (¬ (u3 = 0) → ∀ m4 : zMem, m4 = zw m2 r1 7 (m2 o 3) → KI 1 m4))) X) X
set_option maxRecDepth 20000 in
theorem wX2_readLight_0 {d : Nat} {o : Nat} {r1 : Nat} {KI : Int32 → zMem → Prop} {X : Nat → zMem → Prop} {μ : zMem} (ho : zsh o = .inr 2) (hr1 : zsh r1 = .inr 4) (h : pX2_readLight d o r1 μ KI X) : Wr mX2_readLight (d + 1) 0 0 [(0, .ref o), (1, .ref r1)] [] μ (kI KI X) := by
  unfold pX2_readLight at h
  refine Wr_aload_n dX2_readLight_0 rfl 0 rfl ?_
  refine Wr_getR 1 dX2_readLight_1 flX2_12 ho rfl (by decide) ?_
  refine Wr_cVv [] dX2_readLight_4 mlX2_58 mgX6_step rfl mvX6_step (zrv (zo2_0 ho) _ rfl rfl) rfl rfl (Nat.le_of_ble_eq_true rfl) rfl (zcV.imp h (fun m1 h => ?_) (fun _ _ h => ⟨rfl, h⟩))
  refine Wr_aload_n dX2_readLight_7 rfl 0 rfl ?_
  refine Wr_iconstv (v := 0) dX2_readLight_8 (by decide) ?_
  refine Wr_bipush (v := 24) dX2_readLight_9 (by decide) ?_
  refine Wr_cVi [.int 0, .int 24] dX2_readLight_11 mlX2_68 mgX2_takeNumber rfl mvX2_takeNumber (zrv ho _ rfl rfl) rfl rfl (Nat.le_of_ble_eq_true rfl) rfl (zcI.imp h (fun u3 m2 h => ?_) (fun _ _ h => ⟨rfl, h⟩))
  refine Wr_if_ne 19 dX2_readLight_14 (by decide) (fun hc => ?_) (fun hc => ?_)
  · have h := h.2 hc
    refine Wr_aload_n dX2_readLight_19 rfl 1 rfl ?_
    refine Wr_aload_n dX2_readLight_20 rfl 0 rfl ?_
    refine Wr_getI dX2_readLight_21 flX2_26 ho rfl ?_
    obtain ⟨m4, em4⟩ : ∃ z : zMem, z = zw m2 r1 7 (m2 o 3) := ⟨_, rfl⟩
    have h := h m4 em4
    refine Wr_putI dX2_readLight_24 fpX2_186 hr1 rfl ?_
    refine Wr_mu em4 ?_
    refine Wr_iconstv (v := 1) dX2_readLight_27 (by decide) ?_
    exact Wr_iret .boolean dX2_readLight_28 rfl rfl ⟨rfl, h⟩
  · have h := h.1 hc
    refine Wr_iconstv (v := 0) dX2_readLight_17 (by decide) ?_
    exact Wr_iret .boolean dX2_readLight_18 rfl rfl ⟨rfl, h⟩
theorem cX2_readLight_ {d : Nat} {o : Nat} {r1 : Nat} {μ : zMem} {KI : Int32 → zMem → Prop} {X : Nat → zMem → Prop} (ho : zsh o = .inr 2) (hr1 : zsh r1 = .inr 4) (h : pX2_readLight d o r1 μ KI X) : zcI (d + 1) mX2_readLight [.ref o, .ref r1] μ KI X :=
  Ex_of (w := 2) mgX2_readLight.2.2.2.2.2 rfl rfl rfl (by decide) (wX2_readLight_0 ho hr1 h)

def pX2_readPush (d : Nat) (o : Nat) (r1 : Nat) (μ : zMem) (KI : Int32 → zMem → Prop) (X : Nat → zMem → Prop) : Prop :=
  zcV d mX6_step [.ref (o + 1)] μ (fun m1 => zcI d mX2_readExpr [.ref o, .ref r1, .int 0] m1 (fun u3 m2 => (u3 = 0 ∨ u3 = 1) ∧ KI u3 m2) X) X
set_option maxRecDepth 20000 in
theorem wX2_readPush_0 {d : Nat} {o : Nat} {r1 : Nat} {KI : Int32 → zMem → Prop} {X : Nat → zMem → Prop} {μ : zMem} (ho : zsh o = .inr 2) (hr1 : zsh r1 = .inr 3) (h : pX2_readPush d o r1 μ KI X) : Wr mX2_readPush (d + 1) 0 0 [(0, .ref o), (1, .ref r1)] [] μ (kI KI X) := by
  unfold pX2_readPush at h
  refine Wr_aload_n dX2_readPush_0 rfl 0 rfl ?_
  refine Wr_getR 1 dX2_readPush_1 flX2_12 ho rfl (by decide) ?_
  refine Wr_cVv [] dX2_readPush_4 mlX2_58 mgX6_step rfl mvX6_step (zrv (zo2_0 ho) _ rfl rfl) rfl rfl (Nat.le_of_ble_eq_true rfl) rfl (zcV.imp h (fun m1 h => ?_) (fun _ _ h => ⟨rfl, h⟩))
  refine Wr_aload_n dX2_readPush_7 rfl 0 rfl ?_
  refine Wr_aload_n dX2_readPush_8 rfl 1 rfl ?_
  refine Wr_iconstv (v := 0) dX2_readPush_9 (by decide) ?_
  refine Wr_cVi [.ref r1, .int 0] dX2_readPush_10 mlX2_189 mgX2_readExpr rfl mvX2_readExpr (zrv ho _ rfl rfl) rfl rfl (Nat.le_of_ble_eq_true rfl) rfl (zcI.imp h (fun u3 m2 h => ?_) (fun _ _ h => ⟨rfl, h⟩))
  exact Wr_iret .boolean dX2_readPush_13 rfl (znar h.1) ⟨rfl, h.2⟩
theorem cX2_readPush_ {d : Nat} {o : Nat} {r1 : Nat} {μ : zMem} {KI : Int32 → zMem → Prop} {X : Nat → zMem → Prop} (ho : zsh o = .inr 2) (hr1 : zsh r1 = .inr 3) (h : pX2_readPush d o r1 μ KI X) : zcI (d + 1) mX2_readPush [.ref o, .ref r1] μ KI X :=
  Ex_of (w := 2) mgX2_readPush.2.2.2.2.2 rfl rfl rfl (by decide) (wX2_readPush_0 ho hr1 h)

def pX2_readExpr_72 : Nat → Nat → Nat → Nat → Int32 → Int32 → zMem → (Int32 → zMem → Prop) → (Nat → zMem → Prop) → Prop
  | 0, _, _, _, _, _, _, _, _ => False
  | n + 1, d, o, r1, x2, x3, μ, KI, X =>
  ((700 ≤ x3 → KI 1 μ) ∧
  (¬ (700 ≤ x3) → zcI d mX6_among [.ref (o + 1), .ref (1000 + 2)] μ (fun u2 m1 => ((u2 = (-1) → KI 1 m1) ∧
    (¬ (u2 = (-1)) → zcV d mX6_step [.ref (o + 1)] m1 (fun m3 => zcI d mX2_readAnd [.ref o, .ref r1, .int x2] m3 (fun u5 m4 => ((u5 = 0 → KI 0 m4) ∧
      (¬ (u5 = 0) → zcV d mX3_add [.ref r1, .int (-102)] m4 (fun m6 => ∀ v7 : Int32, v7 = x3 + 1 → pX2_readExpr_72 n d o r1 x2 v7 m6 KI X) X))) X) X))) X))
set_option maxRecDepth 20000 in
theorem wX2_readExpr_72 {d : Nat} {o : Nat} {r1 : Nat} {KI : Int32 → zMem → Prop} {X : Nat → zMem → Prop} (ho : zsh o = .inr 2) (hr1 : zsh r1 = .inr 3) : ∀ (n : Nat) (x2 : Int32) (x3 : Int32) (μ : zMem), pX2_readExpr_72 n d o r1 x2 x3 μ KI X → Wr mX2_readExpr (d + 1) 0 72 [(0, .ref o), (1, .ref r1), (2, .int x2), (3, .int x3)] [] μ (kI KI X) := by
  intro n
  induction n with
  | zero =>
    intro x2 x3 μ h
    exact absurd h id
  | succ n ih =>
    intro x2 x3 μ h
    unfold pX2_readExpr_72 at h
    refine Wr_iload_n dX2_readExpr_72 rfl 3 rfl ?_
    refine Wr_sipush (v := 700) dX2_readExpr_73 (by decide) ?_
    refine Wr_icmp_ge 122 dX2_readExpr_76 (by decide) (fun hc => ?_) (fun hc => ?_)
    · have h := h.1 hc
      refine Wr_iconstv (v := 1) dX2_readExpr_122 (by decide) ?_
      exact Wr_iret .boolean dX2_readExpr_123 rfl rfl ⟨rfl, h⟩
    · have h := h.2 hc
      refine Wr_aload_n dX2_readExpr_79 rfl 0 rfl ?_
      refine Wr_getR 1 dX2_readExpr_80 flX2_12 ho rfl (by decide) ?_
      refine Wr_ldcS (sn := 2) (tx := "or ") dX2_readExpr_83 (zst 2 (by decide +kernel)) ?_
      refine Wr_cVi [.ref (1000 + 2)] dX2_readExpr_85 mlX2_73 mgX6_among rfl mvX6_among (zrv (zo2_0 ho) _ rfl rfl) rfl rfl (Nat.le_of_ble_eq_true rfl) rfl (zcI.imp h (fun u2 m1 h => ?_) (fun _ _ h => ⟨rfl, h⟩))
      refine Wr_iconstv (v := (-1)) dX2_readExpr_88 (by decide) ?_
      refine Wr_icmp_eq 122 dX2_readExpr_89 (by decide) (fun hc => ?_) (fun hc => ?_)
      · have h := h.1 hc
        refine Wr_iconstv (v := 1) dX2_readExpr_122 (by decide) ?_
        exact Wr_iret .boolean dX2_readExpr_123 rfl rfl ⟨rfl, h⟩
      · have h := h.2 hc
        refine Wr_aload_n dX2_readExpr_92 rfl 0 rfl ?_
        refine Wr_getR 1 dX2_readExpr_93 flX2_12 ho rfl (by decide) ?_
        refine Wr_cVv [] dX2_readExpr_96 mlX2_58 mgX6_step rfl mvX6_step (zrv (zo2_0 ho) _ rfl rfl) rfl rfl (Nat.le_of_ble_eq_true rfl) rfl (zcV.imp h (fun m3 h => ?_) (fun _ _ h => ⟨rfl, h⟩))
        refine Wr_aload_n dX2_readExpr_99 rfl 0 rfl ?_
        refine Wr_aload_n dX2_readExpr_100 rfl 1 rfl ?_
        refine Wr_iload_n dX2_readExpr_101 rfl 2 rfl ?_
        refine Wr_cVi [.ref r1, .int x2] dX2_readExpr_102 mlX2_193 mgX2_readAnd rfl mvX2_readAnd (zrv ho _ rfl rfl) rfl rfl (Nat.le_of_ble_eq_true rfl) rfl (zcI.imp h (fun u5 m4 h => ?_) (fun _ _ h => ⟨rfl, h⟩))
        refine Wr_if_ne 110 dX2_readExpr_105 (by decide) (fun hc => ?_) (fun hc => ?_)
        · have h := h.2 hc
          refine Wr_aload_n dX2_readExpr_110 rfl 1 rfl ?_
          refine Wr_bipush (v := (-102)) dX2_readExpr_111 (by decide) ?_
          refine Wr_cVv [.int (-102)] dX2_readExpr_113 mlX2_200 mgX3_add rfl mvX3_add (zrv hr1 _ rfl rfl) rfl rfl (Nat.le_of_ble_eq_true rfl) rfl (zcV.imp h (fun m6 h => ?_) (fun _ _ h => ⟨rfl, h⟩))
          obtain ⟨v7, ev7⟩ : ∃ z : Int32, z = x3 + 1 := ⟨_, rfl⟩
          have h := h v7 ev7
          refine Wr_iinc (v := v7) dX2_readExpr_116 (q := 3) rfl (by rw [ev7]; rfl) (by decide) rfl ?_
          refine Wr_goto 72 dX2_readExpr_119 (by decide) ?_
          refine zsub [0, 1, 2, 3] rfl ?_
          exact ih _ _ _ h
        · have h := h.1 hc
          refine Wr_iconstv (v := 0) dX2_readExpr_108 (by decide) ?_
          exact Wr_iret .boolean dX2_readExpr_109 rfl rfl ⟨rfl, h⟩
def pX2_readExpr (d : Nat) (o : Nat) (r1 : Nat) (x2 : Int32) (μ : zMem) (KI : Int32 → zMem → Prop) (X : Nat → zMem → Prop) : Prop :=
  ((x2 ≤ 5 → zcI d mX2_readAnd [.ref o, .ref r1, .int x2] μ (fun u2 m1 => ((u2 = 0 → KI 0 m1) ∧
    (¬ (u2 = 0) → ∃ n2 : Nat, pX2_readExpr_72 n2 d o r1 x2 0 m1 KI X))) X) ∧
  (¬ (x2 ≤ 5) → ∀ v3 : Int32, v3 = (if μ (o + 1) 4 = 2 then 1 else (if μ (o + 1) 4 = 1 then 1 else (if μ (o + 1) 4 = 40 then 1 else 0))) → zcI d mX2_refuse [.ref o, .int (if v3 = 0 then 1 else 2)] μ (fun u5 m4 => (u5 = 0 ∨ u5 = 1) ∧ KI u5 m4) X))
set_option maxRecDepth 20000 in
theorem wX2_readExpr_0 {d : Nat} {o : Nat} {r1 : Nat} {KI : Int32 → zMem → Prop} {X : Nat → zMem → Prop} {x2 : Int32} {μ : zMem} (ho : zsh o = .inr 2) (hr1 : zsh r1 = .inr 3) (h : pX2_readExpr d o r1 x2 μ KI X) : Wr mX2_readExpr (d + 1) 0 0 [(0, .ref o), (1, .ref r1), (2, .int x2)] [] μ (kI KI X) := by
  unfold pX2_readExpr at h
  refine Wr_iload_n dX2_readExpr_0 rfl 2 rfl ?_
  refine Wr_iconstv (v := 5) dX2_readExpr_1 (by decide) ?_
  refine Wr_icmp_le 59 dX2_readExpr_2 (by decide) (fun hc => ?_) (fun hc => ?_)
  · have h := h.1 hc
    refine Wr_aload_n dX2_readExpr_59 rfl 0 rfl ?_
    refine Wr_aload_n dX2_readExpr_60 rfl 1 rfl ?_
    refine Wr_iload_n dX2_readExpr_61 rfl 2 rfl ?_
    refine Wr_cVi [.ref r1, .int x2] dX2_readExpr_62 mlX2_193 mgX2_readAnd rfl mvX2_readAnd (zrv ho _ rfl rfl) rfl rfl (Nat.le_of_ble_eq_true rfl) rfl (zcI.imp h (fun u2 m1 h => ?_) (fun _ _ h => ⟨rfl, h⟩))
    refine Wr_if_ne 70 dX2_readExpr_65 (by decide) (fun hc => ?_) (fun hc => ?_)
    · have h := h.2 hc
      refine Wr_iconstv (v := 0) dX2_readExpr_70 (by decide) ?_
      refine Wr_istore_n dX2_readExpr_71 rfl (by decide) rfl ?_
      refine zsub [0, 1, 2, 3] rfl ?_
      obtain ⟨n9, h⟩ := h
      exact wX2_readExpr_72 ho hr1 n9 _ _ _ h
    · have h := h.1 hc
      refine Wr_iconstv (v := 0) dX2_readExpr_68 (by decide) ?_
      exact Wr_iret .boolean dX2_readExpr_69 rfl rfl ⟨rfl, h⟩
  · have h := h.2 hc
    refine Wr_aload_n dX2_readExpr_5 rfl 0 rfl ?_
    refine Wr_getR 1 dX2_readExpr_6 flX2_12 ho rfl (by decide) ?_
    refine Wr_getI dX2_readExpr_9 flX2_41 (zo2_0 ho) rfl ?_
    refine Wr_iconstv (v := 2) dX2_readExpr_12 (by decide) ?_
    have hj1 : Wr mX2_readExpr (d + 1) 0 44 [(0, .ref o), (1, .ref r1), (2, .int x2)] [.int (if μ (o + 1) 4 = 2 then 1 else (if μ (o + 1) 4 = 1 then 1 else (if μ (o + 1) 4 = 40 then 1 else 0)))] μ (kI KI X) := by
      obtain ⟨v3, ev3⟩ : ∃ z : Int32, z = (if μ (o + 1) 4 = 2 then 1 else (if μ (o + 1) 4 = 1 then 1 else (if μ (o + 1) 4 = 40 then 1 else 0))) := ⟨_, rfl⟩
      have h := h v3 ev3
      refine Wr_top ev3 ?_
      refine Wr_istore_n dX2_readExpr_44 rfl (by decide) rfl ?_
      refine Wr_aload_n dX2_readExpr_45 rfl 1 rfl ?_
      refine Wr_iload_n dX2_readExpr_46 rfl 0 rfl ?_
      have hj2 : Wr mX2_readExpr (d + 1) 0 55 [(3, .int v3), (0, .ref o), (1, .ref r1), (2, .int x2)] [.int (if v3 = 0 then 1 else 2), .ref o] μ (kI KI X) := by
        refine Wr_cVi [.int (if v3 = 0 then 1 else 2)] dX2_readExpr_55 mlX2_55 mgX2_refuse rfl mvX2_refuse (zrv ho _ rfl rfl) rfl rfl (Nat.le_of_ble_eq_true rfl) rfl (zcI.imp h (fun u5 m4 h => ?_) (fun _ _ h => ⟨rfl, h⟩))
        exact Wr_iret .boolean dX2_readExpr_58 rfl (znar h.1) ⟨rfl, h.2⟩
      refine Wr_if_eq 54 dX2_readExpr_47 (by decide) (fun hc0 => ?_) (fun hc0 => ?_)
      · skip
        refine Wr_iconstv (v := 1) dX2_readExpr_54 (by decide) ?_
        exact Wr_top (if_pos hc0) hj2
      · skip
        refine Wr_iconstv (v := 2) dX2_readExpr_50 (by decide) ?_
        refine Wr_goto 55 dX2_readExpr_51 (by decide) ?_
        exact Wr_top (if_neg hc0) hj2
    refine Wr_icmp_eq 39 dX2_readExpr_13 (by decide) (fun hc0 => ?_) (fun hc0 => ?_)
    · skip
      refine Wr_iconstv (v := 1) dX2_readExpr_39 (by decide) ?_
      refine Wr_goto 44 dX2_readExpr_40 (by decide) ?_
      exact Wr_top (if_pos hc0) hj1
    · skip
      refine Wr_aload_n dX2_readExpr_16 rfl 0 rfl ?_
      refine Wr_getR 1 dX2_readExpr_17 flX2_12 ho rfl (by decide) ?_
      refine Wr_getI dX2_readExpr_20 flX2_41 (zo2_0 ho) rfl ?_
      refine Wr_iconstv (v := 1) dX2_readExpr_23 (by decide) ?_
      refine Wr_icmp_eq 39 dX2_readExpr_24 (by decide) (fun hc1 => ?_) (fun hc1 => ?_)
      · skip
        refine Wr_iconstv (v := 1) dX2_readExpr_39 (by decide) ?_
        refine Wr_goto 44 dX2_readExpr_40 (by decide) ?_
        exact Wr_top ((if_neg hc0).trans (if_pos hc1)) hj1
      · skip
        refine Wr_aload_n dX2_readExpr_27 rfl 0 rfl ?_
        refine Wr_getR 1 dX2_readExpr_28 flX2_12 ho rfl (by decide) ?_
        refine Wr_getI dX2_readExpr_31 flX2_41 (zo2_0 ho) rfl ?_
        refine Wr_bipush (v := 40) dX2_readExpr_34 (by decide) ?_
        refine Wr_icmp_ne 43 dX2_readExpr_36 (by decide) (fun hc2 => ?_) (fun hc2 => ?_)
        · skip
          refine Wr_iconstv (v := 0) dX2_readExpr_43 (by decide) ?_
          exact Wr_top ((if_neg hc0).trans ((if_neg hc1).trans (if_neg hc2))) hj1
        · skip
          refine Wr_iconstv (v := 1) dX2_readExpr_39 (by decide) ?_
          refine Wr_goto 44 dX2_readExpr_40 (by decide) ?_
          exact Wr_top ((if_neg hc0).trans ((if_neg hc1).trans (if_pos hc2))) hj1
theorem cX2_readExpr_ {d : Nat} {o : Nat} {r1 : Nat} {x2 : Int32} {μ : zMem} {KI : Int32 → zMem → Prop} {X : Nat → zMem → Prop} (ho : zsh o = .inr 2) (hr1 : zsh r1 = .inr 3) (h : pX2_readExpr d o r1 x2 μ KI X) : zcI (d + 1) mX2_readExpr [.ref o, .ref r1, .int x2] μ KI X :=
  Ex_of (w := 3) mgX2_readExpr.2.2.2.2.2 rfl rfl rfl (by decide) (wX2_readExpr_0 ho hr1 h)

def pX2_readAnd_13 : Nat → Nat → Nat → Nat → Int32 → Int32 → zMem → (Int32 → zMem → Prop) → (Nat → zMem → Prop) → Prop
  | 0, _, _, _, _, _, _, _, _ => False
  | n + 1, d, o, r1, x2, x3, μ, KI, X =>
  ((700 ≤ x3 → KI 1 μ) ∧
  (¬ (700 ≤ x3) → zcI d mX6_among [.ref (o + 1), .ref (1000 + 3)] μ (fun u2 m1 => ((u2 = (-1) → KI 1 m1) ∧
    (¬ (u2 = (-1)) → zcV d mX6_step [.ref (o + 1)] m1 (fun m3 => zcI d mX2_readNot [.ref o, .ref r1, .int x2] m3 (fun u5 m4 => ((u5 = 0 → KI 0 m4) ∧
      (¬ (u5 = 0) → zcV d mX3_add [.ref r1, .int (-101)] m4 (fun m6 => ∀ v7 : Int32, v7 = x3 + 1 → pX2_readAnd_13 n d o r1 x2 v7 m6 KI X) X))) X) X))) X))
set_option maxRecDepth 20000 in
theorem wX2_readAnd_13 {d : Nat} {o : Nat} {r1 : Nat} {KI : Int32 → zMem → Prop} {X : Nat → zMem → Prop} (ho : zsh o = .inr 2) (hr1 : zsh r1 = .inr 3) : ∀ (n : Nat) (x2 : Int32) (x3 : Int32) (μ : zMem), pX2_readAnd_13 n d o r1 x2 x3 μ KI X → Wr mX2_readAnd (d + 1) 0 13 [(0, .ref o), (1, .ref r1), (2, .int x2), (3, .int x3)] [] μ (kI KI X) := by
  intro n
  induction n with
  | zero =>
    intro x2 x3 μ h
    exact absurd h id
  | succ n ih =>
    intro x2 x3 μ h
    unfold pX2_readAnd_13 at h
    refine Wr_iload_n dX2_readAnd_13 rfl 3 rfl ?_
    refine Wr_sipush (v := 700) dX2_readAnd_14 (by decide) ?_
    refine Wr_icmp_ge 63 dX2_readAnd_17 (by decide) (fun hc => ?_) (fun hc => ?_)
    · have h := h.1 hc
      refine Wr_iconstv (v := 1) dX2_readAnd_63 (by decide) ?_
      exact Wr_iret .boolean dX2_readAnd_64 rfl rfl ⟨rfl, h⟩
    · have h := h.2 hc
      refine Wr_aload_n dX2_readAnd_20 rfl 0 rfl ?_
      refine Wr_getR 1 dX2_readAnd_21 flX2_12 ho rfl (by decide) ?_
      refine Wr_ldcS (sn := 3) (tx := "and ") dX2_readAnd_24 (zst 3 (by decide +kernel)) ?_
      refine Wr_cVi [.ref (1000 + 3)] dX2_readAnd_26 mlX2_73 mgX6_among rfl mvX6_among (zrv (zo2_0 ho) _ rfl rfl) rfl rfl (Nat.le_of_ble_eq_true rfl) rfl (zcI.imp h (fun u2 m1 h => ?_) (fun _ _ h => ⟨rfl, h⟩))
      refine Wr_iconstv (v := (-1)) dX2_readAnd_29 (by decide) ?_
      refine Wr_icmp_eq 63 dX2_readAnd_30 (by decide) (fun hc => ?_) (fun hc => ?_)
      · have h := h.1 hc
        refine Wr_iconstv (v := 1) dX2_readAnd_63 (by decide) ?_
        exact Wr_iret .boolean dX2_readAnd_64 rfl rfl ⟨rfl, h⟩
      · have h := h.2 hc
        refine Wr_aload_n dX2_readAnd_33 rfl 0 rfl ?_
        refine Wr_getR 1 dX2_readAnd_34 flX2_12 ho rfl (by decide) ?_
        refine Wr_cVv [] dX2_readAnd_37 mlX2_58 mgX6_step rfl mvX6_step (zrv (zo2_0 ho) _ rfl rfl) rfl rfl (Nat.le_of_ble_eq_true rfl) rfl (zcV.imp h (fun m3 h => ?_) (fun _ _ h => ⟨rfl, h⟩))
        refine Wr_aload_n dX2_readAnd_40 rfl 0 rfl ?_
        refine Wr_aload_n dX2_readAnd_41 rfl 1 rfl ?_
        refine Wr_iload_n dX2_readAnd_42 rfl 2 rfl ?_
        refine Wr_cVi [.ref r1, .int x2] dX2_readAnd_43 mlX2_204 mgX2_readNot rfl mvX2_readNot (zrv ho _ rfl rfl) rfl rfl (Nat.le_of_ble_eq_true rfl) rfl (zcI.imp h (fun u5 m4 h => ?_) (fun _ _ h => ⟨rfl, h⟩))
        refine Wr_if_ne 51 dX2_readAnd_46 (by decide) (fun hc => ?_) (fun hc => ?_)
        · have h := h.2 hc
          refine Wr_aload_n dX2_readAnd_51 rfl 1 rfl ?_
          refine Wr_bipush (v := (-101)) dX2_readAnd_52 (by decide) ?_
          refine Wr_cVv [.int (-101)] dX2_readAnd_54 mlX2_200 mgX3_add rfl mvX3_add (zrv hr1 _ rfl rfl) rfl rfl (Nat.le_of_ble_eq_true rfl) rfl (zcV.imp h (fun m6 h => ?_) (fun _ _ h => ⟨rfl, h⟩))
          obtain ⟨v7, ev7⟩ : ∃ z : Int32, z = x3 + 1 := ⟨_, rfl⟩
          have h := h v7 ev7
          refine Wr_iinc (v := v7) dX2_readAnd_57 (q := 3) rfl (by rw [ev7]; rfl) (by decide) rfl ?_
          refine Wr_goto 13 dX2_readAnd_60 (by decide) ?_
          refine zsub [0, 1, 2, 3] rfl ?_
          exact ih _ _ _ h
        · have h := h.1 hc
          refine Wr_iconstv (v := 0) dX2_readAnd_49 (by decide) ?_
          exact Wr_iret .boolean dX2_readAnd_50 rfl rfl ⟨rfl, h⟩
def pX2_readAnd (d : Nat) (o : Nat) (r1 : Nat) (x2 : Int32) (μ : zMem) (KI : Int32 → zMem → Prop) (X : Nat → zMem → Prop) : Prop :=
  zcI d mX2_readNot [.ref o, .ref r1, .int x2] μ (fun u2 m1 => ((u2 = 0 → KI 0 m1) ∧
  (¬ (u2 = 0) → ∃ n2 : Nat, pX2_readAnd_13 n2 d o r1 x2 0 m1 KI X))) X
set_option maxRecDepth 20000 in
theorem wX2_readAnd_0 {d : Nat} {o : Nat} {r1 : Nat} {KI : Int32 → zMem → Prop} {X : Nat → zMem → Prop} {x2 : Int32} {μ : zMem} (ho : zsh o = .inr 2) (hr1 : zsh r1 = .inr 3) (h : pX2_readAnd d o r1 x2 μ KI X) : Wr mX2_readAnd (d + 1) 0 0 [(0, .ref o), (1, .ref r1), (2, .int x2)] [] μ (kI KI X) := by
  unfold pX2_readAnd at h
  refine Wr_aload_n dX2_readAnd_0 rfl 0 rfl ?_
  refine Wr_aload_n dX2_readAnd_1 rfl 1 rfl ?_
  refine Wr_iload_n dX2_readAnd_2 rfl 2 rfl ?_
  refine Wr_cVi [.ref r1, .int x2] dX2_readAnd_3 mlX2_204 mgX2_readNot rfl mvX2_readNot (zrv ho _ rfl rfl) rfl rfl (Nat.le_of_ble_eq_true rfl) rfl (zcI.imp h (fun u2 m1 h => ?_) (fun _ _ h => ⟨rfl, h⟩))
  refine Wr_if_ne 11 dX2_readAnd_6 (by decide) (fun hc => ?_) (fun hc => ?_)
  · have h := h.2 hc
    refine Wr_iconstv (v := 0) dX2_readAnd_11 (by decide) ?_
    refine Wr_istore_n dX2_readAnd_12 rfl (by decide) rfl ?_
    refine zsub [0, 1, 2, 3] rfl ?_
    obtain ⟨n9, h⟩ := h
    exact wX2_readAnd_13 ho hr1 n9 _ _ _ h
  · have h := h.1 hc
    refine Wr_iconstv (v := 0) dX2_readAnd_9 (by decide) ?_
    exact Wr_iret .boolean dX2_readAnd_10 rfl rfl ⟨rfl, h⟩
theorem cX2_readAnd_ {d : Nat} {o : Nat} {r1 : Nat} {x2 : Int32} {μ : zMem} {KI : Int32 → zMem → Prop} {X : Nat → zMem → Prop} (ho : zsh o = .inr 2) (hr1 : zsh r1 = .inr 3) (h : pX2_readAnd d o r1 x2 μ KI X) : zcI (d + 1) mX2_readAnd [.ref o, .ref r1, .int x2] μ KI X :=
  Ex_of (w := 3) mgX2_readAnd.2.2.2.2.2 rfl rfl rfl (by decide) (wX2_readAnd_0 ho hr1 h)

def pX2_readNot_73 : Nat → Nat → Nat → Nat → Int32 → Int32 → zMem → (Int32 → zMem → Prop) → (Nat → zMem → Prop) → Prop
  | 0, _, _, _, _, _, _, _, _ => False
  | n + 1, d, o, r1, x3, x4, μ, KI, X =>
  ((x3 ≤ x4 → KI 1 μ) ∧
  (¬ (x3 ≤ x4) → zcV d mX3_add [.ref r1, .int (-100)] μ (fun m1 => ∀ v2 : Int32, v2 = x4 + 1 → pX2_readNot_73 n d o r1 x3 v2 m1 KI X) X))
set_option maxRecDepth 20000 in
theorem wX2_readNot_73 {d : Nat} {o : Nat} {r1 : Nat} {KI : Int32 → zMem → Prop} {X : Nat → zMem → Prop} (ho : zsh o = .inr 2) (hr1 : zsh r1 = .inr 3) : ∀ (n : Nat) (x3 : Int32) (x4 : Int32) (μ : zMem), pX2_readNot_73 n d o r1 x3 x4 μ KI X → Wr mX2_readNot (d + 1) 0 73 [(1, .ref r1), (3, .int x3), (4, .int x4)] [] μ (kI KI X) := by
  intro n
  induction n with
  | zero =>
    intro x3 x4 μ h
    exact absurd h id
  | succ n ih =>
    intro x3 x4 μ h
    unfold pX2_readNot_73 at h
    refine Wr_iload dX2_readNot_73 2 rfl ?_
    refine Wr_iload_n dX2_readNot_75 rfl 1 rfl ?_
    refine Wr_icmp_ge 91 dX2_readNot_76 (by decide) (fun hc => ?_) (fun hc => ?_)
    · have h := h.1 hc
      refine Wr_iconstv (v := 1) dX2_readNot_91 (by decide) ?_
      exact Wr_iret .boolean dX2_readNot_92 rfl rfl ⟨rfl, h⟩
    · have h := h.2 hc
      refine Wr_aload_n dX2_readNot_79 rfl 0 rfl ?_
      refine Wr_bipush (v := (-100)) dX2_readNot_80 (by decide) ?_
      refine Wr_cVv [.int (-100)] dX2_readNot_82 mlX2_200 mgX3_add rfl mvX3_add (zrv hr1 _ rfl rfl) rfl rfl (Nat.le_of_ble_eq_true rfl) rfl (zcV.imp h (fun m1 h => ?_) (fun _ _ h => ⟨rfl, h⟩))
      obtain ⟨v2, ev2⟩ : ∃ z : Int32, z = x4 + 1 := ⟨_, rfl⟩
      have h := h v2 ev2
      refine Wr_iinc (v := v2) dX2_readNot_85 (q := 2) rfl (by rw [ev2]; rfl) (by decide) rfl ?_
      refine Wr_goto 73 dX2_readNot_88 (by decide) ?_
      refine zsub [1, 3, 4] rfl ?_
      exact ih _ _ _ h
def pX2_readNot_59 (d : Nat) (o : Nat) (r1 : Nat) (x2 : Int32) (x3 : Int32) (μ : zMem) (KI : Int32 → zMem → Prop) (X : Nat → zMem → Prop) : Prop :=
  zcI d mX2_readTest [.ref o, .ref r1, .int x2] μ (fun u2 m1 => ((u2 = 0 → KI 0 m1) ∧
  (¬ (u2 = 0) → ∃ n2 : Nat, pX2_readNot_73 n2 d o r1 x3 0 m1 KI X))) X
set_option maxRecDepth 20000 in
theorem wX2_readNot_59 {d : Nat} {o : Nat} {r1 : Nat} {KI : Int32 → zMem → Prop} {X : Nat → zMem → Prop} {x2 : Int32} {x3 : Int32} {μ : zMem} (ho : zsh o = .inr 2) (hr1 : zsh r1 = .inr 3) (h : pX2_readNot_59 d o r1 x2 x3 μ KI X) : Wr mX2_readNot (d + 1) 0 59 [(0, .ref o), (1, .ref r1), (2, .int x2), (3, .int x3)] [] μ (kI KI X) := by
  unfold pX2_readNot_59 at h
  refine Wr_aload_n dX2_readNot_59 rfl 0 rfl ?_
  refine Wr_aload_n dX2_readNot_60 rfl 1 rfl ?_
  refine Wr_iload_n dX2_readNot_61 rfl 2 rfl ?_
  refine Wr_cVi [.ref r1, .int x2] dX2_readNot_62 mlX2_211 mgX2_readTest rfl mvX2_readTest (zrv ho _ rfl rfl) rfl rfl (Nat.le_of_ble_eq_true rfl) rfl (zcI.imp h (fun u2 m1 h => ?_) (fun _ _ h => ⟨rfl, h⟩))
  refine Wr_if_ne 70 dX2_readNot_65 (by decide) (fun hc => ?_) (fun hc => ?_)
  · have h := h.2 hc
    refine Wr_iconstv (v := 0) dX2_readNot_70 (by decide) ?_
    refine Wr_istore dX2_readNot_71 (by decide) rfl ?_
    refine zsub [1, 3, 4] rfl ?_
    obtain ⟨n9, h⟩ := h
    exact wX2_readNot_73 ho hr1 n9 _ _ _ h
  · have h := h.1 hc
    refine Wr_iconstv (v := 0) dX2_readNot_68 (by decide) ?_
    exact Wr_iret .boolean dX2_readNot_69 rfl rfl ⟨rfl, h⟩
def pX2_readNot_34 (d : Nat) (o : Nat) (r1 : Nat) (x2 : Int32) (x3 : Int32) (μ : zMem) (KI : Int32 → zMem → Prop) (X : Nat → zMem → Prop) : Prop :=
  ((x3 = 6 → zcI d mX6_among [.ref (o + 1), .ref (1000 + 4)] μ (fun u2 m1 => ((u2 = (-1) → pX2_readNot_59 d o r1 x2 x3 m1 KI X) ∧
    (¬ (u2 = (-1)) → zcI d mX2_refuse [.ref o, .int 2] m1 (fun u4 m3 => (u4 = 0 ∨ u4 = 1) ∧ KI u4 m3) X))) X) ∧
  (¬ (x3 = 6) → pX2_readNot_59 d o r1 x2 x3 μ KI X))
set_option maxRecDepth 20000 in
theorem wX2_readNot_34 {d : Nat} {o : Nat} {r1 : Nat} {KI : Int32 → zMem → Prop} {X : Nat → zMem → Prop} {x2 : Int32} {x3 : Int32} {μ : zMem} (ho : zsh o = .inr 2) (hr1 : zsh r1 = .inr 3) (h : pX2_readNot_34 d o r1 x2 x3 μ KI X) : Wr mX2_readNot (d + 1) 0 34 [(0, .ref o), (1, .ref r1), (2, .int x2), (3, .int x3)] [] μ (kI KI X) := by
  unfold pX2_readNot_34 at h
  refine Wr_iload_n dX2_readNot_34 rfl 3 rfl ?_
  refine Wr_bipush (v := 6) dX2_readNot_35 (by decide) ?_
  refine Wr_icmp_ne 59 dX2_readNot_37 (by decide) (fun hc => ?_) (fun hc => ?_)
  · have h := h.2 hc
    refine zsub [0, 1, 2, 3] rfl ?_
    exact wX2_readNot_59 ho hr1 h
  · have h := h.1 hc
    refine Wr_aload_n dX2_readNot_40 rfl 0 rfl ?_
    refine Wr_getR 1 dX2_readNot_41 flX2_12 ho rfl (by decide) ?_
    refine Wr_ldcS (sn := 4) (tx := "not ") dX2_readNot_44 (zst 4 (by decide +kernel)) ?_
    refine Wr_cVi [.ref (1000 + 4)] dX2_readNot_46 mlX2_73 mgX6_among rfl mvX6_among (zrv (zo2_0 ho) _ rfl rfl) rfl rfl (Nat.le_of_ble_eq_true rfl) rfl (zcI.imp h (fun u2 m1 h => ?_) (fun _ _ h => ⟨rfl, h⟩))
    refine Wr_iconstv (v := (-1)) dX2_readNot_49 (by decide) ?_
    refine Wr_icmp_eq 59 dX2_readNot_50 (by decide) (fun hc => ?_) (fun hc => ?_)
    · have h := h.1 hc
      refine zsub [0, 1, 2, 3] rfl ?_
      exact wX2_readNot_59 ho hr1 h
    · have h := h.2 hc
      refine Wr_aload_n dX2_readNot_53 rfl 0 rfl ?_
      refine Wr_iconstv (v := 2) dX2_readNot_54 (by decide) ?_
      refine Wr_cVi [.int 2] dX2_readNot_55 mlX2_55 mgX2_refuse rfl mvX2_refuse (zrv ho _ rfl rfl) rfl rfl (Nat.le_of_ble_eq_true rfl) rfl (zcI.imp h (fun u4 m3 h => ?_) (fun _ _ h => ⟨rfl, h⟩))
      exact Wr_iret .boolean dX2_readNot_58 rfl (znar h.1) ⟨rfl, h.2⟩
def pX2_readNot_2 : Nat → Nat → Nat → Nat → Int32 → Int32 → zMem → (Int32 → zMem → Prop) → (Nat → zMem → Prop) → Prop
  | 0, _, _, _, _, _, _, _, _ => False
  | n + 1, d, o, r1, x2, x3, μ, KI, X =>
  ((6 ≤ x3 → pX2_readNot_34 d o r1 x2 x3 μ KI X) ∧
  (¬ (6 ≤ x3) → zcI d mX6_among [.ref (o + 1), .ref (1000 + 4)] μ (fun u2 m1 => ((u2 = (-1) → pX2_readNot_34 d o r1 x2 x3 m1 KI X) ∧
    (¬ (u2 = (-1)) → ∀ v3 : Int32, v3 = x3 + 1 → zcV d mX6_step [.ref (o + 1)] m1 (fun m4 => pX2_readNot_2 n d o r1 x2 v3 m4 KI X) X))) X))
set_option maxRecDepth 20000 in
theorem wX2_readNot_2 {d : Nat} {o : Nat} {r1 : Nat} {KI : Int32 → zMem → Prop} {X : Nat → zMem → Prop} (ho : zsh o = .inr 2) (hr1 : zsh r1 = .inr 3) : ∀ (n : Nat) (x2 : Int32) (x3 : Int32) (μ : zMem), pX2_readNot_2 n d o r1 x2 x3 μ KI X → Wr mX2_readNot (d + 1) 0 2 [(0, .ref o), (1, .ref r1), (2, .int x2), (3, .int x3)] [] μ (kI KI X) := by
  intro n
  induction n with
  | zero =>
    intro x2 x3 μ h
    exact absurd h id
  | succ n ih =>
    intro x2 x3 μ h
    unfold pX2_readNot_2 at h
    refine Wr_iload_n dX2_readNot_2 rfl 3 rfl ?_
    refine Wr_bipush (v := 6) dX2_readNot_3 (by decide) ?_
    refine Wr_icmp_ge 34 dX2_readNot_5 (by decide) (fun hc => ?_) (fun hc => ?_)
    · have h := h.1 hc
      refine zsub [0, 1, 2, 3] rfl ?_
      exact wX2_readNot_34 ho hr1 h
    · have h := h.2 hc
      refine Wr_aload_n dX2_readNot_8 rfl 0 rfl ?_
      refine Wr_getR 1 dX2_readNot_9 flX2_12 ho rfl (by decide) ?_
      refine Wr_ldcS (sn := 4) (tx := "not ") dX2_readNot_12 (zst 4 (by decide +kernel)) ?_
      refine Wr_cVi [.ref (1000 + 4)] dX2_readNot_14 mlX2_73 mgX6_among rfl mvX6_among (zrv (zo2_0 ho) _ rfl rfl) rfl rfl (Nat.le_of_ble_eq_true rfl) rfl (zcI.imp h (fun u2 m1 h => ?_) (fun _ _ h => ⟨rfl, h⟩))
      refine Wr_iconstv (v := (-1)) dX2_readNot_17 (by decide) ?_
      refine Wr_icmp_eq 34 dX2_readNot_18 (by decide) (fun hc => ?_) (fun hc => ?_)
      · have h := h.1 hc
        refine zsub [0, 1, 2, 3] rfl ?_
        exact wX2_readNot_34 ho hr1 h
      · have h := h.2 hc
        obtain ⟨v3, ev3⟩ : ∃ z : Int32, z = x3 + 1 := ⟨_, rfl⟩
        have h := h v3 ev3
        refine Wr_iinc (v := v3) dX2_readNot_21 (q := 3) rfl (by rw [ev3]; rfl) (by decide) rfl ?_
        refine Wr_aload_n dX2_readNot_24 rfl 1 rfl ?_
        refine Wr_getR 1 dX2_readNot_25 flX2_12 ho rfl (by decide) ?_
        refine Wr_cVv [] dX2_readNot_28 mlX2_58 mgX6_step rfl mvX6_step (zrv (zo2_0 ho) _ rfl rfl) rfl rfl (Nat.le_of_ble_eq_true rfl) rfl (zcV.imp h (fun m4 h => ?_) (fun _ _ h => ⟨rfl, h⟩))
        refine Wr_goto 2 dX2_readNot_31 (by decide) ?_
        refine zsub [0, 1, 2, 3] rfl ?_
        exact ih _ _ _ h
def pX2_readNot (d : Nat) (o : Nat) (r1 : Nat) (x2 : Int32) (μ : zMem) (KI : Int32 → zMem → Prop) (X : Nat → zMem → Prop) : Prop :=
  ∃ n2 : Nat, pX2_readNot_2 n2 d o r1 x2 0 μ KI X
set_option maxRecDepth 20000 in
theorem wX2_readNot_0 {d : Nat} {o : Nat} {r1 : Nat} {KI : Int32 → zMem → Prop} {X : Nat → zMem → Prop} {x2 : Int32} {μ : zMem} (ho : zsh o = .inr 2) (hr1 : zsh r1 = .inr 3) (h : pX2_readNot d o r1 x2 μ KI X) : Wr mX2_readNot (d + 1) 0 0 [(0, .ref o), (1, .ref r1), (2, .int x2)] [] μ (kI KI X) := by
  unfold pX2_readNot at h
  refine Wr_iconstv (v := 0) dX2_readNot_0 (by decide) ?_
  refine Wr_istore_n dX2_readNot_1 rfl (by decide) rfl ?_
  refine zsub [0, 1, 2, 3] rfl ?_
  obtain ⟨n9, h⟩ := h
  exact wX2_readNot_2 ho hr1 n9 _ _ _ h
theorem cX2_readNot_ {d : Nat} {o : Nat} {r1 : Nat} {x2 : Int32} {μ : zMem} {KI : Int32 → zMem → Prop} {X : Nat → zMem → Prop} (ho : zsh o = .inr 2) (hr1 : zsh r1 = .inr 3) (h : pX2_readNot d o r1 x2 μ KI X) : zcI (d + 1) mX2_readNot [.ref o, .ref r1, .int x2] μ KI X :=
  Ex_of (w := 3) mgX2_readNot.2.2.2.2.2 rfl rfl rfl (by decide) (wX2_readNot_0 ho hr1 h)

def pX2_readTest_33 (d : Nat) (o : Nat) (r1 : Nat) (x2 : Int32) (x3 : Int32) (μ : zMem) (KI : Int32 → zMem → Prop) (X : Nat → zMem → Prop) : Prop :=
  zcV d mX6_step [.ref (o + 1)] μ (fun m1 => zcI d mX2_readSum [.ref o, .ref r1, .int x2] m1 (fun u3 m2 => ((u3 = 0 → KI 0 m2) ∧
  (¬ (u3 = 0) → zcV d mX3_addSign [.ref r1, .int x3] m2 (fun m4 => KI 1 m4) X))) X) X
set_option maxRecDepth 20000 in
theorem wX2_readTest_33 {d : Nat} {o : Nat} {r1 : Nat} {KI : Int32 → zMem → Prop} {X : Nat → zMem → Prop} {x2 : Int32} {x3 : Int32} {μ : zMem} (ho : zsh o = .inr 2) (hr1 : zsh r1 = .inr 3) (h : pX2_readTest_33 d o r1 x2 x3 μ KI X) : Wr mX2_readTest (d + 1) 0 33 [(0, .ref o), (1, .ref r1), (2, .int x2), (3, .int x3)] [] μ (kI KI X) := by
  unfold pX2_readTest_33 at h
  refine Wr_aload_n dX2_readTest_33 rfl 0 rfl ?_
  refine Wr_getR 1 dX2_readTest_34 flX2_12 ho rfl (by decide) ?_
  refine Wr_cVv [] dX2_readTest_37 mlX2_58 mgX6_step rfl mvX6_step (zrv (zo2_0 ho) _ rfl rfl) rfl rfl (Nat.le_of_ble_eq_true rfl) rfl (zcV.imp h (fun m1 h => ?_) (fun _ _ h => ⟨rfl, h⟩))
  refine Wr_aload_n dX2_readTest_40 rfl 0 rfl ?_
  refine Wr_aload_n dX2_readTest_41 rfl 1 rfl ?_
  refine Wr_iload_n dX2_readTest_42 rfl 2 rfl ?_
  refine Wr_cVi [.ref r1, .int x2] dX2_readTest_43 mlX2_214 mgX2_readSum rfl mvX2_readSum (zrv ho _ rfl rfl) rfl rfl (Nat.le_of_ble_eq_true rfl) rfl (zcI.imp h (fun u3 m2 h => ?_) (fun _ _ h => ⟨rfl, h⟩))
  refine Wr_if_ne 51 dX2_readTest_46 (by decide) (fun hc => ?_) (fun hc => ?_)
  · have h := h.2 hc
    refine Wr_aload_n dX2_readTest_51 rfl 1 rfl ?_
    refine Wr_iload_n dX2_readTest_52 rfl 3 rfl ?_
    refine Wr_cVv [.int x3] dX2_readTest_53 mlX2_217 mgX3_addSign rfl mvX3_addSign (zrv hr1 _ rfl rfl) rfl rfl (Nat.le_of_ble_eq_true rfl) rfl (zcV.imp h (fun m4 h => ?_) (fun _ _ h => ⟨rfl, h⟩))
    refine Wr_iconstv (v := 1) dX2_readTest_56 (by decide) ?_
    exact Wr_iret .boolean dX2_readTest_57 rfl rfl ⟨rfl, h⟩
  · have h := h.1 hc
    refine Wr_iconstv (v := 0) dX2_readTest_49 (by decide) ?_
    exact Wr_iret .boolean dX2_readTest_50 rfl rfl ⟨rfl, h⟩
def pX2_readTest (d : Nat) (o : Nat) (r1 : Nat) (x2 : Int32) (μ : zMem) (KI : Int32 → zMem → Prop) (X : Nat → zMem → Prop) : Prop :=
  zcI d mX2_readSum [.ref o, .ref r1, .int x2] μ (fun u2 m1 => ((u2 = 0 → KI 0 m1) ∧
  (¬ (u2 = 0) → ((m1 (o + 1) 4 = 60 → pX2_readTest_33 d o r1 x2 (m1 (o + 1) 4) m1 KI X) ∧
    (¬ (m1 (o + 1) 4 = 60) → ((m1 (o + 1) 4 = 61 → pX2_readTest_33 d o r1 x2 (m1 (o + 1) 4) m1 KI X) ∧
      (¬ (m1 (o + 1) 4 = 61) → KI 1 m1))))))) X
set_option maxRecDepth 20000 in
theorem wX2_readTest_0 {d : Nat} {o : Nat} {r1 : Nat} {KI : Int32 → zMem → Prop} {X : Nat → zMem → Prop} {x2 : Int32} {μ : zMem} (ho : zsh o = .inr 2) (hr1 : zsh r1 = .inr 3) (h : pX2_readTest d o r1 x2 μ KI X) : Wr mX2_readTest (d + 1) 0 0 [(0, .ref o), (1, .ref r1), (2, .int x2)] [] μ (kI KI X) := by
  unfold pX2_readTest at h
  refine Wr_aload_n dX2_readTest_0 rfl 0 rfl ?_
  refine Wr_aload_n dX2_readTest_1 rfl 1 rfl ?_
  refine Wr_iload_n dX2_readTest_2 rfl 2 rfl ?_
  refine Wr_cVi [.ref r1, .int x2] dX2_readTest_3 mlX2_214 mgX2_readSum rfl mvX2_readSum (zrv ho _ rfl rfl) rfl rfl (Nat.le_of_ble_eq_true rfl) rfl (zcI.imp h (fun u2 m1 h => ?_) (fun _ _ h => ⟨rfl, h⟩))
  refine Wr_if_ne 11 dX2_readTest_6 (by decide) (fun hc => ?_) (fun hc => ?_)
  · have h := h.2 hc
    refine Wr_aload_n dX2_readTest_11 rfl 0 rfl ?_
    refine Wr_getR 1 dX2_readTest_12 flX2_12 ho rfl (by decide) ?_
    refine Wr_getI dX2_readTest_15 flX2_41 (zo2_0 ho) rfl ?_
    refine Wr_istore_n dX2_readTest_18 rfl (by decide) rfl ?_
    refine Wr_iload_n dX2_readTest_19 rfl 0 rfl ?_
    refine Wr_bipush (v := 60) dX2_readTest_20 (by decide) ?_
    refine Wr_icmp_eq 33 dX2_readTest_22 (by decide) (fun hc => ?_) (fun hc => ?_)
    · have h := h.1 hc
      refine zsub [0, 1, 2, 3] rfl ?_
      exact wX2_readTest_33 ho hr1 h
    · have h := h.2 hc
      refine Wr_iload_n dX2_readTest_25 rfl 0 rfl ?_
      refine Wr_bipush (v := 61) dX2_readTest_26 (by decide) ?_
      refine Wr_icmp_eq 33 dX2_readTest_28 (by decide) (fun hc => ?_) (fun hc => ?_)
      · have h := h.1 hc
        refine zsub [0, 1, 2, 3] rfl ?_
        exact wX2_readTest_33 ho hr1 h
      · have h := h.2 hc
        refine Wr_iconstv (v := 1) dX2_readTest_31 (by decide) ?_
        exact Wr_iret .boolean dX2_readTest_32 rfl rfl ⟨rfl, h⟩
  · have h := h.1 hc
    refine Wr_iconstv (v := 0) dX2_readTest_9 (by decide) ?_
    exact Wr_iret .boolean dX2_readTest_10 rfl rfl ⟨rfl, h⟩
theorem cX2_readTest_ {d : Nat} {o : Nat} {r1 : Nat} {x2 : Int32} {μ : zMem} {KI : Int32 → zMem → Prop} {X : Nat → zMem → Prop} (ho : zsh o = .inr 2) (hr1 : zsh r1 = .inr 3) (h : pX2_readTest d o r1 x2 μ KI X) : zcI (d + 1) mX2_readTest [.ref o, .ref r1, .int x2] μ KI X :=
  Ex_of (w := 3) mgX2_readTest.2.2.2.2.2 rfl rfl rfl (by decide) (wX2_readTest_0 ho hr1 h)

def pX2_readSum_44 (d : Nat) (o : Nat) (r1 : Nat) (x2 : Int32) (x3 : Int32) (μ : zMem) (KI : Int32 → zMem → Prop) (X : Nat → zMem → Prop) (C13 : Int32 → Int32 → zMem → Prop) : Prop :=
  zcV d mX6_step [.ref (o + 1)] μ (fun m1 => zcI d mX2_readProduct [.ref o, .ref r1, .int x2] m1 (fun u3 m2 => ((u3 = 0 → KI 0 m2) ∧
  (¬ (u3 = 0) → zcV d mX3_addSign [.ref r1, .int (μ (o + 1) 4)] m2 (fun m4 => ∀ v5 : Int32, v5 = x3 + 1 → C13 x2 v5 m4) X))) X) X
set_option maxRecDepth 20000 in
theorem wX2_readSum_44 {d : Nat} {o : Nat} {r1 : Nat} {KI : Int32 → zMem → Prop} {X : Nat → zMem → Prop} {C13 : Int32 → Int32 → zMem → Prop} {x2 : Int32} {x3 : Int32} {μ : zMem} (ho : zsh o = .inr 2) (hr1 : zsh r1 = .inr 3) (hC13 : ∀ (x2 : Int32) (x3 : Int32) (μ : zMem), C13 x2 x3 μ → Wr mX2_readSum (d + 1) 0 13 [(0, .ref o), (1, .ref r1), (2, .int x2), (3, .int x3)] [] μ (kI KI X)) (h : pX2_readSum_44 d o r1 x2 x3 μ KI X C13) : Wr mX2_readSum (d + 1) 0 44 [(0, .ref o), (1, .ref r1), (2, .int x2), (3, .int x3)] [] μ (kI KI X) := by
  unfold pX2_readSum_44 at h
  refine Wr_aload_n dX2_readSum_44 rfl 0 rfl ?_
  refine Wr_getR 1 dX2_readSum_45 flX2_12 ho rfl (by decide) ?_
  refine Wr_getI dX2_readSum_48 flX2_41 (zo2_0 ho) rfl ?_
  refine Wr_istore dX2_readSum_51 (by decide) rfl ?_
  refine Wr_aload_n dX2_readSum_53 rfl 1 rfl ?_
  refine Wr_getR 1 dX2_readSum_54 flX2_12 ho rfl (by decide) ?_
  refine Wr_cVv [] dX2_readSum_57 mlX2_58 mgX6_step rfl mvX6_step (zrv (zo2_0 ho) _ rfl rfl) rfl rfl (Nat.le_of_ble_eq_true rfl) rfl (zcV.imp h (fun m1 h => ?_) (fun _ _ h => ⟨rfl, h⟩))
  refine Wr_aload_n dX2_readSum_60 rfl 1 rfl ?_
  refine Wr_aload_n dX2_readSum_61 rfl 2 rfl ?_
  refine Wr_iload_n dX2_readSum_62 rfl 3 rfl ?_
  refine Wr_cVi [.ref r1, .int x2] dX2_readSum_63 mlX2_220 mgX2_readProduct rfl mvX2_readProduct (zrv ho _ rfl rfl) rfl rfl (Nat.le_of_ble_eq_true rfl) rfl (zcI.imp h (fun u3 m2 h => ?_) (fun _ _ h => ⟨rfl, h⟩))
  refine Wr_if_ne 71 dX2_readSum_66 (by decide) (fun hc => ?_) (fun hc => ?_)
  · have h := h.2 hc
    refine Wr_aload_n dX2_readSum_71 rfl 2 rfl ?_
    refine Wr_iload dX2_readSum_72 0 rfl ?_
    refine Wr_cVv [.int (μ (o + 1) 4)] dX2_readSum_74 mlX2_217 mgX3_addSign rfl mvX3_addSign (zrv hr1 _ rfl rfl) rfl rfl (Nat.le_of_ble_eq_true rfl) rfl (zcV.imp h (fun m4 h => ?_) (fun _ _ h => ⟨rfl, h⟩))
    obtain ⟨v5, ev5⟩ : ∃ z : Int32, z = x3 + 1 := ⟨_, rfl⟩
    have h := h v5 ev5
    refine Wr_iinc (v := v5) dX2_readSum_77 (q := 4) rfl (by rw [ev5]; rfl) (by decide) rfl ?_
    refine Wr_goto 13 dX2_readSum_80 (by decide) ?_
    refine zsub [0, 1, 2, 3] rfl ?_
    exact hC13 _ _ _ h
  · have h := h.1 hc
    refine Wr_iconstv (v := 0) dX2_readSum_69 (by decide) ?_
    exact Wr_iret .boolean dX2_readSum_70 rfl rfl ⟨rfl, h⟩
def pX2_readSum_13 : Nat → Nat → Nat → Nat → Int32 → Int32 → zMem → (Int32 → zMem → Prop) → (Nat → zMem → Prop) → Prop
  | 0, _, _, _, _, _, _, _, _ => False
  | n + 1, d, o, r1, x2, x3, μ, KI, X =>
  ((700 ≤ x3 → KI 1 μ) ∧
  (¬ (700 ≤ x3) → ((μ (o + 1) 4 = 43 → pX2_readSum_44 d o r1 x2 x3 μ KI X (fun z0 z1 m => pX2_readSum_13 n d o r1 z0 z1 m KI X)) ∧
    (¬ (μ (o + 1) 4 = 43) → ((μ (o + 1) 4 = 45 → pX2_readSum_44 d o r1 x2 x3 μ KI X (fun z0 z1 m => pX2_readSum_13 n d o r1 z0 z1 m KI X)) ∧
      (¬ (μ (o + 1) 4 = 45) → KI 1 μ))))))
set_option maxRecDepth 20000 in
theorem wX2_readSum_13 {d : Nat} {o : Nat} {r1 : Nat} {KI : Int32 → zMem → Prop} {X : Nat → zMem → Prop} (ho : zsh o = .inr 2) (hr1 : zsh r1 = .inr 3) : ∀ (n : Nat) (x2 : Int32) (x3 : Int32) (μ : zMem), pX2_readSum_13 n d o r1 x2 x3 μ KI X → Wr mX2_readSum (d + 1) 0 13 [(0, .ref o), (1, .ref r1), (2, .int x2), (3, .int x3)] [] μ (kI KI X) := by
  intro n
  induction n with
  | zero =>
    intro x2 x3 μ h
    exact absurd h id
  | succ n ih =>
    intro x2 x3 μ h
    unfold pX2_readSum_13 at h
    refine Wr_iload_n dX2_readSum_13 rfl 3 rfl ?_
    refine Wr_sipush (v := 700) dX2_readSum_14 (by decide) ?_
    refine Wr_icmp_ge 83 dX2_readSum_17 (by decide) (fun hc => ?_) (fun hc => ?_)
    · have h := h.1 hc
      refine Wr_iconstv (v := 1) dX2_readSum_83 (by decide) ?_
      exact Wr_iret .boolean dX2_readSum_84 rfl rfl ⟨rfl, h⟩
    · have h := h.2 hc
      refine Wr_aload_n dX2_readSum_20 rfl 0 rfl ?_
      refine Wr_getR 1 dX2_readSum_21 flX2_12 ho rfl (by decide) ?_
      refine Wr_getI dX2_readSum_24 flX2_41 (zo2_0 ho) rfl ?_
      refine Wr_bipush (v := 43) dX2_readSum_27 (by decide) ?_
      refine Wr_icmp_eq 44 dX2_readSum_29 (by decide) (fun hc => ?_) (fun hc => ?_)
      · have h := h.1 hc
        refine zsub [0, 1, 2, 3] rfl ?_
        exact wX2_readSum_44 ho hr1 (fun z0 z1 m h => ih z0 z1 m h) h
      · have h := h.2 hc
        refine Wr_aload_n dX2_readSum_32 rfl 0 rfl ?_
        refine Wr_getR 1 dX2_readSum_33 flX2_12 ho rfl (by decide) ?_
        refine Wr_getI dX2_readSum_36 flX2_41 (zo2_0 ho) rfl ?_
        refine Wr_bipush (v := 45) dX2_readSum_39 (by decide) ?_
        refine Wr_icmp_ne 83 dX2_readSum_41 (by decide) (fun hc => ?_) (fun hc => ?_)
        · have h := h.2 hc
          refine Wr_iconstv (v := 1) dX2_readSum_83 (by decide) ?_
          exact Wr_iret .boolean dX2_readSum_84 rfl rfl ⟨rfl, h⟩
        · have h := h.1 hc
          refine zsub [0, 1, 2, 3] rfl ?_
          exact wX2_readSum_44 ho hr1 (fun z0 z1 m h => ih z0 z1 m h) h
def pX2_readSum (d : Nat) (o : Nat) (r1 : Nat) (x2 : Int32) (μ : zMem) (KI : Int32 → zMem → Prop) (X : Nat → zMem → Prop) : Prop :=
  zcI d mX2_readProduct [.ref o, .ref r1, .int x2] μ (fun u2 m1 => ((u2 = 0 → KI 0 m1) ∧
  (¬ (u2 = 0) → ∃ n2 : Nat, pX2_readSum_13 n2 d o r1 x2 0 m1 KI X))) X
set_option maxRecDepth 20000 in
theorem wX2_readSum_0 {d : Nat} {o : Nat} {r1 : Nat} {KI : Int32 → zMem → Prop} {X : Nat → zMem → Prop} {x2 : Int32} {μ : zMem} (ho : zsh o = .inr 2) (hr1 : zsh r1 = .inr 3) (h : pX2_readSum d o r1 x2 μ KI X) : Wr mX2_readSum (d + 1) 0 0 [(0, .ref o), (1, .ref r1), (2, .int x2)] [] μ (kI KI X) := by
  unfold pX2_readSum at h
  refine Wr_aload_n dX2_readSum_0 rfl 0 rfl ?_
  refine Wr_aload_n dX2_readSum_1 rfl 1 rfl ?_
  refine Wr_iload_n dX2_readSum_2 rfl 2 rfl ?_
  refine Wr_cVi [.ref r1, .int x2] dX2_readSum_3 mlX2_220 mgX2_readProduct rfl mvX2_readProduct (zrv ho _ rfl rfl) rfl rfl (Nat.le_of_ble_eq_true rfl) rfl (zcI.imp h (fun u2 m1 h => ?_) (fun _ _ h => ⟨rfl, h⟩))
  refine Wr_if_ne 11 dX2_readSum_6 (by decide) (fun hc => ?_) (fun hc => ?_)
  · have h := h.2 hc
    refine Wr_iconstv (v := 0) dX2_readSum_11 (by decide) ?_
    refine Wr_istore_n dX2_readSum_12 rfl (by decide) rfl ?_
    refine zsub [0, 1, 2, 3] rfl ?_
    obtain ⟨n9, h⟩ := h
    exact wX2_readSum_13 ho hr1 n9 _ _ _ h
  · have h := h.1 hc
    refine Wr_iconstv (v := 0) dX2_readSum_9 (by decide) ?_
    exact Wr_iret .boolean dX2_readSum_10 rfl rfl ⟨rfl, h⟩
theorem cX2_readSum_ {d : Nat} {o : Nat} {r1 : Nat} {x2 : Int32} {μ : zMem} {KI : Int32 → zMem → Prop} {X : Nat → zMem → Prop} (ho : zsh o = .inr 2) (hr1 : zsh r1 = .inr 3) (h : pX2_readSum d o r1 x2 μ KI X) : zcI (d + 1) mX2_readSum [.ref o, .ref r1, .int x2] μ KI X :=
  Ex_of (w := 3) mgX2_readSum.2.2.2.2.2 rfl rfl rfl (by decide) (wX2_readSum_0 ho hr1 h)

def pX2_readProduct_44 (d : Nat) (o : Nat) (r1 : Nat) (x2 : Int32) (x3 : Int32) (μ : zMem) (KI : Int32 → zMem → Prop) (X : Nat → zMem → Prop) (C13 : Int32 → Int32 → zMem → Prop) : Prop :=
  zcV d mX6_step [.ref (o + 1)] μ (fun m1 => zcI d mX2_readPart [.ref o, .ref r1, .int x2] m1 (fun u3 m2 => ((u3 = 0 → KI 0 m2) ∧
  (¬ (u3 = 0) → zcV d mX3_addSign [.ref r1, .int (μ (o + 1) 4)] m2 (fun m4 => ∀ v5 : Int32, v5 = x3 + 1 → C13 x2 v5 m4) X))) X) X
set_option maxRecDepth 20000 in
theorem wX2_readProduct_44 {d : Nat} {o : Nat} {r1 : Nat} {KI : Int32 → zMem → Prop} {X : Nat → zMem → Prop} {C13 : Int32 → Int32 → zMem → Prop} {x2 : Int32} {x3 : Int32} {μ : zMem} (ho : zsh o = .inr 2) (hr1 : zsh r1 = .inr 3) (hC13 : ∀ (x2 : Int32) (x3 : Int32) (μ : zMem), C13 x2 x3 μ → Wr mX2_readProduct (d + 1) 0 13 [(0, .ref o), (1, .ref r1), (2, .int x2), (3, .int x3)] [] μ (kI KI X)) (h : pX2_readProduct_44 d o r1 x2 x3 μ KI X C13) : Wr mX2_readProduct (d + 1) 0 44 [(0, .ref o), (1, .ref r1), (2, .int x2), (3, .int x3)] [] μ (kI KI X) := by
  unfold pX2_readProduct_44 at h
  refine Wr_aload_n dX2_readProduct_44 rfl 0 rfl ?_
  refine Wr_getR 1 dX2_readProduct_45 flX2_12 ho rfl (by decide) ?_
  refine Wr_getI dX2_readProduct_48 flX2_41 (zo2_0 ho) rfl ?_
  refine Wr_istore dX2_readProduct_51 (by decide) rfl ?_
  refine Wr_aload_n dX2_readProduct_53 rfl 1 rfl ?_
  refine Wr_getR 1 dX2_readProduct_54 flX2_12 ho rfl (by decide) ?_
  refine Wr_cVv [] dX2_readProduct_57 mlX2_58 mgX6_step rfl mvX6_step (zrv (zo2_0 ho) _ rfl rfl) rfl rfl (Nat.le_of_ble_eq_true rfl) rfl (zcV.imp h (fun m1 h => ?_) (fun _ _ h => ⟨rfl, h⟩))
  refine Wr_aload_n dX2_readProduct_60 rfl 1 rfl ?_
  refine Wr_aload_n dX2_readProduct_61 rfl 2 rfl ?_
  refine Wr_iload_n dX2_readProduct_62 rfl 3 rfl ?_
  refine Wr_cVi [.ref r1, .int x2] dX2_readProduct_63 mlX2_223 mgX2_readPart rfl mvX2_readPart (zrv ho _ rfl rfl) rfl rfl (Nat.le_of_ble_eq_true rfl) rfl (zcI.imp h (fun u3 m2 h => ?_) (fun _ _ h => ⟨rfl, h⟩))
  refine Wr_if_ne 71 dX2_readProduct_66 (by decide) (fun hc => ?_) (fun hc => ?_)
  · have h := h.2 hc
    refine Wr_aload_n dX2_readProduct_71 rfl 2 rfl ?_
    refine Wr_iload dX2_readProduct_72 0 rfl ?_
    refine Wr_cVv [.int (μ (o + 1) 4)] dX2_readProduct_74 mlX2_217 mgX3_addSign rfl mvX3_addSign (zrv hr1 _ rfl rfl) rfl rfl (Nat.le_of_ble_eq_true rfl) rfl (zcV.imp h (fun m4 h => ?_) (fun _ _ h => ⟨rfl, h⟩))
    obtain ⟨v5, ev5⟩ : ∃ z : Int32, z = x3 + 1 := ⟨_, rfl⟩
    have h := h v5 ev5
    refine Wr_iinc (v := v5) dX2_readProduct_77 (q := 4) rfl (by rw [ev5]; rfl) (by decide) rfl ?_
    refine Wr_goto 13 dX2_readProduct_80 (by decide) ?_
    refine zsub [0, 1, 2, 3] rfl ?_
    exact hC13 _ _ _ h
  · have h := h.1 hc
    refine Wr_iconstv (v := 0) dX2_readProduct_69 (by decide) ?_
    exact Wr_iret .boolean dX2_readProduct_70 rfl rfl ⟨rfl, h⟩
def pX2_readProduct_13 : Nat → Nat → Nat → Nat → Int32 → Int32 → zMem → (Int32 → zMem → Prop) → (Nat → zMem → Prop) → Prop
  | 0, _, _, _, _, _, _, _, _ => False
  | n + 1, d, o, r1, x2, x3, μ, KI, X =>
  ((700 ≤ x3 → KI 1 μ) ∧
  (¬ (700 ≤ x3) → ((μ (o + 1) 4 = 42 → pX2_readProduct_44 d o r1 x2 x3 μ KI X (fun z0 z1 m => pX2_readProduct_13 n d o r1 z0 z1 m KI X)) ∧
    (¬ (μ (o + 1) 4 = 42) → ((μ (o + 1) 4 = 47 → pX2_readProduct_44 d o r1 x2 x3 μ KI X (fun z0 z1 m => pX2_readProduct_13 n d o r1 z0 z1 m KI X)) ∧
      (¬ (μ (o + 1) 4 = 47) → KI 1 μ))))))
set_option maxRecDepth 20000 in
theorem wX2_readProduct_13 {d : Nat} {o : Nat} {r1 : Nat} {KI : Int32 → zMem → Prop} {X : Nat → zMem → Prop} (ho : zsh o = .inr 2) (hr1 : zsh r1 = .inr 3) : ∀ (n : Nat) (x2 : Int32) (x3 : Int32) (μ : zMem), pX2_readProduct_13 n d o r1 x2 x3 μ KI X → Wr mX2_readProduct (d + 1) 0 13 [(0, .ref o), (1, .ref r1), (2, .int x2), (3, .int x3)] [] μ (kI KI X) := by
  intro n
  induction n with
  | zero =>
    intro x2 x3 μ h
    exact absurd h id
  | succ n ih =>
    intro x2 x3 μ h
    unfold pX2_readProduct_13 at h
    refine Wr_iload_n dX2_readProduct_13 rfl 3 rfl ?_
    refine Wr_sipush (v := 700) dX2_readProduct_14 (by decide) ?_
    refine Wr_icmp_ge 83 dX2_readProduct_17 (by decide) (fun hc => ?_) (fun hc => ?_)
    · have h := h.1 hc
      refine Wr_iconstv (v := 1) dX2_readProduct_83 (by decide) ?_
      exact Wr_iret .boolean dX2_readProduct_84 rfl rfl ⟨rfl, h⟩
    · have h := h.2 hc
      refine Wr_aload_n dX2_readProduct_20 rfl 0 rfl ?_
      refine Wr_getR 1 dX2_readProduct_21 flX2_12 ho rfl (by decide) ?_
      refine Wr_getI dX2_readProduct_24 flX2_41 (zo2_0 ho) rfl ?_
      refine Wr_bipush (v := 42) dX2_readProduct_27 (by decide) ?_
      refine Wr_icmp_eq 44 dX2_readProduct_29 (by decide) (fun hc => ?_) (fun hc => ?_)
      · have h := h.1 hc
        refine zsub [0, 1, 2, 3] rfl ?_
        exact wX2_readProduct_44 ho hr1 (fun z0 z1 m h => ih z0 z1 m h) h
      · have h := h.2 hc
        refine Wr_aload_n dX2_readProduct_32 rfl 0 rfl ?_
        refine Wr_getR 1 dX2_readProduct_33 flX2_12 ho rfl (by decide) ?_
        refine Wr_getI dX2_readProduct_36 flX2_41 (zo2_0 ho) rfl ?_
        refine Wr_bipush (v := 47) dX2_readProduct_39 (by decide) ?_
        refine Wr_icmp_ne 83 dX2_readProduct_41 (by decide) (fun hc => ?_) (fun hc => ?_)
        · have h := h.2 hc
          refine Wr_iconstv (v := 1) dX2_readProduct_83 (by decide) ?_
          exact Wr_iret .boolean dX2_readProduct_84 rfl rfl ⟨rfl, h⟩
        · have h := h.1 hc
          refine zsub [0, 1, 2, 3] rfl ?_
          exact wX2_readProduct_44 ho hr1 (fun z0 z1 m h => ih z0 z1 m h) h
def pX2_readProduct (d : Nat) (o : Nat) (r1 : Nat) (x2 : Int32) (μ : zMem) (KI : Int32 → zMem → Prop) (X : Nat → zMem → Prop) : Prop :=
  zcI d mX2_readPart [.ref o, .ref r1, .int x2] μ (fun u2 m1 => ((u2 = 0 → KI 0 m1) ∧
  (¬ (u2 = 0) → ∃ n2 : Nat, pX2_readProduct_13 n2 d o r1 x2 0 m1 KI X))) X
set_option maxRecDepth 20000 in
theorem wX2_readProduct_0 {d : Nat} {o : Nat} {r1 : Nat} {KI : Int32 → zMem → Prop} {X : Nat → zMem → Prop} {x2 : Int32} {μ : zMem} (ho : zsh o = .inr 2) (hr1 : zsh r1 = .inr 3) (h : pX2_readProduct d o r1 x2 μ KI X) : Wr mX2_readProduct (d + 1) 0 0 [(0, .ref o), (1, .ref r1), (2, .int x2)] [] μ (kI KI X) := by
  unfold pX2_readProduct at h
  refine Wr_aload_n dX2_readProduct_0 rfl 0 rfl ?_
  refine Wr_aload_n dX2_readProduct_1 rfl 1 rfl ?_
  refine Wr_iload_n dX2_readProduct_2 rfl 2 rfl ?_
  refine Wr_cVi [.ref r1, .int x2] dX2_readProduct_3 mlX2_223 mgX2_readPart rfl mvX2_readPart (zrv ho _ rfl rfl) rfl rfl (Nat.le_of_ble_eq_true rfl) rfl (zcI.imp h (fun u2 m1 h => ?_) (fun _ _ h => ⟨rfl, h⟩))
  refine Wr_if_ne 11 dX2_readProduct_6 (by decide) (fun hc => ?_) (fun hc => ?_)
  · have h := h.2 hc
    refine Wr_iconstv (v := 0) dX2_readProduct_11 (by decide) ?_
    refine Wr_istore_n dX2_readProduct_12 rfl (by decide) rfl ?_
    refine zsub [0, 1, 2, 3] rfl ?_
    obtain ⟨n9, h⟩ := h
    exact wX2_readProduct_13 ho hr1 n9 _ _ _ h
  · have h := h.1 hc
    refine Wr_iconstv (v := 0) dX2_readProduct_9 (by decide) ?_
    exact Wr_iret .boolean dX2_readProduct_10 rfl rfl ⟨rfl, h⟩
theorem cX2_readProduct_ {d : Nat} {o : Nat} {r1 : Nat} {x2 : Int32} {μ : zMem} {KI : Int32 → zMem → Prop} {X : Nat → zMem → Prop} (ho : zsh o = .inr 2) (hr1 : zsh r1 = .inr 3) (h : pX2_readProduct d o r1 x2 μ KI X) : zcI (d + 1) mX2_readProduct [.ref o, .ref r1, .int x2] μ KI X :=
  Ex_of (w := 3) mgX2_readProduct.2.2.2.2.2 rfl rfl rfl (by decide) (wX2_readProduct_0 ho hr1 h)

def pX2_readPart (d : Nat) (o : Nat) (r1 : Nat) (x2 : Int32) (μ : zMem) (KI : Int32 → zMem → Prop) (X : Nat → zMem → Prop) : Prop :=
  ((μ (o + 1) 4 = 40 → zcV d mX6_step [.ref (o + 1)] μ (fun m6 => zcI d mX2_readExpr [.ref o, .ref r1, .int (x2 + 1)] m6 (fun u8 m7 => ((u8 = 0 → KI 0 m7) ∧
    (¬ (u8 = 0) → zcI d mX2_takeSign [.ref o, .int 41] m7 (fun u10 m9 => KI (if u10 = 0 then 0 else 1) m9) X))) X) X) ∧
  (¬ (μ (o + 1) 4 = 40) → ((μ (o + 1) 4 = 1 → zcI d mX2_readValue [.ref o, .ref r1] μ (fun u5 m4 => (u5 = 0 ∨ u5 = 1) ∧ KI u5 m4) X) ∧
    (¬ (μ (o + 1) 4 = 1) → zcI d mX2_takeNumber [.ref o, .int 0, .int 9999] μ (fun u2 m1 => ((u2 = 0 → KI 0 m1) ∧
      (¬ (u2 = 0) → zcV d mX3_add [.ref r1, .int (m1 o 3)] m1 (fun m3 => KI 1 m3) X))) X))))
set_option maxRecDepth 20000 in
theorem wX2_readPart_0 {d : Nat} {o : Nat} {r1 : Nat} {KI : Int32 → zMem → Prop} {X : Nat → zMem → Prop} {x2 : Int32} {μ : zMem} (ho : zsh o = .inr 2) (hr1 : zsh r1 = .inr 3) (h : pX2_readPart d o r1 x2 μ KI X) : Wr mX2_readPart (d + 1) 0 0 [(0, .ref o), (1, .ref r1), (2, .int x2)] [] μ (kI KI X) := by
  unfold pX2_readPart at h
  refine Wr_aload_n dX2_readPart_0 rfl 0 rfl ?_
  refine Wr_getR 1 dX2_readPart_1 flX2_12 ho rfl (by decide) ?_
  refine Wr_getI dX2_readPart_4 flX2_41 (zo2_0 ho) rfl ?_
  refine Wr_bipush (v := 40) dX2_readPart_7 (by decide) ?_
  refine Wr_icmp_ne 45 dX2_readPart_9 (by decide) (fun hc => ?_) (fun hc => ?_)
  · have h := h.2 hc
    refine Wr_aload_n dX2_readPart_45 rfl 0 rfl ?_
    refine Wr_getR 1 dX2_readPart_46 flX2_12 ho rfl (by decide) ?_
    refine Wr_getI dX2_readPart_49 flX2_41 (zo2_0 ho) rfl ?_
    refine Wr_iconstv (v := 1) dX2_readPart_52 (by decide) ?_
    refine Wr_icmp_ne 62 dX2_readPart_53 (by decide) (fun hc => ?_) (fun hc => ?_)
    · have h := h.2 hc
      refine Wr_aload_n dX2_readPart_62 rfl 0 rfl ?_
      refine Wr_iconstv (v := 0) dX2_readPart_63 (by decide) ?_
      refine Wr_sipush (v := 9999) dX2_readPart_64 (by decide) ?_
      refine Wr_cVi [.int 0, .int 9999] dX2_readPart_67 mlX2_68 mgX2_takeNumber rfl mvX2_takeNumber (zrv ho _ rfl rfl) rfl rfl (Nat.le_of_ble_eq_true rfl) rfl (zcI.imp h (fun u2 m1 h => ?_) (fun _ _ h => ⟨rfl, h⟩))
      refine Wr_if_ne 75 dX2_readPart_70 (by decide) (fun hc => ?_) (fun hc => ?_)
      · have h := h.2 hc
        refine Wr_aload_n dX2_readPart_75 rfl 1 rfl ?_
        refine Wr_aload_n dX2_readPart_76 rfl 0 rfl ?_
        refine Wr_getI dX2_readPart_77 flX2_26 ho rfl ?_
        refine Wr_cVv [.int (m1 o 3)] dX2_readPart_80 mlX2_200 mgX3_add rfl mvX3_add (zrv hr1 _ rfl rfl) rfl rfl (Nat.le_of_ble_eq_true rfl) rfl (zcV.imp h (fun m3 h => ?_) (fun _ _ h => ⟨rfl, h⟩))
        refine Wr_iconstv (v := 1) dX2_readPart_83 (by decide) ?_
        exact Wr_iret .boolean dX2_readPart_84 rfl rfl ⟨rfl, h⟩
      · have h := h.1 hc
        refine Wr_iconstv (v := 0) dX2_readPart_73 (by decide) ?_
        exact Wr_iret .boolean dX2_readPart_74 rfl rfl ⟨rfl, h⟩
    · have h := h.1 hc
      refine Wr_aload_n dX2_readPart_56 rfl 0 rfl ?_
      refine Wr_aload_n dX2_readPart_57 rfl 1 rfl ?_
      refine Wr_cVi [.ref r1] dX2_readPart_58 mlX2_226 mgX2_readValue rfl mvX2_readValue (zrv ho _ rfl rfl) rfl rfl (Nat.le_of_ble_eq_true rfl) rfl (zcI.imp h (fun u5 m4 h => ?_) (fun _ _ h => ⟨rfl, h⟩))
      exact Wr_iret .boolean dX2_readPart_61 rfl (znar h.1) ⟨rfl, h.2⟩
  · have h := h.1 hc
    refine Wr_aload_n dX2_readPart_12 rfl 0 rfl ?_
    refine Wr_getR 1 dX2_readPart_13 flX2_12 ho rfl (by decide) ?_
    refine Wr_cVv [] dX2_readPart_16 mlX2_58 mgX6_step rfl mvX6_step (zrv (zo2_0 ho) _ rfl rfl) rfl rfl (Nat.le_of_ble_eq_true rfl) rfl (zcV.imp h (fun m6 h => ?_) (fun _ _ h => ⟨rfl, h⟩))
    refine Wr_aload_n dX2_readPart_19 rfl 0 rfl ?_
    refine Wr_aload_n dX2_readPart_20 rfl 1 rfl ?_
    refine Wr_iload_n dX2_readPart_21 rfl 2 rfl ?_
    refine Wr_iconstv (v := 1) dX2_readPart_22 (by decide) ?_
    refine Wr_iadd dX2_readPart_23 ?_
    refine Wr_cVi [.ref r1, .int (x2 + 1)] dX2_readPart_24 mlX2_189 mgX2_readExpr rfl mvX2_readExpr (zrv ho _ rfl rfl) rfl rfl (Nat.le_of_ble_eq_true rfl) rfl (zcI.imp h (fun u8 m7 h => ?_) (fun _ _ h => ⟨rfl, h⟩))
    refine Wr_if_eq 43 dX2_readPart_27 (by decide) (fun hc => ?_) (fun hc => ?_)
    · have h := h.1 hc
      refine Wr_iconstv (v := 0) dX2_readPart_43 (by decide) ?_
      exact Wr_iret .boolean dX2_readPart_44 rfl rfl ⟨rfl, h⟩
    · have h := h.2 hc
      refine Wr_aload_n dX2_readPart_30 rfl 0 rfl ?_
      refine Wr_bipush (v := 41) dX2_readPart_31 (by decide) ?_
      refine Wr_cVi [.int 41] dX2_readPart_33 mlX2_48 mgX2_takeSign rfl mvX2_takeSign (zrv ho _ rfl rfl) rfl rfl (Nat.le_of_ble_eq_true rfl) rfl (zcI.imp h (fun u10 m9 h => ?_) (fun _ _ h => ⟨rfl, h⟩))
      have hj1 : Wr mX2_readPart (d + 1) 0 44 [(0, .ref o), (1, .ref r1), (2, .int x2)] [.int (if u10 = 0 then 0 else 1)] m9 (kI KI X) := by
        exact Wr_iret .boolean dX2_readPart_44 rfl (znar (by (repeat' split) <;> simp)) ⟨rfl, h⟩
      refine Wr_if_eq 43 dX2_readPart_36 (by decide) (fun hc0 => ?_) (fun hc0 => ?_)
      · skip
        refine Wr_iconstv (v := 0) dX2_readPart_43 (by decide) ?_
        exact Wr_top (if_pos hc0) hj1
      · skip
        refine Wr_iconstv (v := 1) dX2_readPart_39 (by decide) ?_
        refine Wr_goto 44 dX2_readPart_40 (by decide) ?_
        exact Wr_top (if_neg hc0) hj1
theorem cX2_readPart_ {d : Nat} {o : Nat} {r1 : Nat} {x2 : Int32} {μ : zMem} {KI : Int32 → zMem → Prop} {X : Nat → zMem → Prop} (ho : zsh o = .inr 2) (hr1 : zsh r1 = .inr 3) (h : pX2_readPart d o r1 x2 μ KI X) : zcI (d + 1) mX2_readPart [.ref o, .ref r1, .int x2] μ KI X :=
  Ex_of (w := 3) mgX2_readPart.2.2.2.2.2 rfl rfl rfl (by decide) (wX2_readPart_0 ho hr1 h)

def pX2_readValue (d : Nat) (o : Nat) (r1 : Nat) (μ : zMem) (KI : Int32 → zMem → Prop) (X : Nat → zMem → Prop) : Prop :=
  zcI d mX6_among [.ref (o + 1), .ref (1000 + 5)] μ (fun u2 m1 => ((u2 = (-1) → zcI d mX2_refuse [.ref o, .int 3] m1 (fun u6 m5 => (u6 = 0 ∨ u6 = 1) ∧ KI u6 m5) X) ∧
  (¬ (u2 = (-1)) → zcV d mX3_addValue [.ref r1, .int u2] m1 (fun m3 => zcV d mX6_step [.ref (o + 1)] m3 (fun m4 => KI 1 m4) X) X))) X
set_option maxRecDepth 20000 in
theorem wX2_readValue_0 {d : Nat} {o : Nat} {r1 : Nat} {KI : Int32 → zMem → Prop} {X : Nat → zMem → Prop} {μ : zMem} (ho : zsh o = .inr 2) (hr1 : zsh r1 = .inr 3) (h : pX2_readValue d o r1 μ KI X) : Wr mX2_readValue (d + 1) 0 0 [(0, .ref o), (1, .ref r1)] [] μ (kI KI X) := by
  unfold pX2_readValue at h
  refine Wr_aload_n dX2_readValue_0 rfl 0 rfl ?_
  refine Wr_getR 1 dX2_readValue_1 flX2_12 ho rfl (by decide) ?_
  refine Wr_ldcS (sn := 5) (tx := "lift weight rope knots people hour day size ") dX2_readValue_4 (zst 5 (by decide +kernel)) ?_
  refine Wr_cVi [.ref (1000 + 5)] dX2_readValue_6 mlX2_73 mgX6_among rfl mvX6_among (zrv (zo2_0 ho) _ rfl rfl) rfl rfl (Nat.le_of_ble_eq_true rfl) rfl (zcI.imp h (fun u2 m1 h => ?_) (fun _ _ h => ⟨rfl, h⟩))
  refine Wr_istore_n dX2_readValue_9 rfl (by decide) rfl ?_
  refine Wr_iload_n dX2_readValue_10 rfl 0 rfl ?_
  refine Wr_iconstv (v := (-1)) dX2_readValue_11 (by decide) ?_
  refine Wr_icmp_ne 21 dX2_readValue_12 (by decide) (fun hc => ?_) (fun hc => ?_)
  · have h := h.2 hc
    refine Wr_aload_n dX2_readValue_21 rfl 2 rfl ?_
    refine Wr_iload_n dX2_readValue_22 rfl 0 rfl ?_
    refine Wr_cVv [.int u2] dX2_readValue_23 mlX2_231 mgX3_addValue rfl mvX3_addValue (zrv hr1 _ rfl rfl) rfl rfl (Nat.le_of_ble_eq_true rfl) rfl (zcV.imp h (fun m3 h => ?_) (fun _ _ h => ⟨rfl, h⟩))
    refine Wr_aload_n dX2_readValue_26 rfl 1 rfl ?_
    refine Wr_getR 1 dX2_readValue_27 flX2_12 ho rfl (by decide) ?_
    refine Wr_cVv [] dX2_readValue_30 mlX2_58 mgX6_step rfl mvX6_step (zrv (zo2_0 ho) _ rfl rfl) rfl rfl (Nat.le_of_ble_eq_true rfl) rfl (zcV.imp h (fun m4 h => ?_) (fun _ _ h => ⟨rfl, h⟩))
    refine Wr_iconstv (v := 1) dX2_readValue_33 (by decide) ?_
    exact Wr_iret .boolean dX2_readValue_34 rfl rfl ⟨rfl, h⟩
  · have h := h.1 hc
    refine Wr_aload_n dX2_readValue_15 rfl 1 rfl ?_
    refine Wr_iconstv (v := 3) dX2_readValue_16 (by decide) ?_
    refine Wr_cVi [.int 3] dX2_readValue_17 mlX2_55 mgX2_refuse rfl mvX2_refuse (zrv ho _ rfl rfl) rfl rfl (Nat.le_of_ble_eq_true rfl) rfl (zcI.imp h (fun u6 m5 h => ?_) (fun _ _ h => ⟨rfl, h⟩))
    exact Wr_iret .boolean dX2_readValue_20 rfl (znar h.1) ⟨rfl, h.2⟩
theorem cX2_readValue_ {d : Nat} {o : Nat} {r1 : Nat} {μ : zMem} {KI : Int32 → zMem → Prop} {X : Nat → zMem → Prop} (ho : zsh o = .inr 2) (hr1 : zsh r1 = .inr 3) (h : pX2_readValue d o r1 μ KI X) : zcI (d + 1) mX2_readValue [.ref o, .ref r1] μ KI X :=
  Ex_of (w := 2) mgX2_readValue.2.2.2.2.2 rfl rfl rfl (by decide) (wX2_readValue_0 ho hr1 h)
