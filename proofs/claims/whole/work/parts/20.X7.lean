def pX7_slotOf (d : Nat) (x0 : Int32) (x1 : Int32) (μ : zMem) (KI : Int32 → zMem → Prop) (X : Nat → zMem → Prop) : Prop :=
  KI (((x0 * 9) + 4) + x1) μ
set_option maxRecDepth 20000 in
theorem wX7_slotOf_0 {d : Nat} {KI : Int32 → zMem → Prop} {X : Nat → zMem → Prop} {x0 : Int32} {x1 : Int32} {μ : zMem} (h : pX7_slotOf d x0 x1 μ KI X) : Wr mX7_slotOf (d + 1) 0 0 [(0, .int x0), (1, .int x1)] [] μ (kI KI X) := by
  unfold pX7_slotOf at h
  refine Wr_iload_n dX7_slotOf_0 rfl 0 rfl ?_
  refine Wr_bipush (v := 9) dX7_slotOf_1 (by decide) ?_
  refine Wr_imul dX7_slotOf_3 ?_
  refine Wr_iconstv (v := 4) dX7_slotOf_4 (by decide) ?_
  refine Wr_iadd dX7_slotOf_5 ?_
  refine Wr_iload_n dX7_slotOf_6 rfl 1 rfl ?_
  refine Wr_iadd dX7_slotOf_7 ?_
  exact Wr_iret .int dX7_slotOf_8 rfl rfl ⟨rfl, h⟩
theorem cX7_slotOf_ {d : Nat} {x0 : Int32} {x1 : Int32} {μ : zMem} {KI : Int32 → zMem → Prop} {X : Nat → zMem → Prop} (h : pX7_slotOf d x0 x1 μ KI X) : zcI (d + 1) mX7_slotOf [.int x0, .int x1] μ KI X :=
  Ex_of (w := 2) mgX7_slotOf.2.2.2.2.2 rfl rfl rfl (by decide) (wX7_slotOf_0 h)

def pX7_markOf (d : Nat) (x0 : Int32) (x1 : Int32) (μ : zMem) (KI : Int32 → zMem → Prop) (X : Nat → zMem → Prop) : Prop :=
  KI ((x0 * 36) + x1) μ
set_option maxRecDepth 20000 in
theorem wX7_markOf_0 {d : Nat} {KI : Int32 → zMem → Prop} {X : Nat → zMem → Prop} {x0 : Int32} {x1 : Int32} {μ : zMem} (h : pX7_markOf d x0 x1 μ KI X) : Wr mX7_markOf (d + 1) 0 0 [(0, .int x0), (1, .int x1)] [] μ (kI KI X) := by
  unfold pX7_markOf at h
  refine Wr_iload_n dX7_markOf_0 rfl 0 rfl ?_
  refine Wr_bipush (v := 36) dX7_markOf_1 (by decide) ?_
  refine Wr_imul dX7_markOf_3 ?_
  refine Wr_iload_n dX7_markOf_4 rfl 1 rfl ?_
  refine Wr_iadd dX7_markOf_5 ?_
  exact Wr_iret .int dX7_markOf_6 rfl rfl ⟨rfl, h⟩
theorem cX7_markOf_ {d : Nat} {x0 : Int32} {x1 : Int32} {μ : zMem} {KI : Int32 → zMem → Prop} {X : Nat → zMem → Prop} (h : pX7_markOf d x0 x1 μ KI X) : zcI (d + 1) mX7_markOf [.int x0, .int x1] μ KI X :=
  Ex_of (w := 2) mgX7_markOf.2.2.2.2.2 rfl rfl rfl (by decide) (wX7_markOf_0 h)

def pX7_forget (d : Nat) (o : Nat) (μ : zMem) (KV : zMem → Prop) (X : Nat → zMem → Prop) : Prop :=
  ∀ m1 : zMem, m1 = zw μ o 4 0 → KV m1
set_option maxRecDepth 20000 in
theorem wX7_forget_0 {d : Nat} {o : Nat} {KV : zMem → Prop} {X : Nat → zMem → Prop} {μ : zMem} (ho : zsh o = .inr 7) (h : pX7_forget d o μ KV X) : Wr mX7_forget (d + 1) 0 0 [(0, .ref o)] [] μ (kV KV X) := by
  unfold pX7_forget at h
  refine Wr_aload_n dX7_forget_0 rfl 0 rfl ?_
  refine Wr_iconstv (v := 0) dX7_forget_1 (by decide) ?_
  obtain ⟨m1, em1⟩ : ∃ z : zMem, z = zw μ o 4 0 := ⟨_, rfl⟩
  have h := h m1 em1
  refine Wr_putZ dX7_forget_2 fpX7_24 ho rfl (by decide) ?_
  refine Wr_mu em1 ?_
  exact Wr_vret dX7_forget_5 rfl ⟨rfl, h⟩
theorem cX7_forget_ {d : Nat} {o : Nat} {μ : zMem} {KV : zMem → Prop} {X : Nat → zMem → Prop} (ho : zsh o = .inr 7) (h : pX7_forget d o μ KV X) : zcV (d + 1) mX7_forget [.ref o] μ KV X :=
  Ex_of (w := 1) mgX7_forget.2.2.2.2.2 rfl rfl rfl (by decide) (wX7_forget_0 ho h)

def pX7_clearMarks_2 : Nat → Nat → Nat → Int32 → zMem → (zMem → Prop) → (Nat → zMem → Prop) → Prop
  | 0, _, _, _, _, _, _ => False
  | n + 1, d, o, x1, μ, KV, X =>
  ((1296 ≤ x1 → KV μ) ∧
  (¬ (1296 ≤ x1) → (vp_in x1 1296) ∧ ∀ m1 : zMem, m1 = zw μ (o + 1) x1.toNatClampNeg 0 → ∀ v2 : Int32, v2 = x1 + 1 → pX7_clearMarks_2 n d o v2 m1 KV X))
set_option maxRecDepth 20000 in
theorem wX7_clearMarks_2 {d : Nat} {o : Nat} {KV : zMem → Prop} {X : Nat → zMem → Prop} (ho : zsh o = .inr 7) : ∀ (n : Nat) (x1 : Int32) (μ : zMem), pX7_clearMarks_2 n d o x1 μ KV X → Wr mX7_clearMarks (d + 1) 0 2 [(0, .ref o), (1, .int x1)] [] μ (kV KV X) := by
  intro n
  induction n with
  | zero =>
    intro x1 μ h
    exact absurd h id
  | succ n ih =>
    intro x1 μ h
    unfold pX7_clearMarks_2 at h
    refine Wr_iload_n dX7_clearMarks_2 rfl 1 rfl ?_
    refine Wr_aload_n dX7_clearMarks_3 rfl 0 rfl ?_
    refine Wr_getR 1 dX7_clearMarks_4 flX7_9 ho rfl (by decide) ?_
    refine Wr_alen dX7_clearMarks_7 (zo7_0 ho) (by decide) ?_
    refine Wr_icmp_ge 24 dX7_clearMarks_8 (by decide) (fun hc => ?_) (fun hc => ?_)
    · have h := h.1 hc
      exact Wr_vret dX7_clearMarks_24 rfl ⟨rfl, h⟩
    · have h := h.2 hc
      refine Wr_aload_n dX7_clearMarks_11 rfl 0 rfl ?_
      refine Wr_getR 1 dX7_clearMarks_12 flX7_9 ho rfl (by decide) ?_
      refine Wr_iload_n dX7_clearMarks_15 rfl 1 rfl ?_
      refine Wr_iconstv (v := 0) dX7_clearMarks_16 (by decide) ?_
      obtain ⟨him1, h⟩ := h
      obtain ⟨m1, em1⟩ : ∃ z : zMem, z = zw μ (o + 1) x1.toNatClampNeg 0 := ⟨_, rfl⟩
      have h := h m1 em1
      refine Wr_iast dX7_clearMarks_17 (zo7_0 ho) him1 ?_
      refine Wr_mu em1 ?_
      obtain ⟨v2, ev2⟩ : ∃ z : Int32, z = x1 + 1 := ⟨_, rfl⟩
      have h := h v2 ev2
      refine Wr_iinc (v := v2) dX7_clearMarks_18 (q := 1) rfl (by rw [ev2]; rfl) (by decide) rfl ?_
      refine Wr_goto 2 dX7_clearMarks_21 (by decide) ?_
      refine zsub [0, 1] rfl ?_
      exact ih _ _ h
def pX7_clearMarks (d : Nat) (o : Nat) (μ : zMem) (KV : zMem → Prop) (X : Nat → zMem → Prop) : Prop :=
  ∃ n2 : Nat, pX7_clearMarks_2 n2 d o 0 μ KV X
set_option maxRecDepth 20000 in
theorem wX7_clearMarks_0 {d : Nat} {o : Nat} {KV : zMem → Prop} {X : Nat → zMem → Prop} {μ : zMem} (ho : zsh o = .inr 7) (h : pX7_clearMarks d o μ KV X) : Wr mX7_clearMarks (d + 1) 0 0 [(0, .ref o)] [] μ (kV KV X) := by
  unfold pX7_clearMarks at h
  refine Wr_iconstv (v := 0) dX7_clearMarks_0 (by decide) ?_
  refine Wr_istore_n dX7_clearMarks_1 rfl (by decide) rfl ?_
  refine zsub [0, 1] rfl ?_
  obtain ⟨n9, h⟩ := h
  exact wX7_clearMarks_2 ho n9 _ _ h
theorem cX7_clearMarks_ {d : Nat} {o : Nat} {μ : zMem} {KV : zMem → Prop} {X : Nat → zMem → Prop} (ho : zsh o = .inr 7) (h : pX7_clearMarks d o μ KV X) : zcV (d + 1) mX7_clearMarks [.ref o] μ KV X :=
  Ex_of (w := 1) mgX7_clearMarks.2.2.2.2.2 rfl rfl rfl (by decide) (wX7_clearMarks_0 ho h)

def pX7_markHour_84 (d : Nat) (o : Nat) (r1 : Nat) (x3 : Int32) (x4 : Int32) (x5 : Int32) (x6 : Int32) (x7 : Int32) (μ : zMem) (KV : zMem → Prop) (X : Nat → zMem → Prop) (C13 : Int32 → Int32 → Int32 → Int32 → zMem → Prop) (C23 : Int32 → Int32 → Int32 → Int32 → Int32 → zMem → Prop) : Prop :=
  zcI d mX7_markOf [.int x6, .int x7] μ (fun u2 m1 => (vp_in u2 1296) ∧ (vp_in u2 1296) ∧ ∀ m3 : zMem, m3 = zw m1 (o + 1) u2.toNatClampNeg ((m1 (o + 1) u2.toNatClampNeg) ||| (1 <<< (x4 &&& (31 : Int32)))) → ∀ v4 : Int32, v4 = x7 + 1 → C23 x3 x4 x5 x6 v4 m3) X
set_option maxRecDepth 20000 in
theorem wX7_markHour_84 {d : Nat} {o : Nat} {r1 : Nat} {KV : zMem → Prop} {X : Nat → zMem → Prop} {C13 : Int32 → Int32 → Int32 → Int32 → zMem → Prop} {C23 : Int32 → Int32 → Int32 → Int32 → Int32 → zMem → Prop} {x3 : Int32} {x4 : Int32} {x5 : Int32} {x6 : Int32} {x7 : Int32} {μ : zMem} (ho : zsh o = .inr 7) (hr1 : zsh r1 = .inr 0) (hC13 : ∀ (x3 : Int32) (x4 : Int32) (x5 : Int32) (x6 : Int32) (μ : zMem), C13 x3 x4 x5 x6 μ → Wr mX7_markHour (d + 1) 0 13 [(0, .ref o), (1, .ref r1), (3, .int x3), (4, .int x4), (5, .int x5), (6, .int x6)] [] μ (kV KV X)) (hC23 : ∀ (x3 : Int32) (x4 : Int32) (x5 : Int32) (x6 : Int32) (x7 : Int32) (μ : zMem), C23 x3 x4 x5 x6 x7 μ → Wr mX7_markHour (d + 1) 0 23 [(0, .ref o), (1, .ref r1), (3, .int x3), (4, .int x4), (5, .int x5), (6, .int x6), (7, .int x7)] [] μ (kV KV X)) (h : pX7_markHour_84 d o r1 x3 x4 x5 x6 x7 μ KV X C13 C23) : Wr mX7_markHour (d + 1) 0 84 [(0, .ref o), (1, .ref r1), (3, .int x3), (4, .int x4), (5, .int x5), (6, .int x6), (7, .int x7)] [] μ (kV KV X) := by
  unfold pX7_markHour_84 at h
  refine Wr_aload_n dX7_markHour_84 rfl 0 rfl ?_
  refine Wr_getR 1 dX7_markHour_85 flX7_9 ho rfl (by decide) ?_
  refine Wr_iload dX7_markHour_88 5 rfl ?_
  refine Wr_iload dX7_markHour_90 6 rfl ?_
  refine Wr_cSi [.int x6, .int x7] dX7_markHour_92 mlX7_43 mgX7_markOf rfl msX7_markOf  rfl rfl (Nat.le_of_ble_eq_true rfl) rfl (zcI.imp h (fun u2 m1 h => ?_) (fun _ _ h => ⟨rfl, h⟩))
  refine Wr_dup2 dX7_markHour_95 rfl rfl ?_
  obtain ⟨hi, h⟩ := h
  refine Wr_iald dX7_markHour_96 (zo7_0 ho) hi ?_
  refine Wr_iconstv (v := 1) dX7_markHour_97 (by decide) ?_
  refine Wr_iload dX7_markHour_98 3 rfl ?_
  refine Wr_ishl dX7_markHour_100 ?_
  refine Wr_ior dX7_markHour_101 ?_
  obtain ⟨him3, h⟩ := h
  obtain ⟨m3, em3⟩ : ∃ z : zMem, z = zw m1 (o + 1) u2.toNatClampNeg ((m1 (o + 1) u2.toNatClampNeg) ||| (1 <<< (x4 &&& (31 : Int32)))) := ⟨_, rfl⟩
  have h := h m3 em3
  refine Wr_iast dX7_markHour_102 (zo7_0 ho) him3 ?_
  refine Wr_mu em3 ?_
  obtain ⟨v4, ev4⟩ : ∃ z : Int32, z = x7 + 1 := ⟨_, rfl⟩
  have h := h v4 ev4
  refine Wr_iinc (v := v4) dX7_markHour_103 (q := 6) rfl (by rw [ev4]; rfl) (by decide) rfl ?_
  refine Wr_goto 23 dX7_markHour_106 (by decide) ?_
  refine zsub [0, 1, 3, 4, 5, 6, 7] rfl ?_
  exact hC23 _ _ _ _ _ _ h
def pX7_markHour_23 : Nat → Nat → Nat → Nat → Int32 → Int32 → Int32 → Int32 → Int32 → zMem → (zMem → Prop) → (Nat → zMem → Prop) → (Int32 → Int32 → Int32 → Int32 → zMem → Prop) → Prop
  | 0, _, _, _, _, _, _, _, _, _, _, _, _ => False
  | n + 1, d, o, r1, x3, x4, x5, x6, x7, μ, KV, X, C13 =>
  ((x5 ≤ x7 → ∀ v1 : Int32, v1 = x6 + 1 → C13 x3 x4 x5 v1 μ) ∧
  (¬ (x5 ≤ x7) → ∀ v2 : Int32, v2 = (if x6 / 9 = x7 / 9 then 0 else 1) → ((v2 = 0 → ∀ v3 : Int32, v3 = x7 + 1 → pX7_markHour_23 n d o r1 x3 x4 x5 x6 v3 μ KV X C13) ∧
    (¬ (v2 = 0) → ((x3 = 0 → zcI d mX0_knocks [.ref r1, .int x6, .int x7] μ (fun u5 m4 => ((u5 = 0 → ∀ v6 : Int32, v6 = x7 + 1 → pX7_markHour_23 n d o r1 x3 x4 x5 x6 v6 m4 KV X C13) ∧
        (¬ (u5 = 0) → pX7_markHour_84 d o r1 x3 x4 x5 x6 x7 m4 KV X C13 (fun z0 z1 z2 z3 z4 m => pX7_markHour_23 n d o r1 z0 z1 z2 z3 z4 m KV X C13)))) X) ∧
      (¬ (x3 = 0) → zcI d mX0_isShaded [.ref r1, .int x6, .int x7] μ (fun u8 m7 => ((u8 = 0 → ∀ v9 : Int32, v9 = x7 + 1 → pX7_markHour_23 n d o r1 x3 x4 x5 x6 v9 m7 KV X C13) ∧
        (¬ (u8 = 0) → pX7_markHour_84 d o r1 x3 x4 x5 x6 x7 m7 KV X C13 (fun z0 z1 z2 z3 z4 m => pX7_markHour_23 n d o r1 z0 z1 z2 z3 z4 m KV X C13)))) X))))))
set_option maxRecDepth 20000 in
theorem wX7_markHour_23 {d : Nat} {o : Nat} {r1 : Nat} {KV : zMem → Prop} {X : Nat → zMem → Prop} {C13 : Int32 → Int32 → Int32 → Int32 → zMem → Prop} (ho : zsh o = .inr 7) (hr1 : zsh r1 = .inr 0) (hC13 : ∀ (x3 : Int32) (x4 : Int32) (x5 : Int32) (x6 : Int32) (μ : zMem), C13 x3 x4 x5 x6 μ → Wr mX7_markHour (d + 1) 0 13 [(0, .ref o), (1, .ref r1), (3, .int x3), (4, .int x4), (5, .int x5), (6, .int x6)] [] μ (kV KV X)) : ∀ (n : Nat) (x3 : Int32) (x4 : Int32) (x5 : Int32) (x6 : Int32) (x7 : Int32) (μ : zMem), pX7_markHour_23 n d o r1 x3 x4 x5 x6 x7 μ KV X C13 → Wr mX7_markHour (d + 1) 0 23 [(0, .ref o), (1, .ref r1), (3, .int x3), (4, .int x4), (5, .int x5), (6, .int x6), (7, .int x7)] [] μ (kV KV X) := by
  intro n
  induction n with
  | zero =>
    intro x3 x4 x5 x6 x7 μ h
    exact absurd h id
  | succ n ih =>
    intro x3 x4 x5 x6 x7 μ h
    unfold pX7_markHour_23 at h
    refine Wr_iload dX7_markHour_23 6 rfl ?_
    refine Wr_iload dX7_markHour_25 4 rfl ?_
    refine Wr_icmp_ge 109 dX7_markHour_27 (by decide) (fun hc => ?_) (fun hc => ?_)
    · have h := h.1 hc
      obtain ⟨v1, ev1⟩ : ∃ z : Int32, z = x6 + 1 := ⟨_, rfl⟩
      have h := h v1 ev1
      refine Wr_iinc (v := v1) dX7_markHour_109 (q := 5) rfl (by rw [ev1]; rfl) (by decide) rfl ?_
      refine Wr_goto 13 dX7_markHour_112 (by decide) ?_
      refine zsub [0, 1, 3, 4, 5, 6] rfl ?_
      exact hC13 _ _ _ _ _ h
    · have h := h.2 hc
      refine Wr_iload dX7_markHour_30 5 rfl ?_
      refine Wr_bipush (v := 9) dX7_markHour_32 (by decide) ?_
      refine Wr_idiv dX7_markHour_34 (by decide) ?_
      refine Wr_iload dX7_markHour_35 6 rfl ?_
      refine Wr_bipush (v := 9) dX7_markHour_37 (by decide) ?_
      refine Wr_idiv dX7_markHour_39 (by decide) ?_
      have hj1 : Wr mX7_markHour (d + 1) 0 48 [(0, .ref o), (1, .ref r1), (3, .int x3), (4, .int x4), (5, .int x5), (6, .int x6), (7, .int x7)] [.int (if x6 / 9 = x7 / 9 then 0 else 1)] μ (kV KV X) := by
        obtain ⟨v2, ev2⟩ : ∃ z : Int32, z = (if x6 / 9 = x7 / 9 then 0 else 1) := ⟨_, rfl⟩
        have h := h v2 ev2
        refine Wr_top ev2 ?_
        refine Wr_istore dX7_markHour_48 (by decide) rfl ?_
        refine Wr_iload dX7_markHour_50 0 rfl ?_
        refine Wr_if_eq 103 dX7_markHour_52 (by decide) (fun hc => ?_) (fun hc => ?_)
        · have h := h.1 hc
          obtain ⟨v3, ev3⟩ : ∃ z : Int32, z = x7 + 1 := ⟨_, rfl⟩
          have h := h v3 ev3
          refine Wr_iinc (v := v3) dX7_markHour_103 (q := 7) rfl (by rw [ev3]; rfl) (by decide) rfl ?_
          refine Wr_goto 23 dX7_markHour_106 (by decide) ?_
          refine zsub [0, 1, 3, 4, 5, 6, 7] rfl ?_
          exact ih _ _ _ _ _ _ h
        · have h := h.2 hc
          refine Wr_iload_n dX7_markHour_55 rfl 3 rfl ?_
          refine Wr_if_eq 73 dX7_markHour_56 (by decide) (fun hc => ?_) (fun hc => ?_)
          · have h := h.1 hc
            refine Wr_aload_n dX7_markHour_73 rfl 2 rfl ?_
            refine Wr_iload dX7_markHour_74 6 rfl ?_
            refine Wr_iload dX7_markHour_76 7 rfl ?_
            refine Wr_cVi [.int x6, .int x7] dX7_markHour_78 mlX7_40 mgX0_knocks rfl mvX0_knocks (zrv hr1 _ rfl rfl) rfl rfl (Nat.le_of_ble_eq_true rfl) rfl (zcI.imp h (fun u5 m4 h => ?_) (fun _ _ h => ⟨rfl, h⟩))
            refine Wr_if_eq 103 dX7_markHour_81 (by decide) (fun hc => ?_) (fun hc => ?_)
            · have h := h.1 hc
              obtain ⟨v6, ev6⟩ : ∃ z : Int32, z = x7 + 1 := ⟨_, rfl⟩
              have h := h v6 ev6
              refine Wr_iinc (v := v6) dX7_markHour_103 (q := 7) rfl (by rw [ev6]; rfl) (by decide) rfl ?_
              refine Wr_goto 23 dX7_markHour_106 (by decide) ?_
              refine zsub [0, 1, 3, 4, 5, 6, 7] rfl ?_
              exact ih _ _ _ _ _ _ h
            · have h := h.2 hc
              refine zsub [0, 1, 3, 4, 5, 6, 7] rfl ?_
              exact wX7_markHour_84 ho hr1 hC13 (fun z0 z1 z2 z3 z4 m h => ih z0 z1 z2 z3 z4 m h) h
          · have h := h.2 hc
            refine Wr_aload_n dX7_markHour_59 rfl 2 rfl ?_
            refine Wr_iload dX7_markHour_60 6 rfl ?_
            refine Wr_iload dX7_markHour_62 7 rfl ?_
            refine Wr_cVi [.int x6, .int x7] dX7_markHour_64 mlX7_34 mgX0_isShaded rfl mvX0_isShaded (zrv hr1 _ rfl rfl) rfl rfl (Nat.le_of_ble_eq_true rfl) rfl (zcI.imp h (fun u8 m7 h => ?_) (fun _ _ h => ⟨rfl, h⟩))
            refine Wr_if_eq 103 dX7_markHour_67 (by decide) (fun hc => ?_) (fun hc => ?_)
            · have h := h.1 hc
              obtain ⟨v9, ev9⟩ : ∃ z : Int32, z = x7 + 1 := ⟨_, rfl⟩
              have h := h v9 ev9
              refine Wr_iinc (v := v9) dX7_markHour_103 (q := 7) rfl (by rw [ev9]; rfl) (by decide) rfl ?_
              refine Wr_goto 23 dX7_markHour_106 (by decide) ?_
              refine zsub [0, 1, 3, 4, 5, 6, 7] rfl ?_
              exact ih _ _ _ _ _ _ h
            · have h := h.2 hc
              refine Wr_goto 84 dX7_markHour_70 (by decide) ?_
              refine zsub [0, 1, 3, 4, 5, 6, 7] rfl ?_
              exact wX7_markHour_84 ho hr1 hC13 (fun z0 z1 z2 z3 z4 m h => ih z0 z1 z2 z3 z4 m h) h
      refine Wr_icmp_eq 47 dX7_markHour_40 (by decide) (fun hc0 => ?_) (fun hc0 => ?_)
      · skip
        refine Wr_iconstv (v := 0) dX7_markHour_47 (by decide) ?_
        exact Wr_top (if_pos hc0) hj1
      · skip
        refine Wr_iconstv (v := 1) dX7_markHour_43 (by decide) ?_
        refine Wr_goto 48 dX7_markHour_44 (by decide) ?_
        exact Wr_top (if_neg hc0) hj1
def pX7_markHour_13 : Nat → Nat → Nat → Nat → Int32 → Int32 → Int32 → Int32 → zMem → (zMem → Prop) → (Nat → zMem → Prop) → Prop
  | 0, _, _, _, _, _, _, _, _, _, _ => False
  | n + 1, d, o, r1, x3, x4, x5, x6, μ, KV, X =>
  ((x5 ≤ x6 → KV μ) ∧
  (¬ (x5 ≤ x6) → ∃ n2 : Nat, pX7_markHour_23 n2 d o r1 x3 x4 x5 x6 0 μ KV X (fun z0 z1 z2 z3 m => pX7_markHour_13 n d o r1 z0 z1 z2 z3 m KV X)))
set_option maxRecDepth 20000 in
theorem wX7_markHour_13 {d : Nat} {o : Nat} {r1 : Nat} {KV : zMem → Prop} {X : Nat → zMem → Prop} (ho : zsh o = .inr 7) (hr1 : zsh r1 = .inr 0) : ∀ (n : Nat) (x3 : Int32) (x4 : Int32) (x5 : Int32) (x6 : Int32) (μ : zMem), pX7_markHour_13 n d o r1 x3 x4 x5 x6 μ KV X → Wr mX7_markHour (d + 1) 0 13 [(0, .ref o), (1, .ref r1), (3, .int x3), (4, .int x4), (5, .int x5), (6, .int x6)] [] μ (kV KV X) := by
  intro n
  induction n with
  | zero =>
    intro x3 x4 x5 x6 μ h
    exact absurd h id
  | succ n ih =>
    intro x3 x4 x5 x6 μ h
    unfold pX7_markHour_13 at h
    refine Wr_iload dX7_markHour_13 5 rfl ?_
    refine Wr_iload dX7_markHour_15 4 rfl ?_
    refine Wr_icmp_ge 115 dX7_markHour_17 (by decide) (fun hc => ?_) (fun hc => ?_)
    · have h := h.1 hc
      exact Wr_vret dX7_markHour_115 rfl ⟨rfl, h⟩
    · have h := h.2 hc
      refine Wr_iconstv (v := 0) dX7_markHour_20 (by decide) ?_
      refine Wr_istore dX7_markHour_21 (by decide) rfl ?_
      refine zsub [0, 1, 3, 4, 5, 6, 7] rfl ?_
      obtain ⟨n9, h⟩ := h
      exact wX7_markHour_23 ho hr1 (fun z0 z1 z2 z3 m h => ih z0 z1 z2 z3 m h) n9 _ _ _ _ _ _ h
def pX7_markHour (d : Nat) (o : Nat) (r1 : Nat) (x2 : Int32) (x3 : Int32) (x4 : Int32) (μ : zMem) (KV : zMem → Prop) (X : Nat → zMem → Prop) : Prop :=
  ∀ v1 : Int32, v1 = (zmin x2 4) * 9 → ∃ n2 : Nat, pX7_markHour_13 n2 d o r1 x3 x4 v1 0 μ KV X
set_option maxRecDepth 20000 in
theorem wX7_markHour_0 {d : Nat} {o : Nat} {r1 : Nat} {KV : zMem → Prop} {X : Nat → zMem → Prop} {x2 : Int32} {x3 : Int32} {x4 : Int32} {μ : zMem} (ho : zsh o = .inr 7) (hr1 : zsh r1 = .inr 0) (h : pX7_markHour d o r1 x2 x3 x4 μ KV X) : Wr mX7_markHour (d + 1) 0 0 [(0, .ref o), (1, .ref r1), (2, .int x2), (3, .int x3), (4, .int x4)] [] μ (kV KV X) := by
  unfold pX7_markHour at h
  refine Wr_iload_n dX7_markHour_0 rfl 2 rfl ?_
  refine Wr_iconstv (v := 4) dX7_markHour_1 (by decide) ?_
  refine Wr_mmin dX7_markHour_2 mlX7_28 (Nat.le_of_ble_eq_true rfl) ?_
  refine Wr_bipush (v := 9) dX7_markHour_5 (by decide) ?_
  refine Wr_imul dX7_markHour_7 ?_
  obtain ⟨v1, ev1⟩ : ∃ z : Int32, z = (zmin x2 4) * 9 := ⟨_, rfl⟩
  have h := h v1 ev1
  refine Wr_top ev1 ?_
  refine Wr_istore dX7_markHour_8 (by decide) rfl ?_
  refine Wr_iconstv (v := 0) dX7_markHour_10 (by decide) ?_
  refine Wr_istore dX7_markHour_11 (by decide) rfl ?_
  refine zsub [0, 1, 3, 4, 5, 6] rfl ?_
  obtain ⟨n9, h⟩ := h
  exact wX7_markHour_13 ho hr1 n9 _ _ _ _ _ h
theorem cX7_markHour_ {d : Nat} {o : Nat} {r1 : Nat} {x2 : Int32} {x3 : Int32} {x4 : Int32} {μ : zMem} {KV : zMem → Prop} {X : Nat → zMem → Prop} (ho : zsh o = .inr 7) (hr1 : zsh r1 = .inr 0) (h : pX7_markHour d o r1 x2 x3 x4 μ KV X) : zcV (d + 1) mX7_markHour [.ref o, .ref r1, .int x2, .int x3, .int x4] μ KV X :=
  Ex_of (w := 5) mgX7_markHour.2.2.2.2.2 rfl rfl rfl (by decide) (wX7_markHour_0 ho hr1 h)

def pX7_search_41 : Nat → Nat → Nat → Nat → Int32 → Int32 → Int32 → Int32 → Int32 → zMem → (Int32 → zMem → Prop) → (Nat → zMem → Prop) → Prop
  | 0, _, _, _, _, _, _, _, _, _, _, _ => False
  | n + 1, d, o, r1, x2, x3, x5, x6, x7, μ, KI, X =>
  ((x5 ≤ x7 → KI x6 μ) ∧
  (¬ (x5 ≤ x7) → zcI d mX7_takeRow [.ref o, .ref r1, .int x2, .int x7] μ (fun u2 m1 => ∀ v3 : Int32, v3 = (if u2 = (-1) then 0 else (if x6 = (-1) then 1 else (if x6 ≤ u2 then 0 else 1))) → ((v3 = 0 → ∀ v4 : Int32, v4 = x7 + 1 → pX7_search_41 n d o r1 x2 x3 x5 x6 v4 m1 KI X) ∧
    (¬ (v3 = 0) → zcI d mX7_isQuiet [.ref o, .int (m1 r1 0), .int x3] m1 (fun u6 m5 => ((u6 = 0 → ∀ v7 : Int32, v7 = x7 + 1 → pX7_search_41 n d o r1 x2 x3 x5 x6 v7 m5 KI X) ∧
      (¬ (u6 = 0) → ∀ m8 : zMem, m8 = zcp m5 (o + 3) 0 (o + 4) 0 4 → ∀ m9 : zMem, m9 = zw m8 o 4 1 → ∀ v10 : Int32, v10 = x7 + 1 → pX7_search_41 n d o r1 x2 x3 x5 u2 v10 m9 KI X))) X))) X))
set_option maxRecDepth 20000 in
theorem wX7_search_41 {d : Nat} {o : Nat} {r1 : Nat} {KI : Int32 → zMem → Prop} {X : Nat → zMem → Prop} (ho : zsh o = .inr 7) (hr1 : zsh r1 = .inr 1) : ∀ (n : Nat) (x2 : Int32) (x3 : Int32) (x5 : Int32) (x6 : Int32) (x7 : Int32) (μ : zMem), pX7_search_41 n d o r1 x2 x3 x5 x6 x7 μ KI X → Wr mX7_search (d + 1) 0 41 [(0, .ref o), (1, .ref r1), (2, .int x2), (3, .int x3), (5, .int x5), (6, .int x6), (7, .int x7)] [] μ (kI KI X) := by
  intro n
  induction n with
  | zero =>
    intro x2 x3 x5 x6 x7 μ h
    exact absurd h id
  | succ n ih =>
    intro x2 x3 x5 x6 x7 μ h
    unfold pX7_search_41 at h
    refine Wr_iload dX7_search_41 6 rfl ?_
    refine Wr_iload dX7_search_43 4 rfl ?_
    refine Wr_icmp_ge 130 dX7_search_45 (by decide) (fun hc => ?_) (fun hc => ?_)
    · have h := h.1 hc
      refine Wr_iload dX7_search_130 5 rfl ?_
      exact Wr_iret .int dX7_search_132 rfl rfl ⟨rfl, h⟩
    · have h := h.2 hc
      refine Wr_aload_n dX7_search_48 rfl 0 rfl ?_
      refine Wr_aload_n dX7_search_49 rfl 1 rfl ?_
      refine Wr_iload_n dX7_search_50 rfl 2 rfl ?_
      refine Wr_iload dX7_search_51 6 rfl ?_
      refine Wr_cVi [.ref r1, .int x2, .int x7] dX7_search_53 mlX7_52 mgX7_takeRow rfl mvX7_takeRow (zrv ho _ rfl rfl) rfl rfl (Nat.le_of_ble_eq_true rfl) rfl (zcI.imp h (fun u2 m1 h => ?_) (fun _ _ h => ⟨rfl, h⟩))
      refine Wr_istore dX7_search_56 (by decide) rfl ?_
      refine Wr_iload dX7_search_58 0 rfl ?_
      refine Wr_iconstv (v := (-1)) dX7_search_60 (by decide) ?_
      have hj1 : Wr mX7_search (d + 1) 0 82 [(8, .int u2), (0, .ref o), (1, .ref r1), (2, .int x2), (3, .int x3), (5, .int x5), (6, .int x6), (7, .int x7)] [.int (if u2 = (-1) then 0 else (if x6 = (-1) then 1 else (if x6 ≤ u2 then 0 else 1)))] m1 (kI KI X) := by
        obtain ⟨v3, ev3⟩ : ∃ z : Int32, z = (if u2 = (-1) then 0 else (if x6 = (-1) then 1 else (if x6 ≤ u2 then 0 else 1))) := ⟨_, rfl⟩
        have h := h v3 ev3
        refine Wr_top ev3 ?_
        refine Wr_istore dX7_search_82 (by decide) rfl ?_
        refine Wr_iload dX7_search_84 0 rfl ?_
        refine Wr_if_eq 124 dX7_search_86 (by decide) (fun hc => ?_) (fun hc => ?_)
        · have h := h.1 hc
          obtain ⟨v4, ev4⟩ : ∃ z : Int32, z = x7 + 1 := ⟨_, rfl⟩
          have h := h v4 ev4
          refine Wr_iinc (v := v4) dX7_search_124 (q := 8) rfl (by rw [ev4]; rfl) (by decide) rfl ?_
          refine Wr_goto 41 dX7_search_127 (by decide) ?_
          refine zsub [0, 1, 2, 3, 5, 6, 7] rfl ?_
          exact ih _ _ _ _ _ _ h
        · have h := h.2 hc
          refine Wr_aload_n dX7_search_89 rfl 2 rfl ?_
          refine Wr_aload_n dX7_search_90 rfl 3 rfl ?_
          refine Wr_getI dX7_search_91 flX7_46 hr1 rfl ?_
          refine Wr_iload_n dX7_search_94 rfl 5 rfl ?_
          refine Wr_cVi [.int (m1 r1 0), .int x3] dX7_search_95 mlX7_56 mgX7_isQuiet rfl mvX7_isQuiet (zrv ho _ rfl rfl) rfl rfl (Nat.le_of_ble_eq_true rfl) rfl (zcI.imp h (fun u6 m5 h => ?_) (fun _ _ h => ⟨rfl, h⟩))
          refine Wr_if_eq 124 dX7_search_98 (by decide) (fun hc => ?_) (fun hc => ?_)
          · have h := h.1 hc
            obtain ⟨v7, ev7⟩ : ∃ z : Int32, z = x7 + 1 := ⟨_, rfl⟩
            have h := h v7 ev7
            refine Wr_iinc (v := v7) dX7_search_124 (q := 8) rfl (by rw [ev7]; rfl) (by decide) rfl ?_
            refine Wr_goto 41 dX7_search_127 (by decide) ?_
            refine zsub [0, 1, 2, 3, 5, 6, 7] rfl ?_
            exact ih _ _ _ _ _ _ h
          · have h := h.2 hc
            refine Wr_iload dX7_search_101 1 rfl ?_
            refine Wr_istore dX7_search_103 (by decide) rfl ?_
            refine Wr_aload_n dX7_search_105 rfl 3 rfl ?_
            refine Wr_getR 3 dX7_search_106 flX7_18 ho rfl (by decide) ?_
            refine Wr_iconstv (v := 0) dX7_search_109 (by decide) ?_
            refine Wr_aload_n dX7_search_110 rfl 3 rfl ?_
            refine Wr_getR 4 dX7_search_111 flX7_21 ho rfl (by decide) ?_
            refine Wr_iconstv (v := 0) dX7_search_114 (by decide) ?_
            refine Wr_iconstv (v := 4) dX7_search_115 (by decide) ?_
            obtain ⟨m8, em8⟩ : ∃ z : zMem, z = zcp m5 (o + 3) 0 (o + 4) 0 4 := ⟨_, rfl⟩
            have h := h m8 em8
            refine Wr_acopy dX7_search_116 mlX7_59 macN macS macI (zo7_2 ho) (zo7_3 ho) (by decide) (by decide) (by decide) (by decide) (by decide) (Nat.le_of_ble_eq_true rfl) ?_
            refine Wr_mu em8 ?_
            refine Wr_aload_n dX7_search_119 rfl 3 rfl ?_
            refine Wr_iconstv (v := 1) dX7_search_120 (by decide) ?_
            obtain ⟨m9, em9⟩ : ∃ z : zMem, z = zw m8 o 4 1 := ⟨_, rfl⟩
            have h := h m9 em9
            refine Wr_putZ dX7_search_121 fpX7_24 ho rfl (by decide) ?_
            refine Wr_mu em9 ?_
            obtain ⟨v10, ev10⟩ : ∃ z : Int32, z = x7 + 1 := ⟨_, rfl⟩
            have h := h v10 ev10
            refine Wr_iinc (v := v10) dX7_search_124 (q := 8) rfl (by rw [ev10]; rfl) (by decide) rfl ?_
            refine Wr_goto 41 dX7_search_127 (by decide) ?_
            refine zsub [0, 1, 2, 3, 5, 6, 7] rfl ?_
            exact ih _ _ _ _ _ _ h
      refine Wr_icmp_eq 81 dX7_search_61 (by decide) (fun hc0 => ?_) (fun hc0 => ?_)
      · skip
        refine Wr_iconstv (v := 0) dX7_search_81 (by decide) ?_
        exact Wr_top (if_pos hc0) hj1
      · skip
        refine Wr_iload dX7_search_64 6 rfl ?_
        refine Wr_iconstv (v := (-1)) dX7_search_66 (by decide) ?_
        refine Wr_icmp_eq 77 dX7_search_67 (by decide) (fun hc1 => ?_) (fun hc1 => ?_)
        · skip
          refine Wr_iconstv (v := 1) dX7_search_77 (by decide) ?_
          refine Wr_goto 82 dX7_search_78 (by decide) ?_
          exact Wr_top ((if_neg hc0).trans (if_pos hc1)) hj1
        · skip
          refine Wr_iload dX7_search_70 0 rfl ?_
          refine Wr_iload dX7_search_72 6 rfl ?_
          refine Wr_icmp_ge 81 dX7_search_74 (by decide) (fun hc2 => ?_) (fun hc2 => ?_)
          · skip
            refine Wr_iconstv (v := 0) dX7_search_81 (by decide) ?_
            exact Wr_top ((if_neg hc0).trans ((if_neg hc1).trans (if_pos hc2))) hj1
          · skip
            refine Wr_iconstv (v := 1) dX7_search_77 (by decide) ?_
            refine Wr_goto 82 dX7_search_78 (by decide) ?_
            exact Wr_top ((if_neg hc0).trans ((if_neg hc1).trans (if_neg hc2))) hj1
def pX7_search_13 : Nat → Nat → Nat → Nat → Int32 → Int32 → Int32 → Int32 → Int32 → zMem → (Int32 → zMem → Prop) → (Nat → zMem → Prop) → Prop
  | 0, _, _, _, _, _, _, _, _, _, _, _ => False
  | n + 1, d, o, r1, x2, x3, x4, x5, x6, μ, KI, X =>
  ((μ r1 0 ≤ x6 → ∃ n2 : Nat, pX7_search_41 n2 d o r1 x2 x3 x5 (-1) 0 μ KI X) ∧
  (¬ (μ r1 0 ≤ x6) → ∀ v1 : Int32, v1 = x6 + 1 → pX7_search_13 n d o r1 x2 x3 x4 (x5 * x4) v1 μ KI X))
set_option maxRecDepth 20000 in
theorem wX7_search_13 {d : Nat} {o : Nat} {r1 : Nat} {KI : Int32 → zMem → Prop} {X : Nat → zMem → Prop} (ho : zsh o = .inr 7) (hr1 : zsh r1 = .inr 1) : ∀ (n : Nat) (x2 : Int32) (x3 : Int32) (x4 : Int32) (x5 : Int32) (x6 : Int32) (μ : zMem), pX7_search_13 n d o r1 x2 x3 x4 x5 x6 μ KI X → Wr mX7_search (d + 1) 0 13 [(0, .ref o), (1, .ref r1), (2, .int x2), (3, .int x3), (4, .int x4), (5, .int x5), (6, .int x6)] [] μ (kI KI X) := by
  intro n
  induction n with
  | zero =>
    intro x2 x3 x4 x5 x6 μ h
    exact absurd h id
  | succ n ih =>
    intro x2 x3 x4 x5 x6 μ h
    unfold pX7_search_13 at h
    refine Wr_iload dX7_search_13 6 rfl ?_
    refine Wr_aload_n dX7_search_15 rfl 1 rfl ?_
    refine Wr_getI dX7_search_16 flX7_46 hr1 rfl ?_
    refine Wr_icmp_ge 35 dX7_search_19 (by decide) (fun hc => ?_) (fun hc => ?_)
    · have h := h.1 hc
      refine Wr_iconstv (v := (-1)) dX7_search_35 (by decide) ?_
      refine Wr_istore dX7_search_36 (by decide) rfl ?_
      refine Wr_iconstv (v := 0) dX7_search_38 (by decide) ?_
      refine Wr_istore dX7_search_39 (by decide) rfl ?_
      refine zsub [0, 1, 2, 3, 5, 6, 7] rfl ?_
      obtain ⟨n9, h⟩ := h
      exact wX7_search_41 ho hr1 n9 _ _ _ _ _ _ h
    · have h := h.2 hc
      refine Wr_iload dX7_search_22 5 rfl ?_
      refine Wr_iload dX7_search_24 4 rfl ?_
      refine Wr_imul dX7_search_26 ?_
      refine Wr_istore dX7_search_27 (by decide) rfl ?_
      obtain ⟨v1, ev1⟩ : ∃ z : Int32, z = x6 + 1 := ⟨_, rfl⟩
      have h := h v1 ev1
      refine Wr_iinc (v := v1) dX7_search_29 (q := 6) rfl (by rw [ev1]; rfl) (by decide) rfl ?_
      refine Wr_goto 13 dX7_search_32 (by decide) ?_
      refine zsub [0, 1, 2, 3, 4, 5, 6] rfl ?_
      exact ih _ _ _ _ _ _ h
def pX7_search (d : Nat) (o : Nat) (r1 : Nat) (x2 : Int32) (x3 : Int32) (μ : zMem) (KI : Int32 → zMem → Prop) (X : Nat → zMem → Prop) : Prop :=
  ∃ n2 : Nat, pX7_search_13 n2 d o r1 x2 x3 ((2 * x2) + 1) 1 0 μ KI X
set_option maxRecDepth 20000 in
theorem wX7_search_0 {d : Nat} {o : Nat} {r1 : Nat} {KI : Int32 → zMem → Prop} {X : Nat → zMem → Prop} {x2 : Int32} {x3 : Int32} {μ : zMem} (ho : zsh o = .inr 7) (hr1 : zsh r1 = .inr 1) (h : pX7_search d o r1 x2 x3 μ KI X) : Wr mX7_search (d + 1) 0 0 [(0, .ref o), (1, .ref r1), (2, .int x2), (3, .int x3)] [] μ (kI KI X) := by
  unfold pX7_search at h
  refine Wr_iconstv (v := 2) dX7_search_0 (by decide) ?_
  refine Wr_iload_n dX7_search_1 rfl 2 rfl ?_
  refine Wr_imul dX7_search_2 ?_
  refine Wr_iconstv (v := 1) dX7_search_3 (by decide) ?_
  refine Wr_iadd dX7_search_4 ?_
  refine Wr_istore dX7_search_5 (by decide) rfl ?_
  refine Wr_iconstv (v := 1) dX7_search_7 (by decide) ?_
  refine Wr_istore dX7_search_8 (by decide) rfl ?_
  refine Wr_iconstv (v := 0) dX7_search_10 (by decide) ?_
  refine Wr_istore dX7_search_11 (by decide) rfl ?_
  refine zsub [0, 1, 2, 3, 4, 5, 6] rfl ?_
  obtain ⟨n9, h⟩ := h
  exact wX7_search_13 ho hr1 n9 _ _ _ _ _ _ h
theorem cX7_search_ {d : Nat} {o : Nat} {r1 : Nat} {x2 : Int32} {x3 : Int32} {μ : zMem} {KI : Int32 → zMem → Prop} {X : Nat → zMem → Prop} (ho : zsh o = .inr 7) (hr1 : zsh r1 = .inr 1) (h : pX7_search d o r1 x2 x3 μ KI X) : zcI (d + 1) mX7_search [.ref o, .ref r1, .int x2, .int x3] μ KI X :=
  Ex_of (w := 4) mgX7_search.2.2.2.2.2 rfl rfl rfl (by decide) (wX7_search_0 ho hr1 h)

def pX7_takeRow_25 : Nat → Nat → Nat → Nat → Int32 → Int32 → Int32 → Int32 → Int32 → zMem → (Int32 → zMem → Prop) → (Nat → zMem → Prop) → Prop
  | 0, _, _, _, _, _, _, _, _, _, _, _ => False
  | n + 1, d, o, r1, x2, x4, x5, x6, x7, μ, KI, X =>
  ((x7 < 0 → KI x6 μ) ∧
  (¬ (x7 < 0) → (¬ x4 = 0) ∧ ∀ v1 : Int32, v1 = (x5 - x5 / x4 * x4) - x2 → (¬ x4 = 0) ∧ (vp_in x7 6) ∧ (vp_in x7 4) ∧ ∀ m2 : zMem, m2 = zw μ (o + 3) x7.toNatClampNeg ((μ (r1 + 4) x7.toNatClampNeg) + v1) → (vp_in x7 4) ∧ ((m2 (o + 3) x7.toNatClampNeg < 1 → KI (-1) m2) ∧
    (¬ (m2 (o + 3) x7.toNatClampNeg < 1) → (vp_in x7 4) ∧ ((m2 (o + 3) x7.toNatClampNeg ≤ 60 → zcI d mX7_slotOf [.int x7, .int v1] m2 (fun u4 m3 => (vp_in x7 4) ∧ ∀ m5 : zMem, m5 = zw m3 (o + 2) x7.toNatClampNeg u4 → ∀ v6 : Int32, v6 = x7 + (-1) → pX7_takeRow_25 n d o r1 x2 x4 (x5 / x4) (x6 + (zabs v1)) v6 m5 KI X) X) ∧
      (¬ (m2 (o + 3) x7.toNatClampNeg ≤ 60) → KI (-1) m2))))))
set_option maxRecDepth 20000 in
theorem wX7_takeRow_25 {d : Nat} {o : Nat} {r1 : Nat} {KI : Int32 → zMem → Prop} {X : Nat → zMem → Prop} (ho : zsh o = .inr 7) (hr1 : zsh r1 = .inr 1) : ∀ (n : Nat) (x2 : Int32) (x4 : Int32) (x5 : Int32) (x6 : Int32) (x7 : Int32) (μ : zMem), pX7_takeRow_25 n d o r1 x2 x4 x5 x6 x7 μ KI X → Wr mX7_takeRow (d + 1) 0 25 [(0, .ref o), (1, .ref r1), (2, .int x2), (4, .int x4), (5, .int x5), (6, .int x6), (7, .int x7)] [] μ (kI KI X) := by
  intro n
  induction n with
  | zero =>
    intro x2 x4 x5 x6 x7 μ h
    exact absurd h id
  | succ n ih =>
    intro x2 x4 x5 x6 x7 μ h
    unfold pX7_takeRow_25 at h
    refine Wr_iload dX7_takeRow_25 6 rfl ?_
    refine Wr_if_lt 118 dX7_takeRow_27 (by decide) (fun hc => ?_) (fun hc => ?_)
    · have h := h.1 hc
      refine Wr_iload dX7_takeRow_118 5 rfl ?_
      exact Wr_iret .int dX7_takeRow_120 rfl rfl ⟨rfl, h⟩
    · have h := h.2 hc
      refine Wr_iload dX7_takeRow_30 4 rfl ?_
      refine Wr_iload dX7_takeRow_32 3 rfl ?_
      obtain ⟨hi, h⟩ := h
      refine Wr_irem dX7_takeRow_34 hi ?_
      refine Wr_iload_n dX7_takeRow_35 rfl 2 rfl ?_
      refine Wr_isub dX7_takeRow_36 ?_
      obtain ⟨v1, ev1⟩ : ∃ z : Int32, z = (x5 - x5 / x4 * x4) - x2 := ⟨_, rfl⟩
      have h := h v1 ev1
      refine Wr_top ev1 ?_
      refine Wr_istore dX7_takeRow_37 (by decide) rfl ?_
      refine Wr_iload dX7_takeRow_39 5 rfl ?_
      refine Wr_iload dX7_takeRow_41 4 rfl ?_
      obtain ⟨hi, h⟩ := h
      refine Wr_idiv dX7_takeRow_43 hi ?_
      refine Wr_istore dX7_takeRow_44 (by decide) rfl ?_
      refine Wr_aload_n dX7_takeRow_46 rfl 2 rfl ?_
      refine Wr_getR 3 dX7_takeRow_47 flX7_18 ho rfl (by decide) ?_
      refine Wr_iload dX7_takeRow_50 7 rfl ?_
      refine Wr_aload_n dX7_takeRow_52 rfl 3 rfl ?_
      refine Wr_getR 4 dX7_takeRow_53 flX7_65 hr1 rfl (by decide) ?_
      refine Wr_iload dX7_takeRow_56 7 rfl ?_
      obtain ⟨hi, h⟩ := h
      refine Wr_iald dX7_takeRow_58 (zo1_4 hr1) hi ?_
      refine Wr_iload dX7_takeRow_59 1 rfl ?_
      refine Wr_iadd dX7_takeRow_61 ?_
      obtain ⟨him2, h⟩ := h
      obtain ⟨m2, em2⟩ : ∃ z : zMem, z = zw μ (o + 3) x7.toNatClampNeg ((μ (r1 + 4) x7.toNatClampNeg) + v1) := ⟨_, rfl⟩
      have h := h m2 em2
      refine Wr_iast dX7_takeRow_62 (zo7_2 ho) him2 ?_
      refine Wr_mu em2 ?_
      refine Wr_aload_n dX7_takeRow_63 rfl 2 rfl ?_
      refine Wr_getR 3 dX7_takeRow_64 flX7_18 ho rfl (by decide) ?_
      refine Wr_iload dX7_takeRow_67 7 rfl ?_
      obtain ⟨hi, h⟩ := h
      refine Wr_iald dX7_takeRow_69 (zo7_2 ho) hi ?_
      refine Wr_iconstv (v := 1) dX7_takeRow_70 (by decide) ?_
      refine Wr_icmp_lt 86 dX7_takeRow_71 (by decide) (fun hc => ?_) (fun hc => ?_)
      · have h := h.1 hc
        refine Wr_iconstv (v := (-1)) dX7_takeRow_86 (by decide) ?_
        exact Wr_iret .int dX7_takeRow_87 rfl rfl ⟨rfl, h⟩
      · have h := h.2 hc
        refine Wr_aload_n dX7_takeRow_74 rfl 2 rfl ?_
        refine Wr_getR 3 dX7_takeRow_75 flX7_18 ho rfl (by decide) ?_
        refine Wr_iload dX7_takeRow_78 7 rfl ?_
        obtain ⟨hi, h⟩ := h
        refine Wr_iald dX7_takeRow_80 (zo7_2 ho) hi ?_
        refine Wr_bipush (v := 60) dX7_takeRow_81 (by decide) ?_
        refine Wr_icmp_le 88 dX7_takeRow_83 (by decide) (fun hc => ?_) (fun hc => ?_)
        · have h := h.1 hc
          refine Wr_aload_n dX7_takeRow_88 rfl 2 rfl ?_
          refine Wr_getR 2 dX7_takeRow_89 flX7_15 ho rfl (by decide) ?_
          refine Wr_iload dX7_takeRow_92 7 rfl ?_
          refine Wr_iload dX7_takeRow_94 7 rfl ?_
          refine Wr_iload dX7_takeRow_96 1 rfl ?_
          refine Wr_cSi [.int x7, .int v1] dX7_takeRow_98 mlX7_68 mgX7_slotOf rfl msX7_slotOf  rfl rfl (Nat.le_of_ble_eq_true rfl) rfl (zcI.imp h (fun u4 m3 h => ?_) (fun _ _ h => ⟨rfl, h⟩))
          obtain ⟨him5, h⟩ := h
          obtain ⟨m5, em5⟩ : ∃ z : zMem, z = zw m3 (o + 2) x7.toNatClampNeg u4 := ⟨_, rfl⟩
          have h := h m5 em5
          refine Wr_iast dX7_takeRow_101 (zo7_1 ho) him5 ?_
          refine Wr_mu em5 ?_
          refine Wr_iload dX7_takeRow_102 6 rfl ?_
          refine Wr_iload dX7_takeRow_104 1 rfl ?_
          refine Wr_mabs dX7_takeRow_106 mlX7_71 (Nat.le_of_ble_eq_true rfl) ?_
          refine Wr_iadd dX7_takeRow_109 ?_
          refine Wr_istore dX7_takeRow_110 (by decide) rfl ?_
          obtain ⟨v6, ev6⟩ : ∃ z : Int32, z = x7 + (-1) := ⟨_, rfl⟩
          have h := h v6 ev6
          refine Wr_iinc (v := v6) dX7_takeRow_112 (q := 7) rfl (by rw [ev6]; rfl) (by decide) rfl ?_
          refine Wr_goto 25 dX7_takeRow_115 (by decide) ?_
          refine zsub [0, 1, 2, 4, 5, 6, 7] rfl ?_
          exact ih _ _ _ _ _ _ h
        · have h := h.2 hc
          refine Wr_iconstv (v := (-1)) dX7_takeRow_86 (by decide) ?_
          exact Wr_iret .int dX7_takeRow_87 rfl rfl ⟨rfl, h⟩
def pX7_takeRow (d : Nat) (o : Nat) (r1 : Nat) (x2 : Int32) (x3 : Int32) (μ : zMem) (KI : Int32 → zMem → Prop) (X : Nat → zMem → Prop) : Prop :=
  ∀ v1 : Int32, v1 = (zmin (μ r1 0) 4) - 1 → ∃ n2 : Nat, pX7_takeRow_25 n2 d o r1 x2 ((2 * x2) + 1) x3 0 v1 μ KI X
set_option maxRecDepth 20000 in
theorem wX7_takeRow_0 {d : Nat} {o : Nat} {r1 : Nat} {KI : Int32 → zMem → Prop} {X : Nat → zMem → Prop} {x2 : Int32} {x3 : Int32} {μ : zMem} (ho : zsh o = .inr 7) (hr1 : zsh r1 = .inr 1) (h : pX7_takeRow d o r1 x2 x3 μ KI X) : Wr mX7_takeRow (d + 1) 0 0 [(0, .ref o), (1, .ref r1), (2, .int x2), (3, .int x3)] [] μ (kI KI X) := by
  unfold pX7_takeRow at h
  refine Wr_iconstv (v := 2) dX7_takeRow_0 (by decide) ?_
  refine Wr_iload_n dX7_takeRow_1 rfl 2 rfl ?_
  refine Wr_imul dX7_takeRow_2 ?_
  refine Wr_iconstv (v := 1) dX7_takeRow_3 (by decide) ?_
  refine Wr_iadd dX7_takeRow_4 ?_
  refine Wr_istore dX7_takeRow_5 (by decide) rfl ?_
  refine Wr_iload_n dX7_takeRow_7 rfl 4 rfl ?_
  refine Wr_istore dX7_takeRow_8 (by decide) rfl ?_
  refine Wr_iconstv (v := 0) dX7_takeRow_10 (by decide) ?_
  refine Wr_istore dX7_takeRow_11 (by decide) rfl ?_
  refine Wr_aload_n dX7_takeRow_13 rfl 4 rfl ?_
  refine Wr_getI dX7_takeRow_14 flX7_46 hr1 rfl ?_
  refine Wr_iconstv (v := 4) dX7_takeRow_17 (by decide) ?_
  refine Wr_mmin dX7_takeRow_18 mlX7_28 (Nat.le_of_ble_eq_true rfl) ?_
  refine Wr_iconstv (v := 1) dX7_takeRow_21 (by decide) ?_
  refine Wr_isub dX7_takeRow_22 ?_
  obtain ⟨v1, ev1⟩ : ∃ z : Int32, z = (zmin (μ r1 0) 4) - 1 := ⟨_, rfl⟩
  have h := h v1 ev1
  refine Wr_top ev1 ?_
  refine Wr_istore dX7_takeRow_23 (by decide) rfl ?_
  refine zsub [0, 1, 2, 4, 5, 6, 7] rfl ?_
  obtain ⟨n9, h⟩ := h
  exact wX7_takeRow_25 ho hr1 n9 _ _ _ _ _ _ h
theorem cX7_takeRow_ {d : Nat} {o : Nat} {r1 : Nat} {x2 : Int32} {x3 : Int32} {μ : zMem} {KI : Int32 → zMem → Prop} {X : Nat → zMem → Prop} (ho : zsh o = .inr 7) (hr1 : zsh r1 = .inr 1) (h : pX7_takeRow d o r1 x2 x3 μ KI X) : zcI (d + 1) mX7_takeRow [.ref o, .ref r1, .int x2, .int x3] μ KI X :=
  Ex_of (w := 4) mgX7_takeRow.2.2.2.2.2 rfl rfl rfl (by decide) (wX7_takeRow_0 ho hr1 h)

def pX7_isQuiet_21 : Nat → Nat → Nat → Int32 → Int32 → Int32 → Int32 → Int32 → zMem → (Int32 → zMem → Prop) → (Nat → zMem → Prop) → (Int32 → Int32 → Int32 → zMem → Prop) → Prop
  | 0, _, _, _, _, _, _, _, _, _, _, _ => False
  | n + 1, d, o, x2, x3, x4, x5, x6, μ, KI, X, C9 =>
  ((x3 ≤ x6 → zcI d mJ6_bitCount_0f7a4 [.int x5] μ (fun u2 m1 => ((u2 ≤ x2 → ∀ v3 : Int32, v3 = x4 + 1 → C9 x2 x3 v3 m1) ∧
    (¬ (u2 ≤ x2) → KI 0 m1))) X) ∧
  (¬ (x3 ≤ x6) → (vp_in x4 4) ∧ (vp_in x6 4) ∧ zcI d mX7_markOf [.int (μ (o + 2) x4.toNatClampNeg), .int (μ (o + 2) x6.toNatClampNeg)] μ (fun u5 m4 => (vp_in u5 1296) ∧ ∀ v6 : Int32, v6 = x5 ||| (m4 (o + 1) u5.toNatClampNeg) → ∀ v7 : Int32, v7 = x6 + 1 → pX7_isQuiet_21 n d o x2 x3 x4 v6 v7 m4 KI X C9) X))
set_option maxRecDepth 20000 in
theorem wX7_isQuiet_21 {d : Nat} {o : Nat} {KI : Int32 → zMem → Prop} {X : Nat → zMem → Prop} {C9 : Int32 → Int32 → Int32 → zMem → Prop} (ho : zsh o = .inr 7) (hC9 : ∀ (x2 : Int32) (x3 : Int32) (x4 : Int32) (μ : zMem), C9 x2 x3 x4 μ → Wr mX7_isQuiet (d + 1) 0 9 [(0, .ref o), (2, .int x2), (3, .int x3), (4, .int x4)] [] μ (kI KI X)) : ∀ (n : Nat) (x2 : Int32) (x3 : Int32) (x4 : Int32) (x5 : Int32) (x6 : Int32) (μ : zMem), pX7_isQuiet_21 n d o x2 x3 x4 x5 x6 μ KI X C9 → Wr mX7_isQuiet (d + 1) 0 21 [(0, .ref o), (2, .int x2), (3, .int x3), (4, .int x4), (5, .int x5), (6, .int x6)] [] μ (kI KI X) := by
  intro n
  induction n with
  | zero =>
    intro x2 x3 x4 x5 x6 μ h
    exact absurd h id
  | succ n ih =>
    intro x2 x3 x4 x5 x6 μ h
    unfold pX7_isQuiet_21 at h
    refine Wr_iload dX7_isQuiet_21 5 rfl ?_
    refine Wr_iload_n dX7_isQuiet_23 rfl 2 rfl ?_
    refine Wr_icmp_ge 60 dX7_isQuiet_24 (by decide) (fun hc => ?_) (fun hc => ?_)
    · have h := h.1 hc
      refine Wr_iload dX7_isQuiet_60 4 rfl ?_
      refine Wr_cSi [.int x5] dX7_isQuiet_62 mlX7_75 mgJ6_bitCount_0f7a4 rfl msJ6_bitCount_0f7a4  rfl rfl (Nat.le_of_ble_eq_true rfl) rfl (zcI.imp h (fun u2 m1 h => ?_) (fun _ _ h => ⟨rfl, h⟩))
      refine Wr_iload_n dX7_isQuiet_65 rfl 1 rfl ?_
      refine Wr_icmp_le 71 dX7_isQuiet_66 (by decide) (fun hc => ?_) (fun hc => ?_)
      · have h := h.1 hc
        obtain ⟨v3, ev3⟩ : ∃ z : Int32, z = x4 + 1 := ⟨_, rfl⟩
        have h := h v3 ev3
        refine Wr_iinc (v := v3) dX7_isQuiet_71 (q := 3) rfl (by rw [ev3]; rfl) (by decide) rfl ?_
        refine Wr_goto 9 dX7_isQuiet_74 (by decide) ?_
        refine zsub [0, 2, 3, 4] rfl ?_
        exact hC9 _ _ _ _ h
      · have h := h.2 hc
        refine Wr_iconstv (v := 0) dX7_isQuiet_69 (by decide) ?_
        exact Wr_iret .boolean dX7_isQuiet_70 rfl rfl ⟨rfl, h⟩
    · have h := h.2 hc
      refine Wr_iload dX7_isQuiet_27 4 rfl ?_
      refine Wr_aload_n dX7_isQuiet_29 rfl 0 rfl ?_
      refine Wr_getR 1 dX7_isQuiet_30 flX7_9 ho rfl (by decide) ?_
      refine Wr_aload_n dX7_isQuiet_33 rfl 0 rfl ?_
      refine Wr_getR 2 dX7_isQuiet_34 flX7_15 ho rfl (by decide) ?_
      refine Wr_iload dX7_isQuiet_37 3 rfl ?_
      obtain ⟨hi, h⟩ := h
      refine Wr_iald dX7_isQuiet_39 (zo7_1 ho) hi ?_
      refine Wr_aload_n dX7_isQuiet_40 rfl 0 rfl ?_
      refine Wr_getR 2 dX7_isQuiet_41 flX7_15 ho rfl (by decide) ?_
      refine Wr_iload dX7_isQuiet_44 5 rfl ?_
      obtain ⟨hi, h⟩ := h
      refine Wr_iald dX7_isQuiet_46 (zo7_1 ho) hi ?_
      refine Wr_cSi [.int (μ (o + 2) x4.toNatClampNeg), .int (μ (o + 2) x6.toNatClampNeg)] dX7_isQuiet_47 mlX7_43 mgX7_markOf rfl msX7_markOf  rfl rfl (Nat.le_of_ble_eq_true rfl) rfl (zcI.imp h (fun u5 m4 h => ?_) (fun _ _ h => ⟨rfl, h⟩))
      obtain ⟨hi, h⟩ := h
      refine Wr_iald dX7_isQuiet_50 (zo7_0 ho) hi ?_
      refine Wr_ior dX7_isQuiet_51 ?_
      obtain ⟨v6, ev6⟩ : ∃ z : Int32, z = x5 ||| (m4 (o + 1) u5.toNatClampNeg) := ⟨_, rfl⟩
      have h := h v6 ev6
      refine Wr_top ev6 ?_
      refine Wr_istore dX7_isQuiet_52 (by decide) rfl ?_
      obtain ⟨v7, ev7⟩ : ∃ z : Int32, z = x6 + 1 := ⟨_, rfl⟩
      have h := h v7 ev7
      refine Wr_iinc (v := v7) dX7_isQuiet_54 (q := 5) rfl (by rw [ev7]; rfl) (by decide) rfl ?_
      refine Wr_goto 21 dX7_isQuiet_57 (by decide) ?_
      refine zsub [0, 2, 3, 4, 5, 6] rfl ?_
      exact ih _ _ _ _ _ _ h
def pX7_isQuiet_9 : Nat → Nat → Nat → Int32 → Int32 → Int32 → zMem → (Int32 → zMem → Prop) → (Nat → zMem → Prop) → Prop
  | 0, _, _, _, _, _, _, _, _ => False
  | n + 1, d, o, x2, x3, x4, μ, KI, X =>
  ((x3 ≤ x4 → KI 1 μ) ∧
  (¬ (x3 ≤ x4) → ∃ n2 : Nat, pX7_isQuiet_21 n2 d o x2 x3 x4 0 0 μ KI X (fun z0 z1 z2 m => pX7_isQuiet_9 n d o z0 z1 z2 m KI X)))
set_option maxRecDepth 20000 in
theorem wX7_isQuiet_9 {d : Nat} {o : Nat} {KI : Int32 → zMem → Prop} {X : Nat → zMem → Prop} (ho : zsh o = .inr 7) : ∀ (n : Nat) (x2 : Int32) (x3 : Int32) (x4 : Int32) (μ : zMem), pX7_isQuiet_9 n d o x2 x3 x4 μ KI X → Wr mX7_isQuiet (d + 1) 0 9 [(0, .ref o), (2, .int x2), (3, .int x3), (4, .int x4)] [] μ (kI KI X) := by
  intro n
  induction n with
  | zero =>
    intro x2 x3 x4 μ h
    exact absurd h id
  | succ n ih =>
    intro x2 x3 x4 μ h
    unfold pX7_isQuiet_9 at h
    refine Wr_iload dX7_isQuiet_9 3 rfl ?_
    refine Wr_iload_n dX7_isQuiet_11 rfl 2 rfl ?_
    refine Wr_icmp_ge 77 dX7_isQuiet_12 (by decide) (fun hc => ?_) (fun hc => ?_)
    · have h := h.1 hc
      refine Wr_iconstv (v := 1) dX7_isQuiet_77 (by decide) ?_
      exact Wr_iret .boolean dX7_isQuiet_78 rfl rfl ⟨rfl, h⟩
    · have h := h.2 hc
      refine Wr_iconstv (v := 0) dX7_isQuiet_15 (by decide) ?_
      refine Wr_istore dX7_isQuiet_16 (by decide) rfl ?_
      refine Wr_iconstv (v := 0) dX7_isQuiet_18 (by decide) ?_
      refine Wr_istore dX7_isQuiet_19 (by decide) rfl ?_
      refine zsub [0, 2, 3, 4, 5, 6] rfl ?_
      obtain ⟨n9, h⟩ := h
      exact wX7_isQuiet_21 ho (fun z0 z1 z2 m h => ih z0 z1 z2 m h) n9 _ _ _ _ _ _ h
def pX7_isQuiet (d : Nat) (o : Nat) (x1 : Int32) (x2 : Int32) (μ : zMem) (KI : Int32 → zMem → Prop) (X : Nat → zMem → Prop) : Prop :=
  ∃ n2 : Nat, pX7_isQuiet_9 n2 d o x2 (zmin x1 4) 0 μ KI X
set_option maxRecDepth 20000 in
theorem wX7_isQuiet_0 {d : Nat} {o : Nat} {KI : Int32 → zMem → Prop} {X : Nat → zMem → Prop} {x1 : Int32} {x2 : Int32} {μ : zMem} (ho : zsh o = .inr 7) (h : pX7_isQuiet d o x1 x2 μ KI X) : Wr mX7_isQuiet (d + 1) 0 0 [(0, .ref o), (1, .int x1), (2, .int x2)] [] μ (kI KI X) := by
  unfold pX7_isQuiet at h
  refine Wr_iload_n dX7_isQuiet_0 rfl 1 rfl ?_
  refine Wr_iconstv (v := 4) dX7_isQuiet_1 (by decide) ?_
  refine Wr_mmin dX7_isQuiet_2 mlX7_28 (Nat.le_of_ble_eq_true rfl) ?_
  refine Wr_istore_n dX7_isQuiet_5 rfl (by decide) rfl ?_
  refine Wr_iconstv (v := 0) dX7_isQuiet_6 (by decide) ?_
  refine Wr_istore dX7_isQuiet_7 (by decide) rfl ?_
  refine zsub [0, 2, 3, 4] rfl ?_
  obtain ⟨n9, h⟩ := h
  exact wX7_isQuiet_9 ho n9 _ _ _ _ h
theorem cX7_isQuiet_ {d : Nat} {o : Nat} {x1 : Int32} {x2 : Int32} {μ : zMem} {KI : Int32 → zMem → Prop} {X : Nat → zMem → Prop} (ho : zsh o = .inr 7) (h : pX7_isQuiet d o x1 x2 μ KI X) : zcI (d + 1) mX7_isQuiet [.ref o, .int x1, .int x2] μ KI X :=
  Ex_of (w := 3) mgX7_isQuiet.2.2.2.2.2 rfl rfl rfl (by decide) (wX7_isQuiet_0 ho h)
