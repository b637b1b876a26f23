def pX9_readAnd_5 : Nat → Nat → Int32 → zMem → (zMem → Prop) → (Nat → zMem → Prop) → Prop
  | 0, _, _, _, _, _ => False
  | n + 1, d, x1, μ, KV, X =>
  zcI d mX9_is [.ref 106, .ref (1000 + 23)] μ (fun u2 m1 => ((u2 = 0 → KV m1) ∧
  (¬ (u2 = 0) → zcV d mX9_stepOn [.ref 106] m1 (fun m3 => zcV d mX9_readNot [.ref 106, .int x1] m3 (fun m4 => zcV d mX9_lay [.ref 106, .int (-26)] m4 (fun m5 => pX9_readAnd_5 n d x1 m5 KV X) X) X) X))) X
set_option maxRecDepth 20000 in
theorem wX9_readAnd_5 {d : Nat} {KV : zMem → Prop} {X : Nat → zMem → Prop} : ∀ (n : Nat) (x1 : Int32) (μ : zMem), pX9_readAnd_5 n d x1 μ KV X → Wr mX9_readAnd (d + 1) 0 5 [(0, .ref 106), (1, .int x1)] [] μ (kV KV X) := by
  intro n
  induction n with
  | zero =>
    intro x1 μ h
    exact absurd h id
  | succ n ih =>
    intro x1 μ h
    unfold pX9_readAnd_5 at h
    refine Wr_aload_n dX9_readAnd_5 rfl 0 rfl ?_
    refine Wr_ldcSw (sn := 23) (tx := "and") dX9_readAnd_6 (zst 23 (by decide +kernel)) ?_
    refine Wr_cVi [.ref (1000 + 23)] dX9_readAnd_9 mlX9_219 mgX9_is rfl mvX9_is (zrv zl106 _ rfl rfl) rfl rfl (Nat.le_of_ble_eq_true rfl) rfl (zcI.imp h (fun u2 m1 h => ?_) (fun _ _ h => ⟨rfl, h⟩))
    refine Wr_if_eq 33 dX9_readAnd_12 (by decide) (fun hc => ?_) (fun hc => ?_)
    · have h := h.1 hc
      exact Wr_vret dX9_readAnd_33 rfl ⟨rfl, h⟩
    · have h := h.2 hc
      refine Wr_aload_n dX9_readAnd_15 rfl 0 rfl ?_
      refine Wr_cVv [] dX9_readAnd_16 mlX9_230 mgX9_stepOn rfl mvX9_stepOn (zrv zl106 _ rfl rfl) rfl rfl (Nat.le_of_ble_eq_true rfl) rfl (zcV.imp h (fun m3 h => ?_) (fun _ _ h => ⟨rfl, h⟩))
      refine Wr_aload_n dX9_readAnd_19 rfl 0 rfl ?_
      refine Wr_iload_n dX9_readAnd_20 rfl 1 rfl ?_
      refine Wr_cVv [.int x1] dX9_readAnd_21 mlX9_263 mgX9_readNot rfl mvX9_readNot (zrv zl106 _ rfl rfl) rfl rfl (Nat.le_of_ble_eq_true rfl) rfl (zcV.imp h (fun m4 h => ?_) (fun _ _ h => ⟨rfl, h⟩))
      refine Wr_aload_n dX9_readAnd_24 rfl 0 rfl ?_
      refine Wr_bipush (v := (-26)) dX9_readAnd_25 (by decide) ?_
      refine Wr_cVv [.int (-26)] dX9_readAnd_27 mlX9_239 mgX9_lay rfl mvX9_lay (zrv zl106 _ rfl rfl) rfl rfl (Nat.le_of_ble_eq_true rfl) rfl (zcV.imp h (fun m5 h => ?_) (fun _ _ h => ⟨rfl, h⟩))
      refine Wr_goto 5 dX9_readAnd_30 (by decide) ?_
      refine zsub [0, 1] rfl ?_
      exact ih _ _ h
def pX9_readAnd (d : Nat) (x1 : Int32) (μ : zMem) (KV : zMem → Prop) (X : Nat → zMem → Prop) : Prop :=
  zcV d mX9_readNot [.ref 106, .int x1] μ (fun m1 => ∃ n2 : Nat, pX9_readAnd_5 n2 d x1 m1 KV X) X
set_option maxRecDepth 20000 in
theorem wX9_readAnd_0 {d : Nat} {KV : zMem → Prop} {X : Nat → zMem → Prop} {x1 : Int32} {μ : zMem} (h : pX9_readAnd d x1 μ KV X) : Wr mX9_readAnd (d + 1) 0 0 [(0, .ref 106), (1, .int x1)] [] μ (kV KV X) := by
  unfold pX9_readAnd at h
  refine Wr_aload_n dX9_readAnd_0 rfl 0 rfl ?_
  refine Wr_iload_n dX9_readAnd_1 rfl 1 rfl ?_
  refine Wr_cVv [.int x1] dX9_readAnd_2 mlX9_263 mgX9_readNot rfl mvX9_readNot (zrv zl106 _ rfl rfl) rfl rfl (Nat.le_of_ble_eq_true rfl) rfl (zcV.imp h (fun m1 h => ?_) (fun _ _ h => ⟨rfl, h⟩))
  refine zsub [0, 1] rfl ?_
  obtain ⟨n9, h⟩ := h
  exact wX9_readAnd_5 n9 _ _ h
theorem cX9_readAnd_ {d : Nat} {x1 : Int32} {μ : zMem} {KV : zMem → Prop} {X : Nat → zMem → Prop} (h : pX9_readAnd d x1 μ KV X) : zcV (d + 1) mX9_readAnd [.ref 106, .int x1] μ KV X :=
  Ex_of (w := 2) mgX9_readAnd.2.2.2.2.2 rfl rfl rfl (by decide) (wX9_readAnd_0 h)

def pX9_readExpression_67 : Nat → Nat → Int32 → zMem → (zMem → Prop) → (Nat → zMem → Prop) → Prop
  | 0, _, _, _, _, _ => False
  | n + 1, d, x1, μ, KV, X =>
  zcI d mX9_is [.ref 106, .ref (1000 + 24)] μ (fun u2 m1 => ((u2 = 0 → KV m1) ∧
  (¬ (u2 = 0) → zcV d mX9_stepOn [.ref 106] m1 (fun m3 => zcV d mX9_readAnd [.ref 106, .int x1] m3 (fun m4 => zcV d mX9_lay [.ref 106, .int (-27)] m4 (fun m5 => pX9_readExpression_67 n d x1 m5 KV X) X) X) X))) X
set_option maxRecDepth 20000 in
theorem wX9_readExpression_67 {d : Nat} {KV : zMem → Prop} {X : Nat → zMem → Prop} : ∀ (n : Nat) (x1 : Int32) (μ : zMem), pX9_readExpression_67 n d x1 μ KV X → Wr mX9_readExpression (d + 1) 0 67 [(0, .ref 106), (1, .int x1)] [] μ (kV KV X) := by
  intro n
  induction n with
  | zero =>
    intro x1 μ h
    exact absurd h id
  | succ n ih =>
    intro x1 μ h
    unfold pX9_readExpression_67 at h
    refine Wr_aload_n dX9_readExpression_67 rfl 0 rfl ?_
    refine Wr_ldcSw (sn := 24) (tx := "or") dX9_readExpression_68 (zst 24 (by decide +kernel)) ?_
    refine Wr_cVi [.ref (1000 + 24)] dX9_readExpression_71 mlX9_219 mgX9_is rfl mvX9_is (zrv zl106 _ rfl rfl) rfl rfl (Nat.le_of_ble_eq_true rfl) rfl (zcI.imp h (fun u2 m1 h => ?_) (fun _ _ h => ⟨rfl, h⟩))
    refine Wr_if_eq 95 dX9_readExpression_74 (by decide) (fun hc => ?_) (fun hc => ?_)
    · have h := h.1 hc
      exact Wr_vret dX9_readExpression_95 rfl ⟨rfl, h⟩
    · have h := h.2 hc
      refine Wr_aload_n dX9_readExpression_77 rfl 0 rfl ?_
      refine Wr_cVv [] dX9_readExpression_78 mlX9_230 mgX9_stepOn rfl mvX9_stepOn (zrv zl106 _ rfl rfl) rfl rfl (Nat.le_of_ble_eq_true rfl) rfl (zcV.imp h (fun m3 h => ?_) (fun _ _ h => ⟨rfl, h⟩))
      refine Wr_aload_n dX9_readExpression_81 rfl 0 rfl ?_
      refine Wr_iload_n dX9_readExpression_82 rfl 1 rfl ?_
      refine Wr_cVv [.int x1] dX9_readExpression_83 mlX9_268 mgX9_readAnd rfl mvX9_readAnd (zrv zl106 _ rfl rfl) rfl rfl (Nat.le_of_ble_eq_true rfl) rfl (zcV.imp h (fun m4 h => ?_) (fun _ _ h => ⟨rfl, h⟩))
      refine Wr_aload_n dX9_readExpression_86 rfl 0 rfl ?_
      refine Wr_bipush (v := (-27)) dX9_readExpression_87 (by decide) ?_
      refine Wr_cVv [.int (-27)] dX9_readExpression_89 mlX9_239 mgX9_lay rfl mvX9_lay (zrv zl106 _ rfl rfl) rfl rfl (Nat.le_of_ble_eq_true rfl) rfl (zcV.imp h (fun m5 h => ?_) (fun _ _ h => ⟨rfl, h⟩))
      refine Wr_goto 67 dX9_readExpression_92 (by decide) ?_
      refine zsub [0, 1] rfl ?_
      exact ih _ _ h
def pX9_readExpression_38 (d : Nat) (x1 : Int32) (y0 : Int32) (μ : zMem) (KV : zMem → Prop) (X : Nat → zMem → Prop) : Prop :=
  ((y0 = 0 → zcV d mX9_wrong [.ref 106, .int 1] μ (fun m4 => zcV d mX9_readAnd [.ref 106, .int x1] m4 (fun m5 => ∃ n2 : Nat, pX9_readExpression_67 n2 d x1 m5 KV X) X) X) ∧
  (¬ (y0 = 0) → ((x1 = 6 → zcV d mX9_wrong [.ref 106, .int 2] μ (fun m2 => zcV d mX9_readAnd [.ref 106, .int x1] m2 (fun m3 => ∃ n2 : Nat, pX9_readExpression_67 n2 d x1 m3 KV X) X) X) ∧
    (¬ (x1 = 6) → zcV d mX9_readAnd [.ref 106, .int x1] μ (fun m1 => ∃ n2 : Nat, pX9_readExpression_67 n2 d x1 m1 KV X) X))))
set_option maxRecDepth 20000 in
theorem wX9_readExpression_38 {d : Nat} {KV : zMem → Prop} {X : Nat → zMem → Prop} {x1 : Int32} {y0 : Int32} {μ : zMem} (h : pX9_readExpression_38 d x1 y0 μ KV X) : Wr mX9_readExpression (d + 1) 0 38 [(0, .ref 106), (1, .int x1)] [.int y0] μ (kV KV X) := by
  unfold pX9_readExpression_38 at h
  refine Wr_istore_n dX9_readExpression_38 rfl (by decide) rfl ?_
  refine Wr_iload_n dX9_readExpression_39 rfl 0 rfl ?_
  refine Wr_if_ne 51 dX9_readExpression_40 (by decide) (fun hc => ?_) (fun hc => ?_)
  · have h := h.2 hc
    refine Wr_iload_n dX9_readExpression_51 rfl 2 rfl ?_
    refine Wr_bipush (v := 6) dX9_readExpression_52 (by decide) ?_
    refine Wr_icmp_ne 62 dX9_readExpression_54 (by decide) (fun hc => ?_) (fun hc => ?_)
    · have h := h.2 hc
      refine Wr_aload_n dX9_readExpression_62 rfl 1 rfl ?_
      refine Wr_iload_n dX9_readExpression_63 rfl 2 rfl ?_
      refine Wr_cVv [.int x1] dX9_readExpression_64 mlX9_268 mgX9_readAnd rfl mvX9_readAnd (zrv zl106 _ rfl rfl) rfl rfl (Nat.le_of_ble_eq_true rfl) rfl (zcV.imp h (fun m1 h => ?_) (fun _ _ h => ⟨rfl, h⟩))
      refine zsub [0, 1] rfl ?_
      obtain ⟨n9, h⟩ := h
      exact wX9_readExpression_67 n9 _ _ h
    · have h := h.1 hc
      refine Wr_aload_n dX9_readExpression_57 rfl 1 rfl ?_
      refine Wr_iconstv (v := 2) dX9_readExpression_58 (by decide) ?_
      refine Wr_cVv [.int 2] dX9_readExpression_59 mlX9_226 mgX9_wrong rfl mvX9_wrong (zrv zl106 _ rfl rfl) rfl rfl (Nat.le_of_ble_eq_true rfl) rfl (zcV.imp h (fun m2 h => ?_) (fun _ _ h => ⟨rfl, h⟩))
      refine Wr_aload_n dX9_readExpression_62 rfl 1 rfl ?_
      refine Wr_iload_n dX9_readExpression_63 rfl 2 rfl ?_
      refine Wr_cVv [.int x1] dX9_readExpression_64 mlX9_268 mgX9_readAnd rfl mvX9_readAnd (zrv zl106 _ rfl rfl) rfl rfl (Nat.le_of_ble_eq_true rfl) rfl (zcV.imp h (fun m3 h => ?_) (fun _ _ h => ⟨rfl, h⟩))
      refine zsub [0, 1] rfl ?_
      obtain ⟨n9, h⟩ := h
      exact wX9_readExpression_67 n9 _ _ h
  · have h := h.1 hc
    refine Wr_aload_n dX9_readExpression_43 rfl 1 rfl ?_
    refine Wr_iconstv (v := 1) dX9_readExpression_44 (by decide) ?_
    refine Wr_cVv [.int 1] dX9_readExpression_45 mlX9_226 mgX9_wrong rfl mvX9_wrong (zrv zl106 _ rfl rfl) rfl rfl (Nat.le_of_ble_eq_true rfl) rfl (zcV.imp h (fun m4 h => ?_) (fun _ _ h => ⟨rfl, h⟩))
    refine Wr_goto 62 dX9_readExpression_48 (by decide) ?_
    refine Wr_aload_n dX9_readExpression_62 rfl 1 rfl ?_
    refine Wr_iload_n dX9_readExpression_63 rfl 2 rfl ?_
    refine Wr_cVv [.int x1] dX9_readExpression_64 mlX9_268 mgX9_readAnd rfl mvX9_readAnd (zrv zl106 _ rfl rfl) rfl rfl (Nat.le_of_ble_eq_true rfl) rfl (zcV.imp h (fun m5 h => ?_) (fun _ _ h => ⟨rfl, h⟩))
    refine zsub [0, 1] rfl ?_
    obtain ⟨n9, h⟩ := h
    exact wX9_readExpression_67 n9 _ _ h
def pX9_readExpression (d : Nat) (x1 : Int32) (μ : zMem) (KV : zMem → Prop) (X : Nat → zMem → Prop) : Prop :=
  ((μ 106 19 = 0 → ((μ 106 15 = 2 → pX9_readExpression_38 d x1 1 μ KV X) ∧
    (¬ (μ 106 15 = 2) → ((μ 106 15 = 1 → pX9_readExpression_38 d x1 1 μ KV X) ∧
      (¬ (μ 106 15 = 1) → zcI d mX9_isMarked [.ref 106, .int 40] μ (fun u2 m1 => ∀ v3 : Int32, v3 = (if u2 = 0 then 0 else 1) → ((v3 = 0 → zcV d mX9_wrong [.ref 106, .int 1] m1 (fun m7 => zcV d mX9_readAnd [.ref 106, .int x1] m7 (fun m8 => ∃ n2 : Nat, pX9_readExpression_67 n2 d x1 m8 KV X) X) X) ∧
        (¬ (v3 = 0) → ((x1 = 6 → zcV d mX9_wrong [.ref 106, .int 2] m1 (fun m5 => zcV d mX9_readAnd [.ref 106, .int x1] m5 (fun m6 => ∃ n2 : Nat, pX9_readExpression_67 n2 d x1 m6 KV X) X) X) ∧
          (¬ (x1 = 6) → zcV d mX9_readAnd [.ref 106, .int x1] m1 (fun m4 => ∃ n2 : Nat, pX9_readExpression_67 n2 d x1 m4 KV X) X))))) X))))) ∧
  (¬ (μ 106 19 = 0) → KV μ))
set_option maxRecDepth 20000 in
theorem wX9_readExpression_0 {d : Nat} {KV : zMem → Prop} {X : Nat → zMem → Prop} {x1 : Int32} {μ : zMem} (h : pX9_readExpression d x1 μ KV X) : Wr mX9_readExpression (d + 1) 0 0 [(0, .ref 106), (1, .int x1)] [] μ (kV KV X) := by
  unfold pX9_readExpression at h
  refine Wr_aload_n dX9_readExpression_0 rfl 0 rfl ?_
  refine Wr_getI dX9_readExpression_1 flX9_205 zl106 rfl ?_
  refine Wr_if_eq 8 dX9_readExpression_4 (by decide) (fun hc => ?_) (fun hc => ?_)
  · have h := h.1 hc
    refine Wr_aload_n dX9_readExpression_8 rfl 0 rfl ?_
    refine Wr_getI dX9_readExpression_9 flX9_179 zl106 rfl ?_
    refine Wr_iconstv (v := 2) dX9_readExpression_12 (by decide) ?_
    refine Wr_icmp_eq 33 dX9_readExpression_13 (by decide) (fun hc => ?_) (fun hc => ?_)
    · have h := h.1 hc
      refine Wr_iconstv (v := 1) dX9_readExpression_33 (by decide) ?_
      refine Wr_goto 38 dX9_readExpression_34 (by decide) ?_
      refine zsub [0, 1] rfl ?_
      exact wX9_readExpression_38 h
    · have h := h.2 hc
      refine Wr_aload_n dX9_readExpression_16 rfl 0 rfl ?_
      refine Wr_getI dX9_readExpression_17 flX9_179 zl106 rfl ?_
      refine Wr_iconstv (v := 1) dX9_readExpression_20 (by decide) ?_
      refine Wr_icmp_eq 33 dX9_readExpression_21 (by decide) (fun hc => ?_) (fun hc => ?_)
      · have h := h.1 hc
        refine Wr_iconstv (v := 1) dX9_readExpression_33 (by decide) ?_
        refine Wr_goto 38 dX9_readExpression_34 (by decide) ?_
        refine zsub [0, 1] rfl ?_
        exact wX9_readExpression_38 h
      · have h := h.2 hc
        refine Wr_aload_n dX9_readExpression_24 rfl 0 rfl ?_
        refine Wr_bipush (v := 40) dX9_readExpression_25 (by decide) ?_
        refine Wr_cVi [.int 40] dX9_readExpression_27 mlX9_223 mgX9_isMarked rfl mvX9_isMarked (zrv zl106 _ rfl rfl) rfl rfl (Nat.le_of_ble_eq_true rfl) rfl (zcI.imp h (fun u2 m1 h => ?_) (fun _ _ h => ⟨rfl, h⟩))
        have hj1 : Wr mX9_readExpression (d + 1) 0 38 [(0, .ref 106), (1, .int x1)] [.int (if u2 = 0 then 0 else 1)] m1 (kV KV X) := by
          obtain ⟨v3, ev3⟩ : ∃ z : Int32, z = (if u2 = 0 then 0 else 1) := ⟨_, rfl⟩
          have h := h v3 ev3
          refine Wr_top ev3 ?_
          refine Wr_istore_n dX9_readExpression_38 rfl (by decide) rfl ?_
          refine Wr_iload_n dX9_readExpression_39 rfl 0 rfl ?_
          refine Wr_if_ne 51 dX9_readExpression_40 (by decide) (fun hc => ?_) (fun hc => ?_)
          · have h := h.2 hc
            refine Wr_iload_n dX9_readExpression_51 rfl 2 rfl ?_
            refine Wr_bipush (v := 6) dX9_readExpression_52 (by decide) ?_
            refine Wr_icmp_ne 62 dX9_readExpression_54 (by decide) (fun hc => ?_) (fun hc => ?_)
            · have h := h.2 hc
              refine Wr_aload_n dX9_readExpression_62 rfl 1 rfl ?_
              refine Wr_iload_n dX9_readExpression_63 rfl 2 rfl ?_
              refine Wr_cVv [.int x1] dX9_readExpression_64 mlX9_268 mgX9_readAnd rfl mvX9_readAnd (zrv zl106 _ rfl rfl) rfl rfl (Nat.le_of_ble_eq_true rfl) rfl (zcV.imp h (fun m4 h => ?_) (fun _ _ h => ⟨rfl, h⟩))
              refine zsub [0, 1] rfl ?_
              obtain ⟨n9, h⟩ := h
              exact wX9_readExpression_67 n9 _ _ h
            · have h := h.1 hc
              refine Wr_aload_n dX9_readExpression_57 rfl 1 rfl ?_
              refine Wr_iconstv (v := 2) dX9_readExpression_58 (by decide) ?_
              refine Wr_cVv [.int 2] dX9_readExpression_59 mlX9_226 mgX9_wrong rfl mvX9_wrong (zrv zl106 _ rfl rfl) rfl rfl (Nat.le_of_ble_eq_true rfl) rfl (zcV.imp h (fun m5 h => ?_) (fun _ _ h => ⟨rfl, h⟩))
              refine Wr_aload_n dX9_readExpression_62 rfl 1 rfl ?_
              refine Wr_iload_n dX9_readExpression_63 rfl 2 rfl ?_
              refine Wr_cVv [.int x1] dX9_readExpression_64 mlX9_268 mgX9_readAnd rfl mvX9_readAnd (zrv zl106 _ rfl rfl) rfl rfl (Nat.le_of_ble_eq_true rfl) rfl (zcV.imp h (fun m6 h => ?_) (fun _ _ h => ⟨rfl, h⟩))
              refine zsub [0, 1] rfl ?_
              obtain ⟨n9, h⟩ := h
              exact wX9_readExpression_67 n9 _ _ h
          · have h := h.1 hc
            refine Wr_aload_n dX9_readExpression_43 rfl 1 rfl ?_
            refine Wr_iconstv (v := 1) dX9_readExpression_44 (by decide) ?_
            refine Wr_cVv [.int 1] dX9_readExpression_45 mlX9_226 mgX9_wrong rfl mvX9_wrong (zrv zl106 _ rfl rfl) rfl rfl (Nat.le_of_ble_eq_true rfl) rfl (zcV.imp h (fun m7 h => ?_) (fun _ _ h => ⟨rfl, h⟩))
            refine Wr_goto 62 dX9_readExpression_48 (by decide) ?_
            refine Wr_aload_n dX9_readExpression_62 rfl 1 rfl ?_
            refine Wr_iload_n dX9_readExpression_63 rfl 2 rfl ?_
            refine Wr_cVv [.int x1] dX9_readExpression_64 mlX9_268 mgX9_readAnd rfl mvX9_readAnd (zrv zl106 _ rfl rfl) rfl rfl (Nat.le_of_ble_eq_true rfl) rfl (zcV.imp h (fun m8 h => ?_) (fun _ _ h => ⟨rfl, h⟩))
            refine zsub [0, 1] rfl ?_
            obtain ⟨n9, h⟩ := h
            exact wX9_readExpression_67 n9 _ _ h
        refine Wr_if_eq 37 dX9_readExpression_30 (by decide) (fun hc0 => ?_) (fun hc0 => ?_)
        · skip
          refine Wr_iconstv (v := 0) dX9_readExpression_37 (by decide) ?_
          exact Wr_top (if_pos hc0) hj1
        · skip
          refine Wr_iconstv (v := 1) dX9_readExpression_33 (by decide) ?_
          refine Wr_goto 38 dX9_readExpression_34 (by decide) ?_
          exact Wr_top (if_neg hc0) hj1
  · have h := h.2 hc
    exact Wr_vret dX9_readExpression_7 rfl ⟨rfl, h⟩
theorem cX9_readExpression_ {d : Nat} {x1 : Int32} {μ : zMem} {KV : zMem → Prop} {X : Nat → zMem → Prop} (h : pX9_readExpression d x1 μ KV X) : zcV (d + 1) mX9_readExpression [.ref 106, .int x1] μ KV X :=
  Ex_of (w := 2) mgX9_readExpression.2.2.2.2.2 rfl rfl rfl (by decide) (wX9_readExpression_0 h)

def pX9_readIsle_276 : Nat → Nat → Int32 → Int32 → zMem → (zMem → Prop) → (Nat → zMem → Prop) → Prop
  | 0, _, _, _, _, _, _ => False
  | n + 1, d, x2, x3, μ, KV, X =>
  ((4 ≤ x3 → ∀ m1 : zMem, m1 = zw μ 110 10 ((μ 110 10) + 1) → KV m1) ∧
  (¬ (4 ≤ x3) → (vp_in (x2 + 6) 168) ∧ (vp_in ((x2 + 10) + x3) 168) ∧ ∀ m2 : zMem, m2 = zw μ 111 ((x2 + 10) + x3).toNatClampNeg ((((μ 111 (x2 + 6).toNatClampNeg) + 3) - x3) / 4) → ∀ v3 : Int32, v3 = x3 + 1 → pX9_readIsle_276 n d x2 v3 m2 KV X))
set_option maxRecDepth 20000 in
theorem wX9_readIsle_276 {d : Nat} {KV : zMem → Prop} {X : Nat → zMem → Prop} : ∀ (n : Nat) (x2 : Int32) (x3 : Int32) (μ : zMem), pX9_readIsle_276 n d x2 x3 μ KV X → Wr mX9_readIsle (d + 1) 0 276 [(0, .ref 106), (2, .int x2), (3, .int x3)] [] μ (kV KV X) := by
  intro n
  induction n with
  | zero =>
    intro x2 x3 μ h
    exact absurd h id
  | succ n ih =>
    intro x2 x3 μ h
    unfold pX9_readIsle_276 at h
    refine Wr_iload_n dX9_readIsle_276 rfl 2 rfl ?_
    refine Wr_iconstv (v := 4) dX9_readIsle_277 (by decide) ?_
    refine Wr_icmp_ge 313 dX9_readIsle_278 (by decide) (fun hc => ?_) (fun hc => ?_)
    · have h := h.1 hc
      refine Wr_aload_n dX9_readIsle_313 rfl 0 rfl ?_
      refine Wr_getR 4 dX9_readIsle_314 flX9_51 zl106 rfl (by decide) ?_
      refine Wr_bipush (v := 10) dX9_readIsle_317 (by decide) ?_
      refine Wr_dup2 dX9_readIsle_319 rfl rfl ?_
      refine Wr_iald dX9_readIsle_320 zl110 (by unfold vp_in; decide) ?_
      refine Wr_iconstv (v := 1) dX9_readIsle_321 (by decide) ?_
      refine Wr_iadd dX9_readIsle_322 ?_
      obtain ⟨m1, em1⟩ : ∃ z : zMem, z = zw μ 110 10 ((μ 110 10) + 1) := ⟨_, rfl⟩
      have h := h m1 em1
      refine Wr_iast dX9_readIsle_323 zl110 (by unfold vp_in; decide) ?_
      refine Wr_mu em1 ?_
      exact Wr_vret dX9_readIsle_324 rfl ⟨rfl, h⟩
    · have h := h.2 hc
      refine Wr_aload_n dX9_readIsle_281 rfl 0 rfl ?_
      refine Wr_getR 5 dX9_readIsle_282 flX9_55 zl106 rfl (by decide) ?_
      refine Wr_iload_n dX9_readIsle_285 rfl 1 rfl ?_
      refine Wr_bipush (v := 10) dX9_readIsle_286 (by decide) ?_
      refine Wr_iadd dX9_readIsle_288 ?_
      refine Wr_iload_n dX9_readIsle_289 rfl 2 rfl ?_
      refine Wr_iadd dX9_readIsle_290 ?_
      refine Wr_aload_n dX9_readIsle_291 rfl 0 rfl ?_
      refine Wr_getR 5 dX9_readIsle_292 flX9_55 zl106 rfl (by decide) ?_
      refine Wr_iload_n dX9_readIsle_295 rfl 1 rfl ?_
      refine Wr_bipush (v := 6) dX9_readIsle_296 (by decide) ?_
      refine Wr_iadd dX9_readIsle_298 ?_
      obtain ⟨hi, h⟩ := h
      refine Wr_iald dX9_readIsle_299 zl111 hi ?_
      refine Wr_iconstv (v := 3) dX9_readIsle_300 (by decide) ?_
      refine Wr_iadd dX9_readIsle_301 ?_
      refine Wr_iload_n dX9_readIsle_302 rfl 2 rfl ?_
      refine Wr_isub dX9_readIsle_303 ?_
      refine Wr_iconstv (v := 4) dX9_readIsle_304 (by decide) ?_
      refine Wr_idiv dX9_readIsle_305 (by decide) ?_
      obtain ⟨him2, h⟩ := h
      obtain ⟨m2, em2⟩ : ∃ z : zMem, z = zw μ 111 ((x2 + 10) + x3).toNatClampNeg ((((μ 111 (x2 + 6).toNatClampNeg) + 3) - x3) / 4) := ⟨_, rfl⟩
      have h := h m2 em2
      refine Wr_iast dX9_readIsle_306 zl111 him2 ?_
      refine Wr_mu em2 ?_
      obtain ⟨v3, ev3⟩ : ∃ z : Int32, z = x3 + 1 := ⟨_, rfl⟩
      have h := h v3 ev3
      refine Wr_iinc (v := v3) dX9_readIsle_307 (q := 2) rfl (by rw [ev3]; rfl) (by decide) rfl ?_
      refine Wr_goto 276 dX9_readIsle_310 (by decide) ?_
      refine zsub [0, 2, 3] rfl ?_
      exact ih _ _ _ h
def pX9_readIsle_171 (d : Nat) (x2 : Int32) (μ : zMem) (KV : zMem → Prop) (X : Nat → zMem → Prop) : Prop :=
  zcI d mX9_readNumber [.ref 106, .int 1, .int 60] μ (fun u2 m1 => (vp_in (x2 + 3) 168) ∧ ∀ m3 : zMem, m3 = zw m1 111 (x2 + 3).toNatClampNeg u2 → zcI d mX9_readNumber [.ref 106, .int 1, .int 99] m3 (fun u5 m4 => (vp_in (x2 + 4) 168) ∧ ∀ m6 : zMem, m6 = zw m4 111 (x2 + 4).toNatClampNeg u5 → zcI d mX9_readNumber [.ref 106, .int 1, .int 6] m6 (fun u8 m7 => (vp_in (x2 + 5) 168) ∧ ∀ m9 : zMem, m9 = zw m7 111 (x2 + 5).toNatClampNeg u8 → zcI d mX9_readNumber [.ref 106, .int 0, .int 20] m9 (fun u11 m10 => (vp_in (x2 + 6) 168) ∧ ∀ m12 : zMem, m12 = zw m10 111 (x2 + 6).toNatClampNeg u11 → zcI d mX9_readNumber [.ref 106, .int 0, .int 60] m12 (fun u14 m13 => (vp_in (x2 + 7) 168) ∧ ∀ m15 : zMem, m15 = zw m13 111 (x2 + 7).toNatClampNeg u14 → zcI d mX9_readNumber [.ref 106, .int 0, .int 9] m15 (fun u17 m16 => (vp_in (x2 + 8) 168) ∧ ∀ m18 : zMem, m18 = zw m16 111 (x2 + 8).toNatClampNeg u17 → (vp_in (x2 + 9) 168) ∧ ∀ m19 : zMem, m19 = zw m18 111 (x2 + 9).toNatClampNeg 0 → ∃ n2 : Nat, pX9_readIsle_276 n2 d x2 0 m19 KV X) X) X) X) X) X) X
set_option maxRecDepth 20000 in
theorem wX9_readIsle_171 {d : Nat} {KV : zMem → Prop} {X : Nat → zMem → Prop} {x2 : Int32} {μ : zMem} (h : pX9_readIsle_171 d x2 μ KV X) : Wr mX9_readIsle (d + 1) 0 171 [(0, .ref 106), (2, .int x2)] [] μ (kV KV X) := by
  unfold pX9_readIsle_171 at h
  refine Wr_aload_n dX9_readIsle_171 rfl 0 rfl ?_
  refine Wr_getR 5 dX9_readIsle_172 flX9_55 zl106 rfl (by decide) ?_
  refine Wr_iload_n dX9_readIsle_175 rfl 1 rfl ?_
  refine Wr_iconstv (v := 3) dX9_readIsle_176 (by decide) ?_
  refine Wr_iadd dX9_readIsle_177 ?_
  refine Wr_aload_n dX9_readIsle_178 rfl 0 rfl ?_
  refine Wr_iconstv (v := 1) dX9_readIsle_179 (by decide) ?_
  refine Wr_bipush (v := 60) dX9_readIsle_180 (by decide) ?_
  refine Wr_cVi [.int 1, .int 60] dX9_readIsle_182 mlX9_236 mgX9_readNumber rfl mvX9_readNumber (zrv zl106 _ rfl rfl) rfl rfl (Nat.le_of_ble_eq_true rfl) rfl (zcI.imp h (fun u2 m1 h => ?_) (fun _ _ h => ⟨rfl, h⟩))
  obtain ⟨him3, h⟩ := h
  obtain ⟨m3, em3⟩ : ∃ z : zMem, z = zw m1 111 (x2 + 3).toNatClampNeg u2 := ⟨_, rfl⟩
  have h := h m3 em3
  refine Wr_iast dX9_readIsle_185 zl111 him3 ?_
  refine Wr_mu em3 ?_
  refine Wr_aload_n dX9_readIsle_186 rfl 0 rfl ?_
  refine Wr_getR 5 dX9_readIsle_187 flX9_55 zl106 rfl (by decide) ?_
  refine Wr_iload_n dX9_readIsle_190 rfl 1 rfl ?_
  refine Wr_iconstv (v := 4) dX9_readIsle_191 (by decide) ?_
  refine Wr_iadd dX9_readIsle_192 ?_
  refine Wr_aload_n dX9_readIsle_193 rfl 0 rfl ?_
  refine Wr_iconstv (v := 1) dX9_readIsle_194 (by decide) ?_
  refine Wr_bipush (v := 99) dX9_readIsle_195 (by decide) ?_
  refine Wr_cVi [.int 1, .int 99] dX9_readIsle_197 mlX9_236 mgX9_readNumber rfl mvX9_readNumber (zrv zl106 _ rfl rfl) rfl rfl (Nat.le_of_ble_eq_true rfl) rfl (zcI.imp h (fun u5 m4 h => ?_) (fun _ _ h => ⟨rfl, h⟩))
  obtain ⟨him6, h⟩ := h
  obtain ⟨m6, em6⟩ : ∃ z : zMem, z = zw m4 111 (x2 + 4).toNatClampNeg u5 := ⟨_, rfl⟩
  have h := h m6 em6
  refine Wr_iast dX9_readIsle_200 zl111 him6 ?_
  refine Wr_mu em6 ?_
  refine Wr_aload_n dX9_readIsle_201 rfl 0 rfl ?_
  refine Wr_getR 5 dX9_readIsle_202 flX9_55 zl106 rfl (by decide) ?_
  refine Wr_iload_n dX9_readIsle_205 rfl 1 rfl ?_
  refine Wr_iconstv (v := 5) dX9_readIsle_206 (by decide) ?_
  refine Wr_iadd dX9_readIsle_207 ?_
  refine Wr_aload_n dX9_readIsle_208 rfl 0 rfl ?_
  refine Wr_iconstv (v := 1) dX9_readIsle_209 (by decide) ?_
  refine Wr_bipush (v := 6) dX9_readIsle_210 (by decide) ?_
  refine Wr_cVi [.int 1, .int 6] dX9_readIsle_212 mlX9_236 mgX9_readNumber rfl mvX9_readNumber (zrv zl106 _ rfl rfl) rfl rfl (Nat.le_of_ble_eq_true rfl) rfl (zcI.imp h (fun u8 m7 h => ?_) (fun _ _ h => ⟨rfl, h⟩))
  obtain ⟨him9, h⟩ := h
  obtain ⟨m9, em9⟩ : ∃ z : zMem, z = zw m7 111 (x2 + 5).toNatClampNeg u8 := ⟨_, rfl⟩
  have h := h m9 em9
  refine Wr_iast dX9_readIsle_215 zl111 him9 ?_
  refine Wr_mu em9 ?_
  refine Wr_aload_n dX9_readIsle_216 rfl 0 rfl ?_
  refine Wr_getR 5 dX9_readIsle_217 flX9_55 zl106 rfl (by decide) ?_
  refine Wr_iload_n dX9_readIsle_220 rfl 1 rfl ?_
  refine Wr_bipush (v := 6) dX9_readIsle_221 (by decide) ?_
  refine Wr_iadd dX9_readIsle_223 ?_
  refine Wr_aload_n dX9_readIsle_224 rfl 0 rfl ?_
  refine Wr_iconstv (v := 0) dX9_readIsle_225 (by decide) ?_
  refine Wr_bipush (v := 20) dX9_readIsle_226 (by decide) ?_
  refine Wr_cVi [.int 0, .int 20] dX9_readIsle_228 mlX9_236 mgX9_readNumber rfl mvX9_readNumber (zrv zl106 _ rfl rfl) rfl rfl (Nat.le_of_ble_eq_true rfl) rfl (zcI.imp h (fun u11 m10 h => ?_) (fun _ _ h => ⟨rfl, h⟩))
  obtain ⟨him12, h⟩ := h
  obtain ⟨m12, em12⟩ : ∃ z : zMem, z = zw m10 111 (x2 + 6).toNatClampNeg u11 := ⟨_, rfl⟩
  have h := h m12 em12
  refine Wr_iast dX9_readIsle_231 zl111 him12 ?_
  refine Wr_mu em12 ?_
  refine Wr_aload_n dX9_readIsle_232 rfl 0 rfl ?_
  refine Wr_getR 5 dX9_readIsle_233 flX9_55 zl106 rfl (by decide) ?_
  refine Wr_iload_n dX9_readIsle_236 rfl 1 rfl ?_
  refine Wr_bipush (v := 7) dX9_readIsle_237 (by decide) ?_
  refine Wr_iadd dX9_readIsle_239 ?_
  refine Wr_aload_n dX9_readIsle_240 rfl 0 rfl ?_
  refine Wr_iconstv (v := 0) dX9_readIsle_241 (by decide) ?_
  refine Wr_bipush (v := 60) dX9_readIsle_242 (by decide) ?_
  refine Wr_cVi [.int 0, .int 60] dX9_readIsle_244 mlX9_236 mgX9_readNumber rfl mvX9_readNumber (zrv zl106 _ rfl rfl) rfl rfl (Nat.le_of_ble_eq_true rfl) rfl (zcI.imp h (fun u14 m13 h => ?_) (fun _ _ h => ⟨rfl, h⟩))
  obtain ⟨him15, h⟩ := h
  obtain ⟨m15, em15⟩ : ∃ z : zMem, z = zw m13 111 (x2 + 7).toNatClampNeg u14 := ⟨_, rfl⟩
  have h := h m15 em15
  refine Wr_iast dX9_readIsle_247 zl111 him15 ?_
  refine Wr_mu em15 ?_
  refine Wr_aload_n dX9_readIsle_248 rfl 0 rfl ?_
  refine Wr_getR 5 dX9_readIsle_249 flX9_55 zl106 rfl (by decide) ?_
  refine Wr_iload_n dX9_readIsle_252 rfl 1 rfl ?_
  refine Wr_bipush (v := 8) dX9_readIsle_253 (by decide) ?_
  refine Wr_iadd dX9_readIsle_255 ?_
  refine Wr_aload_n dX9_readIsle_256 rfl 0 rfl ?_
  refine Wr_iconstv (v := 0) dX9_readIsle_257 (by decide) ?_
  refine Wr_bipush (v := 9) dX9_readIsle_258 (by decide) ?_
  refine Wr_cVi [.int 0, .int 9] dX9_readIsle_260 mlX9_236 mgX9_readNumber rfl mvX9_readNumber (zrv zl106 _ rfl rfl) rfl rfl (Nat.le_of_ble_eq_true rfl) rfl (zcI.imp h (fun u17 m16 h => ?_) (fun _ _ h => ⟨rfl, h⟩))
  obtain ⟨him18, h⟩ := h
  obtain ⟨m18, em18⟩ : ∃ z : zMem, z = zw m16 111 (x2 + 8).toNatClampNeg u17 := ⟨_, rfl⟩
  have h := h m18 em18
  refine Wr_iast dX9_readIsle_263 zl111 him18 ?_
  refine Wr_mu em18 ?_
  refine Wr_aload_n dX9_readIsle_264 rfl 0 rfl ?_
  refine Wr_getR 5 dX9_readIsle_265 flX9_55 zl106 rfl (by decide) ?_
  refine Wr_iload_n dX9_readIsle_268 rfl 1 rfl ?_
  refine Wr_bipush (v := 9) dX9_readIsle_269 (by decide) ?_
  refine Wr_iadd dX9_readIsle_271 ?_
  refine Wr_iconstv (v := 0) dX9_readIsle_272 (by decide) ?_
  obtain ⟨him19, h⟩ := h
  obtain ⟨m19, em19⟩ : ∃ z : zMem, z = zw m18 111 (x2 + 9).toNatClampNeg 0 := ⟨_, rfl⟩
  have h := h m19 em19
  refine Wr_iast dX9_readIsle_273 zl111 him19 ?_
  refine Wr_mu em19 ?_
  refine Wr_iconstv (v := 0) dX9_readIsle_274 (by decide) ?_
  refine Wr_istore_n dX9_readIsle_275 rfl (by decide) rfl ?_
  refine zsub [0, 2, 3] rfl ?_
  obtain ⟨n9, h⟩ := h
  exact wX9_readIsle_276 n9 _ _ _ h
def pX9_readIsle_160 (d : Nat) (x2 : Int32) (μ : zMem) (KV : zMem → Prop) (X : Nat → zMem → Prop) : Prop :=
  ((μ 106 19 = 0 → zcV d mX9_stepOn [.ref 106] μ (fun m1 => pX9_readIsle_171 d x2 m1 KV X) X) ∧
  (¬ (μ 106 19 = 0) → pX9_readIsle_171 d x2 μ KV X))
set_option maxRecDepth 20000 in
theorem wX9_readIsle_160 {d : Nat} {KV : zMem → Prop} {X : Nat → zMem → Prop} {x2 : Int32} {μ : zMem} (h : pX9_readIsle_160 d x2 μ KV X) : Wr mX9_readIsle (d + 1) 0 160 [(0, .ref 106), (2, .int x2)] [] μ (kV KV X) := by
  unfold pX9_readIsle_160 at h
  refine Wr_aload_n dX9_readIsle_160 rfl 0 rfl ?_
  refine Wr_getI dX9_readIsle_161 flX9_205 zl106 rfl ?_
  refine Wr_if_ne 171 dX9_readIsle_164 (by decide) (fun hc => ?_) (fun hc => ?_)
  · have h := h.2 hc
    refine zsub [0, 2] rfl ?_
    exact wX9_readIsle_171 h
  · have h := h.1 hc
    refine Wr_aload_n dX9_readIsle_167 rfl 0 rfl ?_
    refine Wr_cVv [] dX9_readIsle_168 mlX9_230 mgX9_stepOn rfl mvX9_stepOn (zrv zl106 _ rfl rfl) rfl rfl (Nat.le_of_ble_eq_true rfl) rfl (zcV.imp h (fun m1 h => ?_) (fun _ _ h => ⟨rfl, h⟩))
    refine zsub [0, 2] rfl ?_
    exact wX9_readIsle_171 h
def pX9_readIsle_82 : Nat → Nat → Int32 → Int32 → zMem → (zMem → Prop) → (Nat → zMem → Prop) → Prop
  | 0, _, _, _, _, _, _ => False
  | n + 1, d, x2, x3, μ, KV, X =>
  ((μ 110 10 ≤ x3 → pX9_readIsle_160 d x2 μ KV X) ∧
  (¬ (μ 110 10 ≤ x3) → ((μ 106 19 = 0 → (vp_in ((14 * (6 + x3)) + 1) 168) ∧ (vp_in (x2 + 1) 168) ∧ ((μ 111 ((14 * (6 + x3)) + 1).toNatClampNeg = μ 111 (x2 + 1).toNatClampNeg → (vp_in ((14 * (6 + x3)) + 2) 168) ∧ (vp_in (x2 + 2) 168) ∧ ((μ 111 ((14 * (6 + x3)) + 2).toNatClampNeg = μ 111 (x2 + 2).toNatClampNeg → zcV d mX9_wrong [.ref 106, .int 4] μ (fun m3 => ∀ v4 : Int32, v4 = x3 + 1 → pX9_readIsle_82 n d x2 v4 m3 KV X) X) ∧
        (¬ (μ 111 ((14 * (6 + x3)) + 2).toNatClampNeg = μ 111 (x2 + 2).toNatClampNeg) → ∀ v2 : Int32, v2 = x3 + 1 → pX9_readIsle_82 n d x2 v2 μ KV X))) ∧
      (¬ (μ 111 ((14 * (6 + x3)) + 1).toNatClampNeg = μ 111 (x2 + 1).toNatClampNeg) → ∀ v1 : Int32, v1 = x3 + 1 → pX9_readIsle_82 n d x2 v1 μ KV X))) ∧
    (¬ (μ 106 19 = 0) → pX9_readIsle_160 d x2 μ KV X))))
set_option maxRecDepth 20000 in
theorem wX9_readIsle_82 {d : Nat} {KV : zMem → Prop} {X : Nat → zMem → Prop} : ∀ (n : Nat) (x2 : Int32) (x3 : Int32) (μ : zMem), pX9_readIsle_82 n d x2 x3 μ KV X → Wr mX9_readIsle (d + 1) 0 82 [(0, .ref 106), (2, .int x2), (3, .int x3)] [] μ (kV KV X) := by
  intro n
  induction n with
  | zero =>
    intro x2 x3 μ h
    exact absurd h id
  | succ n ih =>
    intro x2 x3 μ h
    unfold pX9_readIsle_82 at h
    refine Wr_iload_n dX9_readIsle_82 rfl 2 rfl ?_
    refine Wr_aload_n dX9_readIsle_83 rfl 0 rfl ?_
    refine Wr_getR 4 dX9_readIsle_84 flX9_51 zl106 rfl (by decide) ?_
    refine Wr_bipush (v := 10) dX9_readIsle_87 (by decide) ?_
    refine Wr_iald dX9_readIsle_89 zl110 (by unfold vp_in; decide) ?_
    refine Wr_icmp_ge 160 dX9_readIsle_90 (by decide) (fun hc => ?_) (fun hc => ?_)
    · have h := h.1 hc
      refine zsub [0, 2] rfl ?_
      exact wX9_readIsle_160 h
    · have h := h.2 hc
      refine Wr_aload_n dX9_readIsle_93 rfl 0 rfl ?_
      refine Wr_getI dX9_readIsle_94 flX9_205 zl106 rfl ?_
      refine Wr_if_ne 160 dX9_readIsle_97 (by decide) (fun hc => ?_) (fun hc => ?_)
      · have h := h.2 hc
        refine zsub [0, 2] rfl ?_
        exact wX9_readIsle_160 h
      · have h := h.1 hc
        refine Wr_bipush (v := 14) dX9_readIsle_100 (by decide) ?_
        refine Wr_bipush (v := 6) dX9_readIsle_102 (by decide) ?_
        refine Wr_iload_n dX9_readIsle_104 rfl 2 rfl ?_
        refine Wr_iadd dX9_readIsle_105 ?_
        refine Wr_imul dX9_readIsle_106 ?_
        refine Wr_istore dX9_readIsle_107 (by decide) rfl ?_
        refine Wr_aload_n dX9_readIsle_109 rfl 1 rfl ?_
        refine Wr_getR 5 dX9_readIsle_110 flX9_55 zl106 rfl (by decide) ?_
        refine Wr_iload dX9_readIsle_113 0 rfl ?_
        refine Wr_iconstv (v := 1) dX9_readIsle_115 (by decide) ?_
        refine Wr_iadd dX9_readIsle_116 ?_
        obtain ⟨hi, h⟩ := h
        refine Wr_iald dX9_readIsle_117 zl111 hi ?_
        refine Wr_aload_n dX9_readIsle_118 rfl 1 rfl ?_
        refine Wr_getR 5 dX9_readIsle_119 flX9_55 zl106 rfl (by decide) ?_
        refine Wr_iload_n dX9_readIsle_122 rfl 2 rfl ?_
        refine Wr_iconstv (v := 1) dX9_readIsle_123 (by decide) ?_
        refine Wr_iadd dX9_readIsle_124 ?_
        obtain ⟨hi, h⟩ := h
        refine Wr_iald dX9_readIsle_125 zl111 hi ?_
        refine Wr_icmp_ne 154 dX9_readIsle_126 (by decide) (fun hc => ?_) (fun hc => ?_)
        · have h := h.2 hc
          obtain ⟨v1, ev1⟩ : ∃ z : Int32, z = x3 + 1 := ⟨_, rfl⟩
          have h := h v1 ev1
          refine Wr_iinc (v := v1) dX9_readIsle_154 (q := 3) rfl (by rw [ev1]; rfl) (by decide) rfl ?_
          refine Wr_goto 82 dX9_readIsle_157 (by decide) ?_
          refine zsub [0, 2, 3] rfl ?_
          exact ih _ _ _ h
        · have h := h.1 hc
          refine Wr_aload_n dX9_readIsle_129 rfl 1 rfl ?_
          refine Wr_getR 5 dX9_readIsle_130 flX9_55 zl106 rfl (by decide) ?_
          refine Wr_iload dX9_readIsle_133 0 rfl ?_
          refine Wr_iconstv (v := 2) dX9_readIsle_135 (by decide) ?_
          refine Wr_iadd dX9_readIsle_136 ?_
          obtain ⟨hi, h⟩ := h
          refine Wr_iald dX9_readIsle_137 zl111 hi ?_
          refine Wr_aload_n dX9_readIsle_138 rfl 1 rfl ?_
          refine Wr_getR 5 dX9_readIsle_139 flX9_55 zl106 rfl (by decide) ?_
          refine Wr_iload_n dX9_readIsle_142 rfl 2 rfl ?_
          refine Wr_iconstv (v := 2) dX9_readIsle_143 (by decide) ?_
          refine Wr_iadd dX9_readIsle_144 ?_
          obtain ⟨hi, h⟩ := h
          refine Wr_iald dX9_readIsle_145 zl111 hi ?_
          refine Wr_icmp_ne 154 dX9_readIsle_146 (by decide) (fun hc => ?_) (fun hc => ?_)
          · have h := h.2 hc
            obtain ⟨v2, ev2⟩ : ∃ z : Int32, z = x3 + 1 := ⟨_, rfl⟩
            have h := h v2 ev2
            refine Wr_iinc (v := v2) dX9_readIsle_154 (q := 3) rfl (by rw [ev2]; rfl) (by decide) rfl ?_
            refine Wr_goto 82 dX9_readIsle_157 (by decide) ?_
            refine zsub [0, 2, 3] rfl ?_
            exact ih _ _ _ h
          · have h := h.1 hc
            refine Wr_aload_n dX9_readIsle_149 rfl 1 rfl ?_
            refine Wr_iconstv (v := 4) dX9_readIsle_150 (by decide) ?_
            refine Wr_cVv [.int 4] dX9_readIsle_151 mlX9_226 mgX9_wrong rfl mvX9_wrong (zrv zl106 _ rfl rfl) rfl rfl (Nat.le_of_ble_eq_true rfl) rfl (zcV.imp h (fun m3 h => ?_) (fun _ _ h => ⟨rfl, h⟩))
            obtain ⟨v4, ev4⟩ : ∃ z : Int32, z = x3 + 1 := ⟨_, rfl⟩
            have h := h v4 ev4
            refine Wr_iinc (v := v4) dX9_readIsle_154 (q := 3) rfl (by rw [ev4]; rfl) (by decide) rfl ?_
            refine Wr_goto 82 dX9_readIsle_157 (by decide) ?_
            refine zsub [0, 2, 3] rfl ?_
            exact ih _ _ _ h
def pX9_readIsle_17 (d : Nat) (x1 : Int32) (μ : zMem) (KV : zMem → Prop) (X : Nat → zMem → Prop) : Prop :=
  ((μ 106 19 = 0 → zcV d mX9_stepOn [.ref 106] μ (fun m1 => ∀ v2 : Int32, v2 = 14 * (6 + (m1 110 10)) → (vp_in v2 168) ∧ ∀ m3 : zMem, m3 = zw m1 111 v2.toNatClampNeg x1 → zcI d mX9_readNumber [.ref 106, .int 0, .int 60] m3 (fun u5 m4 => (vp_in (v2 + 1) 168) ∧ ∀ m6 : zMem, m6 = zw m4 111 (v2 + 1).toNatClampNeg u5 → zcI d mX9_numberNow [.ref 106, .int 0, .int 60] m6 (fun u8 m7 => (vp_in (v2 + 2) 168) ∧ ∀ m9 : zMem, m9 = zw m7 111 (v2 + 2).toNatClampNeg u8 → ∃ n2 : Nat, pX9_readIsle_82 n2 d v2 0 m9 KV X) X) X) X) ∧
  (¬ (μ 106 19 = 0) → KV μ))
set_option maxRecDepth 20000 in
theorem wX9_readIsle_17 {d : Nat} {KV : zMem → Prop} {X : Nat → zMem → Prop} {x1 : Int32} {μ : zMem} (h : pX9_readIsle_17 d x1 μ KV X) : Wr mX9_readIsle (d + 1) 0 17 [(0, .ref 106), (1, .int x1)] [] μ (kV KV X) := by
  unfold pX9_readIsle_17 at h
  refine Wr_aload_n dX9_readIsle_17 rfl 0 rfl ?_
  refine Wr_getI dX9_readIsle_18 flX9_205 zl106 rfl ?_
  refine Wr_if_eq 25 dX9_readIsle_21 (by decide) (fun hc => ?_) (fun hc => ?_)
  · have h := h.1 hc
    refine Wr_aload_n dX9_readIsle_25 rfl 0 rfl ?_
    refine Wr_cVv [] dX9_readIsle_26 mlX9_230 mgX9_stepOn rfl mvX9_stepOn (zrv zl106 _ rfl rfl) rfl rfl (Nat.le_of_ble_eq_true rfl) rfl (zcV.imp h (fun m1 h => ?_) (fun _ _ h => ⟨rfl, h⟩))
    refine Wr_bipush (v := 14) dX9_readIsle_29 (by decide) ?_
    refine Wr_bipush (v := 6) dX9_readIsle_31 (by decide) ?_
    refine Wr_aload_n dX9_readIsle_33 rfl 0 rfl ?_
    refine Wr_getR 4 dX9_readIsle_34 flX9_51 zl106 rfl (by decide) ?_
    refine Wr_bipush (v := 10) dX9_readIsle_37 (by decide) ?_
    refine Wr_iald dX9_readIsle_39 zl110 (by unfold vp_in; decide) ?_
    refine Wr_iadd dX9_readIsle_40 ?_
    refine Wr_imul dX9_readIsle_41 ?_
    obtain ⟨v2, ev2⟩ : ∃ z : Int32, z = 14 * (6 + (m1 110 10)) := ⟨_, rfl⟩
    have h := h v2 ev2
    refine Wr_top ev2 ?_
    refine Wr_istore_n dX9_readIsle_42 rfl (by decide) rfl ?_
    refine Wr_aload_n dX9_readIsle_43 rfl 1 rfl ?_
    refine Wr_getR 5 dX9_readIsle_44 flX9_55 zl106 rfl (by decide) ?_
    refine Wr_iload_n dX9_readIsle_47 rfl 0 rfl ?_
    refine Wr_iload_n dX9_readIsle_48 rfl 2 rfl ?_
    obtain ⟨him3, h⟩ := h
    obtain ⟨m3, em3⟩ : ∃ z : zMem, z = zw m1 111 v2.toNatClampNeg x1 := ⟨_, rfl⟩
    have h := h m3 em3
    refine Wr_iast dX9_readIsle_49 zl111 him3 ?_
    refine Wr_mu em3 ?_
    refine Wr_aload_n dX9_readIsle_50 rfl 1 rfl ?_
    refine Wr_getR 5 dX9_readIsle_51 flX9_55 zl106 rfl (by decide) ?_
    refine Wr_iload_n dX9_readIsle_54 rfl 0 rfl ?_
    refine Wr_iconstv (v := 1) dX9_readIsle_55 (by decide) ?_
    refine Wr_iadd dX9_readIsle_56 ?_
    refine Wr_aload_n dX9_readIsle_57 rfl 1 rfl ?_
    refine Wr_iconstv (v := 0) dX9_readIsle_58 (by decide) ?_
    refine Wr_bipush (v := 60) dX9_readIsle_59 (by decide) ?_
    refine Wr_cVi [.int 0, .int 60] dX9_readIsle_61 mlX9_236 mgX9_readNumber rfl mvX9_readNumber (zrv zl106 _ rfl rfl) rfl rfl (Nat.le_of_ble_eq_true rfl) rfl (zcI.imp h (fun u5 m4 h => ?_) (fun _ _ h => ⟨rfl, h⟩))
    obtain ⟨him6, h⟩ := h
    obtain ⟨m6, em6⟩ : ∃ z : zMem, z = zw m4 111 (v2 + 1).toNatClampNeg u5 := ⟨_, rfl⟩
    have h := h m6 em6
    refine Wr_iast dX9_readIsle_64 zl111 him6 ?_
    refine Wr_mu em6 ?_
    refine Wr_aload_n dX9_readIsle_65 rfl 1 rfl ?_
    refine Wr_getR 5 dX9_readIsle_66 flX9_55 zl106 rfl (by decide) ?_
    refine Wr_iload_n dX9_readIsle_69 rfl 0 rfl ?_
    refine Wr_iconstv (v := 2) dX9_readIsle_70 (by decide) ?_
    refine Wr_iadd dX9_readIsle_71 ?_
    refine Wr_aload_n dX9_readIsle_72 rfl 1 rfl ?_
    refine Wr_iconstv (v := 0) dX9_readIsle_73 (by decide) ?_
    refine Wr_bipush (v := 60) dX9_readIsle_74 (by decide) ?_
    refine Wr_cVi [.int 0, .int 60] dX9_readIsle_76 mlX9_233 mgX9_numberNow rfl mvX9_numberNow (zrv zl106 _ rfl rfl) rfl rfl (Nat.le_of_ble_eq_true rfl) rfl (zcI.imp h (fun u8 m7 h => ?_) (fun _ _ h => ⟨rfl, h⟩))
    obtain ⟨him9, h⟩ := h
    obtain ⟨m9, em9⟩ : ∃ z : zMem, z = zw m7 111 (v2 + 2).toNatClampNeg u8 := ⟨_, rfl⟩
    have h := h m9 em9
    refine Wr_iast dX9_readIsle_79 zl111 him9 ?_
    refine Wr_mu em9 ?_
    refine Wr_iconstv (v := 0) dX9_readIsle_80 (by decide) ?_
    refine Wr_istore_n dX9_readIsle_81 rfl (by decide) rfl ?_
    refine zsub [0, 2, 3] rfl ?_
    obtain ⟨n9, h⟩ := h
    exact wX9_readIsle_82 n9 _ _ _ h
  · have h := h.2 hc
    exact Wr_vret dX9_readIsle_24 rfl ⟨rfl, h⟩
def pX9_readIsle (d : Nat) (x1 : Int32) (μ : zMem) (KV : zMem → Prop) (X : Nat → zMem → Prop) : Prop :=
  ((μ 110 10 = 6 → zcV d mX9_wrong [.ref 106, .int 2] μ (fun m1 => pX9_readIsle_17 d x1 m1 KV X) X) ∧
  (¬ (μ 110 10 = 6) → pX9_readIsle_17 d x1 μ KV X))
set_option maxRecDepth 20000 in
theorem wX9_readIsle_0 {d : Nat} {KV : zMem → Prop} {X : Nat → zMem → Prop} {x1 : Int32} {μ : zMem} (h : pX9_readIsle d x1 μ KV X) : Wr mX9_readIsle (d + 1) 0 0 [(0, .ref 106), (1, .int x1)] [] μ (kV KV X) := by
  unfold pX9_readIsle at h
  refine Wr_aload_n dX9_readIsle_0 rfl 0 rfl ?_
  refine Wr_getR 4 dX9_readIsle_1 flX9_51 zl106 rfl (by decide) ?_
  refine Wr_bipush (v := 10) dX9_readIsle_4 (by decide) ?_
  refine Wr_iald dX9_readIsle_6 zl110 (by unfold vp_in; decide) ?_
  refine Wr_bipush (v := 6) dX9_readIsle_7 (by decide) ?_
  refine Wr_icmp_ne 17 dX9_readIsle_9 (by decide) (fun hc => ?_) (fun hc => ?_)
  · have h := h.2 hc
    refine zsub [0, 1] rfl ?_
    exact wX9_readIsle_17 h
  · have h := h.1 hc
    refine Wr_aload_n dX9_readIsle_12 rfl 0 rfl ?_
    refine Wr_iconstv (v := 2) dX9_readIsle_13 (by decide) ?_
    refine Wr_cVv [.int 2] dX9_readIsle_14 mlX9_226 mgX9_wrong rfl mvX9_wrong (zrv zl106 _ rfl rfl) rfl rfl (Nat.le_of_ble_eq_true rfl) rfl (zcV.imp h (fun m1 h => ?_) (fun _ _ h => ⟨rfl, h⟩))
    refine zsub [0, 1] rfl ?_
    exact wX9_readIsle_17 h
theorem cX9_readIsle_ {d : Nat} {x1 : Int32} {μ : zMem} {KV : zMem → Prop} {X : Nat → zMem → Prop} (h : pX9_readIsle d x1 μ KV X) : zcV (d + 1) mX9_readIsle [.ref 106, .int x1] μ KV X :=
  Ex_of (w := 2) mgX9_readIsle.2.2.2.2.2 rfl rfl rfl (by decide) (wX9_readIsle_0 h)

def pX9_readWind_106 (d : Nat) (x1 : Int32) (μ : zMem) (KV : zMem → Prop) (X : Nat → zMem → Prop) : Prop :=
  zcI d mX9_readSigned [.ref 106, .int 9] μ (fun u2 m1 => (vp_in x1 24) ∧ ∀ m3 : zMem, m3 = zw m1 113 x1.toNatClampNeg u2 → zcI d mX9_readSigned [.ref 106, .int 9] m3 (fun u5 m4 => (vp_in x1 24) ∧ ∀ m6 : zMem, m6 = zw m4 114 x1.toNatClampNeg u5 → ∀ m7 : zMem, m7 = zw m6 110 11 ((m6 110 11) + 1) → KV m7) X) X
set_option maxRecDepth 20000 in
theorem wX9_readWind_106 {d : Nat} {KV : zMem → Prop} {X : Nat → zMem → Prop} {x1 : Int32} {μ : zMem} (h : pX9_readWind_106 d x1 μ KV X) : Wr mX9_readWind (d + 1) 0 106 [(0, .ref 106), (1, .int x1)] [] μ (kV KV X) := by
  unfold pX9_readWind_106 at h
  refine Wr_aload_n dX9_readWind_106 rfl 0 rfl ?_
  refine Wr_getR 7 dX9_readWind_107 flX9_61 zl106 rfl (by decide) ?_
  refine Wr_iload_n dX9_readWind_110 rfl 1 rfl ?_
  refine Wr_aload_n dX9_readWind_111 rfl 0 rfl ?_
  refine Wr_bipush (v := 9) dX9_readWind_112 (by decide) ?_
  refine Wr_cVi [.int 9] dX9_readWind_114 mlX9_273 mgX9_readSigned rfl mvX9_readSigned (zrv zl106 _ rfl rfl) rfl rfl (Nat.le_of_ble_eq_true rfl) rfl (zcI.imp h (fun u2 m1 h => ?_) (fun _ _ h => ⟨rfl, h⟩))
  obtain ⟨him3, h⟩ := h
  obtain ⟨m3, em3⟩ : ∃ z : zMem, z = zw m1 113 x1.toNatClampNeg u2 := ⟨_, rfl⟩
  have h := h m3 em3
  refine Wr_iast dX9_readWind_117 zl113 him3 ?_
  refine Wr_mu em3 ?_
  refine Wr_aload_n dX9_readWind_118 rfl 0 rfl ?_
  refine Wr_getR 8 dX9_readWind_119 flX9_64 zl106 rfl (by decide) ?_
  refine Wr_iload_n dX9_readWind_122 rfl 1 rfl ?_
  refine Wr_aload_n dX9_readWind_123 rfl 0 rfl ?_
  refine Wr_bipush (v := 9) dX9_readWind_124 (by decide) ?_
  refine Wr_cVi [.int 9] dX9_readWind_126 mlX9_273 mgX9_readSigned rfl mvX9_readSigned (zrv zl106 _ rfl rfl) rfl rfl (Nat.le_of_ble_eq_true rfl) rfl (zcI.imp h (fun u5 m4 h => ?_) (fun _ _ h => ⟨rfl, h⟩))
  obtain ⟨him6, h⟩ := h
  obtain ⟨m6, em6⟩ : ∃ z : zMem, z = zw m4 114 x1.toNatClampNeg u5 := ⟨_, rfl⟩
  have h := h m6 em6
  refine Wr_iast dX9_readWind_129 zl114 him6 ?_
  refine Wr_mu em6 ?_
  refine Wr_aload_n dX9_readWind_130 rfl 0 rfl ?_
  refine Wr_getR 4 dX9_readWind_131 flX9_51 zl106 rfl (by decide) ?_
  refine Wr_bipush (v := 11) dX9_readWind_134 (by decide) ?_
  refine Wr_dup2 dX9_readWind_136 rfl rfl ?_
  refine Wr_iald dX9_readWind_137 zl110 (by unfold vp_in; decide) ?_
  refine Wr_iconstv (v := 1) dX9_readWind_138 (by decide) ?_
  refine Wr_iadd dX9_readWind_139 ?_
  obtain ⟨m7, em7⟩ : ∃ z : zMem, z = zw m6 110 11 ((m6 110 11) + 1) := ⟨_, rfl⟩
  have h := h m7 em7
  refine Wr_iast dX9_readWind_140 zl110 (by unfold vp_in; decide) ?_
  refine Wr_mu em7 ?_
  exact Wr_vret dX9_readWind_141 rfl ⟨rfl, h⟩
def pX9_readWind_95 (d : Nat) (x1 : Int32) (μ : zMem) (KV : zMem → Prop) (X : Nat → zMem → Prop) : Prop :=
  ((μ 106 19 = 0 → zcV d mX9_stepOn [.ref 106] μ (fun m1 => pX9_readWind_106 d x1 m1 KV X) X) ∧
  (¬ (μ 106 19 = 0) → pX9_readWind_106 d x1 μ KV X))
set_option maxRecDepth 20000 in
theorem wX9_readWind_95 {d : Nat} {KV : zMem → Prop} {X : Nat → zMem → Prop} {x1 : Int32} {μ : zMem} (h : pX9_readWind_95 d x1 μ KV X) : Wr mX9_readWind (d + 1) 0 95 [(0, .ref 106), (1, .int x1)] [] μ (kV KV X) := by
  unfold pX9_readWind_95 at h
  refine Wr_aload_n dX9_readWind_95 rfl 0 rfl ?_
  refine Wr_getI dX9_readWind_96 flX9_205 zl106 rfl ?_
  refine Wr_if_ne 106 dX9_readWind_99 (by decide) (fun hc => ?_) (fun hc => ?_)
  · have h := h.2 hc
    refine zsub [0, 1] rfl ?_
    exact wX9_readWind_106 h
  · have h := h.1 hc
    refine Wr_aload_n dX9_readWind_102 rfl 0 rfl ?_
    refine Wr_cVv [] dX9_readWind_103 mlX9_230 mgX9_stepOn rfl mvX9_stepOn (zrv zl106 _ rfl rfl) rfl rfl (Nat.le_of_ble_eq_true rfl) rfl (zcV.imp h (fun m1 h => ?_) (fun _ _ h => ⟨rfl, h⟩))
    refine zsub [0, 1] rfl ?_
    exact wX9_readWind_106 h
def pX9_readWind_57 : Nat → Nat → Int32 → Int32 → zMem → (zMem → Prop) → (Nat → zMem → Prop) → Prop
  | 0, _, _, _, _, _, _ => False
  | n + 1, d, x1, x2, μ, KV, X =>
  ((x1 ≤ x2 → pX9_readWind_95 d x1 μ KV X) ∧
  (¬ (x1 ≤ x2) → ((μ 106 19 = 0 → (vp_in x2 24) ∧ (vp_in x1 24) ∧ ((μ 112 x2.toNatClampNeg = μ 112 x1.toNatClampNeg → zcV d mX9_wrong [.ref 106, .int 4] μ (fun m2 => ∀ v3 : Int32, v3 = x2 + 1 → pX9_readWind_57 n d x1 v3 m2 KV X) X) ∧
      (¬ (μ 112 x2.toNatClampNeg = μ 112 x1.toNatClampNeg) → ∀ v1 : Int32, v1 = x2 + 1 → pX9_readWind_57 n d x1 v1 μ KV X))) ∧
    (¬ (μ 106 19 = 0) → pX9_readWind_95 d x1 μ KV X))))
set_option maxRecDepth 20000 in
theorem wX9_readWind_57 {d : Nat} {KV : zMem → Prop} {X : Nat → zMem → Prop} : ∀ (n : Nat) (x1 : Int32) (x2 : Int32) (μ : zMem), pX9_readWind_57 n d x1 x2 μ KV X → Wr mX9_readWind (d + 1) 0 57 [(0, .ref 106), (1, .int x1), (2, .int x2)] [] μ (kV KV X) := by
  intro n
  induction n with
  | zero =>
    intro x1 x2 μ h
    exact absurd h id
  | succ n ih =>
    intro x1 x2 μ h
    unfold pX9_readWind_57 at h
    refine Wr_iload_n dX9_readWind_57 rfl 2 rfl ?_
    refine Wr_iload_n dX9_readWind_58 rfl 1 rfl ?_
    refine Wr_icmp_ge 95 dX9_readWind_59 (by decide) (fun hc => ?_) (fun hc => ?_)
    · have h := h.1 hc
      refine zsub [0, 1] rfl ?_
      exact wX9_readWind_95 h
    · have h := h.2 hc
      refine Wr_aload_n dX9_readWind_62 rfl 0 rfl ?_
      refine Wr_getI dX9_readWind_63 flX9_205 zl106 rfl ?_
      refine Wr_if_ne 95 dX9_readWind_66 (by decide) (fun hc => ?_) (fun hc => ?_)
      · have h := h.2 hc
        refine zsub [0, 1] rfl ?_
        exact wX9_readWind_95 h
      · have h := h.1 hc
        refine Wr_aload_n dX9_readWind_69 rfl 0 rfl ?_
        refine Wr_getR 6 dX9_readWind_70 flX9_58 zl106 rfl (by decide) ?_
        refine Wr_iload_n dX9_readWind_73 rfl 2 rfl ?_
        obtain ⟨hi, h⟩ := h
        refine Wr_iald dX9_readWind_74 zl112 hi ?_
        refine Wr_aload_n dX9_readWind_75 rfl 0 rfl ?_
        refine Wr_getR 6 dX9_readWind_76 flX9_58 zl106 rfl (by decide) ?_
        refine Wr_iload_n dX9_readWind_79 rfl 1 rfl ?_
        obtain ⟨hi, h⟩ := h
        refine Wr_iald dX9_readWind_80 zl112 hi ?_
        refine Wr_icmp_ne 89 dX9_readWind_81 (by decide) (fun hc => ?_) (fun hc => ?_)
        · have h := h.2 hc
          obtain ⟨v1, ev1⟩ : ∃ z : Int32, z = x2 + 1 := ⟨_, rfl⟩
          have h := h v1 ev1
          refine Wr_iinc (v := v1) dX9_readWind_89 (q := 2) rfl (by rw [ev1]; rfl) (by decide) rfl ?_
          refine Wr_goto 57 dX9_readWind_92 (by decide) ?_
          refine zsub [0, 1, 2] rfl ?_
          exact ih _ _ _ h
        · have h := h.1 hc
          refine Wr_aload_n dX9_readWind_84 rfl 0 rfl ?_
          refine Wr_iconstv (v := 4) dX9_readWind_85 (by decide) ?_
          refine Wr_cVv [.int 4] dX9_readWind_86 mlX9_226 mgX9_wrong rfl mvX9_wrong (zrv zl106 _ rfl rfl) rfl rfl (Nat.le_of_ble_eq_true rfl) rfl (zcV.imp h (fun m2 h => ?_) (fun _ _ h => ⟨rfl, h⟩))
          obtain ⟨v3, ev3⟩ : ∃ z : Int32, z = x2 + 1 := ⟨_, rfl⟩
          have h := h v3 ev3
          refine Wr_iinc (v := v3) dX9_readWind_89 (q := 2) rfl (by rw [ev3]; rfl) (by decide) rfl ?_
          refine Wr_goto 57 dX9_readWind_92 (by decide) ?_
          refine zsub [0, 1, 2] rfl ?_
          exact ih _ _ _ h
def pX9_readWind_17 (d : Nat) (μ : zMem) (KV : zMem → Prop) (X : Nat → zMem → Prop) : Prop :=
  ((μ 106 19 = 0 → zcV d mX9_stepOn [.ref 106] μ (fun m1 => ∀ v2 : Int32, v2 = 12 + (m1 110 11) → zcI d mX9_numberNow [.ref 106, .int 0, .int 167] m1 (fun u4 m3 => (vp_in v2 24) ∧ ∀ m5 : zMem, m5 = zw m3 112 v2.toNatClampNeg u4 → ∃ n2 : Nat, pX9_readWind_57 n2 d v2 12 m5 KV X) X) X) ∧
  (¬ (μ 106 19 = 0) → KV μ))
set_option maxRecDepth 20000 in
theorem wX9_readWind_17 {d : Nat} {KV : zMem → Prop} {X : Nat → zMem → Prop} {μ : zMem} (h : pX9_readWind_17 d μ KV X) : Wr mX9_readWind (d + 1) 0 17 [(0, .ref 106)] [] μ (kV KV X) := by
  unfold pX9_readWind_17 at h
  refine Wr_aload_n dX9_readWind_17 rfl 0 rfl ?_
  refine Wr_getI dX9_readWind_18 flX9_205 zl106 rfl ?_
  refine Wr_if_eq 25 dX9_readWind_21 (by decide) (fun hc => ?_) (fun hc => ?_)
  · have h := h.1 hc
    refine Wr_aload_n dX9_readWind_25 rfl 0 rfl ?_
    refine Wr_cVv [] dX9_readWind_26 mlX9_230 mgX9_stepOn rfl mvX9_stepOn (zrv zl106 _ rfl rfl) rfl rfl (Nat.le_of_ble_eq_true rfl) rfl (zcV.imp h (fun m1 h => ?_) (fun _ _ h => ⟨rfl, h⟩))
    refine Wr_bipush (v := 12) dX9_readWind_29 (by decide) ?_
    refine Wr_aload_n dX9_readWind_31 rfl 0 rfl ?_
    refine Wr_getR 4 dX9_readWind_32 flX9_51 zl106 rfl (by decide) ?_
    refine Wr_bipush (v := 11) dX9_readWind_35 (by decide) ?_
    refine Wr_iald dX9_readWind_37 zl110 (by unfold vp_in; decide) ?_
    refine Wr_iadd dX9_readWind_38 ?_
    obtain ⟨v2, ev2⟩ : ∃ z : Int32, z = 12 + (m1 110 11) := ⟨_, rfl⟩
    have h := h v2 ev2
    refine Wr_top ev2 ?_
    refine Wr_istore_n dX9_readWind_39 rfl (by decide) rfl ?_
    refine Wr_aload_n dX9_readWind_40 rfl 1 rfl ?_
    refine Wr_getR 6 dX9_readWind_41 flX9_58 zl106 rfl (by decide) ?_
    refine Wr_iload_n dX9_readWind_44 rfl 0 rfl ?_
    refine Wr_aload_n dX9_readWind_45 rfl 1 rfl ?_
    refine Wr_iconstv (v := 0) dX9_readWind_46 (by decide) ?_
    refine Wr_sipush (v := 167) dX9_readWind_47 (by decide) ?_
    refine Wr_cVi [.int 0, .int 167] dX9_readWind_50 mlX9_233 mgX9_numberNow rfl mvX9_numberNow (zrv zl106 _ rfl rfl) rfl rfl (Nat.le_of_ble_eq_true rfl) rfl (zcI.imp h (fun u4 m3 h => ?_) (fun _ _ h => ⟨rfl, h⟩))
    obtain ⟨him5, h⟩ := h
    obtain ⟨m5, em5⟩ : ∃ z : zMem, z = zw m3 112 v2.toNatClampNeg u4 := ⟨_, rfl⟩
    have h := h m5 em5
    refine Wr_iast dX9_readWind_53 zl112 him5 ?_
    refine Wr_mu em5 ?_
    refine Wr_bipush (v := 12) dX9_readWind_54 (by decide) ?_
    refine Wr_istore_n dX9_readWind_56 rfl (by decide) rfl ?_
    refine zsub [0, 1, 2] rfl ?_
    obtain ⟨n9, h⟩ := h
    exact wX9_readWind_57 n9 _ _ _ h
  · have h := h.2 hc
    exact Wr_vret dX9_readWind_24 rfl ⟨rfl, h⟩
def pX9_readWind (d : Nat) (μ : zMem) (KV : zMem → Prop) (X : Nat → zMem → Prop) : Prop :=
  ((μ 110 11 = 12 → zcV d mX9_wrong [.ref 106, .int 2] μ (fun m1 => pX9_readWind_17 d m1 KV X) X) ∧
  (¬ (μ 110 11 = 12) → pX9_readWind_17 d μ KV X))
set_option maxRecDepth 20000 in
theorem wX9_readWind_0 {d : Nat} {KV : zMem → Prop} {X : Nat → zMem → Prop} {μ : zMem} (h : pX9_readWind d μ KV X) : Wr mX9_readWind (d + 1) 0 0 [(0, .ref 106)] [] μ (kV KV X) := by
  unfold pX9_readWind at h
  refine Wr_aload_n dX9_readWind_0 rfl 0 rfl ?_
  refine Wr_getR 4 dX9_readWind_1 flX9_51 zl106 rfl (by decide) ?_
  refine Wr_bipush (v := 11) dX9_readWind_4 (by decide) ?_
  refine Wr_iald dX9_readWind_6 zl110 (by unfold vp_in; decide) ?_
  refine Wr_bipush (v := 12) dX9_readWind_7 (by decide) ?_
  refine Wr_icmp_ne 17 dX9_readWind_9 (by decide) (fun hc => ?_) (fun hc => ?_)
  · have h := h.2 hc
    refine zsub [0] rfl ?_
    exact wX9_readWind_17 h
  · have h := h.1 hc
    refine Wr_aload_n dX9_readWind_12 rfl 0 rfl ?_
    refine Wr_iconstv (v := 2) dX9_readWind_13 (by decide) ?_
    refine Wr_cVv [.int 2] dX9_readWind_14 mlX9_226 mgX9_wrong rfl mvX9_wrong (zrv zl106 _ rfl rfl) rfl rfl (Nat.le_of_ble_eq_true rfl) rfl (zcV.imp h (fun m1 h => ?_) (fun _ _ h => ⟨rfl, h⟩))
    refine zsub [0] rfl ?_
    exact wX9_readWind_17 h
theorem cX9_readWind_ {d : Nat} {μ : zMem} {KV : zMem → Prop} {X : Nat → zMem → Prop} (h : pX9_readWind d μ KV X) : zcV (d + 1) mX9_readWind [.ref 106] μ KV X :=
  Ex_of (w := 1) mgX9_readWind.2.2.2.2.2 rfl rfl rfl (by decide) (wX9_readWind_0 h)

def pX9_readGusts_49 (d : Nat) (x1 : Int32) (x2 : Int32) (x3 : Int32) (μ : zMem) (KV : zMem → Prop) (X : Nat → zMem → Prop) (C4 : Int32 → Int32 → zMem → Prop) : Prop :=
  (vp_in (15 + x2) 20) ∧ ∀ m1 : zMem, m1 = zw μ 110 (15 + x2).toNatClampNeg x3 → ((m1 106 19 = 0 → zcV d mX9_stepOn [.ref 106] m1 (fun m3 => ∀ v4 : Int32, v4 = x2 + 1 → C4 x1 v4 m3) X) ∧
  (¬ (m1 106 19 = 0) → ∀ v2 : Int32, v2 = x2 + 1 → C4 x1 v2 m1))
set_option maxRecDepth 20000 in
theorem wX9_readGusts_49 {d : Nat} {KV : zMem → Prop} {X : Nat → zMem → Prop} {C4 : Int32 → Int32 → zMem → Prop} {x1 : Int32} {x2 : Int32} {x3 : Int32} {μ : zMem} (hC4 : ∀ (x1 : Int32) (x2 : Int32) (μ : zMem), C4 x1 x2 μ → Wr mX9_readGusts (d + 1) 0 4 [(0, .ref 106), (1, .int x1), (2, .int x2)] [] μ (kV KV X)) (h : pX9_readGusts_49 d x1 x2 x3 μ KV X C4) : Wr mX9_readGusts (d + 1) 0 49 [(0, .ref 106), (1, .int x1), (2, .int x2), (3, .int x3)] [] μ (kV KV X) := by
  unfold pX9_readGusts_49 at h
  refine Wr_aload_n dX9_readGusts_49 rfl 0 rfl ?_
  refine Wr_getR 4 dX9_readGusts_50 flX9_51 zl106 rfl (by decide) ?_
  refine Wr_bipush (v := 15) dX9_readGusts_53 (by decide) ?_
  refine Wr_iload_n dX9_readGusts_55 rfl 2 rfl ?_
  refine Wr_iadd dX9_readGusts_56 ?_
  refine Wr_iload_n dX9_readGusts_57 rfl 3 rfl ?_
  obtain ⟨him1, h⟩ := h
  obtain ⟨m1, em1⟩ : ∃ z : zMem, z = zw μ 110 (15 + x2).toNatClampNeg x3 := ⟨_, rfl⟩
  have h := h m1 em1
  refine Wr_iast dX9_readGusts_58 zl110 him1 ?_
  refine Wr_mu em1 ?_
  refine Wr_aload_n dX9_readGusts_59 rfl 0 rfl ?_
  refine Wr_getI dX9_readGusts_60 flX9_205 zl106 rfl ?_
  refine Wr_if_ne 70 dX9_readGusts_63 (by decide) (fun hc => ?_) (fun hc => ?_)
  · have h := h.2 hc
    obtain ⟨v2, ev2⟩ : ∃ z : Int32, z = x2 + 1 := ⟨_, rfl⟩
    have h := h v2 ev2
    refine Wr_iinc (v := v2) dX9_readGusts_70 (q := 2) rfl (by rw [ev2]; rfl) (by decide) rfl ?_
    refine Wr_goto 4 dX9_readGusts_73 (by decide) ?_
    refine zsub [0, 1, 2] rfl ?_
    exact hC4 _ _ _ h
  · have h := h.1 hc
    refine Wr_aload_n dX9_readGusts_66 rfl 0 rfl ?_
    refine Wr_cVv [] dX9_readGusts_67 mlX9_230 mgX9_stepOn rfl mvX9_stepOn (zrv zl106 _ rfl rfl) rfl rfl (Nat.le_of_ble_eq_true rfl) rfl (zcV.imp h (fun m3 h => ?_) (fun _ _ h => ⟨rfl, h⟩))
    obtain ⟨v4, ev4⟩ : ∃ z : Int32, z = x2 + 1 := ⟨_, rfl⟩
    have h := h v4 ev4
    refine Wr_iinc (v := v4) dX9_readGusts_70 (q := 2) rfl (by rw [ev4]; rfl) (by decide) rfl ?_
    refine Wr_goto 4 dX9_readGusts_73 (by decide) ?_
    refine zsub [0, 1, 2] rfl ?_
    exact hC4 _ _ _ h
def pX9_readGusts_4 : Nat → Nat → Int32 → Int32 → zMem → (zMem → Prop) → (Nat → zMem → Prop) → Prop
  | 0, _, _, _, _, _, _ => False
  | n + 1, d, x1, x2, μ, KV, X =>
  ((4 ≤ x2 → KV μ) ∧
  (¬ (4 ≤ x2) → ((μ 106 19 = 0 → zcI d mX9_numberNow [.ref 106, .int 0, .int 9] μ (fun u2 m1 => ((m1 106 19 = 0 → ((x2 = 3 → ((x1 + u2 = 0 → zcV d mX9_wrong [.ref 106, .int 2] m1 (fun m3 => pX9_readGusts_49 d (x1 + u2) x2 u2 m3 KV X (fun z0 z1 m => pX9_readGusts_4 n d z0 z1 m KV X)) X) ∧
          (¬ (x1 + u2 = 0) → pX9_readGusts_49 d (x1 + u2) x2 u2 m1 KV X (fun z0 z1 m => pX9_readGusts_4 n d z0 z1 m KV X)))) ∧
        (¬ (x2 = 3) → pX9_readGusts_49 d (x1 + u2) x2 u2 m1 KV X (fun z0 z1 m => pX9_readGusts_4 n d z0 z1 m KV X)))) ∧
      (¬ (m1 106 19 = 0) → pX9_readGusts_49 d (x1 + u2) x2 u2 m1 KV X (fun z0 z1 m => pX9_readGusts_4 n d z0 z1 m KV X)))) X) ∧
    (¬ (μ 106 19 = 0) → KV μ))))
set_option maxRecDepth 20000 in
theorem wX9_readGusts_4 {d : Nat} {KV : zMem → Prop} {X : Nat → zMem → Prop} : ∀ (n : Nat) (x1 : Int32) (x2 : Int32) (μ : zMem), pX9_readGusts_4 n d x1 x2 μ KV X → Wr mX9_readGusts (d + 1) 0 4 [(0, .ref 106), (1, .int x1), (2, .int x2)] [] μ (kV KV X) := by
  intro n
  induction n with
  | zero =>
    intro x1 x2 μ h
    exact absurd h id
  | succ n ih =>
    intro x1 x2 μ h
    unfold pX9_readGusts_4 at h
    refine Wr_iload_n dX9_readGusts_4 rfl 2 rfl ?_
    refine Wr_iconstv (v := 4) dX9_readGusts_5 (by decide) ?_
    refine Wr_icmp_ge 76 dX9_readGusts_6 (by decide) (fun hc => ?_) (fun hc => ?_)
    · have h := h.1 hc
      exact Wr_vret dX9_readGusts_76 rfl ⟨rfl, h⟩
    · have h := h.2 hc
      refine Wr_aload_n dX9_readGusts_9 rfl 0 rfl ?_
      refine Wr_getI dX9_readGusts_10 flX9_205 zl106 rfl ?_
      refine Wr_if_ne 76 dX9_readGusts_13 (by decide) (fun hc => ?_) (fun hc => ?_)
      · have h := h.2 hc
        exact Wr_vret dX9_readGusts_76 rfl ⟨rfl, h⟩
      · have h := h.1 hc
        refine Wr_aload_n dX9_readGusts_16 rfl 0 rfl ?_
        refine Wr_iconstv (v := 0) dX9_readGusts_17 (by decide) ?_
        refine Wr_bipush (v := 9) dX9_readGusts_18 (by decide) ?_
        refine Wr_cVi [.int 0, .int 9] dX9_readGusts_20 mlX9_233 mgX9_numberNow rfl mvX9_numberNow (zrv zl106 _ rfl rfl) rfl rfl (Nat.le_of_ble_eq_true rfl) rfl (zcI.imp h (fun u2 m1 h => ?_) (fun _ _ h => ⟨rfl, h⟩))
        refine Wr_istore_n dX9_readGusts_23 rfl (by decide) rfl ?_
        refine Wr_iload_n dX9_readGusts_24 rfl 2 rfl ?_
        refine Wr_iload_n dX9_readGusts_25 rfl 0 rfl ?_
        refine Wr_iadd dX9_readGusts_26 ?_
        refine Wr_istore_n dX9_readGusts_27 rfl (by decide) rfl ?_
        refine Wr_aload_n dX9_readGusts_28 rfl 2 rfl ?_
        refine Wr_getI dX9_readGusts_29 flX9_205 zl106 rfl ?_
        refine Wr_if_ne 49 dX9_readGusts_32 (by decide) (fun hc => ?_) (fun hc => ?_)
        · have h := h.2 hc
          refine zsub [0, 1, 2, 3] rfl ?_
          exact wX9_readGusts_49 (fun z0 z1 m h => ih z0 z1 m h) h
        · have h := h.1 hc
          refine Wr_iload_n dX9_readGusts_35 rfl 3 rfl ?_
          refine Wr_iconstv (v := 3) dX9_readGusts_36 (by decide) ?_
          refine Wr_icmp_ne 49 dX9_readGusts_37 (by decide) (fun hc => ?_) (fun hc => ?_)
          · have h := h.2 hc
            refine zsub [0, 1, 2, 3] rfl ?_
            exact wX9_readGusts_49 (fun z0 z1 m h => ih z0 z1 m h) h
          · have h := h.1 hc
            refine Wr_iload_n dX9_readGusts_40 rfl 0 rfl ?_
            refine Wr_if_ne 49 dX9_readGusts_41 (by decide) (fun hc => ?_) (fun hc => ?_)
            · have h := h.2 hc
              refine zsub [0, 1, 2, 3] rfl ?_
              exact wX9_readGusts_49 (fun z0 z1 m h => ih z0 z1 m h) h
            · have h := h.1 hc
              refine Wr_aload_n dX9_readGusts_44 rfl 2 rfl ?_
              refine Wr_iconstv (v := 2) dX9_readGusts_45 (by decide) ?_
              refine Wr_cVv [.int 2] dX9_readGusts_46 mlX9_226 mgX9_wrong rfl mvX9_wrong (zrv zl106 _ rfl rfl) rfl rfl (Nat.le_of_ble_eq_true rfl) rfl (zcV.imp h (fun m3 h => ?_) (fun _ _ h => ⟨rfl, h⟩))
              refine zsub [0, 1, 2, 3] rfl ?_
              exact wX9_readGusts_49 (fun z0 z1 m h => ih z0 z1 m h) h
def pX9_readGusts (d : Nat) (μ : zMem) (KV : zMem → Prop) (X : Nat → zMem → Prop) : Prop :=
  ∃ n2 : Nat, pX9_readGusts_4 n2 d 0 0 μ KV X
set_option maxRecDepth 20000 in
theorem wX9_readGusts_0 {d : Nat} {KV : zMem → Prop} {X : Nat → zMem → Prop} {μ : zMem} (h : pX9_readGusts d μ KV X) : Wr mX9_readGusts (d + 1) 0 0 [(0, .ref 106)] [] μ (kV KV X) := by
  unfold pX9_readGusts at h
  refine Wr_iconstv (v := 0) dX9_readGusts_0 (by decide) ?_
  refine Wr_istore_n dX9_readGusts_1 rfl (by decide) rfl ?_
  refine Wr_iconstv (v := 0) dX9_readGusts_2 (by decide) ?_
  refine Wr_istore_n dX9_readGusts_3 rfl (by decide) rfl ?_
  refine zsub [0, 1, 2] rfl ?_
  obtain ⟨n9, h⟩ := h
  exact wX9_readGusts_4 n9 _ _ _ h
theorem cX9_readGusts_ {d : Nat} {μ : zMem} {KV : zMem → Prop} {X : Nat → zMem → Prop} (h : pX9_readGusts d μ KV X) : zcV (d + 1) mX9_readGusts [.ref 106] μ KV X :=
  Ex_of (w := 1) mgX9_readGusts.2.2.2.2.2 rfl rfl rfl (by decide) (wX9_readGusts_0 h)

def pX9_readLine_263 (d : Nat) (x1 : Int32) (x2 : Int32) (μ : zMem) (KI : Int32 → zMem → Prop) (X : Nat → zMem → Prop) : Prop :=
  zcV d mX9_mark [.ref 106, .int 59] μ (fun m1 => KI (x1 ||| x2) m1) X
set_option maxRecDepth 20000 in
theorem wX9_readLine_263 {d : Nat} {KI : Int32 → zMem → Prop} {X : Nat → zMem → Prop} {x1 : Int32} {x2 : Int32} {μ : zMem} (h : pX9_readLine_263 d x1 x2 μ KI X) : Wr mX9_readLine (d + 1) 0 263 [(0, .ref 106), (1, .int x1), (2, .int x2)] [] μ (kI KI X) := by
  unfold pX9_readLine_263 at h
  refine Wr_aload_n dX9_readLine_263 rfl 0 rfl ?_
  refine Wr_bipush (v := 59) dX9_readLine_264 (by decide) ?_
  refine Wr_cVv [.int 59] dX9_readLine_266 mlX9_246 mgX9_mark rfl mvX9_mark (zrv zl106 _ rfl rfl) rfl rfl (Nat.le_of_ble_eq_true rfl) rfl (zcV.imp h (fun m1 h => ?_) (fun _ _ h => ⟨rfl, h⟩))
  refine Wr_iload_n dX9_readLine_269 rfl 1 rfl ?_
  refine Wr_iload_n dX9_readLine_270 rfl 2 rfl ?_
  refine Wr_ior dX9_readLine_271 ?_
  exact Wr_iret .int dX9_readLine_272 rfl rfl ⟨rfl, h⟩
def pX9_readLine_145 (d : Nat) (x1 : Int32) (x2 : Int32) (μ : zMem) (KI : Int32 → zMem → Prop) (X : Nat → zMem → Prop) : Prop :=
  ((μ 106 19 = 0 → zcV d mX9_stepOn [.ref 106] μ (fun m1 => pX9_readLine_263 d x1 x2 m1 KI X) X) ∧
  (¬ (μ 106 19 = 0) → pX9_readLine_263 d x1 x2 μ KI X))
set_option maxRecDepth 20000 in
theorem wX9_readLine_145 {d : Nat} {KI : Int32 → zMem → Prop} {X : Nat → zMem → Prop} {x1 : Int32} {x2 : Int32} {μ : zMem} (h : pX9_readLine_145 d x1 x2 μ KI X) : Wr mX9_readLine (d + 1) 0 145 [(0, .ref 106), (1, .int x1), (2, .int x2)] [] μ (kI KI X) := by
  unfold pX9_readLine_145 at h
  refine Wr_aload_n dX9_readLine_145 rfl 0 rfl ?_
  refine Wr_getI dX9_readLine_146 flX9_205 zl106 rfl ?_
  refine Wr_if_ne 263 dX9_readLine_149 (by decide) (fun hc => ?_) (fun hc => ?_)
  · have h := h.2 hc
    refine zsub [0, 1, 2] rfl ?_
    exact wX9_readLine_263 h
  · have h := h.1 hc
    refine Wr_aload_n dX9_readLine_152 rfl 0 rfl ?_
    refine Wr_cVv [] dX9_readLine_153 mlX9_230 mgX9_stepOn rfl mvX9_stepOn (zrv zl106 _ rfl rfl) rfl rfl (Nat.le_of_ble_eq_true rfl) rfl (zcV.imp h (fun m1 h => ?_) (fun _ _ h => ⟨rfl, h⟩))
    refine Wr_goto 263 dX9_readLine_156 (by decide) ?_
    refine zsub [0, 1, 2] rfl ?_
    exact wX9_readLine_263 h
def pX9_readLine_109 (d : Nat) (x1 : Int32) (x2 : Int32) (μ : zMem) (KI : Int32 → zMem → Prop) (X : Nat → zMem → Prop) : Prop :=
  ((x2 = 1 → zcI d mX9_which [.ref 106, .ref 108] μ (fun u10 m9 => ∀ m11 : zMem, m11 = zw m9 110 12 u10 → ((m11 110 12 = (-1) → zcV d mX9_wrong [.ref 106, .int 1] m11 (fun m12 => pX9_readLine_145 d x1 x2 m12 KI X) X) ∧
    (¬ (m11 110 12 = (-1)) → pX9_readLine_145 d x1 x2 m11 KI X))) X) ∧
  (¬ (x2 = 1) → ((x2 = 2 → zcV d mX9_readGusts [.ref 106] μ (fun m8 => pX9_readLine_263 d x1 x2 m8 KI X) X) ∧
    (¬ (x2 = 2) → ((x2 = 4 → zcI d mX9_readNumber [.ref 106, .int 0, .int 20] μ (fun u6 m5 => ∀ m7 : zMem, m7 = zw m5 110 13 u6 → pX9_readLine_263 d x1 x2 m7 KI X) X) ∧
      (¬ (x2 = 4) → ((x2 = 8 → zcI d mX9_readNumber [.ref 106, .int 0, .int 24] μ (fun u3 m2 => ∀ m4 : zMem, m4 = zw m2 110 14 u3 → pX9_readLine_263 d x1 x2 m4 KI X) X) ∧
        (¬ (x2 = 8) → zcV d mX9_readExpression [.ref 106, .int 0] μ (fun m1 => pX9_readLine_263 d x1 x2 m1 KI X) X))))))))
set_option maxRecDepth 20000 in
theorem wX9_readLine_109 {d : Nat} {KI : Int32 → zMem → Prop} {X : Nat → zMem → Prop} {x1 : Int32} {x2 : Int32} {μ : zMem} (h : pX9_readLine_109 d x1 x2 μ KI X) : Wr mX9_readLine (d + 1) 0 109 [(0, .ref 106), (1, .int x1), (2, .int x2)] [] μ (kI KI X) := by
  unfold pX9_readLine_109 at h
  refine Wr_iload_n dX9_readLine_109 rfl 2 rfl ?_
  refine Wr_iconstv (v := 1) dX9_readLine_110 (by decide) ?_
  refine Wr_icmp_ne 159 dX9_readLine_111 (by decide) (fun hc => ?_) (fun hc => ?_)
  · have h := h.2 hc
    refine Wr_iload_n dX9_readLine_159 rfl 2 rfl ?_
    refine Wr_iconstv (v := 2) dX9_readLine_160 (by decide) ?_
    refine Wr_icmp_ne 171 dX9_readLine_161 (by decide) (fun hc => ?_) (fun hc => ?_)
    · have h := h.2 hc
      refine Wr_iload_n dX9_readLine_171 rfl 2 rfl ?_
      refine Wr_iconstv (v := 4) dX9_readLine_172 (by decide) ?_
      refine Wr_icmp_ne 193 dX9_readLine_173 (by decide) (fun hc => ?_) (fun hc => ?_)
      · have h := h.2 hc
        refine Wr_iload_n dX9_readLine_193 rfl 2 rfl ?_
        refine Wr_bipush (v := 8) dX9_readLine_194 (by decide) ?_
        refine Wr_icmp_ne 216 dX9_readLine_196 (by decide) (fun hc => ?_) (fun hc => ?_)
        · have h := h.2 hc
          refine Wr_aload_n dX9_readLine_216 rfl 0 rfl ?_
          refine Wr_iconstv (v := 0) dX9_readLine_217 (by decide) ?_
          refine Wr_cVv [.int 0] dX9_readLine_218 mlX9_249 mgX9_readExpression rfl mvX9_readExpression (zrv zl106 _ rfl rfl) rfl rfl (Nat.le_of_ble_eq_true rfl) rfl (zcV.imp h (fun m1 h => ?_) (fun _ _ h => ⟨rfl, h⟩))
          refine Wr_goto 263 dX9_readLine_221 (by decide) ?_
          refine zsub [0, 1, 2] rfl ?_
          exact wX9_readLine_263 h
        · have h := h.1 hc
          refine Wr_aload_n dX9_readLine_199 rfl 0 rfl ?_
          refine Wr_getR 4 dX9_readLine_200 flX9_51 zl106 rfl (by decide) ?_
          refine Wr_bipush (v := 14) dX9_readLine_203 (by decide) ?_
          refine Wr_aload_n dX9_readLine_205 rfl 0 rfl ?_
          refine Wr_iconstv (v := 0) dX9_readLine_206 (by decide) ?_
          refine Wr_bipush (v := 24) dX9_readLine_207 (by decide) ?_
          refine Wr_cVi [.int 0, .int 24] dX9_readLine_209 mlX9_236 mgX9_readNumber rfl mvX9_readNumber (zrv zl106 _ rfl rfl) rfl rfl (Nat.le_of_ble_eq_true rfl) rfl (zcI.imp h (fun u3 m2 h => ?_) (fun _ _ h => ⟨rfl, h⟩))
          obtain ⟨m4, em4⟩ : ∃ z : zMem, z = zw m2 110 14 u3 := ⟨_, rfl⟩
          have h := h m4 em4
          refine Wr_iast dX9_readLine_212 zl110 (by unfold vp_in; decide) ?_
          refine Wr_mu em4 ?_
          refine Wr_goto 263 dX9_readLine_213 (by decide) ?_
          refine zsub [0, 1, 2] rfl ?_
          exact wX9_readLine_263 h
      · have h := h.1 hc
        refine Wr_aload_n dX9_readLine_176 rfl 0 rfl ?_
        refine Wr_getR 4 dX9_readLine_177 flX9_51 zl106 rfl (by decide) ?_
        refine Wr_bipush (v := 13) dX9_readLine_180 (by decide) ?_
        refine Wr_aload_n dX9_readLine_182 rfl 0 rfl ?_
        refine Wr_iconstv (v := 0) dX9_readLine_183 (by decide) ?_
        refine Wr_bipush (v := 20) dX9_readLine_184 (by decide) ?_
        refine Wr_cVi [.int 0, .int 20] dX9_readLine_186 mlX9_236 mgX9_readNumber rfl mvX9_readNumber (zrv zl106 _ rfl rfl) rfl rfl (Nat.le_of_ble_eq_true rfl) rfl (zcI.imp h (fun u6 m5 h => ?_) (fun _ _ h => ⟨rfl, h⟩))
        obtain ⟨m7, em7⟩ : ∃ z : zMem, z = zw m5 110 13 u6 := ⟨_, rfl⟩
        have h := h m7 em7
        refine Wr_iast dX9_readLine_189 zl110 (by unfold vp_in; decide) ?_
        refine Wr_mu em7 ?_
        refine Wr_goto 263 dX9_readLine_190 (by decide) ?_
        refine zsub [0, 1, 2] rfl ?_
        exact wX9_readLine_263 h
    · have h := h.1 hc
      refine Wr_aload_n dX9_readLine_164 rfl 0 rfl ?_
      refine Wr_cVv [] dX9_readLine_165 mlX9_286 mgX9_readGusts rfl mvX9_readGusts (zrv zl106 _ rfl rfl) rfl rfl (Nat.le_of_ble_eq_true rfl) rfl (zcV.imp h (fun m8 h => ?_) (fun _ _ h => ⟨rfl, h⟩))
      refine Wr_goto 263 dX9_readLine_168 (by decide) ?_
      refine zsub [0, 1, 2] rfl ?_
      exact wX9_readLine_263 h
  · have h := h.1 hc
    refine Wr_aload_n dX9_readLine_114 rfl 0 rfl ?_
    refine Wr_getR 4 dX9_readLine_115 flX9_51 zl106 rfl (by decide) ?_
    refine Wr_bipush (v := 12) dX9_readLine_118 (by decide) ?_
    refine Wr_aload_n dX9_readLine_120 rfl 0 rfl ?_
    refine Wr_aload_n dX9_readLine_121 rfl 0 rfl ?_
    refine Wr_getR 2 dX9_readLine_122 flX9_29 zl106 rfl (by decide) ?_
    refine Wr_cVi [.ref 108] dX9_readLine_125 mlX9_242 mgX9_which rfl mvX9_which (zrv zl106 _ rfl rfl) rfl rfl (Nat.le_of_ble_eq_true rfl) rfl (zcI.imp h (fun u10 m9 h => ?_) (fun _ _ h => ⟨rfl, h⟩))
    obtain ⟨m11, em11⟩ : ∃ z : zMem, z = zw m9 110 12 u10 := ⟨_, rfl⟩
    have h := h m11 em11
    refine Wr_iast dX9_readLine_128 zl110 (by unfold vp_in; decide) ?_
    refine Wr_mu em11 ?_
    refine Wr_aload_n dX9_readLine_129 rfl 0 rfl ?_
    refine Wr_getR 4 dX9_readLine_130 flX9_51 zl106 rfl (by decide) ?_
    refine Wr_bipush (v := 12) dX9_readLine_133 (by decide) ?_
    refine Wr_iald dX9_readLine_135 zl110 (by unfold vp_in; decide) ?_
    refine Wr_iconstv (v := (-1)) dX9_readLine_136 (by decide) ?_
    refine Wr_icmp_ne 145 dX9_readLine_137 (by decide) (fun hc => ?_) (fun hc => ?_)
    · have h := h.2 hc
      refine zsub [0, 1, 2] rfl ?_
      exact wX9_readLine_145 h
    · have h := h.1 hc
      refine Wr_aload_n dX9_readLine_140 rfl 0 rfl ?_
      refine Wr_iconstv (v := 1) dX9_readLine_141 (by decide) ?_
      refine Wr_cVv [.int 1] dX9_readLine_142 mlX9_226 mgX9_wrong rfl mvX9_wrong (zrv zl106 _ rfl rfl) rfl rfl (Nat.le_of_ble_eq_true rfl) rfl (zcV.imp h (fun m12 h => ?_) (fun _ _ h => ⟨rfl, h⟩))
      refine zsub [0, 1, 2] rfl ?_
      exact wX9_readLine_145 h
def pX9_readLine_252 (d : Nat) (x1 : Int32) (x2 : Int32) (μ : zMem) (KI : Int32 → zMem → Prop) (X : Nat → zMem → Prop) : Prop :=
  ((μ 106 19 = 0 → zcV d mX9_readWind [.ref 106] μ (fun m1 => pX9_readLine_263 d x1 x2 m1 KI X) X) ∧
  (¬ (μ 106 19 = 0) → pX9_readLine_263 d x1 x2 μ KI X))
set_option maxRecDepth 20000 in
theorem wX9_readLine_252 {d : Nat} {KI : Int32 → zMem → Prop} {X : Nat → zMem → Prop} {x1 : Int32} {x2 : Int32} {μ : zMem} (h : pX9_readLine_252 d x1 x2 μ KI X) : Wr mX9_readLine (d + 1) 0 252 [(0, .ref 106), (1, .int x1), (2, .int x2)] [] μ (kI KI X) := by
  unfold pX9_readLine_252 at h
  refine Wr_aload_n dX9_readLine_252 rfl 0 rfl ?_
  refine Wr_getI dX9_readLine_253 flX9_205 zl106 rfl ?_
  refine Wr_if_ne 263 dX9_readLine_256 (by decide) (fun hc => ?_) (fun hc => ?_)
  · have h := h.2 hc
    refine zsub [0, 1, 2] rfl ?_
    exact wX9_readLine_263 h
  · have h := h.1 hc
    refine Wr_aload_n dX9_readLine_259 rfl 0 rfl ?_
    refine Wr_cVv [] dX9_readLine_260 mlX9_294 mgX9_readWind rfl mvX9_readWind (zrv zl106 _ rfl rfl) rfl rfl (Nat.le_of_ble_eq_true rfl) rfl (zcV.imp h (fun m1 h => ?_) (fun _ _ h => ⟨rfl, h⟩))
    refine zsub [0, 1, 2] rfl ?_
    exact wX9_readLine_263 h
def pX9_readLine_94 (d : Nat) (x1 : Int32) (x2 : Int32) (x3 : Int32) (μ : zMem) (KI : Int32 → zMem → Prop) (X : Nat → zMem → Prop) : Prop :=
  ((x2 ≤ 0 → ((x3 = (-1) → zcI d mX9_is [.ref 106, .ref (1000 + 30)] μ (fun u2 m1 => ((u2 = 0 → zcV d mX9_wrong [.ref 106, .int 1] m1 (fun m3 => pX9_readLine_252 d x1 x2 m3 KI X) X) ∧
      (¬ (u2 = 0) → pX9_readLine_252 d x1 x2 m1 KI X))) X) ∧
    (¬ (x3 = (-1)) → zcV d mX9_readIsle [.ref 106, .int x3] μ (fun m4 => pX9_readLine_263 d x1 x2 m4 KI X) X))) ∧
  (¬ (x2 ≤ 0) → ((μ 106 19 = 0 → zcV d mX9_stepOn [.ref 106] μ (fun m5 => pX9_readLine_109 d x1 x2 m5 KI X) X) ∧
    (¬ (μ 106 19 = 0) → pX9_readLine_109 d x1 x2 μ KI X))))
set_option maxRecDepth 20000 in
theorem wX9_readLine_94 {d : Nat} {KI : Int32 → zMem → Prop} {X : Nat → zMem → Prop} {x1 : Int32} {x2 : Int32} {x3 : Int32} {μ : zMem} (h : pX9_readLine_94 d x1 x2 x3 μ KI X) : Wr mX9_readLine (d + 1) 0 94 [(0, .ref 106), (1, .int x1), (2, .int x2), (3, .int x3)] [] μ (kI KI X) := by
  unfold pX9_readLine_94 at h
  refine Wr_iload_n dX9_readLine_94 rfl 2 rfl ?_
  refine Wr_if_le 224 dX9_readLine_95 (by decide) (fun hc => ?_) (fun hc => ?_)
  · have h := h.1 hc
    refine Wr_iload_n dX9_readLine_224 rfl 3 rfl ?_
    refine Wr_iconstv (v := (-1)) dX9_readLine_225 (by decide) ?_
    refine Wr_icmp_eq 237 dX9_readLine_226 (by decide) (fun hc => ?_) (fun hc => ?_)
    · have h := h.1 hc
      refine Wr_aload_n dX9_readLine_237 rfl 0 rfl ?_
      refine Wr_ldcSw (sn := 30) (tx := "wind") dX9_readLine_238 (zst 30 (by decide +kernel)) ?_
      refine Wr_cVi [.ref (1000 + 30)] dX9_readLine_241 mlX9_219 mgX9_is rfl mvX9_is (zrv zl106 _ rfl rfl) rfl rfl (Nat.le_of_ble_eq_true rfl) rfl (zcI.imp h (fun u2 m1 h => ?_) (fun _ _ h => ⟨rfl, h⟩))
      refine Wr_if_ne 252 dX9_readLine_244 (by decide) (fun hc => ?_) (fun hc => ?_)
      · have h := h.2 hc
        refine zsub [0, 1, 2] rfl ?_
        exact wX9_readLine_252 h
      · have h := h.1 hc
        refine Wr_aload_n dX9_readLine_247 rfl 0 rfl ?_
        refine Wr_iconstv (v := 1) dX9_readLine_248 (by decide) ?_
        refine Wr_cVv [.int 1] dX9_readLine_249 mlX9_226 mgX9_wrong rfl mvX9_wrong (zrv zl106 _ rfl rfl) rfl rfl (Nat.le_of_ble_eq_true rfl) rfl (zcV.imp h (fun m3 h => ?_) (fun _ _ h => ⟨rfl, h⟩))
        refine zsub [0, 1, 2] rfl ?_
        exact wX9_readLine_252 h
    · have h := h.2 hc
      refine Wr_aload_n dX9_readLine_229 rfl 0 rfl ?_
      refine Wr_iload_n dX9_readLine_230 rfl 3 rfl ?_
      refine Wr_cVv [.int x3] dX9_readLine_231 mlX9_289 mgX9_readIsle rfl mvX9_readIsle (zrv zl106 _ rfl rfl) rfl rfl (Nat.le_of_ble_eq_true rfl) rfl (zcV.imp h (fun m4 h => ?_) (fun _ _ h => ⟨rfl, h⟩))
      refine Wr_goto 263 dX9_readLine_234 (by decide) ?_
      refine zsub [0, 1, 2] rfl ?_
      exact wX9_readLine_263 h
  · have h := h.2 hc
    refine Wr_aload_n dX9_readLine_98 rfl 0 rfl ?_
    refine Wr_getI dX9_readLine_99 flX9_205 zl106 rfl ?_
    refine Wr_if_ne 109 dX9_readLine_102 (by decide) (fun hc => ?_) (fun hc => ?_)
    · have h := h.2 hc
      refine zsub [0, 1, 2] rfl ?_
      exact wX9_readLine_109 h
    · have h := h.1 hc
      refine Wr_aload_n dX9_readLine_105 rfl 0 rfl ?_
      refine Wr_cVv [] dX9_readLine_106 mlX9_230 mgX9_stepOn rfl mvX9_stepOn (zrv zl106 _ rfl rfl) rfl rfl (Nat.le_of_ble_eq_true rfl) rfl (zcV.imp h (fun m5 h => ?_) (fun _ _ h => ⟨rfl, h⟩))
      refine zsub [0, 1, 2] rfl ?_
      exact wX9_readLine_109 h
def pX9_readLine_73 (d : Nat) (x1 : Int32) (y0 : Int32) (μ : zMem) (KI : Int32 → zMem → Prop) (X : Nat → zMem → Prop) : Prop :=
  zcI d mX9_which [.ref 106, .ref 107] μ (fun u2 m1 => ((y0 &&& x1 = 0 → pX9_readLine_94 d x1 y0 u2 m1 KI X) ∧
  (¬ (y0 &&& x1 = 0) → zcV d mX9_wrong [.ref 106, .int 5] m1 (fun m3 => pX9_readLine_94 d x1 y0 u2 m3 KI X) X))) X
set_option maxRecDepth 20000 in
theorem wX9_readLine_73 {d : Nat} {KI : Int32 → zMem → Prop} {X : Nat → zMem → Prop} {x1 : Int32} {y0 : Int32} {μ : zMem} (h : pX9_readLine_73 d x1 y0 μ KI X) : Wr mX9_readLine (d + 1) 0 73 [(0, .ref 106), (1, .int x1)] [.int y0] μ (kI KI X) := by
  unfold pX9_readLine_73 at h
  refine Wr_istore_n dX9_readLine_73 rfl (by decide) rfl ?_
  refine Wr_aload_n dX9_readLine_74 rfl 1 rfl ?_
  refine Wr_aload_n dX9_readLine_75 rfl 1 rfl ?_
  refine Wr_getR 1 dX9_readLine_76 flX9_15 zl106 rfl (by decide) ?_
  refine Wr_cVi [.ref 107] dX9_readLine_79 mlX9_242 mgX9_which rfl mvX9_which (zrv zl106 _ rfl rfl) rfl rfl (Nat.le_of_ble_eq_true rfl) rfl (zcI.imp h (fun u2 m1 h => ?_) (fun _ _ h => ⟨rfl, h⟩))
  refine Wr_istore_n dX9_readLine_82 rfl (by decide) rfl ?_
  refine Wr_iload_n dX9_readLine_83 rfl 1 rfl ?_
  refine Wr_iload_n dX9_readLine_84 rfl 3 rfl ?_
  refine Wr_iand dX9_readLine_85 ?_
  refine Wr_if_eq 94 dX9_readLine_86 (by decide) (fun hc => ?_) (fun hc => ?_)
  · have h := h.1 hc
    refine zsub [0, 1, 2, 3] rfl ?_
    exact wX9_readLine_94 h
  · have h := h.2 hc
    refine Wr_aload_n dX9_readLine_89 rfl 2 rfl ?_
    refine Wr_iconstv (v := 5) dX9_readLine_90 (by decide) ?_
    refine Wr_cVv [.int 5] dX9_readLine_91 mlX9_226 mgX9_wrong rfl mvX9_wrong (zrv zl106 _ rfl rfl) rfl rfl (Nat.le_of_ble_eq_true rfl) rfl (zcV.imp h (fun m3 h => ?_) (fun _ _ h => ⟨rfl, h⟩))
    refine zsub [0, 1, 2, 3] rfl ?_
    exact wX9_readLine_94 h
def pX9_readLine (d : Nat) (x1 : Int32) (μ : zMem) (KI : Int32 → zMem → Prop) (X : Nat → zMem → Prop) : Prop :=
  zcI d mX9_is [.ref 106, .ref (1000 + 25)] μ (fun u2 m1 => ((u2 = 0 → zcI d mX9_is [.ref 106, .ref (1000 + 26)] m1 (fun u4 m3 => ((u4 = 0 → zcI d mX9_is [.ref 106, .ref (1000 + 27)] m3 (fun u6 m5 => ((u6 = 0 → zcI d mX9_is [.ref 106, .ref (1000 + 28)] m5 (fun u8 m7 => ((u8 = 0 → zcI d mX9_is [.ref 106, .ref (1000 + 29)] m7 (fun u10 m9 => pX9_readLine_73 d x1 (if u10 = 0 then 0 else 16) m9 KI X) X) ∧
        (¬ (u8 = 0) → pX9_readLine_73 d x1 8 m7 KI X))) X) ∧
      (¬ (u6 = 0) → pX9_readLine_73 d x1 4 m5 KI X))) X) ∧
    (¬ (u4 = 0) → pX9_readLine_73 d x1 2 m3 KI X))) X) ∧
  (¬ (u2 = 0) → pX9_readLine_73 d x1 1 m1 KI X))) X
set_option maxRecDepth 20000 in
theorem wX9_readLine_0 {d : Nat} {KI : Int32 → zMem → Prop} {X : Nat → zMem → Prop} {x1 : Int32} {μ : zMem} (h : pX9_readLine d x1 μ KI X) : Wr mX9_readLine (d + 1) 0 0 [(0, .ref 106), (1, .int x1)] [] μ (kI KI X) := by
  unfold pX9_readLine at h
  refine Wr_aload_n dX9_readLine_0 rfl 0 rfl ?_
  refine Wr_ldcSw (sn := 25) (tx := "church") dX9_readLine_1 (zst 25 (by decide +kernel)) ?_
  refine Wr_cVi [.ref (1000 + 25)] dX9_readLine_4 mlX9_219 mgX9_is rfl mvX9_is (zrv zl106 _ rfl rfl) rfl rfl (Nat.le_of_ble_eq_true rfl) rfl (zcI.imp h (fun u2 m1 h => ?_) (fun _ _ h => ⟨rfl, h⟩))
  refine Wr_if_eq 14 dX9_readLine_7 (by decide) (fun hc => ?_) (fun hc => ?_)
  · have h := h.1 hc
    refine Wr_aload_n dX9_readLine_14 rfl 0 rfl ?_
    refine Wr_ldcSw (sn := 26) (tx := "gusts") dX9_readLine_15 (zst 26 (by decide +kernel)) ?_
    refine Wr_cVi [.ref (1000 + 26)] dX9_readLine_18 mlX9_219 mgX9_is rfl mvX9_is (zrv zl106 _ rfl rfl) rfl rfl (Nat.le_of_ble_eq_true rfl) rfl (zcI.imp h (fun u4 m3 h => ?_) (fun _ _ h => ⟨rfl, h⟩))
    refine Wr_if_eq 28 dX9_readLine_21 (by decide) (fun hc => ?_) (fun hc => ?_)
    · have h := h.1 hc
      refine Wr_aload_n dX9_readLine_28 rfl 0 rfl ?_
      refine Wr_ldcSw (sn := 27) (tx := "reach") dX9_readLine_29 (zst 27 (by decide +kernel)) ?_
      refine Wr_cVi [.ref (1000 + 27)] dX9_readLine_32 mlX9_219 mgX9_is rfl mvX9_is (zrv zl106 _ rfl rfl) rfl rfl (Nat.le_of_ble_eq_true rfl) rfl (zcI.imp h (fun u6 m5 h => ?_) (fun _ _ h => ⟨rfl, h⟩))
      refine Wr_if_eq 42 dX9_readLine_35 (by decide) (fun hc => ?_) (fun hc => ?_)
      · have h := h.1 hc
        refine Wr_aload_n dX9_readLine_42 rfl 0 rfl ?_
        refine Wr_ldcSw (sn := 28) (tx := "light") dX9_readLine_43 (zst 28 (by decide +kernel)) ?_
        refine Wr_cVi [.ref (1000 + 28)] dX9_readLine_46 mlX9_219 mgX9_is rfl mvX9_is (zrv zl106 _ rfl rfl) rfl rfl (Nat.le_of_ble_eq_true rfl) rfl (zcI.imp h (fun u8 m7 h => ?_) (fun _ _ h => ⟨rfl, h⟩))
        refine Wr_if_eq 57 dX9_readLine_49 (by decide) (fun hc => ?_) (fun hc => ?_)
        · have h := h.1 hc
          refine Wr_aload_n dX9_readLine_57 rfl 0 rfl ?_
          refine Wr_ldcSw (sn := 29) (tx := "push") dX9_readLine_58 (zst 29 (by decide +kernel)) ?_
          refine Wr_cVi [.ref (1000 + 29)] dX9_readLine_61 mlX9_219 mgX9_is rfl mvX9_is (zrv zl106 _ rfl rfl) rfl rfl (Nat.le_of_ble_eq_true rfl) rfl (zcI.imp h (fun u10 m9 h => ?_) (fun _ _ h => ⟨rfl, h⟩))
          have hj1 : Wr mX9_readLine (d + 1) 0 73 [(0, .ref 106), (1, .int x1)] [.int (if u10 = 0 then 0 else 16)] m9 (kI KI X) := by
            refine zsub [0, 1] rfl ?_
            exact wX9_readLine_73 h
          refine Wr_if_eq 72 dX9_readLine_64 (by decide) (fun hc0 => ?_) (fun hc0 => ?_)
          · skip
            refine Wr_iconstv (v := 0) dX9_readLine_72 (by decide) ?_
            exact Wr_top (if_pos hc0) hj1
          · skip
            refine Wr_bipush (v := 16) dX9_readLine_67 (by decide) ?_
            refine Wr_goto 73 dX9_readLine_69 (by decide) ?_
            exact Wr_top (if_neg hc0) hj1
        · have h := h.2 hc
          refine Wr_bipush (v := 8) dX9_readLine_52 (by decide) ?_
          refine Wr_goto 73 dX9_readLine_54 (by decide) ?_
          refine zsub [0, 1] rfl ?_
          exact wX9_readLine_73 h
      · have h := h.2 hc
        refine Wr_iconstv (v := 4) dX9_readLine_38 (by decide) ?_
        refine Wr_goto 73 dX9_readLine_39 (by decide) ?_
        refine zsub [0, 1] rfl ?_
        exact wX9_readLine_73 h
    · have h := h.2 hc
      refine Wr_iconstv (v := 2) dX9_readLine_24 (by decide) ?_
      refine Wr_goto 73 dX9_readLine_25 (by decide) ?_
      refine zsub [0, 1] rfl ?_
      exact wX9_readLine_73 h
  · have h := h.2 hc
    refine Wr_iconstv (v := 1) dX9_readLine_10 (by decide) ?_
    refine Wr_goto 73 dX9_readLine_11 (by decide) ?_
    refine zsub [0, 1] rfl ?_
    exact wX9_readLine_73 h
theorem cX9_readLine_ {d : Nat} {x1 : Int32} {μ : zMem} {KI : Int32 → zMem → Prop} {X : Nat → zMem → Prop} (h : pX9_readLine d x1 μ KI X) : zcI (d + 1) mX9_readLine [.ref 106, .int x1] μ KI X :=
  Ex_of (w := 2) mgX9_readLine.2.2.2.2.2 rfl rfl rfl (by decide) (wX9_readLine_0 h)

def pX9_sky_17 (d : Nat) (μ : zMem) (KI : Int32 → zMem → Prop) (X : Nat → zMem → Prop) : Prop :=
  zcI d mX9_fail [.ref 106, .int 1] μ (fun u2 m1 => KI u2 m1) X
set_option maxRecDepth 20000 in
theorem wX9_sky_17 {d : Nat} {KI : Int32 → zMem → Prop} {X : Nat → zMem → Prop} {μ : zMem} (h : pX9_sky_17 d μ KI X) : Wr mX9_sky (d + 1) 0 17 [(0, .ref 106)] [] μ (kI KI X) := by
  unfold pX9_sky_17 at h
  refine Wr_aload_n dX9_sky_17 rfl 0 rfl ?_
  refine Wr_iconstv (v := 1) dX9_sky_18 (by decide) ?_
  refine Wr_cVi [.int 1] dX9_sky_19 mlX9_297 mgX9_fail rfl mvX9_fail (zrv zl106 _ rfl rfl) rfl rfl (Nat.le_of_ble_eq_true rfl) rfl (zcI.imp h (fun u2 m1 h => ?_) (fun _ _ h => ⟨rfl, h⟩))
  exact Wr_iret .int dX9_sky_22 rfl rfl ⟨rfl, h⟩
def pX9_sky_129 (d : Nat) (μ : zMem) (KI : Int32 → zMem → Prop) (X : Nat → zMem → Prop) : Prop :=
  ((μ 106 19 = 0 → zcV d mX9_takeOver [.ref 106] μ (fun m1 => KI 0 m1) X) ∧
  (¬ (μ 106 19 = 0) → ∀ m2 : zMem, m2 = zw μ 106 21 (μ 106 20) → ∀ m3 : zMem, m3 = zw m2 116 0 ((m2 116 0) + 1) → KI (m3 106 19) m3))
set_option maxRecDepth 20000 in
theorem wX9_sky_129 {d : Nat} {KI : Int32 → zMem → Prop} {X : Nat → zMem → Prop} {μ : zMem} (h : pX9_sky_129 d μ KI X) : Wr mX9_sky (d + 1) 0 129 [(0, .ref 106)] [] μ (kI KI X) := by
  unfold pX9_sky_129 at h
  refine Wr_aload_n dX9_sky_129 rfl 0 rfl ?_
  refine Wr_getI dX9_sky_130 flX9_205 zl106 rfl ?_
  refine Wr_if_eq 159 dX9_sky_133 (by decide) (fun hc => ?_) (fun hc => ?_)
  · have h := h.1 hc
    refine Wr_aload_n dX9_sky_159 rfl 0 rfl ?_
    refine Wr_cVv [] dX9_sky_160 mlX9_303 mgX9_takeOver rfl mvX9_takeOver (zrv zl106 _ rfl rfl) rfl rfl (Nat.le_of_ble_eq_true rfl) rfl (zcV.imp h (fun m1 h => ?_) (fun _ _ h => ⟨rfl, h⟩))
    refine Wr_iconstv (v := 0) dX9_sky_163 (by decide) ?_
    exact Wr_iret .int dX9_sky_164 rfl rfl ⟨rfl, h⟩
  · have h := h.2 hc
    refine Wr_aload_n dX9_sky_136 rfl 0 rfl ?_
    refine Wr_aload_n dX9_sky_137 rfl 0 rfl ?_
    refine Wr_getI dX9_sky_138 flX9_208 zl106 rfl ?_
    obtain ⟨m2, em2⟩ : ∃ z : zMem, z = zw μ 106 21 (μ 106 20) := ⟨_, rfl⟩
    have h := h m2 em2
    refine Wr_putI dX9_sky_141 fpX9_76 zl106 rfl ?_
    refine Wr_mu em2 ?_
    refine Wr_aload_n dX9_sky_144 rfl 0 rfl ?_
    refine Wr_getR 10 dX9_sky_145 flX9_70 zl106 rfl (by decide) ?_
    refine Wr_iconstv (v := 0) dX9_sky_148 (by decide) ?_
    refine Wr_dup2 dX9_sky_149 rfl rfl ?_
    refine Wr_iald dX9_sky_150 zl116 (by unfold vp_in; decide) ?_
    refine Wr_iconstv (v := 1) dX9_sky_151 (by decide) ?_
    refine Wr_iadd dX9_sky_152 ?_
    obtain ⟨m3, em3⟩ : ∃ z : zMem, z = zw m2 116 0 ((m2 116 0) + 1) := ⟨_, rfl⟩
    have h := h m3 em3
    refine Wr_iast dX9_sky_153 zl116 (by unfold vp_in; decide) ?_
    refine Wr_mu em3 ?_
    refine Wr_aload_n dX9_sky_154 rfl 0 rfl ?_
    refine Wr_getI dX9_sky_155 flX9_205 zl106 rfl ?_
    exact Wr_iret .int dX9_sky_158 rfl rfl ⟨rfl, h⟩
def pX9_sky_106 : Nat → Nat → Int32 → zMem → (Int32 → zMem → Prop) → (Nat → zMem → Prop) → Prop
  | 0, _, _, _, _, _ => False
  | n + 1, d, x2, μ, KI, X =>
  ((μ 106 19 = 0 → ((μ 106 15 = 0 → pX9_sky_129 d μ KI X) ∧
    (¬ (μ 106 15 = 0) → zcI d mX9_readLine [.ref 106, .int x2] μ (fun u2 m1 => pX9_sky_106 n d u2 m1 KI X) X))) ∧
  (¬ (μ 106 19 = 0) → pX9_sky_129 d μ KI X))
set_option maxRecDepth 20000 in
theorem wX9_sky_106 {d : Nat} {KI : Int32 → zMem → Prop} {X : Nat → zMem → Prop} : ∀ (n : Nat) (x2 : Int32) (μ : zMem), pX9_sky_106 n d x2 μ KI X → Wr mX9_sky (d + 1) 0 106 [(0, .ref 106), (2, .int x2)] [] μ (kI KI X) := by
  intro n
  induction n with
  | zero =>
    intro x2 μ h
    exact absurd h id
  | succ n ih =>
    intro x2 μ h
    unfold pX9_sky_106 at h
    refine Wr_aload_n dX9_sky_106 rfl 0 rfl ?_
    refine Wr_getI dX9_sky_107 flX9_205 zl106 rfl ?_
    refine Wr_if_ne 129 dX9_sky_110 (by decide) (fun hc => ?_) (fun hc => ?_)
    · have h := h.2 hc
      refine zsub [0] rfl ?_
      exact wX9_sky_129 h
    · have h := h.1 hc
      refine Wr_aload_n dX9_sky_113 rfl 0 rfl ?_
      refine Wr_getI dX9_sky_114 flX9_179 zl106 rfl ?_
      refine Wr_if_eq 129 dX9_sky_117 (by decide) (fun hc => ?_) (fun hc => ?_)
      · have h := h.1 hc
        refine zsub [0] rfl ?_
        exact wX9_sky_129 h
      · have h := h.2 hc
        refine Wr_aload_n dX9_sky_120 rfl 0 rfl ?_
        refine Wr_iload_n dX9_sky_121 rfl 1 rfl ?_
        refine Wr_cVi [.int x2] dX9_sky_122 mlX9_300 mgX9_readLine rfl mvX9_readLine (zrv zl106 _ rfl rfl) rfl rfl (Nat.le_of_ble_eq_true rfl) rfl (zcI.imp h (fun u2 m1 h => ?_) (fun _ _ h => ⟨rfl, h⟩))
        refine Wr_istore_n dX9_sky_125 rfl (by decide) rfl ?_
        refine Wr_goto 106 dX9_sky_126 (by decide) ?_
        refine zsub [0, 2] rfl ?_
        exact ih _ _ h
def pX9_sky_50 : Nat → Nat → Int32 → zMem → (Int32 → zMem → Prop) → (Nat → zMem → Prop) → Prop
  | 0, _, _, _, _, _ => False
  | n + 1, d, x2, μ, KI, X =>
  ((10 ≤ x2 → zcV d mX9_stepOn [.ref 106] μ (fun m1 => ∃ n2 : Nat, pX9_sky_106 n2 d 0 m1 KI X) X) ∧
  (¬ (10 ≤ x2) → (vp_in (10 + x2) 20) ∧ ∀ m2 : zMem, m2 = zw μ 110 (10 + x2).toNatClampNeg (if x2 = 3 then 2 else (if x2 = 4 then 8 else (if x2 = 5 then 1 else 0))) → ∀ v3 : Int32, v3 = x2 + 1 → pX9_sky_50 n d v3 m2 KI X))
set_option maxRecDepth 20000 in
theorem wX9_sky_50 {d : Nat} {KI : Int32 → zMem → Prop} {X : Nat → zMem → Prop} : ∀ (n : Nat) (x2 : Int32) (μ : zMem), pX9_sky_50 n d x2 μ KI X → Wr mX9_sky (d + 1) 0 50 [(0, .ref 106), (2, .int x2)] [] μ (kI KI X) := by
  intro n
  induction n with
  | zero =>
    intro x2 μ h
    exact absurd h id
  | succ n ih =>
    intro x2 μ h
    unfold pX9_sky_50 at h
    refine Wr_iload_n dX9_sky_50 rfl 1 rfl ?_
    refine Wr_bipush (v := 10) dX9_sky_51 (by decide) ?_
    refine Wr_icmp_ge 100 dX9_sky_53 (by decide) (fun hc => ?_) (fun hc => ?_)
    · have h := h.1 hc
      refine Wr_aload_n dX9_sky_100 rfl 0 rfl ?_
      refine Wr_cVv [] dX9_sky_101 mlX9_230 mgX9_stepOn rfl mvX9_stepOn (zrv zl106 _ rfl rfl) rfl rfl (Nat.le_of_ble_eq_true rfl) rfl (zcV.imp h (fun m1 h => ?_) (fun _ _ h => ⟨rfl, h⟩))
      refine Wr_iconstv (v := 0) dX9_sky_104 (by decide) ?_
      refine Wr_istore_n dX9_sky_105 rfl (by decide) rfl ?_
      refine zsub [0, 2] rfl ?_
      obtain ⟨n9, h⟩ := h
      exact wX9_sky_106 n9 _ _ h
    · have h := h.2 hc
      refine Wr_aload_n dX9_sky_56 rfl 0 rfl ?_
      refine Wr_getR 4 dX9_sky_57 flX9_51 zl106 rfl (by decide) ?_
      refine Wr_bipush (v := 10) dX9_sky_60 (by decide) ?_
      refine Wr_iload_n dX9_sky_62 rfl 1 rfl ?_
      refine Wr_iadd dX9_sky_63 ?_
      refine Wr_iload_n dX9_sky_64 rfl 1 rfl ?_
      refine Wr_iconstv (v := 3) dX9_sky_65 (by decide) ?_
      have hj1 : Wr mX9_sky (d + 1) 0 93 [(0, .ref 106), (2, .int x2)] [.int (if x2 = 3 then 2 else (if x2 = 4 then 8 else (if x2 = 5 then 1 else 0))), .int (10 + x2), .ref 110] μ (kI KI X) := by
        obtain ⟨him2, h⟩ := h
        obtain ⟨m2, em2⟩ : ∃ z : zMem, z = zw μ 110 (10 + x2).toNatClampNeg (if x2 = 3 then 2 else (if x2 = 4 then 8 else (if x2 = 5 then 1 else 0))) := ⟨_, rfl⟩
        have h := h m2 em2
        refine Wr_iast dX9_sky_93 zl110 him2 ?_
        refine Wr_mu em2 ?_
        obtain ⟨v3, ev3⟩ : ∃ z : Int32, z = x2 + 1 := ⟨_, rfl⟩
        have h := h v3 ev3
        refine Wr_iinc (v := v3) dX9_sky_94 (q := 1) rfl (by rw [ev3]; rfl) (by decide) rfl ?_
        refine Wr_goto 50 dX9_sky_97 (by decide) ?_
        refine zsub [0, 2] rfl ?_
        exact ih _ _ h
      refine Wr_icmp_ne 73 dX9_sky_66 (by decide) (fun hc0 => ?_) (fun hc0 => ?_)
      · skip
        refine Wr_iload_n dX9_sky_73 rfl 1 rfl ?_
        refine Wr_iconstv (v := 4) dX9_sky_74 (by decide) ?_
        refine Wr_icmp_ne 83 dX9_sky_75 (by decide) (fun hc1 => ?_) (fun hc1 => ?_)
        · skip
          refine Wr_iload_n dX9_sky_83 rfl 1 rfl ?_
          refine Wr_iconstv (v := 5) dX9_sky_84 (by decide) ?_
          refine Wr_icmp_ne 92 dX9_sky_85 (by decide) (fun hc2 => ?_) (fun hc2 => ?_)
          · skip
            refine Wr_iconstv (v := 0) dX9_sky_92 (by decide) ?_
            exact Wr_top ((if_neg hc0).trans ((if_neg hc1).trans (if_neg hc2))) hj1
          · skip
            refine Wr_iconstv (v := 1) dX9_sky_88 (by decide) ?_
            refine Wr_goto 93 dX9_sky_89 (by decide) ?_
            exact Wr_top ((if_neg hc0).trans ((if_neg hc1).trans (if_pos hc2))) hj1
        · skip
          refine Wr_bipush (v := 8) dX9_sky_78 (by decide) ?_
          refine Wr_goto 93 dX9_sky_80 (by decide) ?_
          exact Wr_top ((if_neg hc0).trans (if_pos hc1)) hj1
      · skip
        refine Wr_iconstv (v := 2) dX9_sky_69 (by decide) ?_
        refine Wr_goto 93 dX9_sky_70 (by decide) ?_
        exact Wr_top (if_pos hc0) hj1
def pX9_sky (d : Nat) (x1 : Int32) (μ : zMem) (KI : Int32 → zMem → Prop) (X : Nat → zMem → Prop) : Prop :=
  ∀ m1 : zMem, m1 = zw μ 106 3 0 → ((x1 < 0 → pX9_sky_17 d m1 KI X) ∧
  (¬ (x1 < 0) → ((x1 ≤ m1 106 12 → ∀ m2 : zMem, m2 = zw m1 106 12 0 → ∀ m3 : zMem, m3 = zw m2 106 14 x1 → ∀ m4 : zMem, m4 = zw m3 106 13 0 → ∀ m5 : zMem, m5 = zw m4 106 19 0 → ∀ m6 : zMem, m6 = zw m5 106 21 (-1) → ∃ n2 : Nat, pX9_sky_50 n2 d 0 m6 KI X) ∧
    (¬ (x1 ≤ m1 106 12) → pX9_sky_17 d m1 KI X))))
set_option maxRecDepth 20000 in
theorem wX9_sky_0 {d : Nat} {KI : Int32 → zMem → Prop} {X : Nat → zMem → Prop} {x1 : Int32} {μ : zMem} (h : pX9_sky d x1 μ KI X) : Wr mX9_sky (d + 1) 0 0 [(0, .ref 106), (1, .int x1)] [] μ (kI KI X) := by
  unfold pX9_sky at h
  refine Wr_aload_n dX9_sky_0 rfl 0 rfl ?_
  refine Wr_iconstv (v := 0) dX9_sky_1 (by decide) ?_
  obtain ⟨m1, em1⟩ : ∃ z : zMem, z = zw μ 106 3 0 := ⟨_, rfl⟩
  have h := h m1 em1
  refine Wr_putI dX9_sky_2 fpX9_155 zl106 rfl ?_
  refine Wr_mu em1 ?_
  refine Wr_iload_n dX9_sky_5 rfl 1 rfl ?_
  refine Wr_if_lt 17 dX9_sky_6 (by decide) (fun hc => ?_) (fun hc => ?_)
  · have h := h.1 hc
    refine zsub [0] rfl ?_
    exact wX9_sky_17 h
  · have h := h.2 hc
    refine Wr_iload_n dX9_sky_9 rfl 1 rfl ?_
    refine Wr_aload_n dX9_sky_10 rfl 0 rfl ?_
    refine Wr_getI dX9_sky_11 flX9_164 zl106 rfl ?_
    refine Wr_icmp_le 23 dX9_sky_14 (by decide) (fun hc => ?_) (fun hc => ?_)
    · have h := h.1 hc
      refine Wr_aload_n dX9_sky_23 rfl 0 rfl ?_
      refine Wr_iconstv (v := 0) dX9_sky_24 (by decide) ?_
      obtain ⟨m2, em2⟩ : ∃ z : zMem, z = zw m1 106 12 0 := ⟨_, rfl⟩
      have h := h m2 em2
      refine Wr_putI dX9_sky_25 fpX9_164 zl106 rfl ?_
      refine Wr_mu em2 ?_
      refine Wr_aload_n dX9_sky_28 rfl 0 rfl ?_
      refine Wr_iload_n dX9_sky_29 rfl 1 rfl ?_
      obtain ⟨m3, em3⟩ : ∃ z : zMem, z = zw m2 106 14 x1 := ⟨_, rfl⟩
      have h := h m3 em3
      refine Wr_putI dX9_sky_30 fpX9_167 zl106 rfl ?_
      refine Wr_mu em3 ?_
      refine Wr_aload_n dX9_sky_33 rfl 0 rfl ?_
      refine Wr_iconstv (v := 0) dX9_sky_34 (by decide) ?_
      obtain ⟨m4, em4⟩ : ∃ z : zMem, z = zw m3 106 13 0 := ⟨_, rfl⟩
      have h := h m4 em4
      refine Wr_putI dX9_sky_35 fpX9_169 zl106 rfl ?_
      refine Wr_mu em4 ?_
      refine Wr_aload_n dX9_sky_38 rfl 0 rfl ?_
      refine Wr_iconstv (v := 0) dX9_sky_39 (by decide) ?_
      obtain ⟨m5, em5⟩ : ∃ z : zMem, z = zw m4 106 19 0 := ⟨_, rfl⟩
      have h := h m5 em5
      refine Wr_putI dX9_sky_40 fpX9_205 zl106 rfl ?_
      refine Wr_mu em5 ?_
      refine Wr_aload_n dX9_sky_43 rfl 0 rfl ?_
      refine Wr_iconstv (v := (-1)) dX9_sky_44 (by decide) ?_
      obtain ⟨m6, em6⟩ : ∃ z : zMem, z = zw m5 106 21 (-1) := ⟨_, rfl⟩
      have h := h m6 em6
      refine Wr_putI dX9_sky_45 fpX9_76 zl106 rfl ?_
      refine Wr_mu em6 ?_
      refine Wr_iconstv (v := 0) dX9_sky_48 (by decide) ?_
      refine Wr_istore_n dX9_sky_49 rfl (by decide) rfl ?_
      refine zsub [0, 2] rfl ?_
      obtain ⟨n9, h⟩ := h
      exact wX9_sky_50 n9 _ _ h
    · have h := h.2 hc
      refine zsub [0] rfl ?_
      exact wX9_sky_17 h
theorem cX9_sky_ {d : Nat} {x1 : Int32} {μ : zMem} {KI : Int32 → zMem → Prop} {X : Nat → zMem → Prop} (h : pX9_sky d x1 μ KI X) : zcI (d + 1) mX9_sky [.ref 106, .int x1] μ KI X :=
  Ex_of (w := 2) mgX9_sky.2.2.2.2.2 rfl rfl rfl (by decide) (wX9_sky_0 h)

def pX9_takeHalf_2 : Nat → Nat → Nat → Nat → Int32 → zMem → (zMem → Prop) → (Nat → zMem → Prop) → Prop
  | 0, _, _, _, _, _, _, _ => False
  | n + 1, d, a0, n0, x1, μ, KV, X =>
  (((Int32.ofNat n0) / 2 ≤ x1 → KV μ) ∧
  (¬ ((Int32.ofNat n0) / 2 ≤ x1) → (vp_in (((Int32.ofNat n0) / 2) + x1) n0) ∧ (vp_in x1 n0) ∧ ∀ m1 : zMem, m1 = zw μ a0 x1.toNatClampNeg (μ a0 (((Int32.ofNat n0) / 2) + x1).toNatClampNeg) → ∀ v2 : Int32, v2 = x1 + 1 → pX9_takeHalf_2 n d a0 n0 v2 m1 KV X))
set_option maxRecDepth 20000 in
theorem wX9_takeHalf_2 {d : Nat} {a0 : Nat} {n0 : Nat} {KV : zMem → Prop} {X : Nat → zMem → Prop} (ha0 : zsh a0 = .inl (0, n0)) : ∀ (n : Nat) (x1 : Int32) (μ : zMem), pX9_takeHalf_2 n d a0 n0 x1 μ KV X → Wr mX9_takeHalf (d + 1) 0 2 [(0, .ref a0), (1, .int x1)] [] μ (kV KV X) := by
  intro n
  induction n with
  | zero =>
    intro x1 μ h
    exact absurd h id
  | succ n ih =>
    intro x1 μ h
    unfold pX9_takeHalf_2 at h
    refine Wr_iload_n dX9_takeHalf_2 rfl 1 rfl ?_
    refine Wr_aload_n dX9_takeHalf_3 rfl 0 rfl ?_
    refine Wr_alen dX9_takeHalf_4 ha0 (by decide) ?_
    refine Wr_iconstv (v := 2) dX9_takeHalf_5 (by decide) ?_
    refine Wr_idiv dX9_takeHalf_6 (by decide) ?_
    refine Wr_icmp_ge 27 dX9_takeHalf_7 (by decide) (fun hc => ?_) (fun hc => ?_)
    · have h := h.1 hc
      exact Wr_vret dX9_takeHalf_27 rfl ⟨rfl, h⟩
    · have h := h.2 hc
      refine Wr_aload_n dX9_takeHalf_10 rfl 0 rfl ?_
      refine Wr_iload_n dX9_takeHalf_11 rfl 1 rfl ?_
      refine Wr_aload_n dX9_takeHalf_12 rfl 0 rfl ?_
      refine Wr_aload_n dX9_takeHalf_13 rfl 0 rfl ?_
      refine Wr_alen dX9_takeHalf_14 ha0 (by decide) ?_
      refine Wr_iconstv (v := 2) dX9_takeHalf_15 (by decide) ?_
      refine Wr_idiv dX9_takeHalf_16 (by decide) ?_
      refine Wr_iload_n dX9_takeHalf_17 rfl 1 rfl ?_
      refine Wr_iadd dX9_takeHalf_18 ?_
      obtain ⟨hi, h⟩ := h
      refine Wr_iald dX9_takeHalf_19 ha0 hi ?_
      obtain ⟨him1, h⟩ := h
      obtain ⟨m1, em1⟩ : ∃ z : zMem, z = zw μ a0 x1.toNatClampNeg (μ a0 (((Int32.ofNat n0) / 2) + x1).toNatClampNeg) := ⟨_, rfl⟩
      have h := h m1 em1
      refine Wr_iast dX9_takeHalf_20 ha0 him1 ?_
      refine Wr_mu em1 ?_
      obtain ⟨v2, ev2⟩ : ∃ z : Int32, z = x1 + 1 := ⟨_, rfl⟩
      have h := h v2 ev2
      refine Wr_iinc (v := v2) dX9_takeHalf_21 (q := 1) rfl (by rw [ev2]; rfl) (by decide) rfl ?_
      refine Wr_goto 2 dX9_takeHalf_24 (by decide) ?_
      refine zsub [0, 1] rfl ?_
      exact ih _ _ h
def pX9_takeHalf (d : Nat) (a0 : Nat) (n0 : Nat) (μ : zMem) (KV : zMem → Prop) (X : Nat → zMem → Prop) : Prop :=
  ∃ n2 : Nat, pX9_takeHalf_2 n2 d a0 n0 0 μ KV X
set_option maxRecDepth 20000 in
theorem wX9_takeHalf_0 {d : Nat} {a0 : Nat} {n0 : Nat} {KV : zMem → Prop} {X : Nat → zMem → Prop} {μ : zMem} (ha0 : zsh a0 = .inl (0, n0)) (h : pX9_takeHalf d a0 n0 μ KV X) : Wr mX9_takeHalf (d + 1) 0 0 [(0, .ref a0)] [] μ (kV KV X) := by
  unfold pX9_takeHalf at h
  refine Wr_iconstv (v := 0) dX9_takeHalf_0 (by decide) ?_
  refine Wr_istore_n dX9_takeHalf_1 rfl (by decide) rfl ?_
  refine zsub [0, 1] rfl ?_
  obtain ⟨n9, h⟩ := h
  exact wX9_takeHalf_2 ha0 n9 _ _ h
theorem cX9_takeHalf_ {d : Nat} {a0 : Nat} {n0 : Nat} {μ : zMem} {KV : zMem → Prop} {X : Nat → zMem → Prop} (ha0 : zsh a0 = .inl (0, n0)) (h : pX9_takeHalf d a0 n0 μ KV X) : zcV (d + 1) mX9_takeHalf [.ref a0] μ KV X :=
  Ex_of (w := 1) mgX9_takeHalf.2.2.2.2.2 rfl rfl rfl (by decide) (wX9_takeHalf_0 ha0 h)

def pX9_takeOver (d : Nat) (μ : zMem) (KV : zMem → Prop) (X : Nat → zMem → Prop) : Prop :=
  zcV d mX9_takeHalf [.ref 110] μ (fun m1 => zcV d mX9_takeHalf [.ref 111] m1 (fun m2 => zcV d mX9_takeHalf [.ref 112] m2 (fun m3 => zcV d mX9_takeHalf [.ref 113] m3 (fun m4 => zcV d mX9_takeHalf [.ref 114] m4 (fun m5 => zcV d mX9_takeHalf [.ref 115] m5 (fun m6 => ∀ m7 : zMem, m7 = zw m6 106 27 0 → ∀ m8 : zMem, m8 = zw m7 106 28 0 → ∀ m9 : zMem, m9 = zw m8 106 29 0 → ∀ m10 : zMem, m10 = zw m9 106 36 0 → ∀ m11 : zMem, m11 = zw m10 106 53 0 → KV m11) X) X) X) X) X) X
set_option maxRecDepth 20000 in
theorem wX9_takeOver_0 {d : Nat} {KV : zMem → Prop} {X : Nat → zMem → Prop} {μ : zMem} (h : pX9_takeOver d μ KV X) : Wr mX9_takeOver (d + 1) 0 0 [(0, .ref 106)] [] μ (kV KV X) := by
  unfold pX9_takeOver at h
  refine Wr_aload_n dX9_takeOver_0 rfl 0 rfl ?_
  refine Wr_getR 4 dX9_takeOver_1 flX9_51 zl106 rfl (by decide) ?_
  refine Wr_cSv [.ref 110] dX9_takeOver_4 mlX9_306 mgX9_takeHalf rfl msX9_takeHalf  rfl rfl (Nat.le_of_ble_eq_true rfl) rfl (zcV.imp h (fun m1 h => ?_) (fun _ _ h => ⟨rfl, h⟩))
  refine Wr_aload_n dX9_takeOver_7 rfl 0 rfl ?_
  refine Wr_getR 5 dX9_takeOver_8 flX9_55 zl106 rfl (by decide) ?_
  refine Wr_cSv [.ref 111] dX9_takeOver_11 mlX9_306 mgX9_takeHalf rfl msX9_takeHalf  rfl rfl (Nat.le_of_ble_eq_true rfl) rfl (zcV.imp h (fun m2 h => ?_) (fun _ _ h => ⟨rfl, h⟩))
  refine Wr_aload_n dX9_takeOver_14 rfl 0 rfl ?_
  refine Wr_getR 6 dX9_takeOver_15 flX9_58 zl106 rfl (by decide) ?_
  refine Wr_cSv [.ref 112] dX9_takeOver_18 mlX9_306 mgX9_takeHalf rfl msX9_takeHalf  rfl rfl (Nat.le_of_ble_eq_true rfl) rfl (zcV.imp h (fun m3 h => ?_) (fun _ _ h => ⟨rfl, h⟩))
  refine Wr_aload_n dX9_takeOver_21 rfl 0 rfl ?_
  refine Wr_getR 7 dX9_takeOver_22 flX9_61 zl106 rfl (by decide) ?_
  refine Wr_cSv [.ref 113] dX9_takeOver_25 mlX9_306 mgX9_takeHalf rfl msX9_takeHalf  rfl rfl (Nat.le_of_ble_eq_true rfl) rfl (zcV.imp h (fun m4 h => ?_) (fun _ _ h => ⟨rfl, h⟩))
  refine Wr_aload_n dX9_takeOver_28 rfl 0 rfl ?_
  refine Wr_getR 8 dX9_takeOver_29 flX9_64 zl106 rfl (by decide) ?_
  refine Wr_cSv [.ref 114] dX9_takeOver_32 mlX9_306 mgX9_takeHalf rfl msX9_takeHalf  rfl rfl (Nat.le_of_ble_eq_true rfl) rfl (zcV.imp h (fun m5 h => ?_) (fun _ _ h => ⟨rfl, h⟩))
  refine Wr_aload_n dX9_takeOver_35 rfl 0 rfl ?_
  refine Wr_getR 9 dX9_takeOver_36 flX9_67 zl106 rfl (by decide) ?_
  refine Wr_cSv [.ref 115] dX9_takeOver_39 mlX9_306 mgX9_takeHalf rfl msX9_takeHalf  rfl rfl (Nat.le_of_ble_eq_true rfl) rfl (zcV.imp h (fun m6 h => ?_) (fun _ _ h => ⟨rfl, h⟩))
  refine Wr_aload_n dX9_takeOver_42 rfl 0 rfl ?_
  refine Wr_iconstv (v := 0) dX9_takeOver_43 (by decide) ?_
  obtain ⟨m7, em7⟩ : ∃ z : zMem, z = zw m6 106 27 0 := ⟨_, rfl⟩
  have h := h m7 em7
  refine Wr_putI dX9_takeOver_44 fpX9_310 zl106 rfl ?_
  refine Wr_mu em7 ?_
  refine Wr_aload_n dX9_takeOver_47 rfl 0 rfl ?_
  refine Wr_iconstv (v := 0) dX9_takeOver_48 (by decide) ?_
  obtain ⟨m8, em8⟩ : ∃ z : zMem, z = zw m7 106 28 0 := ⟨_, rfl⟩
  have h := h m8 em8
  refine Wr_putI dX9_takeOver_49 fpX9_313 zl106 rfl ?_
  refine Wr_mu em8 ?_
  refine Wr_aload_n dX9_takeOver_52 rfl 0 rfl ?_
  refine Wr_iconstv (v := 0) dX9_takeOver_53 (by decide) ?_
  obtain ⟨m9, em9⟩ : ∃ z : zMem, z = zw m8 106 29 0 := ⟨_, rfl⟩
  have h := h m9 em9
  refine Wr_putI dX9_takeOver_54 fpX9_316 zl106 rfl ?_
  refine Wr_mu em9 ?_
  refine Wr_aload_n dX9_takeOver_57 rfl 0 rfl ?_
  refine Wr_iconstv (v := 0) dX9_takeOver_58 (by decide) ?_
  obtain ⟨m10, em10⟩ : ∃ z : zMem, z = zw m9 106 36 0 := ⟨_, rfl⟩
  have h := h m10 em10
  refine Wr_putZ dX9_takeOver_59 fpX9_319 zl106 rfl (by decide) ?_
  refine Wr_mu em10 ?_
  refine Wr_aload_n dX9_takeOver_62 rfl 0 rfl ?_
  refine Wr_iconstv (v := 0) dX9_takeOver_63 (by decide) ?_
  obtain ⟨m11, em11⟩ : ∃ z : zMem, z = zw m10 106 53 0 := ⟨_, rfl⟩
  have h := h m11 em11
  refine Wr_putZ dX9_takeOver_64 fpX9_323 zl106 rfl (by decide) ?_
  refine Wr_mu em11 ?_
  exact Wr_vret dX9_takeOver_67 rfl ⟨rfl, h⟩
theorem cX9_takeOver_ {d : Nat} {μ : zMem} {KV : zMem → Prop} {X : Nat → zMem → Prop} (h : pX9_takeOver d μ KV X) : zcV (d + 1) mX9_takeOver [.ref 106] μ KV X :=
  Ex_of (w := 1) mgX9_takeOver.2.2.2.2.2 rfl rfl rfl (by decide) (wX9_takeOver_0 h)

def pX9_fault (d : Nat) (μ : zMem) (KI : Int32 → zMem → Prop) (X : Nat → zMem → Prop) : Prop :=
  ∀ m1 : zMem, m1 = zw μ 106 3 0 → KI (m1 106 21) m1
set_option maxRecDepth 20000 in
theorem wX9_fault_0 {d : Nat} {KI : Int32 → zMem → Prop} {X : Nat → zMem → Prop} {μ : zMem} (h : pX9_fault d μ KI X) : Wr mX9_fault (d + 1) 0 0 [(0, .ref 106)] [] μ (kI KI X) := by
  unfold pX9_fault at h
  refine Wr_aload_n dX9_fault_0 rfl 0 rfl ?_
  refine Wr_iconstv (v := 0) dX9_fault_1 (by decide) ?_
  obtain ⟨m1, em1⟩ : ∃ z : zMem, z = zw μ 106 3 0 := ⟨_, rfl⟩
  have h := h m1 em1
  refine Wr_putI dX9_fault_2 fpX9_155 zl106 rfl ?_
  refine Wr_mu em1 ?_
  refine Wr_aload_n dX9_fault_5 rfl 0 rfl ?_
  refine Wr_getI dX9_fault_6 flX9_76 zl106 rfl ?_
  exact Wr_iret .int dX9_fault_9 rfl rfl ⟨rfl, h⟩
theorem cX9_fault_ {d : Nat} {μ : zMem} {KI : Int32 → zMem → Prop} {X : Nat → zMem → Prop} (h : pX9_fault d μ KI X) : zcI (d + 1) mX9_fault [.ref 106] μ KI X :=
  Ex_of (w := 1) mgX9_fault.2.2.2.2.2 rfl rfl rfl (by decide) (wX9_fault_0 h)

def pX9_reckon (d : Nat) (x0 : Int32) (x1 : Int32) (x2 : Int32) (μ : zMem) (KI : Int32 → zMem → Prop) (X : Nat → zMem → Prop) : Prop :=
  ((x0 = (-26) → KI (if x1 = 0 then 0 else (if x2 = 0 then 0 else 1)) μ) ∧
  (x0 = (-25) → KI (if x1 = x2 then 1 else 0) μ) ∧
  (x0 = (-24) → KI (if x2 ≤ x1 then 0 else 1) μ) ∧
  (x0 = (-23) → ((x2 = 0 → KI 0 μ) ∧
    (¬ (x2 = 0) → (¬ x2 = 0) ∧ KI (x1 / x2) μ))) ∧
  (x0 = (-22) → KI (x1 * x2) μ) ∧
  (x0 = (-21) → KI (x1 - x2) μ) ∧
  (x0 = (-20) → KI (x1 + x2) μ) ∧
  (¬ x0 = (-26) → ¬ x0 = (-25) → ¬ x0 = (-24) → ¬ x0 = (-23) → ¬ x0 = (-22) → ¬ x0 = (-21) → ¬ x0 = (-20) → KI (if x1 = 0 then (if x2 = 0 then 0 else 1) else 1) μ))
set_option maxRecDepth 20000 in
theorem wX9_reckon_0 {d : Nat} {KI : Int32 → zMem → Prop} {X : Nat → zMem → Prop} {x0 : Int32} {x1 : Int32} {x2 : Int32} {μ : zMem} (h : pX9_reckon d x0 x1 x2 μ KI X) : Wr mX9_reckon (d + 1) 0 0 [(0, .int x0), (1, .int x1), (2, .int x2)] [] μ (kI KI X) := by
  unfold pX9_reckon at h
  refine Wr_iload_n dX9_reckon_0 rfl 0 rfl ?_
  by_cases hq0 : x0 = (-26)
  · have h := h.1 hq0
    refine Wr_tswC (-26) 89 90 hq0 dX9_reckon_1 (by decide) (by decide) (by decide) (by decide) ?_
    refine Wr_iload_n dX9_reckon_90 rfl 1 rfl ?_
    have hj1 : Wr mX9_reckon (d + 1) 0 103 [(0, .int x0), (1, .int x1), (2, .int x2)] [.int (if x1 = 0 then 0 else (if x2 = 0 then 0 else 1))] μ (kI KI X) := by
      exact Wr_iret .int dX9_reckon_103 rfl rfl ⟨rfl, h⟩
    refine Wr_if_eq 102 dX9_reckon_91 (by decide) (fun hc0 => ?_) (fun hc0 => ?_)
    · skip
      refine Wr_iconstv (v := 0) dX9_reckon_102 (by decide) ?_
      exact Wr_top (if_pos hc0) hj1
    · skip
      refine Wr_iload_n dX9_reckon_94 rfl 2 rfl ?_
      refine Wr_if_eq 102 dX9_reckon_95 (by decide) (fun hc1 => ?_) (fun hc1 => ?_)
      · skip
        refine Wr_iconstv (v := 0) dX9_reckon_102 (by decide) ?_
        exact Wr_top ((if_neg hc0).trans (if_pos hc1)) hj1
      · skip
        refine Wr_iconstv (v := 1) dX9_reckon_98 (by decide) ?_
        refine Wr_goto 103 dX9_reckon_99 (by decide) ?_
        exact Wr_top ((if_neg hc0).trans (if_neg hc1)) hj1
  have h := h.2
  by_cases hq1 : x0 = (-25)
  · have h := h.1 hq1
    refine Wr_tswC (-25) 78 79 hq1 dX9_reckon_1 (by decide) (by decide) (by decide) (by decide) ?_
    refine Wr_iload_n dX9_reckon_79 rfl 1 rfl ?_
    refine Wr_iload_n dX9_reckon_80 rfl 2 rfl ?_
    have hj2 : Wr mX9_reckon (d + 1) 0 89 [(0, .int x0), (1, .int x1), (2, .int x2)] [.int (if x1 = x2 then 1 else 0)] μ (kI KI X) := by
      exact Wr_iret .int dX9_reckon_89 rfl rfl ⟨rfl, h⟩
    refine Wr_icmp_ne 88 dX9_reckon_81 (by decide) (fun hc0 => ?_) (fun hc0 => ?_)
    · skip
      refine Wr_iconstv (v := 0) dX9_reckon_88 (by decide) ?_
      exact Wr_top (if_neg hc0) hj2
    · skip
      refine Wr_iconstv (v := 1) dX9_reckon_84 (by decide) ?_
      refine Wr_goto 89 dX9_reckon_85 (by decide) ?_
      exact Wr_top (if_pos hc0) hj2
  have h := h.2
  by_cases hq2 : x0 = (-24)
  · have h := h.1 hq2
    refine Wr_tswC (-24) 67 68 hq2 dX9_reckon_1 (by decide) (by decide) (by decide) (by decide) ?_
    refine Wr_iload_n dX9_reckon_68 rfl 1 rfl ?_
    refine Wr_iload_n dX9_reckon_69 rfl 2 rfl ?_
    have hj3 : Wr mX9_reckon (d + 1) 0 78 [(0, .int x0), (1, .int x1), (2, .int x2)] [.int (if x2 ≤ x1 then 0 else 1)] μ (kI KI X) := by
      exact Wr_iret .int dX9_reckon_78 rfl rfl ⟨rfl, h⟩
    refine Wr_icmp_ge 77 dX9_reckon_70 (by decide) (fun hc0 => ?_) (fun hc0 => ?_)
    · skip
      refine Wr_iconstv (v := 0) dX9_reckon_77 (by decide) ?_
      exact Wr_top (if_pos hc0) hj3
    · skip
      refine Wr_iconstv (v := 1) dX9_reckon_73 (by decide) ?_
      refine Wr_goto 78 dX9_reckon_74 (by decide) ?_
      exact Wr_top (if_neg hc0) hj3
  have h := h.2
  by_cases hq3 : x0 = (-23)
  · have h := h.1 hq3
    refine Wr_tswC (-23) 55 56 hq3 dX9_reckon_1 (by decide) (by decide) (by decide) (by decide) ?_
    refine Wr_iload_n dX9_reckon_56 rfl 2 rfl ?_
    refine Wr_if_ne 64 dX9_reckon_57 (by decide) (fun hc => ?_) (fun hc => ?_)
    · have h := h.2 hc
      refine Wr_iload_n dX9_reckon_64 rfl 1 rfl ?_
      refine Wr_iload_n dX9_reckon_65 rfl 2 rfl ?_
      obtain ⟨hi, h⟩ := h
      refine Wr_idiv dX9_reckon_66 hi ?_
      exact Wr_iret .int dX9_reckon_67 rfl rfl ⟨rfl, h⟩
    · have h := h.1 hc
      refine Wr_iconstv (v := 0) dX9_reckon_60 (by decide) ?_
      refine Wr_goto 67 dX9_reckon_61 (by decide) ?_
      exact Wr_iret .int dX9_reckon_67 rfl rfl ⟨rfl, h⟩
  have h := h.2
  by_cases hq4 : x0 = (-22)
  · have h := h.1 hq4
    refine Wr_tswC (-22) 51 52 hq4 dX9_reckon_1 (by decide) (by decide) (by decide) (by decide) ?_
    refine Wr_iload_n dX9_reckon_52 rfl 1 rfl ?_
    refine Wr_iload_n dX9_reckon_53 rfl 2 rfl ?_
    refine Wr_imul dX9_reckon_54 ?_
    exact Wr_iret .int dX9_reckon_55 rfl rfl ⟨rfl, h⟩
  have h := h.2
  by_cases hq5 : x0 = (-21)
  · have h := h.1 hq5
    refine Wr_tswC (-21) 47 48 hq5 dX9_reckon_1 (by decide) (by decide) (by decide) (by decide) ?_
    refine Wr_iload_n dX9_reckon_48 rfl 1 rfl ?_
    refine Wr_iload_n dX9_reckon_49 rfl 2 rfl ?_
    refine Wr_isub dX9_reckon_50 ?_
    exact Wr_iret .int dX9_reckon_51 rfl rfl ⟨rfl, h⟩
  have h := h.2
  by_cases hq6 : x0 = (-20)
  · have h := h.1 hq6
    refine Wr_tswC (-20) 43 44 hq6 dX9_reckon_1 (by decide) (by decide) (by decide) (by decide) ?_
    refine Wr_iload_n dX9_reckon_44 rfl 1 rfl ?_
    refine Wr_iload_n dX9_reckon_45 rfl 2 rfl ?_
    refine Wr_iadd dX9_reckon_46 ?_
    exact Wr_iret .int dX9_reckon_47 rfl rfl ⟨rfl, h⟩
  have h := h.2
  have h := h hq0 hq1 hq2 hq3 hq4 hq5 hq6
  refine Wr_tswD 104 (by have := zne hq0 (c := (-26)) (by decide); have := zne hq1 (c := (-25)) (by decide); have := zne hq2 (c := (-24)) (by decide); have := zne hq3 (c := (-23)) (by decide); have := zne hq4 (c := (-22)) (by decide); have := zne hq5 (c := (-21)) (by decide); have := zne hq6 (c := (-20)) (by decide); omega) dX9_reckon_1 (by decide) ?_
  refine Wr_iload_n dX9_reckon_104 rfl 1 rfl ?_
  have hj4 : Wr mX9_reckon (d + 1) 0 117 [(0, .int x0), (1, .int x1), (2, .int x2)] [.int (if x1 = 0 then (if x2 = 0 then 0 else 1) else 1)] μ (kI KI X) := by
    exact Wr_iret .int dX9_reckon_117 rfl rfl ⟨rfl, h⟩
  refine Wr_if_ne 112 dX9_reckon_105 (by decide) (fun hc0 => ?_) (fun hc0 => ?_)
  · skip
    refine Wr_iconstv (v := 1) dX9_reckon_112 (by decide) ?_
    refine Wr_goto 117 dX9_reckon_113 (by decide) ?_
    exact Wr_top (if_neg hc0) hj4
  · skip
    refine Wr_iload_n dX9_reckon_108 rfl 2 rfl ?_
    refine Wr_if_eq 116 dX9_reckon_109 (by decide) (fun hc1 => ?_) (fun hc1 => ?_)
    · skip
      refine Wr_iconstv (v := 0) dX9_reckon_116 (by decide) ?_
      exact Wr_top ((if_pos hc0).trans (if_pos hc1)) hj4
    · skip
      refine Wr_iconstv (v := 1) dX9_reckon_112 (by decide) ?_
      refine Wr_goto 117 dX9_reckon_113 (by decide) ?_
      exact Wr_top ((if_pos hc0).trans (if_neg hc1)) hj4
theorem cX9_reckon_ {d : Nat} {x0 : Int32} {x1 : Int32} {x2 : Int32} {μ : zMem} {KI : Int32 → zMem → Prop} {X : Nat → zMem → Prop} (h : pX9_reckon d x0 x1 x2 μ KI X) : zcI (d + 1) mX9_reckon [.int x0, .int x1, .int x2] μ KI X :=
  Ex_of (w := 3) mgX9_reckon.2.2.2.2.2 rfl rfl rfl (by decide) (wX9_reckon_0 h)

def pX9_valueNow_49 (d : Nat) (x1 : Int32) (x2 : Int32) (y0 : Int32) (y1 : Int32) (μ : zMem) (KI : Int32 → zMem → Prop) (X : Nat → zMem → Prop) (C4 : Int32 → Int32 → zMem → Prop) : Prop :=
  (vp_in y1 64) ∧ ∀ m1 : zMem, m1 = zw μ 119 y1.toNatClampNeg y0 → ∀ v2 : Int32, v2 = x1 + 1 → ∀ v3 : Int32, v3 = x2 + 1 → C4 v2 v3 m1
set_option maxRecDepth 20000 in
theorem wX9_valueNow_49 {d : Nat} {KI : Int32 → zMem → Prop} {X : Nat → zMem → Prop} {C4 : Int32 → Int32 → zMem → Prop} {x1 : Int32} {x2 : Int32} {y0 : Int32} {y1 : Int32} {μ : zMem} (hC4 : ∀ (x1 : Int32) (x2 : Int32) (μ : zMem), C4 x1 x2 μ → Wr mX9_valueNow (d + 1) 0 4 [(0, .ref 106), (1, .int x1), (2, .int x2)] [] μ (kI KI X)) (h : pX9_valueNow_49 d x1 x2 y0 y1 μ KI X C4) : Wr mX9_valueNow (d + 1) 0 49 [(0, .ref 106), (1, .int x1), (2, .int x2)] [.int y0, .int y1, .ref 119] μ (kI KI X) := by
  unfold pX9_valueNow_49 at h
  obtain ⟨him1, h⟩ := h
  obtain ⟨m1, em1⟩ : ∃ z : zMem, z = zw μ 119 y1.toNatClampNeg y0 := ⟨_, rfl⟩
  have h := h m1 em1
  refine Wr_iast dX9_valueNow_49 zl119 him1 ?_
  refine Wr_mu em1 ?_
  obtain ⟨v2, ev2⟩ : ∃ z : Int32, z = x1 + 1 := ⟨_, rfl⟩
  have h := h v2 ev2
  refine Wr_iinc (v := v2) dX9_valueNow_50 (q := 1) rfl (by rw [ev2]; rfl) (by decide) rfl ?_
  refine Wr_goto 118 dX9_valueNow_53 (by decide) ?_
  obtain ⟨v3, ev3⟩ : ∃ z : Int32, z = x2 + 1 := ⟨_, rfl⟩
  have h := h v3 ev3
  refine Wr_iinc (v := v3) dX9_valueNow_118 (q := 2) rfl (by rw [ev3]; rfl) (by decide) rfl ?_
  refine Wr_goto 4 dX9_valueNow_121 (by decide) ?_
  refine zsub [0, 1, 2] rfl ?_
  exact hC4 _ _ _ h
def pX9_valueNow_4 : Nat → Nat → Int32 → Int32 → zMem → (Int32 → zMem → Prop) → (Nat → zMem → Prop) → Prop
  | 0, _, _, _, _, _, _ => False
  | n + 1, d, x1, x2, μ, KI, X =>
  ((μ 110 9 ≤ x2 → KI (μ 119 0) μ) ∧
  (¬ (μ 110 9 ≤ x2) → (vp_in x2 1400) ∧ ∀ v1 : Int32, v1 = μ 115 x2.toNatClampNeg → ((v1 ≤ (-20) → ((v1 = (-28) → (vp_in (x1 - 1) 64) ∧ (vp_in (x1 - 1) 64) ∧ ∀ m7 : zMem, m7 = zw μ 119 (x1 - 1).toNatClampNeg (if μ 119 (x1 - 1).toNatClampNeg = 0 then 1 else 0) → ∀ v8 : Int32, v8 = x2 + 1 → pX9_valueNow_4 n d x1 v8 m7 KI X) ∧
      (¬ (v1 = (-28)) → ∀ v2 : Int32, v2 = x1 + (-1) → (vp_in (v2 - 1) 64) ∧ (vp_in v2 64) ∧ zcI d mX9_reckon [.int v1, .int (μ 119 (v2 - 1).toNatClampNeg), .int (μ 119 v2.toNatClampNeg)] μ (fun u4 m3 => (vp_in (v2 - 1) 64) ∧ ∀ m5 : zMem, m5 = zw m3 119 (v2 - 1).toNatClampNeg u4 → ∀ v6 : Int32, v6 = x2 + 1 → pX9_valueNow_4 n d v2 v6 m5 KI X) X))) ∧
    (¬ (v1 ≤ (-20)) → ((v1 < 0 → (vp_in ((-1) - v1) 8) ∧ pX9_valueNow_49 d x1 x2 (μ 118 ((-1) - v1).toNatClampNeg) x1 μ KI X (fun z0 z1 m => pX9_valueNow_4 n d z0 z1 m KI X)) ∧
      (¬ (v1 < 0) → pX9_valueNow_49 d x1 x2 v1 x1 μ KI X (fun z0 z1 m => pX9_valueNow_4 n d z0 z1 m KI X)))))))
set_option maxRecDepth 20000 in
theorem wX9_valueNow_4 {d : Nat} {KI : Int32 → zMem → Prop} {X : Nat → zMem → Prop} : ∀ (n : Nat) (x1 : Int32) (x2 : Int32) (μ : zMem), pX9_valueNow_4 n d x1 x2 μ KI X → Wr mX9_valueNow (d + 1) 0 4 [(0, .ref 106), (1, .int x1), (2, .int x2)] [] μ (kI KI X) := by
  intro n
  induction n with
  | zero =>
    intro x1 x2 μ h
    exact absurd h id
  | succ n ih =>
    intro x1 x2 μ h
    unfold pX9_valueNow_4 at h
    refine Wr_iload_n dX9_valueNow_4 rfl 2 rfl ?_
    refine Wr_aload_n dX9_valueNow_5 rfl 0 rfl ?_
    refine Wr_getR 4 dX9_valueNow_6 flX9_51 zl106 rfl (by decide) ?_
    refine Wr_bipush (v := 9) dX9_valueNow_9 (by decide) ?_
    refine Wr_iald dX9_valueNow_11 zl110 (by unfold vp_in; decide) ?_
    refine Wr_icmp_ge 124 dX9_valueNow_12 (by decide) (fun hc => ?_) (fun hc => ?_)
    · have h := h.1 hc
      refine Wr_aload_n dX9_valueNow_124 rfl 0 rfl ?_
      refine Wr_getR 13 dX9_valueNow_125 flX9_83 zl106 rfl (by decide) ?_
      refine Wr_iconstv (v := 0) dX9_valueNow_128 (by decide) ?_
      refine Wr_iald dX9_valueNow_129 zl119 (by unfold vp_in; decide) ?_
      exact Wr_iret .int dX9_valueNow_130 rfl rfl ⟨rfl, h⟩
    · have h := h.2 hc
      refine Wr_aload_n dX9_valueNow_15 rfl 0 rfl ?_
      refine Wr_getR 9 dX9_valueNow_16 flX9_67 zl106 rfl (by decide) ?_
      refine Wr_iload_n dX9_valueNow_19 rfl 2 rfl ?_
      obtain ⟨hi, h⟩ := h
      refine Wr_iald dX9_valueNow_20 zl115 hi ?_
      obtain ⟨v1, ev1⟩ : ∃ z : Int32, z = μ 115 x2.toNatClampNeg := ⟨_, rfl⟩
      have h := h v1 ev1
      refine Wr_top ev1 ?_
      refine Wr_istore_n dX9_valueNow_21 rfl (by decide) rfl ?_
      refine Wr_iload_n dX9_valueNow_22 rfl 0 rfl ?_
      refine Wr_bipush (v := (-20)) dX9_valueNow_23 (by decide) ?_
      refine Wr_icmp_le 56 dX9_valueNow_25 (by decide) (fun hc => ?_) (fun hc => ?_)
      · have h := h.1 hc
        refine Wr_iload_n dX9_valueNow_56 rfl 0 rfl ?_
        refine Wr_bipush (v := (-28)) dX9_valueNow_57 (by decide) ?_
        refine Wr_icmp_ne 89 dX9_valueNow_59 (by decide) (fun hc => ?_) (fun hc => ?_)
        · have h := h.2 hc
          obtain ⟨v2, ev2⟩ : ∃ z : Int32, z = x1 + (-1) := ⟨_, rfl⟩
          have h := h v2 ev2
          refine Wr_iinc (v := v2) dX9_valueNow_89 (q := 2) rfl (by rw [ev2]; rfl) (by decide) rfl ?_
          refine Wr_aload_n dX9_valueNow_92 rfl 2 rfl ?_
          refine Wr_getR 13 dX9_valueNow_93 flX9_83 zl106 rfl (by decide) ?_
          refine Wr_iload_n dX9_valueNow_96 rfl 0 rfl ?_
          refine Wr_iconstv (v := 1) dX9_valueNow_97 (by decide) ?_
          refine Wr_isub dX9_valueNow_98 ?_
          refine Wr_iload_n dX9_valueNow_99 rfl 1 rfl ?_
          refine Wr_aload_n dX9_valueNow_100 rfl 2 rfl ?_
          refine Wr_getR 13 dX9_valueNow_101 flX9_83 zl106 rfl (by decide) ?_
          refine Wr_iload_n dX9_valueNow_104 rfl 0 rfl ?_
          refine Wr_iconstv (v := 1) dX9_valueNow_105 (by decide) ?_
          refine Wr_isub dX9_valueNow_106 ?_
          obtain ⟨hi, h⟩ := h
          refine Wr_iald dX9_valueNow_107 zl119 hi ?_
          refine Wr_aload_n dX9_valueNow_108 rfl 2 rfl ?_
          refine Wr_getR 13 dX9_valueNow_109 flX9_83 zl106 rfl (by decide) ?_
          refine Wr_iload_n dX9_valueNow_112 rfl 0 rfl ?_
          obtain ⟨hi, h⟩ := h
          refine Wr_iald dX9_valueNow_113 zl119 hi ?_
          refine Wr_cSi [.int v1, .int (μ 119 (v2 - 1).toNatClampNeg), .int (μ 119 v2.toNatClampNeg)] dX9_valueNow_114 mlX9_326 mgX9_reckon rfl msX9_reckon  rfl rfl (Nat.le_of_ble_eq_true rfl) rfl (zcI.imp h (fun u4 m3 h => ?_) (fun _ _ h => ⟨rfl, h⟩))
          obtain ⟨him5, h⟩ := h
          obtain ⟨m5, em5⟩ : ∃ z : zMem, z = zw m3 119 (v2 - 1).toNatClampNeg u4 := ⟨_, rfl⟩
          have h := h m5 em5
          refine Wr_iast dX9_valueNow_117 zl119 him5 ?_
          refine Wr_mu em5 ?_
          obtain ⟨v6, ev6⟩ : ∃ z : Int32, z = x2 + 1 := ⟨_, rfl⟩
          have h := h v6 ev6
          refine Wr_iinc (v := v6) dX9_valueNow_118 (q := 3) rfl (by rw [ev6]; rfl) (by decide) rfl ?_
          refine Wr_goto 4 dX9_valueNow_121 (by decide) ?_
          refine zsub [0, 1, 2] rfl ?_
          exact ih _ _ _ h
        · have h := h.1 hc
          refine Wr_aload_n dX9_valueNow_62 rfl 1 rfl ?_
          refine Wr_getR 13 dX9_valueNow_63 flX9_83 zl106 rfl (by decide) ?_
          refine Wr_iload_n dX9_valueNow_66 rfl 2 rfl ?_
          refine Wr_iconstv (v := 1) dX9_valueNow_67 (by decide) ?_
          refine Wr_isub dX9_valueNow_68 ?_
          refine Wr_aload_n dX9_valueNow_69 rfl 1 rfl ?_
          refine Wr_getR 13 dX9_valueNow_70 flX9_83 zl106 rfl (by decide) ?_
          refine Wr_iload_n dX9_valueNow_73 rfl 2 rfl ?_
          refine Wr_iconstv (v := 1) dX9_valueNow_74 (by decide) ?_
          refine Wr_isub dX9_valueNow_75 ?_
          obtain ⟨hi, h⟩ := h
          refine Wr_iald dX9_valueNow_76 zl119 hi ?_
          have hj1 : Wr mX9_valueNow (d + 1) 0 85 [(3, .int v1), (0, .ref 106), (1, .int x1), (2, .int x2)] [.int (if μ 119 (x1 - 1).toNatClampNeg = 0 then 1 else 0), .int (x1 - 1), .ref 119] μ (kI KI X) := by
            obtain ⟨him7, h⟩ := h
            obtain ⟨m7, em7⟩ : ∃ z : zMem, z = zw μ 119 (x1 - 1).toNatClampNeg (if μ 119 (x1 - 1).toNatClampNeg = 0 then 1 else 0) := ⟨_, rfl⟩
            have h := h m7 em7
            refine Wr_iast dX9_valueNow_85 zl119 him7 ?_
            refine Wr_mu em7 ?_
            refine Wr_goto 118 dX9_valueNow_86 (by decide) ?_
            obtain ⟨v8, ev8⟩ : ∃ z : Int32, z = x2 + 1 := ⟨_, rfl⟩
            have h := h v8 ev8
            refine Wr_iinc (v := v8) dX9_valueNow_118 (q := 3) rfl (by rw [ev8]; rfl) (by decide) rfl ?_
            refine Wr_goto 4 dX9_valueNow_121 (by decide) ?_
            refine zsub [0, 1, 2] rfl ?_
            exact ih _ _ _ h
          refine Wr_if_eq 84 dX9_valueNow_77 (by decide) (fun hc0 => ?_) (fun hc0 => ?_)
          · skip
            refine Wr_iconstv (v := 1) dX9_valueNow_84 (by decide) ?_
            exact Wr_top (if_pos hc0) hj1
          · skip
            refine Wr_iconstv (v := 0) dX9_valueNow_80 (by decide) ?_
            refine Wr_goto 85 dX9_valueNow_81 (by decide) ?_
            exact Wr_top (if_neg hc0) hj1
      · have h := h.2 hc
        refine Wr_aload_n dX9_valueNow_28 rfl 1 rfl ?_
        refine Wr_getR 13 dX9_valueNow_29 flX9_83 zl106 rfl (by decide) ?_
        refine Wr_iload_n dX9_valueNow_32 rfl 2 rfl ?_
        refine Wr_iload_n dX9_valueNow_33 rfl 0 rfl ?_
        refine Wr_if_lt 41 dX9_valueNow_34 (by decide) (fun hc => ?_) (fun hc => ?_)
        · have h := h.1 hc
          refine Wr_aload_n dX9_valueNow_41 rfl 1 rfl ?_
          refine Wr_getR 12 dX9_valueNow_42 flX9_80 zl106 rfl (by decide) ?_
          refine Wr_iconstv (v := (-1)) dX9_valueNow_45 (by decide) ?_
          refine Wr_iload_n dX9_valueNow_46 rfl 0 rfl ?_
          refine Wr_isub dX9_valueNow_47 ?_
          obtain ⟨hi, h⟩ := h
          refine Wr_iald dX9_valueNow_48 zl118 hi ?_
          refine zsub [0, 1, 2] rfl ?_
          exact wX9_valueNow_49 (fun z0 z1 m h => ih z0 z1 m h) h
        · have h := h.2 hc
          refine Wr_iload_n dX9_valueNow_37 rfl 0 rfl ?_
          refine Wr_goto 49 dX9_valueNow_38 (by decide) ?_
          refine zsub [0, 1, 2] rfl ?_
          exact wX9_valueNow_49 (fun z0 z1 m h => ih z0 z1 m h) h
def pX9_valueNow (d : Nat) (μ : zMem) (KI : Int32 → zMem → Prop) (X : Nat → zMem → Prop) : Prop :=
  ∃ n2 : Nat, pX9_valueNow_4 n2 d 0 0 μ KI X
set_option maxRecDepth 20000 in
theorem wX9_valueNow_0 {d : Nat} {KI : Int32 → zMem → Prop} {X : Nat → zMem → Prop} {μ : zMem} (h : pX9_valueNow d μ KI X) : Wr mX9_valueNow (d + 1) 0 0 [(0, .ref 106)] [] μ (kI KI X) := by
  unfold pX9_valueNow at h
  refine Wr_iconstv (v := 0) dX9_valueNow_0 (by decide) ?_
  refine Wr_istore_n dX9_valueNow_1 rfl (by decide) rfl ?_
  refine Wr_iconstv (v := 0) dX9_valueNow_2 (by decide) ?_
  refine Wr_istore_n dX9_valueNow_3 rfl (by decide) rfl ?_
  refine zsub [0, 1, 2] rfl ?_
  obtain ⟨n9, h⟩ := h
  exact wX9_valueNow_4 n9 _ _ _ h
theorem cX9_valueNow_ {d : Nat} {μ : zMem} {KI : Int32 → zMem → Prop} {X : Nat → zMem → Prop} (h : pX9_valueNow d μ KI X) : zcI (d + 1) mX9_valueNow [.ref 106] μ KI X :=
  Ex_of (w := 1) mgX9_valueNow.2.2.2.2.2 rfl rfl rfl (by decide) (wX9_valueNow_0 h)

def pX9_weightOf (d : Nat) (x1 : Int32) (μ : zMem) (KI : Int32 → zMem → Prop) (X : Nat → zMem → Prop) : Prop :=
  zcI d mX9_of [.ref 106, .int x1, .int 6] μ (fun u2 m1 => zcI d mX9_of [.ref 106, .int x1, .int 7] m1 (fun u4 m3 => zcI d mX9_of [.ref 106, .int x1, .int 8] m3 (fun u6 m5 => zcI d mX9_of [.ref 106, .int x1, .int 0] m5 (fun u8 m7 => KI (((u2 + u4) + (2 * u6)) + (if u8 = 1 then 5 else 0)) m7) X) X) X) X
set_option maxRecDepth 20000 in
theorem wX9_weightOf_0 {d : Nat} {KI : Int32 → zMem → Prop} {X : Nat → zMem → Prop} {x1 : Int32} {μ : zMem} (h : pX9_weightOf d x1 μ KI X) : Wr mX9_weightOf (d + 1) 0 0 [(0, .ref 106), (1, .int x1)] [] μ (kI KI X) := by
  unfold pX9_weightOf at h
  refine Wr_aload_n dX9_weightOf_0 rfl 0 rfl ?_
  refine Wr_iload_n dX9_weightOf_1 rfl 1 rfl ?_
  refine Wr_bipush (v := 6) dX9_weightOf_2 (by decide) ?_
  refine Wr_cVi [.int x1, .int 6] dX9_weightOf_4 mlX9_330 mgX9_of rfl mvX9_of (zrv zl106 _ rfl rfl) rfl rfl (Nat.le_of_ble_eq_true rfl) rfl (zcI.imp h (fun u2 m1 h => ?_) (fun _ _ h => ⟨rfl, h⟩))
  refine Wr_aload_n dX9_weightOf_7 rfl 0 rfl ?_
  refine Wr_iload_n dX9_weightOf_8 rfl 1 rfl ?_
  refine Wr_bipush (v := 7) dX9_weightOf_9 (by decide) ?_
  refine Wr_cVi [.int x1, .int 7] dX9_weightOf_11 mlX9_330 mgX9_of rfl mvX9_of (zrv zl106 _ rfl rfl) rfl rfl (Nat.le_of_ble_eq_true rfl) rfl (zcI.imp h (fun u4 m3 h => ?_) (fun _ _ h => ⟨rfl, h⟩))
  refine Wr_iadd dX9_weightOf_14 ?_
  refine Wr_iconstv (v := 2) dX9_weightOf_15 (by decide) ?_
  refine Wr_aload_n dX9_weightOf_16 rfl 0 rfl ?_
  refine Wr_iload_n dX9_weightOf_17 rfl 1 rfl ?_
  refine Wr_bipush (v := 8) dX9_weightOf_18 (by decide) ?_
  refine Wr_cVi [.int x1, .int 8] dX9_weightOf_20 mlX9_330 mgX9_of rfl mvX9_of (zrv zl106 _ rfl rfl) rfl rfl (Nat.le_of_ble_eq_true rfl) rfl (zcI.imp h (fun u6 m5 h => ?_) (fun _ _ h => ⟨rfl, h⟩))
  refine Wr_imul dX9_weightOf_23 ?_
  refine Wr_iadd dX9_weightOf_24 ?_
  refine Wr_aload_n dX9_weightOf_25 rfl 0 rfl ?_
  refine Wr_iload_n dX9_weightOf_26 rfl 1 rfl ?_
  refine Wr_iconstv (v := 0) dX9_weightOf_27 (by decide) ?_
  refine Wr_cVi [.int x1, .int 0] dX9_weightOf_28 mlX9_330 mgX9_of rfl mvX9_of (zrv zl106 _ rfl rfl) rfl rfl (Nat.le_of_ble_eq_true rfl) rfl (zcI.imp h (fun u8 m7 h => ?_) (fun _ _ h => ⟨rfl, h⟩))
  refine Wr_iconstv (v := 1) dX9_weightOf_31 (by decide) ?_
  have hj1 : Wr mX9_weightOf (d + 1) 0 40 [(0, .ref 106), (1, .int x1)] [.int (if u8 = 1 then 5 else 0), .int ((u2 + u4) + (2 * u6))] m7 (kI KI X) := by
    refine Wr_iadd dX9_weightOf_40 ?_
    exact Wr_iret .int dX9_weightOf_41 rfl rfl ⟨rfl, h⟩
  refine Wr_icmp_ne 39 dX9_weightOf_32 (by decide) (fun hc0 => ?_) (fun hc0 => ?_)
  · skip
    refine Wr_iconstv (v := 0) dX9_weightOf_39 (by decide) ?_
    exact Wr_top (if_neg hc0) hj1
  · skip
    refine Wr_iconstv (v := 5) dX9_weightOf_35 (by decide) ?_
    refine Wr_goto 40 dX9_weightOf_36 (by decide) ?_
    exact Wr_top (if_pos hc0) hj1
theorem cX9_weightOf_ {d : Nat} {x1 : Int32} {μ : zMem} {KI : Int32 → zMem → Prop} {X : Nat → zMem → Prop} (h : pX9_weightOf d x1 μ KI X) : zcI (d + 1) mX9_weightOf [.ref 106, .int x1] μ KI X :=
  Ex_of (w := 2) mgX9_weightOf.2.2.2.2.2 rfl rfl rfl (by decide) (wX9_weightOf_0 h)

def pX9_lineOf (d : Nat) (x1 : Int32) (μ : zMem) (KI : Int32 → zMem → Prop) (X : Nat → zMem → Prop) : Prop :=
  zcI d mX9_of [.ref 106, .int x1, .int 3] μ (fun u2 m1 => zcI d mX9_of [.ref 106, .int x1, .int 9] m1 (fun u4 m3 => KI (zmax 0 (u2 - u4)) m3) X) X
set_option maxRecDepth 20000 in
theorem wX9_lineOf_0 {d : Nat} {KI : Int32 → zMem → Prop} {X : Nat → zMem → Prop} {x1 : Int32} {μ : zMem} (h : pX9_lineOf d x1 μ KI X) : Wr mX9_lineOf (d + 1) 0 0 [(0, .ref 106), (1, .int x1)] [] μ (kI KI X) := by
  unfold pX9_lineOf at h
  refine Wr_iconstv (v := 0) dX9_lineOf_0 (by decide) ?_
  refine Wr_aload_n dX9_lineOf_1 rfl 0 rfl ?_
  refine Wr_iload_n dX9_lineOf_2 rfl 1 rfl ?_
  refine Wr_iconstv (v := 3) dX9_lineOf_3 (by decide) ?_
  refine Wr_cVi [.int x1, .int 3] dX9_lineOf_4 mlX9_330 mgX9_of rfl mvX9_of (zrv zl106 _ rfl rfl) rfl rfl (Nat.le_of_ble_eq_true rfl) rfl (zcI.imp h (fun u2 m1 h => ?_) (fun _ _ h => ⟨rfl, h⟩))
  refine Wr_aload_n dX9_lineOf_7 rfl 0 rfl ?_
  refine Wr_iload_n dX9_lineOf_8 rfl 1 rfl ?_
  refine Wr_bipush (v := 9) dX9_lineOf_9 (by decide) ?_
  refine Wr_cVi [.int x1, .int 9] dX9_lineOf_11 mlX9_330 mgX9_of rfl mvX9_of (zrv zl106 _ rfl rfl) rfl rfl (Nat.le_of_ble_eq_true rfl) rfl (zcI.imp h (fun u4 m3 h => ?_) (fun _ _ h => ⟨rfl, h⟩))
  refine Wr_isub dX9_lineOf_14 ?_
  refine Wr_mmax dX9_lineOf_15 mlX9_333 (Nat.le_of_ble_eq_true rfl) ?_
  exact Wr_iret .int dX9_lineOf_18 rfl rfl ⟨rfl, h⟩
theorem cX9_lineOf_ {d : Nat} {x1 : Int32} {μ : zMem} {KI : Int32 → zMem → Prop} {X : Nat → zMem → Prop} (h : pX9_lineOf d x1 μ KI X) : zcI (d + 1) mX9_lineOf [.ref 106, .int x1] μ KI X :=
  Ex_of (w := 2) mgX9_lineOf.2.2.2.2.2 rfl rfl rfl (by decide) (wX9_lineOf_0 h)

def pX9_floats (d : Nat) (x1 : Int32) (μ : zMem) (KI : Int32 → zMem → Prop) (X : Nat → zMem → Prop) : Prop :=
  zcI d mX9_of [.ref 106, .int x1, .int 4] μ (fun u2 m1 => zcI d mX9_weightOf [.ref 106, .int x1] m1 (fun u4 m3 => ((u2 ≤ u4 → KI 0 m3) ∧
  (¬ (u2 ≤ u4) → zcI d mX9_lineOf [.ref 106, .int x1] m3 (fun u6 m5 => KI (if u6 ≤ 0 then 0 else 1) m5) X))) X) X
set_option maxRecDepth 20000 in
theorem wX9_floats_0 {d : Nat} {KI : Int32 → zMem → Prop} {X : Nat → zMem → Prop} {x1 : Int32} {μ : zMem} (h : pX9_floats d x1 μ KI X) : Wr mX9_floats (d + 1) 0 0 [(0, .ref 106), (1, .int x1)] [] μ (kI KI X) := by
  unfold pX9_floats at h
  refine Wr_aload_n dX9_floats_0 rfl 0 rfl ?_
  refine Wr_iload_n dX9_floats_1 rfl 1 rfl ?_
  refine Wr_iconstv (v := 4) dX9_floats_2 (by decide) ?_
  refine Wr_cVi [.int x1, .int 4] dX9_floats_3 mlX9_330 mgX9_of rfl mvX9_of (zrv zl106 _ rfl rfl) rfl rfl (Nat.le_of_ble_eq_true rfl) rfl (zcI.imp h (fun u2 m1 h => ?_) (fun _ _ h => ⟨rfl, h⟩))
  refine Wr_aload_n dX9_floats_6 rfl 0 rfl ?_
  refine Wr_iload_n dX9_floats_7 rfl 1 rfl ?_
  refine Wr_cVi [.int x1] dX9_floats_8 mlX9_336 mgX9_weightOf rfl mvX9_weightOf (zrv zl106 _ rfl rfl) rfl rfl (Nat.le_of_ble_eq_true rfl) rfl (zcI.imp h (fun u4 m3 h => ?_) (fun _ _ h => ⟨rfl, h⟩))
  refine Wr_icmp_le 26 dX9_floats_11 (by decide) (fun hc => ?_) (fun hc => ?_)
  · have h := h.1 hc
    refine Wr_iconstv (v := 0) dX9_floats_26 (by decide) ?_
    exact Wr_iret .boolean dX9_floats_27 rfl rfl ⟨rfl, h⟩
  · have h := h.2 hc
    refine Wr_aload_n dX9_floats_14 rfl 0 rfl ?_
    refine Wr_iload_n dX9_floats_15 rfl 1 rfl ?_
    refine Wr_cVi [.int x1] dX9_floats_16 mlX9_339 mgX9_lineOf rfl mvX9_lineOf (zrv zl106 _ rfl rfl) rfl rfl (Nat.le_of_ble_eq_true rfl) rfl (zcI.imp h (fun u6 m5 h => ?_) (fun _ _ h => ⟨rfl, h⟩))
    have hj1 : Wr mX9_floats (d + 1) 0 27 [(0, .ref 106), (1, .int x1)] [.int (if u6 ≤ 0 then 0 else 1)] m5 (kI KI X) := by
      exact Wr_iret .boolean dX9_floats_27 rfl (znar (by (repeat' split) <;> simp)) ⟨rfl, h⟩
    refine Wr_if_le 26 dX9_floats_19 (by decide) (fun hc0 => ?_) (fun hc0 => ?_)
    · skip
      refine Wr_iconstv (v := 0) dX9_floats_26 (by decide) ?_
      exact Wr_top (if_pos hc0) hj1
    · skip
      refine Wr_iconstv (v := 1) dX9_floats_22 (by decide) ?_
      refine Wr_goto 27 dX9_floats_23 (by decide) ?_
      exact Wr_top (if_neg hc0) hj1
theorem cX9_floats_ {d : Nat} {x1 : Int32} {μ : zMem} {KI : Int32 → zMem → Prop} {X : Nat → zMem → Prop} (h : pX9_floats d x1 μ KI X) : zcI (d + 1) mX9_floats [.ref 106, .int x1] μ KI X :=
  Ex_of (w := 2) mgX9_floats.2.2.2.2.2 rfl rfl rfl (by decide) (wX9_floats_0 h)

def pX9_pushOf_124 (d : Nat) (x1 : Int32) (x3 : Int32) (x4 : Int32) (μ : zMem) (KI : Int32 → zMem → Prop) (X : Nat → zMem → Prop) : Prop :=
  ∀ v1 : Int32, v1 = zmin 100 (x4 + (20 * x3)) → zcI d mX9_of [.ref 106, .int x1, .int 0] μ (fun u3 m2 => ((u3 = 2 → KI (v1 / 2) m2) ∧
  (¬ (u3 = 2) → KI v1 m2))) X
set_option maxRecDepth 20000 in
theorem wX9_pushOf_124 {d : Nat} {KI : Int32 → zMem → Prop} {X : Nat → zMem → Prop} {x1 : Int32} {x3 : Int32} {x4 : Int32} {μ : zMem} (h : pX9_pushOf_124 d x1 x3 x4 μ KI X) : Wr mX9_pushOf (d + 1) 0 124 [(0, .ref 106), (1, .int x1), (3, .int x3), (4, .int x4)] [] μ (kI KI X) := by
  unfold pX9_pushOf_124 at h
  refine Wr_bipush (v := 100) dX9_pushOf_124 (by decide) ?_
  refine Wr_iload dX9_pushOf_126 3 rfl ?_
  refine Wr_bipush (v := 20) dX9_pushOf_128 (by decide) ?_
  refine Wr_iload_n dX9_pushOf_130 rfl 2 rfl ?_
  refine Wr_imul dX9_pushOf_131 ?_
  refine Wr_iadd dX9_pushOf_132 ?_
  refine Wr_mmin dX9_pushOf_133 mlX9_193 (Nat.le_of_ble_eq_true rfl) ?_
  obtain ⟨v1, ev1⟩ : ∃ z : Int32, z = zmin 100 (x4 + (20 * x3)) := ⟨_, rfl⟩
  have h := h v1 ev1
  refine Wr_top ev1 ?_
  refine Wr_istore dX9_pushOf_136 (by decide) rfl ?_
  refine Wr_aload_n dX9_pushOf_138 rfl 1 rfl ?_
  refine Wr_iload_n dX9_pushOf_139 rfl 2 rfl ?_
  refine Wr_iconstv (v := 0) dX9_pushOf_140 (by decide) ?_
  refine Wr_cVi [.int x1, .int 0] dX9_pushOf_141 mlX9_330 mgX9_of rfl mvX9_of (zrv zl106 _ rfl rfl) rfl rfl (Nat.le_of_ble_eq_true rfl) rfl (zcI.imp h (fun u3 m2 h => ?_) (fun _ _ h => ⟨rfl, h⟩))
  refine Wr_iconstv (v := 2) dX9_pushOf_144 (by decide) ?_
  refine Wr_icmp_ne 155 dX9_pushOf_145 (by decide) (fun hc => ?_) (fun hc => ?_)
  · have h := h.2 hc
    refine Wr_iload dX9_pushOf_155 0 rfl ?_
    exact Wr_iret .int dX9_pushOf_157 rfl rfl ⟨rfl, h⟩
  · have h := h.1 hc
    refine Wr_iload dX9_pushOf_148 0 rfl ?_
    refine Wr_iconstv (v := 2) dX9_pushOf_150 (by decide) ?_
    refine Wr_idiv dX9_pushOf_151 (by decide) ?_
    refine Wr_goto 157 dX9_pushOf_152 (by decide) ?_
    exact Wr_iret .int dX9_pushOf_157 rfl rfl ⟨rfl, h⟩
def pX9_pushOf (d : Nat) (x1 : Int32) (x2 : Int32) (x3 : Int32) (μ : zMem) (KI : Int32 → zMem → Prop) (X : Nat → zMem → Prop) : Prop :=
  ((μ 110 9 ≤ 0 → pX9_pushOf_124 d x1 x3 50 μ KI X) ∧
  (¬ (μ 110 9 ≤ 0) → zcI d mX9_of [.ref 106, .int x1, .int 4] μ (fun u2 m1 => ∀ m3 : zMem, m3 = zw m1 118 0 u2 → zcI d mX9_weightOf [.ref 106, .int x1] m3 (fun u5 m4 => ∀ m6 : zMem, m6 = zw m4 118 1 u5 → zcI d mX9_of [.ref 106, .int x1, .int 3] m6 (fun u8 m7 => ∀ m9 : zMem, m9 = zw m7 118 2 u8 → zcI d mX9_of [.ref 106, .int x1, .int 9] m9 (fun u11 m10 => ∀ m12 : zMem, m12 = zw m10 118 3 u11 → zcI d mX9_of [.ref 106, .int x1, .int 6] m12 (fun u14 m13 => ∀ m15 : zMem, m15 = zw m13 118 4 u14 → ∀ m16 : zMem, m16 = zw m15 118 5 (x2 - x2 / 24 * 24) → ∀ m17 : zMem, m17 = zw m16 118 6 (x2 / 24) → zcI d mX9_of [.ref 106, .int x1, .int 5] m17 (fun u19 m18 => ∀ m20 : zMem, m20 = zw m18 118 7 u19 → zcI d mX9_valueNow [.ref 106] m20 (fun u22 m21 => ∀ v23 : Int32, v23 = zmax 0 (zmin 100 u22) → pX9_pushOf_124 d x1 x3 v23 m21 KI X) X) X) X) X) X) X) X))
set_option maxRecDepth 20000 in
theorem wX9_pushOf_0 {d : Nat} {KI : Int32 → zMem → Prop} {X : Nat → zMem → Prop} {x1 : Int32} {x2 : Int32} {x3 : Int32} {μ : zMem} (h : pX9_pushOf d x1 x2 x3 μ KI X) : Wr mX9_pushOf (d + 1) 0 0 [(0, .ref 106), (1, .int x1), (2, .int x2), (3, .int x3)] [] μ (kI KI X) := by
  unfold pX9_pushOf at h
  refine Wr_bipush (v := 50) dX9_pushOf_0 (by decide) ?_
  refine Wr_istore dX9_pushOf_2 (by decide) rfl ?_
  refine Wr_aload_n dX9_pushOf_4 rfl 1 rfl ?_
  refine Wr_getR 4 dX9_pushOf_5 flX9_51 zl106 rfl (by decide) ?_
  refine Wr_bipush (v := 9) dX9_pushOf_8 (by decide) ?_
  refine Wr_iald dX9_pushOf_10 zl110 (by unfold vp_in; decide) ?_
  refine Wr_if_le 124 dX9_pushOf_11 (by decide) (fun hc => ?_) (fun hc => ?_)
  · have h := h.1 hc
    refine zsub [0, 1, 3, 4] rfl ?_
    exact wX9_pushOf_124 h
  · have h := h.2 hc
    refine Wr_aload_n dX9_pushOf_14 rfl 1 rfl ?_
    refine Wr_getR 12 dX9_pushOf_15 flX9_80 zl106 rfl (by decide) ?_
    refine Wr_iconstv (v := 0) dX9_pushOf_18 (by decide) ?_
    refine Wr_aload_n dX9_pushOf_19 rfl 1 rfl ?_
    refine Wr_iload_n dX9_pushOf_20 rfl 2 rfl ?_
    refine Wr_iconstv (v := 4) dX9_pushOf_21 (by decide) ?_
    refine Wr_cVi [.int x1, .int 4] dX9_pushOf_22 mlX9_330 mgX9_of rfl mvX9_of (zrv zl106 _ rfl rfl) rfl rfl (Nat.le_of_ble_eq_true rfl) rfl (zcI.imp h (fun u2 m1 h => ?_) (fun _ _ h => ⟨rfl, h⟩))
    obtain ⟨m3, em3⟩ : ∃ z : zMem, z = zw m1 118 0 u2 := ⟨_, rfl⟩
    have h := h m3 em3
    refine Wr_iast dX9_pushOf_25 zl118 (by unfold vp_in; decide) ?_
    refine Wr_mu em3 ?_
    refine Wr_aload_n dX9_pushOf_26 rfl 1 rfl ?_
    refine Wr_getR 12 dX9_pushOf_27 flX9_80 zl106 rfl (by decide) ?_
    refine Wr_iconstv (v := 1) dX9_pushOf_30 (by decide) ?_
    refine Wr_aload_n dX9_pushOf_31 rfl 1 rfl ?_
    refine Wr_iload_n dX9_pushOf_32 rfl 2 rfl ?_
    refine Wr_cVi [.int x1] dX9_pushOf_33 mlX9_336 mgX9_weightOf rfl mvX9_weightOf (zrv zl106 _ rfl rfl) rfl rfl (Nat.le_of_ble_eq_true rfl) rfl (zcI.imp h (fun u5 m4 h => ?_) (fun _ _ h => ⟨rfl, h⟩))
    obtain ⟨m6, em6⟩ : ∃ z : zMem, z = zw m4 118 1 u5 := ⟨_, rfl⟩
    have h := h m6 em6
    refine Wr_iast dX9_pushOf_36 zl118 (by unfold vp_in; decide) ?_
    refine Wr_mu em6 ?_
    refine Wr_aload_n dX9_pushOf_37 rfl 1 rfl ?_
    refine Wr_getR 12 dX9_pushOf_38 flX9_80 zl106 rfl (by decide) ?_
    refine Wr_iconstv (v := 2) dX9_pushOf_41 (by decide) ?_
    refine Wr_aload_n dX9_pushOf_42 rfl 1 rfl ?_
    refine Wr_iload_n dX9_pushOf_43 rfl 2 rfl ?_
    refine Wr_iconstv (v := 3) dX9_pushOf_44 (by decide) ?_
    refine Wr_cVi [.int x1, .int 3] dX9_pushOf_45 mlX9_330 mgX9_of rfl mvX9_of (zrv zl106 _ rfl rfl) rfl rfl (Nat.le_of_ble_eq_true rfl) rfl (zcI.imp h (fun u8 m7 h => ?_) (fun _ _ h => ⟨rfl, h⟩))
    obtain ⟨m9, em9⟩ : ∃ z : zMem, z = zw m7 118 2 u8 := ⟨_, rfl⟩
    have h := h m9 em9
    refine Wr_iast dX9_pushOf_48 zl118 (by unfold vp_in; decide) ?_
    refine Wr_mu em9 ?_
    refine Wr_aload_n dX9_pushOf_49 rfl 1 rfl ?_
    refine Wr_getR 12 dX9_pushOf_50 flX9_80 zl106 rfl (by decide) ?_
    refine Wr_iconstv (v := 3) dX9_pushOf_53 (by decide) ?_
    refine Wr_aload_n dX9_pushOf_54 rfl 1 rfl ?_
    refine Wr_iload_n dX9_pushOf_55 rfl 2 rfl ?_
    refine Wr_bipush (v := 9) dX9_pushOf_56 (by decide) ?_
    refine Wr_cVi [.int x1, .int 9] dX9_pushOf_58 mlX9_330 mgX9_of rfl mvX9_of (zrv zl106 _ rfl rfl) rfl rfl (Nat.le_of_ble_eq_true rfl) rfl (zcI.imp h (fun u11 m10 h => ?_) (fun _ _ h => ⟨rfl, h⟩))
    obtain ⟨m12, em12⟩ : ∃ z : zMem, z = zw m10 118 3 u11 := ⟨_, rfl⟩
    have h := h m12 em12
    refine Wr_iast dX9_pushOf_61 zl118 (by unfold vp_in; decide) ?_
    refine Wr_mu em12 ?_
    refine Wr_aload_n dX9_pushOf_62 rfl 1 rfl ?_
    refine Wr_getR 12 dX9_pushOf_63 flX9_80 zl106 rfl (by decide) ?_
    refine Wr_iconstv (v := 4) dX9_pushOf_66 (by decide) ?_
    refine Wr_aload_n dX9_pushOf_67 rfl 1 rfl ?_
    refine Wr_iload_n dX9_pushOf_68 rfl 2 rfl ?_
    refine Wr_bipush (v := 6) dX9_pushOf_69 (by decide) ?_
    refine Wr_cVi [.int x1, .int 6] dX9_pushOf_71 mlX9_330 mgX9_of rfl mvX9_of (zrv zl106 _ rfl rfl) rfl rfl (Nat.le_of_ble_eq_true rfl) rfl (zcI.imp h (fun u14 m13 h => ?_) (fun _ _ h => ⟨rfl, h⟩))
    obtain ⟨m15, em15⟩ : ∃ z : zMem, z = zw m13 118 4 u14 := ⟨_, rfl⟩
    have h := h m15 em15
    refine Wr_iast dX9_pushOf_74 zl118 (by unfold vp_in; decide) ?_
    refine Wr_mu em15 ?_
    refine Wr_aload_n dX9_pushOf_75 rfl 1 rfl ?_
    refine Wr_getR 12 dX9_pushOf_76 flX9_80 zl106 rfl (by decide) ?_
    refine Wr_iconstv (v := 5) dX9_pushOf_79 (by decide) ?_
    refine Wr_iload_n dX9_pushOf_80 rfl 3 rfl ?_
    refine Wr_bipush (v := 24) dX9_pushOf_81 (by decide) ?_
    refine Wr_irem dX9_pushOf_83 (by decide) ?_
    obtain ⟨m16, em16⟩ : ∃ z : zMem, z = zw m15 118 5 (x2 - x2 / 24 * 24) := ⟨_, rfl⟩
    have h := h m16 em16
    refine Wr_iast dX9_pushOf_84 zl118 (by unfold vp_in; decide) ?_
    refine Wr_mu em16 ?_
    refine Wr_aload_n dX9_pushOf_85 rfl 1 rfl ?_
    refine Wr_getR 12 dX9_pushOf_86 flX9_80 zl106 rfl (by decide) ?_
    refine Wr_bipush (v := 6) dX9_pushOf_89 (by decide) ?_
    refine Wr_iload_n dX9_pushOf_91 rfl 3 rfl ?_
    refine Wr_bipush (v := 24) dX9_pushOf_92 (by decide) ?_
    refine Wr_idiv dX9_pushOf_94 (by decide) ?_
    obtain ⟨m17, em17⟩ : ∃ z : zMem, z = zw m16 118 6 (x2 / 24) := ⟨_, rfl⟩
    have h := h m17 em17
    refine Wr_iast dX9_pushOf_95 zl118 (by unfold vp_in; decide) ?_
    refine Wr_mu em17 ?_
    refine Wr_aload_n dX9_pushOf_96 rfl 1 rfl ?_
    refine Wr_getR 12 dX9_pushOf_97 flX9_80 zl106 rfl (by decide) ?_
    refine Wr_bipush (v := 7) dX9_pushOf_100 (by decide) ?_
    refine Wr_aload_n dX9_pushOf_102 rfl 1 rfl ?_
    refine Wr_iload_n dX9_pushOf_103 rfl 2 rfl ?_
    refine Wr_iconstv (v := 5) dX9_pushOf_104 (by decide) ?_
    refine Wr_cVi [.int x1, .int 5] dX9_pushOf_105 mlX9_330 mgX9_of rfl mvX9_of (zrv zl106 _ rfl rfl) rfl rfl (Nat.le_of_ble_eq_true rfl) rfl (zcI.imp h (fun u19 m18 h => ?_) (fun _ _ h => ⟨rfl, h⟩))
    obtain ⟨m20, em20⟩ : ∃ z : zMem, z = zw m18 118 7 u19 := ⟨_, rfl⟩
    have h := h m20 em20
    refine Wr_iast dX9_pushOf_108 zl118 (by unfold vp_in; decide) ?_
    refine Wr_mu em20 ?_
    refine Wr_iconstv (v := 0) dX9_pushOf_109 (by decide) ?_
    refine Wr_bipush (v := 100) dX9_pushOf_110 (by decide) ?_
    refine Wr_aload_n dX9_pushOf_112 rfl 1 rfl ?_
    refine Wr_cVi [] dX9_pushOf_113 mlX9_342 mgX9_valueNow rfl mvX9_valueNow (zrv zl106 _ rfl rfl) rfl rfl (Nat.le_of_ble_eq_true rfl) rfl (zcI.imp h (fun u22 m21 h => ?_) (fun _ _ h => ⟨rfl, h⟩))
    refine Wr_mmin dX9_pushOf_116 mlX9_193 (Nat.le_of_ble_eq_true rfl) ?_
    refine Wr_mmax dX9_pushOf_119 mlX9_333 (Nat.le_of_ble_eq_true rfl) ?_
    obtain ⟨v23, ev23⟩ : ∃ z : Int32, z = zmax 0 (zmin 100 u22) := ⟨_, rfl⟩
    have h := h v23 ev23
    refine Wr_top ev23 ?_
    refine Wr_istore dX9_pushOf_122 (by decide) rfl ?_
    refine zsub [0, 1, 3, 4] rfl ?_
    exact wX9_pushOf_124 h
theorem cX9_pushOf_ {d : Nat} {x1 : Int32} {x2 : Int32} {x3 : Int32} {μ : zMem} {KI : Int32 → zMem → Prop} {X : Nat → zMem → Prop} (h : pX9_pushOf d x1 x2 x3 μ KI X) : zcI (d + 1) mX9_pushOf [.ref 106, .int x1, .int x2, .int x3] μ KI X :=
  Ex_of (w := 4) mgX9_pushOf.2.2.2.2.2 rfl rfl rfl (by decide) (wX9_pushOf_0 h)

def pX9_tellWind_14 : Nat → Nat → Int32 → Int32 → Int32 → zMem → (zMem → Prop) → (Nat → zMem → Prop) → Prop
  | 0, _, _, _, _, _, _, _ => False
  | n + 1, d, x1, x2, x3, μ, KV, X =>
  ((μ 110 1 ≤ x3 → KV μ) ∧
  (¬ (μ 110 1 ≤ x3) → (vp_in x3 24) ∧ ((x1 < μ 112 x3.toNatClampNeg → ∀ v1 : Int32, v1 = x3 + 1 → pX9_tellWind_14 n d x1 x2 v1 μ KV X) ∧
    (¬ (x1 < μ 112 x3.toNatClampNeg) → (vp_in x3 24) ∧ ((x2 ≤ μ 112 x3.toNatClampNeg → (vp_in x3 24) ∧ ∀ v2 : Int32, v2 = μ 112 x3.toNatClampNeg → (vp_in x3 24) ∧ ∀ m3 : zMem, m3 = zw μ 106 30 (μ 113 x3.toNatClampNeg) → (vp_in x3 24) ∧ ∀ m4 : zMem, m4 = zw m3 106 31 (m3 114 x3.toNatClampNeg) → ∀ v5 : Int32, v5 = x3 + 1 → pX9_tellWind_14 n d x1 v2 v5 m4 KV X) ∧
      (¬ (x2 ≤ μ 112 x3.toNatClampNeg) → ∀ v6 : Int32, v6 = x3 + 1 → pX9_tellWind_14 n d x1 x2 v6 μ KV X))))))
set_option maxRecDepth 20000 in
theorem wX9_tellWind_14 {d : Nat} {KV : zMem → Prop} {X : Nat → zMem → Prop} : ∀ (n : Nat) (x1 : Int32) (x2 : Int32) (x3 : Int32) (μ : zMem), pX9_tellWind_14 n d x1 x2 x3 μ KV X → Wr mX9_tellWind (d + 1) 0 14 [(0, .ref 106), (1, .int x1), (2, .int x2), (3, .int x3)] [] μ (kV KV X) := by
  intro n
  induction n with
  | zero =>
    intro x1 x2 x3 μ h
    exact absurd h id
  | succ n ih =>
    intro x1 x2 x3 μ h
    unfold pX9_tellWind_14 at h
    refine Wr_iload_n dX9_tellWind_14 rfl 3 rfl ?_
    refine Wr_aload_n dX9_tellWind_15 rfl 0 rfl ?_
    refine Wr_getR 4 dX9_tellWind_16 flX9_51 zl106 rfl (by decide) ?_
    refine Wr_iconstv (v := 1) dX9_tellWind_19 (by decide) ?_
    refine Wr_iald dX9_tellWind_20 zl110 (by unfold vp_in; decide) ?_
    refine Wr_icmp_ge 80 dX9_tellWind_21 (by decide) (fun hc => ?_) (fun hc => ?_)
    · have h := h.1 hc
      exact Wr_vret dX9_tellWind_80 rfl ⟨rfl, h⟩
    · have h := h.2 hc
      refine Wr_aload_n dX9_tellWind_24 rfl 0 rfl ?_
      refine Wr_getR 6 dX9_tellWind_25 flX9_58 zl106 rfl (by decide) ?_
      refine Wr_iload_n dX9_tellWind_28 rfl 3 rfl ?_
      obtain ⟨hi, h⟩ := h
      refine Wr_iald dX9_tellWind_29 zl112 hi ?_
      refine Wr_iload_n dX9_tellWind_30 rfl 1 rfl ?_
      refine Wr_icmp_gt 74 dX9_tellWind_31 (by decide) (fun hc => ?_) (fun hc => ?_)
      · have h := h.1 hc
        obtain ⟨v1, ev1⟩ : ∃ z : Int32, z = x3 + 1 := ⟨_, rfl⟩
        have h := h v1 ev1
        refine Wr_iinc (v := v1) dX9_tellWind_74 (q := 3) rfl (by rw [ev1]; rfl) (by decide) rfl ?_
        refine Wr_goto 14 dX9_tellWind_77 (by decide) ?_
        refine zsub [0, 1, 2, 3] rfl ?_
        exact ih _ _ _ _ h
      · have h := h.2 hc
        refine Wr_aload_n dX9_tellWind_34 rfl 0 rfl ?_
        refine Wr_getR 6 dX9_tellWind_35 flX9_58 zl106 rfl (by decide) ?_
        refine Wr_iload_n dX9_tellWind_38 rfl 3 rfl ?_
        obtain ⟨hi, h⟩ := h
        refine Wr_iald dX9_tellWind_39 zl112 hi ?_
        refine Wr_iload_n dX9_tellWind_40 rfl 2 rfl ?_
        refine Wr_icmp_ge 47 dX9_tellWind_41 (by decide) (fun hc => ?_) (fun hc => ?_)
        · have h := h.1 hc
          refine Wr_aload_n dX9_tellWind_47 rfl 0 rfl ?_
          refine Wr_getR 6 dX9_tellWind_48 flX9_58 zl106 rfl (by decide) ?_
          refine Wr_iload_n dX9_tellWind_51 rfl 3 rfl ?_
          obtain ⟨hi, h⟩ := h
          refine Wr_iald dX9_tellWind_52 zl112 hi ?_
          obtain ⟨v2, ev2⟩ : ∃ z : Int32, z = μ 112 x3.toNatClampNeg := ⟨_, rfl⟩
          have h := h v2 ev2
          refine Wr_top ev2 ?_
          refine Wr_istore_n dX9_tellWind_53 rfl (by decide) rfl ?_
          refine Wr_aload_n dX9_tellWind_54 rfl 1 rfl ?_
          refine Wr_aload_n dX9_tellWind_55 rfl 1 rfl ?_
          refine Wr_getR 7 dX9_tellWind_56 flX9_61 zl106 rfl (by decide) ?_
          refine Wr_iload_n dX9_tellWind_59 rfl 3 rfl ?_
          obtain ⟨hi, h⟩ := h
          refine Wr_iald dX9_tellWind_60 zl113 hi ?_
          obtain ⟨m3, em3⟩ : ∃ z : zMem, z = zw μ 106 30 (μ 113 x3.toNatClampNeg) := ⟨_, rfl⟩
          have h := h m3 em3
          refine Wr_putI dX9_tellWind_61 fpX9_345 zl106 rfl ?_
          refine Wr_mu em3 ?_
          refine Wr_aload_n dX9_tellWind_64 rfl 1 rfl ?_
          refine Wr_aload_n dX9_tellWind_65 rfl 1 rfl ?_
          refine Wr_getR 8 dX9_tellWind_66 flX9_64 zl106 rfl (by decide) ?_
          refine Wr_iload_n dX9_tellWind_69 rfl 3 rfl ?_
          obtain ⟨hi, h⟩ := h
          refine Wr_iald dX9_tellWind_70 zl114 hi ?_
          obtain ⟨m4, em4⟩ : ∃ z : zMem, z = zw m3 106 31 (m3 114 x3.toNatClampNeg) := ⟨_, rfl⟩
          have h := h m4 em4
          refine Wr_putI dX9_tellWind_71 fpX9_348 zl106 rfl ?_
          refine Wr_mu em4 ?_
          obtain ⟨v5, ev5⟩ : ∃ z : Int32, z = x3 + 1 := ⟨_, rfl⟩
          have h := h v5 ev5
          refine Wr_iinc (v := v5) dX9_tellWind_74 (q := 3) rfl (by rw [ev5]; rfl) (by decide) rfl ?_
          refine Wr_goto 14 dX9_tellWind_77 (by decide) ?_
          refine zsub [0, 1, 2, 3] rfl ?_
          exact ih _ _ _ _ h
        · have h := h.2 hc
          refine Wr_goto 74 dX9_tellWind_44 (by decide) ?_
          obtain ⟨v6, ev6⟩ : ∃ z : Int32, z = x3 + 1 := ⟨_, rfl⟩
          have h := h v6 ev6
          refine Wr_iinc (v := v6) dX9_tellWind_74 (q := 3) rfl (by rw [ev6]; rfl) (by decide) rfl ?_
          refine Wr_goto 14 dX9_tellWind_77 (by decide) ?_
          refine zsub [0, 1, 2, 3] rfl ?_
          exact ih _ _ _ _ h
def pX9_tellWind (d : Nat) (x1 : Int32) (μ : zMem) (KV : zMem → Prop) (X : Nat → zMem → Prop) : Prop :=
  ∀ m1 : zMem, m1 = zw μ 106 30 0 → ∀ m2 : zMem, m2 = zw m1 106 31 0 → ∃ n2 : Nat, pX9_tellWind_14 n2 d x1 (-1) 0 m2 KV X
set_option maxRecDepth 20000 in
theorem wX9_tellWind_0 {d : Nat} {KV : zMem → Prop} {X : Nat → zMem → Prop} {x1 : Int32} {μ : zMem} (h : pX9_tellWind d x1 μ KV X) : Wr mX9_tellWind (d + 1) 0 0 [(0, .ref 106), (1, .int x1)] [] μ (kV KV X) := by
  unfold pX9_tellWind at h
  refine Wr_aload_n dX9_tellWind_0 rfl 0 rfl ?_
  refine Wr_iconstv (v := 0) dX9_tellWind_1 (by decide) ?_
  obtain ⟨m1, em1⟩ : ∃ z : zMem, z = zw μ 106 30 0 := ⟨_, rfl⟩
  have h := h m1 em1
  refine Wr_putI dX9_tellWind_2 fpX9_345 zl106 rfl ?_
  refine Wr_mu em1 ?_
  refine Wr_aload_n dX9_tellWind_5 rfl 0 rfl ?_
  refine Wr_iconstv (v := 0) dX9_tellWind_6 (by decide) ?_
  obtain ⟨m2, em2⟩ : ∃ z : zMem, z = zw m1 106 31 0 := ⟨_, rfl⟩
  have h := h m2 em2
  refine Wr_putI dX9_tellWind_7 fpX9_348 zl106 rfl ?_
  refine Wr_mu em2 ?_
  refine Wr_iconstv (v := (-1)) dX9_tellWind_10 (by decide) ?_
  refine Wr_istore_n dX9_tellWind_11 rfl (by decide) rfl ?_
  refine Wr_iconstv (v := 0) dX9_tellWind_12 (by decide) ?_
  refine Wr_istore_n dX9_tellWind_13 rfl (by decide) rfl ?_
  refine zsub [0, 1, 2, 3] rfl ?_
  obtain ⟨n9, h⟩ := h
  exact wX9_tellWind_14 n9 _ _ _ _ h
theorem cX9_tellWind_ {d : Nat} {x1 : Int32} {μ : zMem} {KV : zMem → Prop} {X : Nat → zMem → Prop} (h : pX9_tellWind d x1 μ KV X) : zcV (d + 1) mX9_tellWind [.ref 106, .int x1] μ KV X :=
  Ex_of (w := 2) mgX9_tellWind.2.2.2.2.2 rfl rfl rfl (by decide) (wX9_tellWind_0 h)

def pX9_tellIsle (d : Nat) (x1 : Int32) (x2 : Int32) (x3 : Int32) (μ : zMem) (KV : zMem → Prop) (X : Nat → zMem → Prop) : Prop :=
  zcI d mX9_of [.ref 106, .int x1, .int 1] μ (fun u2 m1 => (vp_in x1 6) ∧ ∀ m3 : zMem, m3 = zw m1 120 x1.toNatClampNeg u2 → zcI d mX9_of [.ref 106, .int x1, .int 2] m3 (fun u5 m4 => (vp_in x1 6) ∧ ∀ m6 : zMem, m6 = zw m4 121 x1.toNatClampNeg u5 → (vp_in x1 6) ∧ ∀ m7 : zMem, m7 = zw m6 122 x1.toNatClampNeg 0 → zcI d mX9_floats [.ref 106, .int x1] m7 (fun u9 m8 => ((u9 = 0 → KV m8) ∧
  (¬ (u9 = 0) → zcI d mX9_lineOf [.ref 106, .int x1] m8 (fun u11 m10 => zcI d mX9_pushOf [.ref 106, .int x1, .int x2, .int x3] m10 (fun u13 m12 => ∀ v14 : Int32, v14 = ((u11 * (m12 106 30)) * u13) / 900 → ∀ v15 : Int32, v15 = ((u11 * (m12 106 31)) * u13) / 900 → (vp_in x1 6) ∧ (vp_in x1 6) ∧ ∀ m16 : zMem, m16 = zw m12 120 x1.toNatClampNeg ((m12 120 x1.toNatClampNeg) + v14) → (vp_in x1 6) ∧ (vp_in x1 6) ∧ ∀ m17 : zMem, m17 = zw m16 121 x1.toNatClampNeg ((m16 121 x1.toNatClampNeg) + v15) → (vp_in x1 6) ∧ ∀ m18 : zMem, m18 = zw m17 122 x1.toNatClampNeg (u11 - (zmax (zabs v14) (zabs v15))) → KV m18) X) X))) X) X) X
set_option maxRecDepth 20000 in
theorem wX9_tellIsle_0 {d : Nat} {KV : zMem → Prop} {X : Nat → zMem → Prop} {x1 : Int32} {x2 : Int32} {x3 : Int32} {μ : zMem} (h : pX9_tellIsle d x1 x2 x3 μ KV X) : Wr mX9_tellIsle (d + 1) 0 0 [(0, .ref 106), (1, .int x1), (2, .int x2), (3, .int x3)] [] μ (kV KV X) := by
  unfold pX9_tellIsle at h
  refine Wr_aload_n dX9_tellIsle_0 rfl 0 rfl ?_
  refine Wr_getR 14 dX9_tellIsle_1 flX9_86 zl106 rfl (by decide) ?_
  refine Wr_iload_n dX9_tellIsle_4 rfl 1 rfl ?_
  refine Wr_aload_n dX9_tellIsle_5 rfl 0 rfl ?_
  refine Wr_iload_n dX9_tellIsle_6 rfl 1 rfl ?_
  refine Wr_iconstv (v := 1) dX9_tellIsle_7 (by decide) ?_
  refine Wr_cVi [.int x1, .int 1] dX9_tellIsle_8 mlX9_330 mgX9_of rfl mvX9_of (zrv zl106 _ rfl rfl) rfl rfl (Nat.le_of_ble_eq_true rfl) rfl (zcI.imp h (fun u2 m1 h => ?_) (fun _ _ h => ⟨rfl, h⟩))
  obtain ⟨him3, h⟩ := h
  obtain ⟨m3, em3⟩ : ∃ z : zMem, z = zw m1 120 x1.toNatClampNeg u2 := ⟨_, rfl⟩
  have h := h m3 em3
  refine Wr_iast dX9_tellIsle_11 zl120 him3 ?_
  refine Wr_mu em3 ?_
  refine Wr_aload_n dX9_tellIsle_12 rfl 0 rfl ?_
  refine Wr_getR 15 dX9_tellIsle_13 flX9_89 zl106 rfl (by decide) ?_
  refine Wr_iload_n dX9_tellIsle_16 rfl 1 rfl ?_
  refine Wr_aload_n dX9_tellIsle_17 rfl 0 rfl ?_
  refine Wr_iload_n dX9_tellIsle_18 rfl 1 rfl ?_
  refine Wr_iconstv (v := 2) dX9_tellIsle_19 (by decide) ?_
  refine Wr_cVi [.int x1, .int 2] dX9_tellIsle_20 mlX9_330 mgX9_of rfl mvX9_of (zrv zl106 _ rfl rfl) rfl rfl (Nat.le_of_ble_eq_true rfl) rfl (zcI.imp h (fun u5 m4 h => ?_) (fun _ _ h => ⟨rfl, h⟩))
  obtain ⟨him6, h⟩ := h
  obtain ⟨m6, em6⟩ : ∃ z : zMem, z = zw m4 121 x1.toNatClampNeg u5 := ⟨_, rfl⟩
  have h := h m6 em6
  refine Wr_iast dX9_tellIsle_23 zl121 him6 ?_
  refine Wr_mu em6 ?_
  refine Wr_aload_n dX9_tellIsle_24 rfl 0 rfl ?_
  refine Wr_getR 16 dX9_tellIsle_25 flX9_92 zl106 rfl (by decide) ?_
  refine Wr_iload_n dX9_tellIsle_28 rfl 1 rfl ?_
  refine Wr_iconstv (v := 0) dX9_tellIsle_29 (by decide) ?_
  obtain ⟨him7, h⟩ := h
  obtain ⟨m7, em7⟩ : ∃ z : zMem, z = zw m6 122 x1.toNatClampNeg 0 := ⟨_, rfl⟩
  have h := h m7 em7
  refine Wr_iast dX9_tellIsle_30 zl122 him7 ?_
  refine Wr_mu em7 ?_
  refine Wr_aload_n dX9_tellIsle_31 rfl 0 rfl ?_
  refine Wr_iload_n dX9_tellIsle_32 rfl 1 rfl ?_
  refine Wr_cVi [.int x1] dX9_tellIsle_33 mlX9_351 mgX9_floats rfl mvX9_floats (zrv zl106 _ rfl rfl) rfl rfl (Nat.le_of_ble_eq_true rfl) rfl (zcI.imp h (fun u9 m8 h => ?_) (fun _ _ h => ⟨rfl, h⟩))
  refine Wr_if_ne 40 dX9_tellIsle_36 (by decide) (fun hc => ?_) (fun hc => ?_)
  · have h := h.2 hc
    refine Wr_aload_n dX9_tellIsle_40 rfl 0 rfl ?_
    refine Wr_iload_n dX9_tellIsle_41 rfl 1 rfl ?_
    refine Wr_cVi [.int x1] dX9_tellIsle_42 mlX9_339 mgX9_lineOf rfl mvX9_lineOf (zrv zl106 _ rfl rfl) rfl rfl (Nat.le_of_ble_eq_true rfl) rfl (zcI.imp h (fun u11 m10 h => ?_) (fun _ _ h => ⟨rfl, h⟩))
    refine Wr_istore dX9_tellIsle_45 (by decide) rfl ?_
    refine Wr_aload_n dX9_tellIsle_47 rfl 1 rfl ?_
    refine Wr_iload_n dX9_tellIsle_48 rfl 2 rfl ?_
    refine Wr_iload_n dX9_tellIsle_49 rfl 3 rfl ?_
    refine Wr_iload_n dX9_tellIsle_50 rfl 4 rfl ?_
    refine Wr_cVi [.int x1, .int x2, .int x3] dX9_tellIsle_51 mlX9_354 mgX9_pushOf rfl mvX9_pushOf (zrv zl106 _ rfl rfl) rfl rfl (Nat.le_of_ble_eq_true rfl) rfl (zcI.imp h (fun u13 m12 h => ?_) (fun _ _ h => ⟨rfl, h⟩))
    refine Wr_istore dX9_tellIsle_54 (by decide) rfl ?_
    refine Wr_iload dX9_tellIsle_56 1 rfl ?_
    refine Wr_aload_n dX9_tellIsle_58 rfl 2 rfl ?_
    refine Wr_getI dX9_tellIsle_59 flX9_345 zl106 rfl ?_
    refine Wr_imul dX9_tellIsle_62 ?_
    refine Wr_iload dX9_tellIsle_63 0 rfl ?_
    refine Wr_imul dX9_tellIsle_65 ?_
    refine Wr_sipush (v := 900) dX9_tellIsle_66 (by decide) ?_
    refine Wr_idiv dX9_tellIsle_69 (by decide) ?_
    obtain ⟨v14, ev14⟩ : ∃ z : Int32, z = ((u11 * (m12 106 30)) * u13) / 900 := ⟨_, rfl⟩
    have h := h v14 ev14
    refine Wr_top ev14 ?_
    refine Wr_istore dX9_tellIsle_70 (by decide) rfl ?_
    refine Wr_iload dX9_tellIsle_72 2 rfl ?_
    refine Wr_aload_n dX9_tellIsle_74 rfl 3 rfl ?_
    refine Wr_getI dX9_tellIsle_75 flX9_348 zl106 rfl ?_
    refine Wr_imul dX9_tellIsle_78 ?_
    refine Wr_iload dX9_tellIsle_79 1 rfl ?_
    refine Wr_imul dX9_tellIsle_81 ?_
    refine Wr_sipush (v := 900) dX9_tellIsle_82 (by decide) ?_
    refine Wr_idiv dX9_tellIsle_85 (by decide) ?_
    obtain ⟨v15, ev15⟩ : ∃ z : Int32, z = ((u11 * (m12 106 31)) * u13) / 900 := ⟨_, rfl⟩
    have h := h v15 ev15
    refine Wr_top ev15 ?_
    refine Wr_istore dX9_tellIsle_86 (by decide) rfl ?_
    refine Wr_aload_n dX9_tellIsle_88 rfl 4 rfl ?_
    refine Wr_getR 14 dX9_tellIsle_89 flX9_86 zl106 rfl (by decide) ?_
    refine Wr_iload_n dX9_tellIsle_92 rfl 5 rfl ?_
    refine Wr_dup2 dX9_tellIsle_93 rfl rfl ?_
    obtain ⟨hi, h⟩ := h
    refine Wr_iald dX9_tellIsle_94 zl120 hi ?_
    refine Wr_iload dX9_tellIsle_95 1 rfl ?_
    refine Wr_iadd dX9_tellIsle_97 ?_
    obtain ⟨him16, h⟩ := h
    obtain ⟨m16, em16⟩ : ∃ z : zMem, z = zw m12 120 x1.toNatClampNeg ((m12 120 x1.toNatClampNeg) + v14) := ⟨_, rfl⟩
    have h := h m16 em16
    refine Wr_iast dX9_tellIsle_98 zl120 him16 ?_
    refine Wr_mu em16 ?_
    refine Wr_aload_n dX9_tellIsle_99 rfl 4 rfl ?_
    refine Wr_getR 15 dX9_tellIsle_100 flX9_89 zl106 rfl (by decide) ?_
    refine Wr_iload_n dX9_tellIsle_103 rfl 5 rfl ?_
    refine Wr_dup2 dX9_tellIsle_104 rfl rfl ?_
    obtain ⟨hi, h⟩ := h
    refine Wr_iald dX9_tellIsle_105 zl121 hi ?_
    refine Wr_iload dX9_tellIsle_106 0 rfl ?_
    refine Wr_iadd dX9_tellIsle_108 ?_
    obtain ⟨him17, h⟩ := h
    obtain ⟨m17, em17⟩ : ∃ z : zMem, z = zw m16 121 x1.toNatClampNeg ((m16 121 x1.toNatClampNeg) + v15) := ⟨_, rfl⟩
    have h := h m17 em17
    refine Wr_iast dX9_tellIsle_109 zl121 him17 ?_
    refine Wr_mu em17 ?_
    refine Wr_aload_n dX9_tellIsle_110 rfl 4 rfl ?_
    refine Wr_getR 16 dX9_tellIsle_111 flX9_92 zl106 rfl (by decide) ?_
    refine Wr_iload_n dX9_tellIsle_114 rfl 5 rfl ?_
    refine Wr_iload dX9_tellIsle_115 3 rfl ?_
    refine Wr_iload dX9_tellIsle_117 1 rfl ?_
    refine Wr_mabs dX9_tellIsle_119 mlX9_357 (Nat.le_of_ble_eq_true rfl) ?_
    refine Wr_iload dX9_tellIsle_122 0 rfl ?_
    refine Wr_mabs dX9_tellIsle_124 mlX9_357 (Nat.le_of_ble_eq_true rfl) ?_
    refine Wr_mmax dX9_tellIsle_127 mlX9_333 (Nat.le_of_ble_eq_true rfl) ?_
    refine Wr_isub dX9_tellIsle_130 ?_
    obtain ⟨him18, h⟩ := h
    obtain ⟨m18, em18⟩ : ∃ z : zMem, z = zw m17 122 x1.toNatClampNeg (u11 - (zmax (zabs v14) (zabs v15))) := ⟨_, rfl⟩
    have h := h m18 em18
    refine Wr_iast dX9_tellIsle_131 zl122 him18 ?_
    refine Wr_mu em18 ?_
    exact Wr_vret dX9_tellIsle_132 rfl ⟨rfl, h⟩
  · have h := h.1 hc
    exact Wr_vret dX9_tellIsle_39 rfl ⟨rfl, h⟩
theorem cX9_tellIsle_ {d : Nat} {x1 : Int32} {x2 : Int32} {x3 : Int32} {μ : zMem} {KV : zMem → Prop} {X : Nat → zMem → Prop} (h : pX9_tellIsle d x1 x2 x3 μ KV X) : zcV (d + 1) mX9_tellIsle [.ref 106, .int x1, .int x2, .int x3] μ KV X :=
  Ex_of (w := 4) mgX9_tellIsle.2.2.2.2.2 rfl rfl rfl (by decide) (wX9_tellIsle_0 h)

def pX9_tellHour_7 : Nat → Nat → Int32 → Int32 → Int32 → zMem → (zMem → Prop) → (Nat → zMem → Prop) → Prop
  | 0, _, _, _, _, _, _, _ => False
  | n + 1, d, x1, x2, x3, μ, KV, X =>
  ((μ 110 0 ≤ x3 → KV μ) ∧
  (¬ (μ 110 0 ≤ x3) → zcV d mX9_tellIsle [.ref 106, .int x3, .int x1, .int x2] μ (fun m1 => ∀ v2 : Int32, v2 = x3 + 1 → pX9_tellHour_7 n d x1 x2 v2 m1 KV X) X))
set_option maxRecDepth 20000 in
theorem wX9_tellHour_7 {d : Nat} {KV : zMem → Prop} {X : Nat → zMem → Prop} : ∀ (n : Nat) (x1 : Int32) (x2 : Int32) (x3 : Int32) (μ : zMem), pX9_tellHour_7 n d x1 x2 x3 μ KV X → Wr mX9_tellHour (d + 1) 0 7 [(0, .ref 106), (1, .int x1), (2, .int x2), (3, .int x3)] [] μ (kV KV X) := by
  intro n
  induction n with
  | zero =>
    intro x1 x2 x3 μ h
    exact absurd h id
  | succ n ih =>
    intro x1 x2 x3 μ h
    unfold pX9_tellHour_7 at h
    refine Wr_iload_n dX9_tellHour_7 rfl 3 rfl ?_
    refine Wr_aload_n dX9_tellHour_8 rfl 0 rfl ?_
    refine Wr_getR 4 dX9_tellHour_9 flX9_51 zl106 rfl (by decide) ?_
    refine Wr_iconstv (v := 0) dX9_tellHour_12 (by decide) ?_
    refine Wr_iald dX9_tellHour_13 zl110 (by unfold vp_in; decide) ?_
    refine Wr_icmp_ge 30 dX9_tellHour_14 (by decide) (fun hc => ?_) (fun hc => ?_)
    · have h := h.1 hc
      exact Wr_vret dX9_tellHour_30 rfl ⟨rfl, h⟩
    · have h := h.2 hc
      refine Wr_aload_n dX9_tellHour_17 rfl 0 rfl ?_
      refine Wr_iload_n dX9_tellHour_18 rfl 3 rfl ?_
      refine Wr_iload_n dX9_tellHour_19 rfl 1 rfl ?_
      refine Wr_iload_n dX9_tellHour_20 rfl 2 rfl ?_
      refine Wr_cVv [.int x3, .int x1, .int x2] dX9_tellHour_21 mlX9_363 mgX9_tellIsle rfl mvX9_tellIsle (zrv zl106 _ rfl rfl) rfl rfl (Nat.le_of_ble_eq_true rfl) rfl (zcV.imp h (fun m1 h => ?_) (fun _ _ h => ⟨rfl, h⟩))
      obtain ⟨v2, ev2⟩ : ∃ z : Int32, z = x3 + 1 := ⟨_, rfl⟩
      have h := h v2 ev2
      refine Wr_iinc (v := v2) dX9_tellHour_24 (q := 3) rfl (by rw [ev2]; rfl) (by decide) rfl ?_
      refine Wr_goto 7 dX9_tellHour_27 (by decide) ?_
      refine zsub [0, 1, 2, 3] rfl ?_
      exact ih _ _ _ _ h
def pX9_tellHour (d : Nat) (x1 : Int32) (x2 : Int32) (μ : zMem) (KV : zMem → Prop) (X : Nat → zMem → Prop) : Prop :=
  zcV d mX9_tellWind [.ref 106, .int x1] μ (fun m1 => ∃ n2 : Nat, pX9_tellHour_7 n2 d x1 x2 0 m1 KV X) X
set_option maxRecDepth 20000 in
theorem wX9_tellHour_0 {d : Nat} {KV : zMem → Prop} {X : Nat → zMem → Prop} {x1 : Int32} {x2 : Int32} {μ : zMem} (h : pX9_tellHour d x1 x2 μ KV X) : Wr mX9_tellHour (d + 1) 0 0 [(0, .ref 106), (1, .int x1), (2, .int x2)] [] μ (kV KV X) := by
  unfold pX9_tellHour at h
  refine Wr_aload_n dX9_tellHour_0 rfl 0 rfl ?_
  refine Wr_iload_n dX9_tellHour_1 rfl 1 rfl ?_
  refine Wr_cVv [.int x1] dX9_tellHour_2 mlX9_360 mgX9_tellWind rfl mvX9_tellWind (zrv zl106 _ rfl rfl) rfl rfl (Nat.le_of_ble_eq_true rfl) rfl (zcV.imp h (fun m1 h => ?_) (fun _ _ h => ⟨rfl, h⟩))
  refine Wr_iconstv (v := 0) dX9_tellHour_5 (by decide) ?_
  refine Wr_istore_n dX9_tellHour_6 rfl (by decide) rfl ?_
  refine zsub [0, 1, 2, 3] rfl ?_
  obtain ⟨n9, h⟩ := h
  exact wX9_tellHour_7 n9 _ _ _ _ h
theorem cX9_tellHour_ {d : Nat} {x1 : Int32} {x2 : Int32} {μ : zMem} {KV : zMem → Prop} {X : Nat → zMem → Prop} (h : pX9_tellHour d x1 x2 μ KV X) : zcV (d + 1) mX9_tellHour [.ref 106, .int x1, .int x2] μ KV X :=
  Ex_of (w := 3) mgX9_tellHour.2.2.2.2.2 rfl rfl rfl (by decide) (wX9_tellHour_0 h)

def pX9_isOver (d : Nat) (x1 : Int32) (x2 : Int32) (x3 : Int32) (μ : zMem) (KI : Int32 → zMem → Prop) (X : Nat → zMem → Prop) : Prop :=
  zcI d mX9_of [.ref 106, .int x1, .int 5] μ (fun u2 m1 => zcI d mX9_of [.ref 106, .int x2, .int 5] m1 (fun u4 m3 => (vp_in x1 6) ∧ (vp_in x2 6) ∧ (((u2 + u4) + x3 < zabs ((m3 120 x1.toNatClampNeg) - (m3 120 x2.toNatClampNeg)) → KI 0 m3) ∧
  (¬ ((u2 + u4) + x3 < zabs ((m3 120 x1.toNatClampNeg) - (m3 120 x2.toNatClampNeg))) → (vp_in x1 6) ∧ (vp_in x2 6) ∧ KI (if (u2 + u4) + x3 < zabs ((m3 121 x1.toNatClampNeg) - (m3 121 x2.toNatClampNeg)) then 0 else 1) m3))) X) X
set_option maxRecDepth 20000 in
theorem wX9_isOver_0 {d : Nat} {KI : Int32 → zMem → Prop} {X : Nat → zMem → Prop} {x1 : Int32} {x2 : Int32} {x3 : Int32} {μ : zMem} (h : pX9_isOver d x1 x2 x3 μ KI X) : Wr mX9_isOver (d + 1) 0 0 [(0, .ref 106), (1, .int x1), (2, .int x2), (3, .int x3)] [] μ (kI KI X) := by
  unfold pX9_isOver at h
  refine Wr_aload_n dX9_isOver_0 rfl 0 rfl ?_
  refine Wr_iload_n dX9_isOver_1 rfl 1 rfl ?_
  refine Wr_iconstv (v := 5) dX9_isOver_2 (by decide) ?_
  refine Wr_cVi [.int x1, .int 5] dX9_isOver_3 mlX9_330 mgX9_of rfl mvX9_of (zrv zl106 _ rfl rfl) rfl rfl (Nat.le_of_ble_eq_true rfl) rfl (zcI.imp h (fun u2 m1 h => ?_) (fun _ _ h => ⟨rfl, h⟩))
  refine Wr_aload_n dX9_isOver_6 rfl 0 rfl ?_
  refine Wr_iload_n dX9_isOver_7 rfl 2 rfl ?_
  refine Wr_iconstv (v := 5) dX9_isOver_8 (by decide) ?_
  refine Wr_cVi [.int x2, .int 5] dX9_isOver_9 mlX9_330 mgX9_of rfl mvX9_of (zrv zl106 _ rfl rfl) rfl rfl (Nat.le_of_ble_eq_true rfl) rfl (zcI.imp h (fun u4 m3 h => ?_) (fun _ _ h => ⟨rfl, h⟩))
  refine Wr_iadd dX9_isOver_12 ?_
  refine Wr_iload_n dX9_isOver_13 rfl 3 rfl ?_
  refine Wr_iadd dX9_isOver_14 ?_
  refine Wr_istore dX9_isOver_15 (by decide) rfl ?_
  refine Wr_aload_n dX9_isOver_17 rfl 1 rfl ?_
  refine Wr_getR 14 dX9_isOver_18 flX9_86 zl106 rfl (by decide) ?_
  refine Wr_iload_n dX9_isOver_21 rfl 2 rfl ?_
  obtain ⟨hi, h⟩ := h
  refine Wr_iald dX9_isOver_22 zl120 hi ?_
  refine Wr_aload_n dX9_isOver_23 rfl 1 rfl ?_
  refine Wr_getR 14 dX9_isOver_24 flX9_86 zl106 rfl (by decide) ?_
  refine Wr_iload_n dX9_isOver_27 rfl 3 rfl ?_
  obtain ⟨hi, h⟩ := h
  refine Wr_iald dX9_isOver_28 zl120 hi ?_
  refine Wr_isub dX9_isOver_29 ?_
  refine Wr_mabs dX9_isOver_30 mlX9_357 (Nat.le_of_ble_eq_true rfl) ?_
  refine Wr_iload dX9_isOver_33 0 rfl ?_
  refine Wr_icmp_gt 63 dX9_isOver_35 (by decide) (fun hc => ?_) (fun hc => ?_)
  · have h := h.1 hc
    refine Wr_iconstv (v := 0) dX9_isOver_63 (by decide) ?_
    exact Wr_iret .boolean dX9_isOver_64 rfl rfl ⟨rfl, h⟩
  · have h := h.2 hc
    refine Wr_aload_n dX9_isOver_38 rfl 1 rfl ?_
    refine Wr_getR 15 dX9_isOver_39 flX9_89 zl106 rfl (by decide) ?_
    refine Wr_iload_n dX9_isOver_42 rfl 2 rfl ?_
    obtain ⟨hi, h⟩ := h
    refine Wr_iald dX9_isOver_43 zl121 hi ?_
    refine Wr_aload_n dX9_isOver_44 rfl 1 rfl ?_
    refine Wr_getR 15 dX9_isOver_45 flX9_89 zl106 rfl (by decide) ?_
    refine Wr_iload_n dX9_isOver_48 rfl 3 rfl ?_
    obtain ⟨hi, h⟩ := h
    refine Wr_iald dX9_isOver_49 zl121 hi ?_
    refine Wr_isub dX9_isOver_50 ?_
    refine Wr_mabs dX9_isOver_51 mlX9_357 (Nat.le_of_ble_eq_true rfl) ?_
    refine Wr_iload dX9_isOver_54 0 rfl ?_
    have hj1 : Wr mX9_isOver (d + 1) 0 64 [(4, .int ((u2 + u4) + x3)), (0, .ref 106), (1, .int x1), (2, .int x2), (3, .int x3)] [.int (if (u2 + u4) + x3 < zabs ((m3 121 x1.toNatClampNeg) - (m3 121 x2.toNatClampNeg)) then 0 else 1)] m3 (kI KI X) := by
      exact Wr_iret .boolean dX9_isOver_64 rfl (znar (by (repeat' split) <;> simp)) ⟨rfl, h⟩
    refine Wr_icmp_gt 63 dX9_isOver_56 (by decide) (fun hc0 => ?_) (fun hc0 => ?_)
    · skip
      refine Wr_iconstv (v := 0) dX9_isOver_63 (by decide) ?_
      exact Wr_top (if_pos hc0) hj1
    · skip
      refine Wr_iconstv (v := 1) dX9_isOver_59 (by decide) ?_
      refine Wr_goto 64 dX9_isOver_60 (by decide) ?_
      exact Wr_top (if_neg hc0) hj1
theorem cX9_isOver_ {d : Nat} {x1 : Int32} {x2 : Int32} {x3 : Int32} {μ : zMem} {KI : Int32 → zMem → Prop} {X : Nat → zMem → Prop} (h : pX9_isOver d x1 x2 x3 μ KI X) : zcI (d + 1) mX9_isOver [.ref 106, .int x1, .int x2, .int x3] μ KI X :=
  Ex_of (w := 4) mgX9_isOver.2.2.2.2.2 rfl rfl rfl (by decide) (wX9_isOver_0 h)

def pX9_knocks (d : Nat) (x1 : Int32) (x2 : Int32) (μ : zMem) (KI : Int32 → zMem → Prop) (X : Nat → zMem → Prop) : Prop :=
  zcI d mX9_isOver [.ref 106, .int x1, .int x2, .int 0] μ (fun u2 m1 => ((u2 = 0 → KI 0 m1) ∧
  (¬ (u2 = 0) → (vp_in x1 6) ∧ (vp_in x2 6) ∧ KI (if 1 < zabs ((m1 122 x1.toNatClampNeg) - (m1 122 x2.toNatClampNeg)) then 0 else 1) m1))) X
set_option maxRecDepth 20000 in
theorem wX9_knocks_0 {d : Nat} {KI : Int32 → zMem → Prop} {X : Nat → zMem → Prop} {x1 : Int32} {x2 : Int32} {μ : zMem} (h : pX9_knocks d x1 x2 μ KI X) : Wr mX9_knocks (d + 1) 0 0 [(0, .ref 106), (1, .int x1), (2, .int x2)] [] μ (kI KI X) := by
  unfold pX9_knocks at h
  refine Wr_aload_n dX9_knocks_0 rfl 0 rfl ?_
  refine Wr_iload_n dX9_knocks_1 rfl 1 rfl ?_
  refine Wr_iload_n dX9_knocks_2 rfl 2 rfl ?_
  refine Wr_iconstv (v := 0) dX9_knocks_3 (by decide) ?_
  refine Wr_cVi [.int x1, .int x2, .int 0] dX9_knocks_4 mlX9_367 mgX9_isOver rfl mvX9_isOver (zrv zl106 _ rfl rfl) rfl rfl (Nat.le_of_ble_eq_true rfl) rfl (zcI.imp h (fun u2 m1 h => ?_) (fun _ _ h => ⟨rfl, h⟩))
  refine Wr_if_eq 34 dX9_knocks_7 (by decide) (fun hc => ?_) (fun hc => ?_)
  · have h := h.1 hc
    refine Wr_iconstv (v := 0) dX9_knocks_34 (by decide) ?_
    exact Wr_iret .boolean dX9_knocks_35 rfl rfl ⟨rfl, h⟩
  · have h := h.2 hc
    refine Wr_aload_n dX9_knocks_10 rfl 0 rfl ?_
    refine Wr_getR 16 dX9_knocks_11 flX9_92 zl106 rfl (by decide) ?_
    refine Wr_iload_n dX9_knocks_14 rfl 1 rfl ?_
    obtain ⟨hi, h⟩ := h
    refine Wr_iald dX9_knocks_15 zl122 hi ?_
    refine Wr_aload_n dX9_knocks_16 rfl 0 rfl ?_
    refine Wr_getR 16 dX9_knocks_17 flX9_92 zl106 rfl (by decide) ?_
    refine Wr_iload_n dX9_knocks_20 rfl 2 rfl ?_
    obtain ⟨hi, h⟩ := h
    refine Wr_iald dX9_knocks_21 zl122 hi ?_
    refine Wr_isub dX9_knocks_22 ?_
    refine Wr_mabs dX9_knocks_23 mlX9_357 (Nat.le_of_ble_eq_true rfl) ?_
    refine Wr_iconstv (v := 1) dX9_knocks_26 (by decide) ?_
    have hj1 : Wr mX9_knocks (d + 1) 0 35 [(0, .ref 106), (1, .int x1), (2, .int x2)] [.int (if 1 < zabs ((m1 122 x1.toNatClampNeg) - (m1 122 x2.toNatClampNeg)) then 0 else 1)] m1 (kI KI X) := by
      exact Wr_iret .boolean dX9_knocks_35 rfl (znar (by (repeat' split) <;> simp)) ⟨rfl, h⟩
    refine Wr_icmp_gt 34 dX9_knocks_27 (by decide) (fun hc0 => ?_) (fun hc0 => ?_)
    · skip
      refine Wr_iconstv (v := 0) dX9_knocks_34 (by decide) ?_
      exact Wr_top (if_pos hc0) hj1
    · skip
      refine Wr_iconstv (v := 1) dX9_knocks_30 (by decide) ?_
      refine Wr_goto 35 dX9_knocks_31 (by decide) ?_
      exact Wr_top (if_neg hc0) hj1
theorem cX9_knocks_ {d : Nat} {x1 : Int32} {x2 : Int32} {μ : zMem} {KI : Int32 → zMem → Prop} {X : Nat → zMem → Prop} (h : pX9_knocks d x1 x2 μ KI X) : zcI (d + 1) mX9_knocks [.ref 106, .int x1, .int x2] μ KI X :=
  Ex_of (w := 3) mgX9_knocks.2.2.2.2.2 rfl rfl rfl (by decide) (wX9_knocks_0 h)

def pX9_isShaded (d : Nat) (x1 : Int32) (x2 : Int32) (μ : zMem) (KI : Int32 → zMem → Prop) (X : Nat → zMem → Prop) : Prop :=
  zcI d mX9_isOver [.ref 106, .int x1, .int x2, .int 0] μ (fun u2 m1 => ((u2 = 0 → KI 0 m1) ∧
  (¬ (u2 = 0) → (vp_in x2 6) ∧ (vp_in x1 6) ∧ KI (if m1 122 x2.toNatClampNeg < (m1 122 x1.toNatClampNeg) + 2 then 0 else 1) m1))) X
set_option maxRecDepth 20000 in
theorem wX9_isShaded_0 {d : Nat} {KI : Int32 → zMem → Prop} {X : Nat → zMem → Prop} {x1 : Int32} {x2 : Int32} {μ : zMem} (h : pX9_isShaded d x1 x2 μ KI X) : Wr mX9_isShaded (d + 1) 0 0 [(0, .ref 106), (1, .int x1), (2, .int x2)] [] μ (kI KI X) := by
  unfold pX9_isShaded at h
  refine Wr_aload_n dX9_isShaded_0 rfl 0 rfl ?_
  refine Wr_iload_n dX9_isShaded_1 rfl 1 rfl ?_
  refine Wr_iload_n dX9_isShaded_2 rfl 2 rfl ?_
  refine Wr_iconstv (v := 0) dX9_isShaded_3 (by decide) ?_
  refine Wr_cVi [.int x1, .int x2, .int 0] dX9_isShaded_4 mlX9_367 mgX9_isOver rfl mvX9_isOver (zrv zl106 _ rfl rfl) rfl rfl (Nat.le_of_ble_eq_true rfl) rfl (zcI.imp h (fun u2 m1 h => ?_) (fun _ _ h => ⟨rfl, h⟩))
  refine Wr_if_eq 31 dX9_isShaded_7 (by decide) (fun hc => ?_) (fun hc => ?_)
  · have h := h.1 hc
    refine Wr_iconstv (v := 0) dX9_isShaded_31 (by decide) ?_
    exact Wr_iret .boolean dX9_isShaded_32 rfl rfl ⟨rfl, h⟩
  · have h := h.2 hc
    refine Wr_aload_n dX9_isShaded_10 rfl 0 rfl ?_
    refine Wr_getR 16 dX9_isShaded_11 flX9_92 zl106 rfl (by decide) ?_
    refine Wr_iload_n dX9_isShaded_14 rfl 2 rfl ?_
    obtain ⟨hi, h⟩ := h
    refine Wr_iald dX9_isShaded_15 zl122 hi ?_
    refine Wr_aload_n dX9_isShaded_16 rfl 0 rfl ?_
    refine Wr_getR 16 dX9_isShaded_17 flX9_92 zl106 rfl (by decide) ?_
    refine Wr_iload_n dX9_isShaded_20 rfl 1 rfl ?_
    obtain ⟨hi, h⟩ := h
    refine Wr_iald dX9_isShaded_21 zl122 hi ?_
    refine Wr_iconstv (v := 2) dX9_isShaded_22 (by decide) ?_
    refine Wr_iadd dX9_isShaded_23 ?_
    have hj1 : Wr mX9_isShaded (d + 1) 0 32 [(0, .ref 106), (1, .int x1), (2, .int x2)] [.int (if m1 122 x2.toNatClampNeg < (m1 122 x1.toNatClampNeg) + 2 then 0 else 1)] m1 (kI KI X) := by
      exact Wr_iret .boolean dX9_isShaded_32 rfl (znar (by (repeat' split) <;> simp)) ⟨rfl, h⟩
    refine Wr_icmp_lt 31 dX9_isShaded_24 (by decide) (fun hc0 => ?_) (fun hc0 => ?_)
    · skip
      refine Wr_iconstv (v := 0) dX9_isShaded_31 (by decide) ?_
      exact Wr_top (if_pos hc0) hj1
    · skip
      refine Wr_iconstv (v := 1) dX9_isShaded_27 (by decide) ?_
      refine Wr_goto 32 dX9_isShaded_28 (by decide) ?_
      exact Wr_top (if_neg hc0) hj1
theorem cX9_isShaded_ {d : Nat} {x1 : Int32} {x2 : Int32} {μ : zMem} {KI : Int32 → zMem → Prop} {X : Nat → zMem → Prop} (h : pX9_isShaded d x1 x2 μ KI X) : zcI (d + 1) mX9_isShaded [.ref 106, .int x1, .int x2] μ KI X :=
  Ex_of (w := 3) mgX9_isShaded.2.2.2.2.2 rfl rfl rfl (by decide) (wX9_isShaded_0 h)

def pX9_isBridge (d : Nat) (x1 : Int32) (x2 : Int32) (μ : zMem) (KI : Int32 → zMem → Prop) (X : Nat → zMem → Prop) : Prop :=
  zcI d mX9_isOver [.ref 106, .int x1, .int x2, .int (μ 110 3)] μ (fun u2 m1 => ((u2 = 0 → KI 0 m1) ∧
  (¬ (u2 = 0) → (vp_in x1 6) ∧ (vp_in x2 6) ∧ KI (if m1 110 3 < zabs ((m1 122 x1.toNatClampNeg) - (m1 122 x2.toNatClampNeg)) then 0 else 1) m1))) X
set_option maxRecDepth 20000 in
theorem wX9_isBridge_0 {d : Nat} {KI : Int32 → zMem → Prop} {X : Nat → zMem → Prop} {x1 : Int32} {x2 : Int32} {μ : zMem} (h : pX9_isBridge d x1 x2 μ KI X) : Wr mX9_isBridge (d + 1) 0 0 [(0, .ref 106), (1, .int x1), (2, .int x2)] [] μ (kI KI X) := by
  unfold pX9_isBridge at h
  refine Wr_aload_n dX9_isBridge_0 rfl 0 rfl ?_
  refine Wr_iload_n dX9_isBridge_1 rfl 1 rfl ?_
  refine Wr_iload_n dX9_isBridge_2 rfl 2 rfl ?_
  refine Wr_aload_n dX9_isBridge_3 rfl 0 rfl ?_
  refine Wr_getR 4 dX9_isBridge_4 flX9_51 zl106 rfl (by decide) ?_
  refine Wr_iconstv (v := 3) dX9_isBridge_7 (by decide) ?_
  refine Wr_iald dX9_isBridge_8 zl110 (by unfold vp_in; decide) ?_
  refine Wr_cVi [.int x1, .int x2, .int (μ 110 3)] dX9_isBridge_9 mlX9_367 mgX9_isOver rfl mvX9_isOver (zrv zl106 _ rfl rfl) rfl rfl (Nat.le_of_ble_eq_true rfl) rfl (zcI.imp h (fun u2 m1 h => ?_) (fun _ _ h => ⟨rfl, h⟩))
  refine Wr_if_eq 44 dX9_isBridge_12 (by decide) (fun hc => ?_) (fun hc => ?_)
  · have h := h.1 hc
    refine Wr_iconstv (v := 0) dX9_isBridge_44 (by decide) ?_
    exact Wr_iret .boolean dX9_isBridge_45 rfl rfl ⟨rfl, h⟩
  · have h := h.2 hc
    refine Wr_aload_n dX9_isBridge_15 rfl 0 rfl ?_
    refine Wr_getR 16 dX9_isBridge_16 flX9_92 zl106 rfl (by decide) ?_
    refine Wr_iload_n dX9_isBridge_19 rfl 1 rfl ?_
    obtain ⟨hi, h⟩ := h
    refine Wr_iald dX9_isBridge_20 zl122 hi ?_
    refine Wr_aload_n dX9_isBridge_21 rfl 0 rfl ?_
    refine Wr_getR 16 dX9_isBridge_22 flX9_92 zl106 rfl (by decide) ?_
    refine Wr_iload_n dX9_isBridge_25 rfl 2 rfl ?_
    obtain ⟨hi, h⟩ := h
    refine Wr_iald dX9_isBridge_26 zl122 hi ?_
    refine Wr_isub dX9_isBridge_27 ?_
    refine Wr_mabs dX9_isBridge_28 mlX9_357 (Nat.le_of_ble_eq_true rfl) ?_
    refine Wr_aload_n dX9_isBridge_31 rfl 0 rfl ?_
    refine Wr_getR 4 dX9_isBridge_32 flX9_51 zl106 rfl (by decide) ?_
    refine Wr_iconstv (v := 3) dX9_isBridge_35 (by decide) ?_
    refine Wr_iald dX9_isBridge_36 zl110 (by unfold vp_in; decide) ?_
    have hj1 : Wr mX9_isBridge (d + 1) 0 45 [(0, .ref 106), (1, .int x1), (2, .int x2)] [.int (if m1 110 3 < zabs ((m1 122 x1.toNatClampNeg) - (m1 122 x2.toNatClampNeg)) then 0 else 1)] m1 (kI KI X) := by
      exact Wr_iret .boolean dX9_isBridge_45 rfl (znar (by (repeat' split) <;> simp)) ⟨rfl, h⟩
    refine Wr_icmp_gt 44 dX9_isBridge_37 (by decide) (fun hc0 => ?_) (fun hc0 => ?_)
    · skip
      refine Wr_iconstv (v := 0) dX9_isBridge_44 (by decide) ?_
      exact Wr_top (if_pos hc0) hj1
    · skip
      refine Wr_iconstv (v := 1) dX9_isBridge_40 (by decide) ?_
      refine Wr_goto 45 dX9_isBridge_41 (by decide) ?_
      exact Wr_top (if_neg hc0) hj1
theorem cX9_isBridge_ {d : Nat} {x1 : Int32} {x2 : Int32} {μ : zMem} {KI : Int32 → zMem → Prop} {X : Nat → zMem → Prop} (h : pX9_isBridge d x1 x2 μ KI X) : zcI (d + 1) mX9_isBridge [.ref 106, .int x1, .int x2] μ KI X :=
  Ex_of (w := 3) mgX9_isBridge.2.2.2.2.2 rfl rfl rfl (by decide) (wX9_isBridge_0 h)

def pX9_knocked_16 : Nat → Nat → Int32 → Int32 → zMem → (Int32 → zMem → Prop) → (Nat → zMem → Prop) → (Int32 → zMem → Prop) → Prop
  | 0, _, _, _, _, _, _, _ => False
  | n + 1, d, x1, x2, μ, KI, X, C2 =>
  ((μ 110 0 ≤ x2 → ∀ v1 : Int32, v1 = x1 + 1 → C2 v1 μ) ∧
  (¬ (μ 110 0 ≤ x2) → zcI d mX9_knocks [.ref 106, .int x1, .int x2] μ (fun u3 m2 => ((u3 = 0 → ∀ v4 : Int32, v4 = x2 + 1 → pX9_knocked_16 n d x1 v4 m2 KI X C2) ∧
    (¬ (u3 = 0) → KI ((10 * x1) + x2) m2))) X))
set_option maxRecDepth 20000 in
theorem wX9_knocked_16 {d : Nat} {KI : Int32 → zMem → Prop} {X : Nat → zMem → Prop} {C2 : Int32 → zMem → Prop} (hC2 : ∀ (x1 : Int32) (μ : zMem), C2 x1 μ → Wr mX9_knocked (d + 1) 0 2 [(0, .ref 106), (1, .int x1)] [] μ (kI KI X)) : ∀ (n : Nat) (x1 : Int32) (x2 : Int32) (μ : zMem), pX9_knocked_16 n d x1 x2 μ KI X C2 → Wr mX9_knocked (d + 1) 0 16 [(0, .ref 106), (1, .int x1), (2, .int x2)] [] μ (kI KI X) := by
  intro n
  induction n with
  | zero =>
    intro x1 x2 μ h
    exact absurd h id
  | succ n ih =>
    intro x1 x2 μ h
    unfold pX9_knocked_16 at h
    refine Wr_iload_n dX9_knocked_16 rfl 2 rfl ?_
    refine Wr_aload_n dX9_knocked_17 rfl 0 rfl ?_
    refine Wr_getR 4 dX9_knocked_18 flX9_51 zl106 rfl (by decide) ?_
    refine Wr_iconstv (v := 0) dX9_knocked_21 (by decide) ?_
    refine Wr_iald dX9_knocked_22 zl110 (by unfold vp_in; decide) ?_
    refine Wr_icmp_ge 48 dX9_knocked_23 (by decide) (fun hc => ?_) (fun hc => ?_)
    · have h := h.1 hc
      obtain ⟨v1, ev1⟩ : ∃ z : Int32, z = x1 + 1 := ⟨_, rfl⟩
      have h := h v1 ev1
      refine Wr_iinc (v := v1) dX9_knocked_48 (q := 1) rfl (by rw [ev1]; rfl) (by decide) rfl ?_
      refine Wr_goto 2 dX9_knocked_51 (by decide) ?_
      refine zsub [0, 1] rfl ?_
      exact hC2 _ _ h
    · have h := h.2 hc
      refine Wr_aload_n dX9_knocked_26 rfl 0 rfl ?_
      refine Wr_iload_n dX9_knocked_27 rfl 1 rfl ?_
      refine Wr_iload_n dX9_knocked_28 rfl 2 rfl ?_
      refine Wr_cVi [.int x1, .int x2] dX9_knocked_29 mlX9_371 mgX9_knocks rfl mvX9_knocks (zrv zl106 _ rfl rfl) rfl rfl (Nat.le_of_ble_eq_true rfl) rfl (zcI.imp h (fun u3 m2 h => ?_) (fun _ _ h => ⟨rfl, h⟩))
      refine Wr_if_eq 42 dX9_knocked_32 (by decide) (fun hc => ?_) (fun hc => ?_)
      · have h := h.1 hc
        obtain ⟨v4, ev4⟩ : ∃ z : Int32, z = x2 + 1 := ⟨_, rfl⟩
        have h := h v4 ev4
        refine Wr_iinc (v := v4) dX9_knocked_42 (q := 2) rfl (by rw [ev4]; rfl) (by decide) rfl ?_
        refine Wr_goto 16 dX9_knocked_45 (by decide) ?_
        refine zsub [0, 1, 2] rfl ?_
        exact ih _ _ _ h
      · have h := h.2 hc
        refine Wr_bipush (v := 10) dX9_knocked_35 (by decide) ?_
        refine Wr_iload_n dX9_knocked_37 rfl 1 rfl ?_
        refine Wr_imul dX9_knocked_38 ?_
        refine Wr_iload_n dX9_knocked_39 rfl 2 rfl ?_
        refine Wr_iadd dX9_knocked_40 ?_
        exact Wr_iret .int dX9_knocked_41 rfl rfl ⟨rfl, h⟩
def pX9_knocked_2 : Nat → Nat → Int32 → zMem → (Int32 → zMem → Prop) → (Nat → zMem → Prop) → Prop
  | 0, _, _, _, _, _ => False
  | n + 1, d, x1, μ, KI, X =>
  ((μ 110 0 ≤ x1 → KI (-1) μ) ∧
  (¬ (μ 110 0 ≤ x1) → ∃ n2 : Nat, pX9_knocked_16 n2 d x1 (x1 + 1) μ KI X (fun z0 m => pX9_knocked_2 n d z0 m KI X)))
set_option maxRecDepth 20000 in
theorem wX9_knocked_2 {d : Nat} {KI : Int32 → zMem → Prop} {X : Nat → zMem → Prop} : ∀ (n : Nat) (x1 : Int32) (μ : zMem), pX9_knocked_2 n d x1 μ KI X → Wr mX9_knocked (d + 1) 0 2 [(0, .ref 106), (1, .int x1)] [] μ (kI KI X) := by
  intro n
  induction n with
  | zero =>
    intro x1 μ h
    exact absurd h id
  | succ n ih =>
    intro x1 μ h
    unfold pX9_knocked_2 at h
    refine Wr_iload_n dX9_knocked_2 rfl 1 rfl ?_
    refine Wr_aload_n dX9_knocked_3 rfl 0 rfl ?_
    refine Wr_getR 4 dX9_knocked_4 flX9_51 zl106 rfl (by decide) ?_
    refine Wr_iconstv (v := 0) dX9_knocked_7 (by decide) ?_
    refine Wr_iald dX9_knocked_8 zl110 (by unfold vp_in; decide) ?_
    refine Wr_icmp_ge 54 dX9_knocked_9 (by decide) (fun hc => ?_) (fun hc => ?_)
    · have h := h.1 hc
      refine Wr_iconstv (v := (-1)) dX9_knocked_54 (by decide) ?_
      exact Wr_iret .int dX9_knocked_55 rfl rfl ⟨rfl, h⟩
    · have h := h.2 hc
      refine Wr_iload_n dX9_knocked_12 rfl 1 rfl ?_
      refine Wr_iconstv (v := 1) dX9_knocked_13 (by decide) ?_
      refine Wr_iadd dX9_knocked_14 ?_
      refine Wr_istore_n dX9_knocked_15 rfl (by decide) rfl ?_
      refine zsub [0, 1, 2] rfl ?_
      obtain ⟨n9, h⟩ := h
      exact wX9_knocked_16 (fun z0 m h => ih z0 m h) n9 _ _ _ h
def pX9_knocked (d : Nat) (μ : zMem) (KI : Int32 → zMem → Prop) (X : Nat → zMem → Prop) : Prop :=
  ∃ n2 : Nat, pX9_knocked_2 n2 d 0 μ KI X
set_option maxRecDepth 20000 in
theorem wX9_knocked_0 {d : Nat} {KI : Int32 → zMem → Prop} {X : Nat → zMem → Prop} {μ : zMem} (h : pX9_knocked d μ KI X) : Wr mX9_knocked (d + 1) 0 0 [(0, .ref 106)] [] μ (kI KI X) := by
  unfold pX9_knocked at h
  refine Wr_iconstv (v := 0) dX9_knocked_0 (by decide) ?_
  refine Wr_istore_n dX9_knocked_1 rfl (by decide) rfl ?_
  refine zsub [0, 1] rfl ?_
  obtain ⟨n9, h⟩ := h
  exact wX9_knocked_2 n9 _ _ h
theorem cX9_knocked_ {d : Nat} {μ : zMem} {KI : Int32 → zMem → Prop} {X : Nat → zMem → Prop} (h : pX9_knocked d μ KI X) : zcI (d + 1) mX9_knocked [.ref 106] μ KI X :=
  Ex_of (w := 1) mgX9_knocked.2.2.2.2.2 rfl rfl rfl (by decide) (wX9_knocked_0 h)

def pX9_rainOf_4 : Nat → Nat → Int32 → Int32 → Int32 → zMem → (Int32 → zMem → Prop) → (Nat → zMem → Prop) → Prop
  | 0, _, _, _, _, _, _, _ => False
  | n + 1, d, x1, x2, x3, μ, KI, X =>
  ((μ 110 0 ≤ x3 → KI x2 μ) ∧
  (¬ (μ 110 0 ≤ x3) → ((x3 = x1 → ∀ v1 : Int32, v1 = x3 + 1 → pX9_rainOf_4 n d x1 x2 v1 μ KI X) ∧
    (¬ (x3 = x1) → zcI d mX9_isShaded [.ref 106, .int x1, .int x3] μ (fun u3 m2 => ((u3 = 0 → ∀ v4 : Int32, v4 = x3 + 1 → pX9_rainOf_4 n d x1 x2 v4 m2 KI X) ∧
      (¬ (u3 = 0) → ((x2 = (-1) → ∀ v5 : Int32, v5 = x3 + 1 → pX9_rainOf_4 n d x1 x3 v5 m2 KI X) ∧
        (¬ (x2 = (-1)) → (vp_in x3 6) ∧ (vp_in x2 6) ∧ ((m2 122 x2.toNatClampNeg ≤ m2 122 x3.toNatClampNeg → ∀ v6 : Int32, v6 = x3 + 1 → pX9_rainOf_4 n d x1 x2 v6 m2 KI X) ∧
          (¬ (m2 122 x2.toNatClampNeg ≤ m2 122 x3.toNatClampNeg) → ∀ v7 : Int32, v7 = x3 + 1 → pX9_rainOf_4 n d x1 x3 v7 m2 KI X))))))) X))))
set_option maxRecDepth 20000 in
theorem wX9_rainOf_4 {d : Nat} {KI : Int32 → zMem → Prop} {X : Nat → zMem → Prop} : ∀ (n : Nat) (x1 : Int32) (x2 : Int32) (x3 : Int32) (μ : zMem), pX9_rainOf_4 n d x1 x2 x3 μ KI X → Wr mX9_rainOf (d + 1) 0 4 [(0, .ref 106), (1, .int x1), (2, .int x2), (3, .int x3)] [] μ (kI KI X) := by
  intro n
  induction n with
  | zero =>
    intro x1 x2 x3 μ h
    exact absurd h id
  | succ n ih =>
    intro x1 x2 x3 μ h
    unfold pX9_rainOf_4 at h
    refine Wr_iload_n dX9_rainOf_4 rfl 3 rfl ?_
    refine Wr_aload_n dX9_rainOf_5 rfl 0 rfl ?_
    refine Wr_getR 4 dX9_rainOf_6 flX9_51 zl106 rfl (by decide) ?_
    refine Wr_iconstv (v := 0) dX9_rainOf_9 (by decide) ?_
    refine Wr_iald dX9_rainOf_10 zl110 (by unfold vp_in; decide) ?_
    refine Wr_icmp_ge 56 dX9_rainOf_11 (by decide) (fun hc => ?_) (fun hc => ?_)
    · have h := h.1 hc
      refine Wr_iload_n dX9_rainOf_56 rfl 2 rfl ?_
      exact Wr_iret .int dX9_rainOf_57 rfl rfl ⟨rfl, h⟩
    · have h := h.2 hc
      refine Wr_iload_n dX9_rainOf_14 rfl 3 rfl ?_
      refine Wr_iload_n dX9_rainOf_15 rfl 1 rfl ?_
      refine Wr_icmp_eq 50 dX9_rainOf_16 (by decide) (fun hc => ?_) (fun hc => ?_)
      · have h := h.1 hc
        obtain ⟨v1, ev1⟩ : ∃ z : Int32, z = x3 + 1 := ⟨_, rfl⟩
        have h := h v1 ev1
        refine Wr_iinc (v := v1) dX9_rainOf_50 (q := 3) rfl (by rw [ev1]; rfl) (by decide) rfl ?_
        refine Wr_goto 4 dX9_rainOf_53 (by decide) ?_
        refine zsub [0, 1, 2, 3] rfl ?_
        exact ih _ _ _ _ h
      · have h := h.2 hc
        refine Wr_aload_n dX9_rainOf_19 rfl 0 rfl ?_
        refine Wr_iload_n dX9_rainOf_20 rfl 1 rfl ?_
        refine Wr_iload_n dX9_rainOf_21 rfl 3 rfl ?_
        refine Wr_cVi [.int x1, .int x3] dX9_rainOf_22 mlX9_375 mgX9_isShaded rfl mvX9_isShaded (zrv zl106 _ rfl rfl) rfl rfl (Nat.le_of_ble_eq_true rfl) rfl (zcI.imp h (fun u3 m2 h => ?_) (fun _ _ h => ⟨rfl, h⟩))
        refine Wr_if_eq 50 dX9_rainOf_25 (by decide) (fun hc => ?_) (fun hc => ?_)
        · have h := h.1 hc
          obtain ⟨v4, ev4⟩ : ∃ z : Int32, z = x3 + 1 := ⟨_, rfl⟩
          have h := h v4 ev4
          refine Wr_iinc (v := v4) dX9_rainOf_50 (q := 3) rfl (by rw [ev4]; rfl) (by decide) rfl ?_
          refine Wr_goto 4 dX9_rainOf_53 (by decide) ?_
          refine zsub [0, 1, 2, 3] rfl ?_
          exact ih _ _ _ _ h
        · have h := h.2 hc
          refine Wr_iload_n dX9_rainOf_28 rfl 2 rfl ?_
          refine Wr_iconstv (v := (-1)) dX9_rainOf_29 (by decide) ?_
          refine Wr_icmp_eq 48 dX9_rainOf_30 (by decide) (fun hc => ?_) (fun hc => ?_)
          · have h := h.1 hc
            refine Wr_iload_n dX9_rainOf_48 rfl 3 rfl ?_
            refine Wr_istore_n dX9_rainOf_49 rfl (by decide) rfl ?_
            obtain ⟨v5, ev5⟩ : ∃ z : Int32, z = x3 + 1 := ⟨_, rfl⟩
            have h := h v5 ev5
            refine Wr_iinc (v := v5) dX9_rainOf_50 (q := 3) rfl (by rw [ev5]; rfl) (by decide) rfl ?_
            refine Wr_goto 4 dX9_rainOf_53 (by decide) ?_
            refine zsub [0, 1, 2, 3] rfl ?_
            exact ih _ _ _ _ h
          · have h := h.2 hc
            refine Wr_aload_n dX9_rainOf_33 rfl 0 rfl ?_
            refine Wr_getR 16 dX9_rainOf_34 flX9_92 zl106 rfl (by decide) ?_
            refine Wr_iload_n dX9_rainOf_37 rfl 3 rfl ?_
            obtain ⟨hi, h⟩ := h
            refine Wr_iald dX9_rainOf_38 zl122 hi ?_
            refine Wr_aload_n dX9_rainOf_39 rfl 0 rfl ?_
            refine Wr_getR 16 dX9_rainOf_40 flX9_92 zl106 rfl (by decide) ?_
            refine Wr_iload_n dX9_rainOf_43 rfl 2 rfl ?_
            obtain ⟨hi, h⟩ := h
            refine Wr_iald dX9_rainOf_44 zl122 hi ?_
            refine Wr_icmp_ge 50 dX9_rainOf_45 (by decide) (fun hc => ?_) (fun hc => ?_)
            · have h := h.1 hc
              obtain ⟨v6, ev6⟩ : ∃ z : Int32, z = x3 + 1 := ⟨_, rfl⟩
              have h := h v6 ev6
              refine Wr_iinc (v := v6) dX9_rainOf_50 (q := 3) rfl (by rw [ev6]; rfl) (by decide) rfl ?_
              refine Wr_goto 4 dX9_rainOf_53 (by decide) ?_
              refine zsub [0, 1, 2, 3] rfl ?_
              exact ih _ _ _ _ h
            · have h := h.2 hc
              refine Wr_iload_n dX9_rainOf_48 rfl 3 rfl ?_
              refine Wr_istore_n dX9_rainOf_49 rfl (by decide) rfl ?_
              obtain ⟨v7, ev7⟩ : ∃ z : Int32, z = x3 + 1 := ⟨_, rfl⟩
              have h := h v7 ev7
              refine Wr_iinc (v := v7) dX9_rainOf_50 (q := 3) rfl (by rw [ev7]; rfl) (by decide) rfl ?_
              refine Wr_goto 4 dX9_rainOf_53 (by decide) ?_
              refine zsub [0, 1, 2, 3] rfl ?_
              exact ih _ _ _ _ h
def pX9_rainOf (d : Nat) (x1 : Int32) (μ : zMem) (KI : Int32 → zMem → Prop) (X : Nat → zMem → Prop) : Prop :=
  ∃ n2 : Nat, pX9_rainOf_4 n2 d x1 (-1) 0 μ KI X
set_option maxRecDepth 20000 in
theorem wX9_rainOf_0 {d : Nat} {KI : Int32 → zMem → Prop} {X : Nat → zMem → Prop} {x1 : Int32} {μ : zMem} (h : pX9_rainOf d x1 μ KI X) : Wr mX9_rainOf (d + 1) 0 0 [(0, .ref 106), (1, .int x1)] [] μ (kI KI X) := by
  unfold pX9_rainOf at h
  refine Wr_iconstv (v := (-1)) dX9_rainOf_0 (by decide) ?_
  refine Wr_istore_n dX9_rainOf_1 rfl (by decide) rfl ?_
  refine Wr_iconstv (v := 0) dX9_rainOf_2 (by decide) ?_
  refine Wr_istore_n dX9_rainOf_3 rfl (by decide) rfl ?_
  refine zsub [0, 1, 2, 3] rfl ?_
  obtain ⟨n9, h⟩ := h
  exact wX9_rainOf_4 n9 _ _ _ _ h
theorem cX9_rainOf_ {d : Nat} {x1 : Int32} {μ : zMem} {KI : Int32 → zMem → Prop} {X : Nat → zMem → Prop} (h : pX9_rainOf d x1 μ KI X) : zcI (d + 1) mX9_rainOf [.ref 106, .int x1] μ KI X :=
  Ex_of (w := 2) mgX9_rainOf.2.2.2.2.2 rfl rfl rfl (by decide) (wX9_rainOf_0 h)

def pX9_count_112 (d : Nat) (x1 : Int32) (μ : zMem) (KI : Int32 → zMem → Prop) (X : Nat → zMem → Prop) : Prop :=
  (vp_in (x1 - 9) 3) ∧ KI (μ 116 (x1 - 9).toNatClampNeg) μ
set_option maxRecDepth 20000 in
theorem wX9_count_112 {d : Nat} {KI : Int32 → zMem → Prop} {X : Nat → zMem → Prop} {x1 : Int32} {μ : zMem} (h : pX9_count_112 d x1 μ KI X) : Wr mX9_count (d + 1) 0 112 [(0, .ref 106), (1, .int x1)] [] μ (kI KI X) := by
  unfold pX9_count_112 at h
  refine Wr_aload_n dX9_count_112 rfl 0 rfl ?_
  refine Wr_getR 10 dX9_count_113 flX9_70 zl106 rfl (by decide) ?_
  refine Wr_iload_n dX9_count_116 rfl 1 rfl ?_
  refine Wr_bipush (v := 9) dX9_count_117 (by decide) ?_
  refine Wr_isub dX9_count_119 ?_
  obtain ⟨hi, h⟩ := h
  refine Wr_iald dX9_count_120 zl116 hi ?_
  exact Wr_iret .int dX9_count_121 rfl rfl ⟨rfl, h⟩
def pX9_count (d : Nat) (x1 : Int32) (μ : zMem) (KI : Int32 → zMem → Prop) (X : Nat → zMem → Prop) : Prop :=
  ∀ m1 : zMem, m1 = zw μ 106 3 0 → zcI d mX9_isIn [.long x1.toInt64, .long 20, .long 23] m1 (fun u3 m2 => ((u3 = 0 → zcI d mX9_isIn [.long x1.toInt64, .long 0, .long 4] m2 (fun u5 m4 => ((u5 = 0 → ((x1 = 5 → KI (m4 106 27) m4) ∧
      (x1 = 6 → KI (m4 106 28) m4) ∧
      (x1 = 7 → KI (m4 106 29) m4) ∧
      (x1 = 8 → KI (m4 106 12) m4) ∧
      (x1 = 9 → pX9_count_112 d x1 m4 KI X) ∧
      (x1 = 10 → pX9_count_112 d x1 m4 KI X) ∧
      (x1 = 11 → pX9_count_112 d x1 m4 KI X) ∧
      (¬ x1 = 5 → ¬ x1 = 6 → ¬ x1 = 7 → ¬ x1 = 8 → ¬ x1 = 9 → ¬ x1 = 10 → ¬ x1 = 11 → zcI d mX9_fail [.ref 106, .int 1] m4 (fun u7 m6 => KI u7 m6) X))) ∧
    (¬ (u5 = 0) → (vp_in x1 20) ∧ KI (m4 110 x1.toNatClampNeg) m4))) X) ∧
  (¬ (u3 = 0) → (vp_in (x1 - 15) 20) ∧ KI (m2 110 (x1 - 15).toNatClampNeg) m2))) X
set_option maxRecDepth 20000 in
theorem wX9_count_0 {d : Nat} {KI : Int32 → zMem → Prop} {X : Nat → zMem → Prop} {x1 : Int32} {μ : zMem} (h : pX9_count d x1 μ KI X) : Wr mX9_count (d + 1) 0 0 [(0, .ref 106), (1, .int x1)] [] μ (kI KI X) := by
  unfold pX9_count at h
  refine Wr_aload_n dX9_count_0 rfl 0 rfl ?_
  refine Wr_iconstv (v := 0) dX9_count_1 (by decide) ?_
  obtain ⟨m1, em1⟩ : ∃ z : zMem, z = zw μ 106 3 0 := ⟨_, rfl⟩
  have h := h m1 em1
  refine Wr_putI dX9_count_2 fpX9_155 zl106 rfl ?_
  refine Wr_mu em1 ?_
  refine Wr_iload_n dX9_count_5 rfl 1 rfl ?_
  refine Wr_i2l dX9_count_6 ?_
  refine Wr_ldc2 dX9_count_7 lcX9_378 ?_
  refine Wr_ldc2 dX9_count_10 lcX9_380 ?_
  refine Wr_cSi [.long x1.toInt64, .long 20, .long 23] dX9_count_13 mlX9_158 mgX9_isIn rfl msX9_isIn  rfl rfl (Nat.le_of_ble_eq_true rfl) rfl (zcI.imp h (fun u3 m2 h => ?_) (fun _ _ h => ⟨rfl, h⟩))
  refine Wr_if_eq 29 dX9_count_16 (by decide) (fun hc => ?_) (fun hc => ?_)
  · have h := h.1 hc
    refine Wr_iload_n dX9_count_29 rfl 1 rfl ?_
    refine Wr_i2l dX9_count_30 ?_
    refine Wr_lconst (v := 0) dX9_count_31 (by decide) ?_
    refine Wr_ldc2 dX9_count_32 lcX9_382 ?_
    refine Wr_cSi [.long x1.toInt64, .long 0, .long 4] dX9_count_35 mlX9_158 mgX9_isIn rfl msX9_isIn  rfl rfl (Nat.le_of_ble_eq_true rfl) rfl (zcI.imp h (fun u5 m4 h => ?_) (fun _ _ h => ⟨rfl, h⟩))
    refine Wr_if_eq 48 dX9_count_38 (by decide) (fun hc => ?_) (fun hc => ?_)
    · have h := h.1 hc
      refine Wr_iload_n dX9_count_48 rfl 1 rfl ?_
      by_cases hq0 : x1 = 5
      · have h := h.1 hq0
        refine Wr_tswC 5 43 92 hq0 dX9_count_49 (by decide) (by decide) (by decide) (by decide) ?_
        refine Wr_aload_n dX9_count_92 rfl 0 rfl ?_
        refine Wr_getI dX9_count_93 flX9_310 zl106 rfl ?_
        exact Wr_iret .int dX9_count_96 rfl rfl ⟨rfl, h⟩
      have h := h.2
      by_cases hq1 : x1 = 6
      · have h := h.1 hq1
        refine Wr_tswC 6 48 97 hq1 dX9_count_49 (by decide) (by decide) (by decide) (by decide) ?_
        refine Wr_aload_n dX9_count_97 rfl 0 rfl ?_
        refine Wr_getI dX9_count_98 flX9_313 zl106 rfl ?_
        exact Wr_iret .int dX9_count_101 rfl rfl ⟨rfl, h⟩
      have h := h.2
      by_cases hq2 : x1 = 7
      · have h := h.1 hq2
        refine Wr_tswC 7 53 102 hq2 dX9_count_49 (by decide) (by decide) (by decide) (by decide) ?_
        refine Wr_aload_n dX9_count_102 rfl 0 rfl ?_
        refine Wr_getI dX9_count_103 flX9_316 zl106 rfl ?_
        exact Wr_iret .int dX9_count_106 rfl rfl ⟨rfl, h⟩
      have h := h.2
      by_cases hq3 : x1 = 8
      · have h := h.1 hq3
        refine Wr_tswC 8 58 107 hq3 dX9_count_49 (by decide) (by decide) (by decide) (by decide) ?_
        refine Wr_aload_n dX9_count_107 rfl 0 rfl ?_
        refine Wr_getI dX9_count_108 flX9_164 zl106 rfl ?_
        exact Wr_iret .int dX9_count_111 rfl rfl ⟨rfl, h⟩
      have h := h.2
      by_cases hq4 : x1 = 9
      · have h := h.1 hq4
        refine Wr_tswC 9 63 112 hq4 dX9_count_49 (by decide) (by decide) (by decide) (by decide) ?_
        refine zsub [0, 1] rfl ?_
        exact wX9_count_112 h
      have h := h.2
      by_cases hq5 : x1 = 10
      · have h := h.1 hq5
        refine Wr_tswC 10 63 112 hq5 dX9_count_49 (by decide) (by decide) (by decide) (by decide) ?_
        refine zsub [0, 1] rfl ?_
        exact wX9_count_112 h
      have h := h.2
      by_cases hq6 : x1 = 11
      · have h := h.1 hq6
        refine Wr_tswC 11 63 112 hq6 dX9_count_49 (by decide) (by decide) (by decide) (by decide) ?_
        refine zsub [0, 1] rfl ?_
        exact wX9_count_112 h
      have h := h.2
      have h := h hq0 hq1 hq2 hq3 hq4 hq5 hq6
      refine Wr_tswD 122 (by have := zne hq0 (c := 5) (by decide); have := zne hq1 (c := 6) (by decide); have := zne hq2 (c := 7) (by decide); have := zne hq3 (c := 8) (by decide); have := zne hq4 (c := 9) (by decide); have := zne hq5 (c := 10) (by decide); have := zne hq6 (c := 11) (by decide); omega) dX9_count_49 (by decide) ?_
      refine Wr_aload_n dX9_count_122 rfl 0 rfl ?_
      refine Wr_iconstv (v := 1) dX9_count_123 (by decide) ?_
      refine Wr_cVi [.int 1] dX9_count_124 mlX9_297 mgX9_fail rfl mvX9_fail (zrv zl106 _ rfl rfl) rfl rfl (Nat.le_of_ble_eq_true rfl) rfl (zcI.imp h (fun u7 m6 h => ?_) (fun _ _ h => ⟨rfl, h⟩))
      exact Wr_iret .int dX9_count_127 rfl rfl ⟨rfl, h⟩
    · have h := h.2 hc
      refine Wr_aload_n dX9_count_41 rfl 0 rfl ?_
      refine Wr_getR 4 dX9_count_42 flX9_51 zl106 rfl (by decide) ?_
      refine Wr_iload_n dX9_count_45 rfl 1 rfl ?_
      obtain ⟨hi, h⟩ := h
      refine Wr_iald dX9_count_46 zl110 hi ?_
      exact Wr_iret .int dX9_count_47 rfl rfl ⟨rfl, h⟩
  · have h := h.2 hc
    refine Wr_aload_n dX9_count_19 rfl 0 rfl ?_
    refine Wr_getR 4 dX9_count_20 flX9_51 zl106 rfl (by decide) ?_
    refine Wr_iload_n dX9_count_23 rfl 1 rfl ?_
    refine Wr_bipush (v := 15) dX9_count_24 (by decide) ?_
    refine Wr_isub dX9_count_26 ?_
    obtain ⟨hi, h⟩ := h
    refine Wr_iald dX9_count_27 zl110 hi ?_
    exact Wr_iret .int dX9_count_28 rfl rfl ⟨rfl, h⟩
theorem cX9_count_ {d : Nat} {x1 : Int32} {μ : zMem} {KI : Int32 → zMem → Prop} {X : Nat → zMem → Prop} (h : pX9_count d x1 μ KI X) : zcI (d + 1) mX9_count [.ref 106, .int x1] μ KI X :=
  Ex_of (w := 2) mgX9_count.2.2.2.2.2 rfl rfl rfl (by decide) (wX9_count_0 h)
