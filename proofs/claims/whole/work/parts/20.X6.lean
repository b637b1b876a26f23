def pX6_begin_46 (d : Nat) (o : Nat) (a1 : Nat) (n1 : Nat) (μ : zMem) (KV : zMem → Prop) (X : Nat → zMem → Prop) : Prop :=
  ∀ m1 : zMem, m1 = zw μ o 2 0 → zcV d mX6_step [.ref o] m1 (fun m2 => KV m2) X
set_option maxRecDepth 20000 in
theorem wX6_begin_46 {d : Nat} {o : Nat} {a1 : Nat} {n1 : Nat} {KV : zMem → Prop} {X : Nat → zMem → Prop} {μ : zMem} (ho : zsh o = .inr 6) (ha1 : zsh a1 = .inl (1, n1)) (h : pX6_begin_46 d o a1 n1 μ KV X) : Wr mX6_begin (d + 1) 0 46 [(0, .ref o)] [] μ (kV KV X) := by
  unfold pX6_begin_46 at h
  refine Wr_aload_n dX6_begin_46 rfl 0 rfl ?_
  refine Wr_iconstv (v := 0) dX6_begin_47 (by decide) ?_
  obtain ⟨m1, em1⟩ : ∃ z : zMem, z = zw μ o 2 0 := ⟨_, rfl⟩
  have h := h m1 em1
  refine Wr_putI dX6_begin_48 fpX6_19 ho rfl ?_
  refine Wr_mu em1 ?_
  refine Wr_aload_n dX6_begin_51 rfl 0 rfl ?_
  refine Wr_cVv [] dX6_begin_52 mlX6_40 mgX6_step rfl mvX6_step (zrv ho _ rfl rfl) rfl rfl (Nat.le_of_ble_eq_true rfl) rfl (zcV.imp h (fun m2 h => ?_) (fun _ _ h => ⟨rfl, h⟩))
  exact Wr_vret dX6_begin_55 rfl ⟨rfl, h⟩
def pX6_begin_17 : Nat → Nat → Nat → Nat → Nat → Int32 → zMem → (zMem → Prop) → (Nat → zMem → Prop) → Prop
  | 0, _, _, _, _, _, _, _, _ => False
  | n + 1, d, o, a1, n1, x3, μ, KV, X =>
  ((μ o 1 ≤ x3 → pX6_begin_46 d o a1 n1 μ KV X) ∧
  (¬ (μ o 1 ≤ x3) → ((Int32.ofNat n1 ≤ x3 → pX6_begin_46 d o a1 n1 μ KV X) ∧
    (¬ (Int32.ofNat n1 ≤ x3) → (vp_in x3 n1) ∧ (vp_in x3 700) ∧ ∀ m1 : zMem, m1 = zw μ (o + 1) x3.toNatClampNeg (vp_nar .byte (μ a1 x3.toNatClampNeg)) → ∀ v2 : Int32, v2 = x3 + 1 → pX6_begin_17 n d o a1 n1 v2 m1 KV X))))
set_option maxRecDepth 20000 in
theorem wX6_begin_17 {d : Nat} {o : Nat} {a1 : Nat} {n1 : Nat} {KV : zMem → Prop} {X : Nat → zMem → Prop} (ho : zsh o = .inr 6) (ha1 : zsh a1 = .inl (1, n1)) : ∀ (n : Nat) (x3 : Int32) (μ : zMem), pX6_begin_17 n d o a1 n1 x3 μ KV X → Wr mX6_begin (d + 1) 0 17 [(0, .ref o), (1, .ref a1), (3, .int x3)] [] μ (kV KV X) := by
  intro n
  induction n with
  | zero =>
    intro x3 μ h
    exact absurd h id
  | succ n ih =>
    intro x3 μ h
    unfold pX6_begin_17 at h
    refine Wr_iload_n dX6_begin_17 rfl 2 rfl ?_
    refine Wr_aload_n dX6_begin_18 rfl 0 rfl ?_
    refine Wr_getI dX6_begin_19 flX6_15 ho rfl ?_
    refine Wr_icmp_ge 46 dX6_begin_22 (by decide) (fun hc => ?_) (fun hc => ?_)
    · have h := h.1 hc
      refine zsub [0] rfl ?_
      exact wX6_begin_46 ho ha1 h
    · have h := h.2 hc
      refine Wr_iload_n dX6_begin_25 rfl 2 rfl ?_
      refine Wr_aload_n dX6_begin_26 rfl 1 rfl ?_
      refine Wr_alen dX6_begin_27 ha1 (by decide) ?_
      refine Wr_icmp_ge 46 dX6_begin_28 (by decide) (fun hc => ?_) (fun hc => ?_)
      · have h := h.1 hc
        refine zsub [0] rfl ?_
        exact wX6_begin_46 ho ha1 h
      · have h := h.2 hc
        refine Wr_aload_n dX6_begin_31 rfl 0 rfl ?_
        refine Wr_getR 1 dX6_begin_32 flX6_9 ho rfl (by decide) ?_
        refine Wr_iload_n dX6_begin_35 rfl 2 rfl ?_
        refine Wr_aload_n dX6_begin_36 rfl 1 rfl ?_
        refine Wr_iload_n dX6_begin_37 rfl 2 rfl ?_
        obtain ⟨hi, h⟩ := h
        refine Wr_bald dX6_begin_38 ha1 hi ?_
        obtain ⟨him1, h⟩ := h
        obtain ⟨m1, em1⟩ : ∃ z : zMem, z = zw μ (o + 1) x3.toNatClampNeg (vp_nar .byte (μ a1 x3.toNatClampNeg)) := ⟨_, rfl⟩
        have h := h m1 em1
        refine Wr_bast dX6_begin_39 (zo6_0 ho) him1 ?_
        refine Wr_mu em1 ?_
        obtain ⟨v2, ev2⟩ : ∃ z : Int32, z = x3 + 1 := ⟨_, rfl⟩
        have h := h v2 ev2
        refine Wr_iinc (v := v2) dX6_begin_40 (q := 2) rfl (by rw [ev2]; rfl) (by decide) rfl ?_
        refine Wr_goto 17 dX6_begin_43 (by decide) ?_
        refine zsub [0, 1, 3] rfl ?_
        exact ih _ _ h
def pX6_begin (d : Nat) (o : Nat) (a1 : Nat) (n1 : Nat) (x2 : Int32) (μ : zMem) (KV : zMem → Prop) (X : Nat → zMem → Prop) : Prop :=
  ∀ m1 : zMem, m1 = zw μ o 1 (zmax (zmin x2 700) 0) → ∃ n2 : Nat, pX6_begin_17 n2 d o a1 n1 0 m1 KV X
set_option maxRecDepth 20000 in
theorem wX6_begin_0 {d : Nat} {o : Nat} {a1 : Nat} {n1 : Nat} {KV : zMem → Prop} {X : Nat → zMem → Prop} {x2 : Int32} {μ : zMem} (ho : zsh o = .inr 6) (ha1 : zsh a1 = .inl (1, n1)) (h : pX6_begin d o a1 n1 x2 μ KV X) : Wr mX6_begin (d + 1) 0 0 [(0, .ref o), (1, .ref a1), (2, .int x2)] [] μ (kV KV X) := by
  unfold pX6_begin at h
  refine Wr_aload_n dX6_begin_0 rfl 0 rfl ?_
  refine Wr_iload_n dX6_begin_1 rfl 2 rfl ?_
  refine Wr_sipush (v := 700) dX6_begin_2 (by decide) ?_
  refine Wr_mmin dX6_begin_5 mlX6_31 (Nat.le_of_ble_eq_true rfl) ?_
  refine Wr_iconstv (v := 0) dX6_begin_8 (by decide) ?_
  refine Wr_mmax dX6_begin_9 mlX6_37 (Nat.le_of_ble_eq_true rfl) ?_
  obtain ⟨m1, em1⟩ : ∃ z : zMem, z = zw μ o 1 (zmax (zmin x2 700) 0) := ⟨_, rfl⟩
  have h := h m1 em1
  refine Wr_putI dX6_begin_12 fpX6_15 ho rfl ?_
  refine Wr_mu em1 ?_
  refine Wr_iconstv (v := 0) dX6_begin_15 (by decide) ?_
  refine Wr_istore_n dX6_begin_16 rfl (by decide) rfl ?_
  refine zsub [0, 1, 3] rfl ?_
  obtain ⟨n9, h⟩ := h
  exact wX6_begin_17 ho ha1 n9 _ _ h
theorem cX6_begin_ {d : Nat} {o : Nat} {a1 : Nat} {n1 : Nat} {x2 : Int32} {μ : zMem} {KV : zMem → Prop} {X : Nat → zMem → Prop} (ho : zsh o = .inr 6) (ha1 : zsh a1 = .inl (1, n1)) (h : pX6_begin d o a1 n1 x2 μ KV X) : zcV (d + 1) mX6_begin [.ref o, .ref a1, .int x2] μ KV X :=
  Ex_of (w := 3) mgX6_begin.2.2.2.2.2 rfl rfl rfl (by decide) (wX6_begin_0 ho ha1 h)

def pX6_step_47 (d : Nat) (o : Nat) (μ : zMem) (KV : zMem → Prop) (X : Nat → zMem → Prop) (C8 : zMem → Prop) : Prop :=
  ∀ m1 : zMem, m1 = zw μ o 3 ((μ o 3) + 1) → C8 m1
set_option maxRecDepth 20000 in
theorem wX6_step_47 {d : Nat} {o : Nat} {KV : zMem → Prop} {X : Nat → zMem → Prop} {C8 : zMem → Prop} {μ : zMem} (ho : zsh o = .inr 6) (hC8 : ∀ (μ : zMem), C8 μ → Wr mX6_step (d + 1) 0 8 [(0, .ref o)] [] μ (kV KV X)) (h : pX6_step_47 d o μ KV X C8) : Wr mX6_step (d + 1) 0 47 [(0, .ref o)] [] μ (kV KV X) := by
  unfold pX6_step_47 at h
  refine Wr_aload_n dX6_step_47 rfl 0 rfl ?_
  refine Wr_dup dX6_step_48 rfl ?_
  refine Wr_getI dX6_step_49 flX6_22 ho rfl ?_
  refine Wr_iconstv (v := 1) dX6_step_52 (by decide) ?_
  refine Wr_iadd dX6_step_53 ?_
  obtain ⟨m1, em1⟩ : ∃ z : zMem, z = zw μ o 3 ((μ o 3) + 1) := ⟨_, rfl⟩
  have h := h m1 em1
  refine Wr_putI dX6_step_54 fpX6_22 ho rfl ?_
  refine Wr_mu em1 ?_
  refine Wr_goto 8 dX6_step_57 (by decide) ?_
  refine zsub [0] rfl ?_
  exact hC8 _ h
def pX6_step_193 (d : Nat) (o : Nat) (y0 : Int32) (μ : zMem) (KV : zMem → Prop) (X : Nat → zMem → Prop) : Prop :=
  ∀ m1 : zMem, m1 = zw μ o 4 y0 → ∀ m2 : zMem, m2 = zw m1 o 2 ((m1 o 3) + 1) → KV m2
set_option maxRecDepth 20000 in
theorem wX6_step_193 {d : Nat} {o : Nat} {KV : zMem → Prop} {X : Nat → zMem → Prop} {y0 : Int32} {μ : zMem} (ho : zsh o = .inr 6) (h : pX6_step_193 d o y0 μ KV X) : Wr mX6_step (d + 1) 0 193 [(0, .ref o)] [.int y0, .ref o] μ (kV KV X) := by
  unfold pX6_step_193 at h
  obtain ⟨m1, em1⟩ : ∃ z : zMem, z = zw μ o 4 y0 := ⟨_, rfl⟩
  have h := h m1 em1
  refine Wr_putI dX6_step_193 fpX6_25 ho rfl ?_
  refine Wr_mu em1 ?_
  refine Wr_aload_n dX6_step_196 rfl 0 rfl ?_
  refine Wr_aload_n dX6_step_197 rfl 0 rfl ?_
  refine Wr_getI dX6_step_198 flX6_22 ho rfl ?_
  refine Wr_iconstv (v := 1) dX6_step_201 (by decide) ?_
  refine Wr_iadd dX6_step_202 ?_
  obtain ⟨m2, em2⟩ : ∃ z : zMem, z = zw m1 o 2 ((m1 o 3) + 1) := ⟨_, rfl⟩
  have h := h m2 em2
  refine Wr_putI dX6_step_203 fpX6_19 ho rfl ?_
  refine Wr_mu em2 ?_
  exact Wr_vret dX6_step_206 rfl ⟨rfl, h⟩
def pX6_step_157 (d : Nat) (o : Nat) (μ : zMem) (KV : zMem → Prop) (X : Nat → zMem → Prop) : Prop :=
  (vp_in (μ o 3) 700) ∧ zcI d mJ0_indexOf_0f7a4 [.ref (1000 + 6), .int ((((μ (o + 1) (μ o 3).toNatClampNeg) &&& 255).toUInt32 % 65536).toInt32)] μ (fun u2 m1 => ((u2 < 0 → pX6_step_193 d o 3 m1 KV X) ∧
  (¬ (u2 < 0) → (vp_in (m1 o 3) 700) ∧ pX6_step_193 d o (m1 (o + 1) (m1 o 3).toNatClampNeg) m1 KV X))) X
set_option maxRecDepth 20000 in
theorem wX6_step_157 {d : Nat} {o : Nat} {KV : zMem → Prop} {X : Nat → zMem → Prop} {μ : zMem} (ho : zsh o = .inr 6) (h : pX6_step_157 d o μ KV X) : Wr mX6_step (d + 1) 0 157 [(0, .ref o)] [] μ (kV KV X) := by
  unfold pX6_step_157 at h
  refine Wr_aload_n dX6_step_157 rfl 0 rfl ?_
  refine Wr_ldcS (sn := 6) (tx := ";()+-*/<=") dX6_step_158 (zst 6 (by decide +kernel)) ?_
  refine Wr_aload_n dX6_step_160 rfl 0 rfl ?_
  refine Wr_getR 1 dX6_step_161 flX6_9 ho rfl (by decide) ?_
  refine Wr_aload_n dX6_step_164 rfl 0 rfl ?_
  refine Wr_getI dX6_step_165 flX6_22 ho rfl ?_
  obtain ⟨hi, h⟩ := h
  refine Wr_bald dX6_step_168 (zo6_0 ho) hi ?_
  refine Wr_sipush (v := 255) dX6_step_169 (by decide) ?_
  refine Wr_iand dX6_step_172 ?_
  refine Wr_i2c dX6_step_173 ?_
  refine Wr_cVi [.int ((((μ (o + 1) (μ o 3).toNatClampNeg) &&& 255).toUInt32 % 65536).toInt32)] dX6_step_174 mlX6_51 mgJ0_indexOf_0f7a4 rfl mvJ0_indexOf_0f7a4 (zrs (by decide) rfl) rfl rfl (Nat.le_of_ble_eq_true rfl) rfl (zcI.imp h (fun u2 m1 h => ?_) (fun _ _ h => ⟨rfl, h⟩))
  refine Wr_if_lt 192 dX6_step_177 (by decide) (fun hc => ?_) (fun hc => ?_)
  · have h := h.1 hc
    refine Wr_iconstv (v := 3) dX6_step_192 (by decide) ?_
    refine zsub [0] rfl ?_
    exact wX6_step_193 ho h
  · have h := h.2 hc
    refine Wr_aload_n dX6_step_180 rfl 0 rfl ?_
    refine Wr_getR 1 dX6_step_181 flX6_9 ho rfl (by decide) ?_
    refine Wr_aload_n dX6_step_184 rfl 0 rfl ?_
    refine Wr_getI dX6_step_185 flX6_22 ho rfl ?_
    obtain ⟨hi, h⟩ := h
    refine Wr_bald dX6_step_188 (zo6_0 ho) hi ?_
    refine Wr_goto 193 dX6_step_189 (by decide) ?_
    refine zsub [0] rfl ?_
    exact wX6_step_193 ho h
def pX6_step_122 (d : Nat) (o : Nat) (μ : zMem) (KV : zMem → Prop) (X : Nat → zMem → Prop) : Prop :=
  (vp_in (μ o 3) 700) ∧ ((μ (o + 1) (μ o 3).toNatClampNeg < 48 → pX6_step_157 d o μ KV X) ∧
  (¬ (μ (o + 1) (μ o 3).toNatClampNeg < 48) → (vp_in (μ o 3) 700) ∧ ((57 < μ (o + 1) (μ o 3).toNatClampNeg → pX6_step_157 d o μ KV X) ∧
    (¬ (57 < μ (o + 1) (μ o 3).toNatClampNeg) → zcV d mX6_takeNumber [.ref o] μ (fun m1 => KV m1) X))))
set_option maxRecDepth 20000 in
theorem wX6_step_122 {d : Nat} {o : Nat} {KV : zMem → Prop} {X : Nat → zMem → Prop} {μ : zMem} (ho : zsh o = .inr 6) (h : pX6_step_122 d o μ KV X) : Wr mX6_step (d + 1) 0 122 [(0, .ref o)] [] μ (kV KV X) := by
  unfold pX6_step_122 at h
  refine Wr_aload_n dX6_step_122 rfl 0 rfl ?_
  refine Wr_getR 1 dX6_step_123 flX6_9 ho rfl (by decide) ?_
  refine Wr_aload_n dX6_step_126 rfl 0 rfl ?_
  refine Wr_getI dX6_step_127 flX6_22 ho rfl ?_
  obtain ⟨hi, h⟩ := h
  refine Wr_bald dX6_step_130 (zo6_0 ho) hi ?_
  refine Wr_bipush (v := 48) dX6_step_131 (by decide) ?_
  refine Wr_icmp_lt 157 dX6_step_133 (by decide) (fun hc => ?_) (fun hc => ?_)
  · have h := h.1 hc
    refine zsub [0] rfl ?_
    exact wX6_step_157 ho h
  · have h := h.2 hc
    refine Wr_aload_n dX6_step_136 rfl 0 rfl ?_
    refine Wr_getR 1 dX6_step_137 flX6_9 ho rfl (by decide) ?_
    refine Wr_aload_n dX6_step_140 rfl 0 rfl ?_
    refine Wr_getI dX6_step_141 flX6_22 ho rfl ?_
    obtain ⟨hi, h⟩ := h
    refine Wr_bald dX6_step_144 (zo6_0 ho) hi ?_
    refine Wr_bipush (v := 57) dX6_step_145 (by decide) ?_
    refine Wr_icmp_gt 157 dX6_step_147 (by decide) (fun hc => ?_) (fun hc => ?_)
    · have h := h.1 hc
      refine zsub [0] rfl ?_
      exact wX6_step_157 ho h
    · have h := h.2 hc
      refine Wr_aload_n dX6_step_150 rfl 0 rfl ?_
      refine Wr_cVv [] dX6_step_151 mlX6_46 mgX6_takeNumber rfl mvX6_takeNumber (zrv ho _ rfl rfl) rfl rfl (Nat.le_of_ble_eq_true rfl) rfl (zcV.imp h (fun m1 h => ?_) (fun _ _ h => ⟨rfl, h⟩))
      refine Wr_goto 206 dX6_step_154 (by decide) ?_
      exact Wr_vret dX6_step_206 rfl ⟨rfl, h⟩
def pX6_step_60 (d : Nat) (o : Nat) (μ : zMem) (KV : zMem → Prop) (X : Nat → zMem → Prop) : Prop :=
  ∀ m1 : zMem, m1 = zw μ o 2 (μ o 3) → ((m1 o 3 < m1 o 1 → (vp_in (m1 o 3) 700) ∧ ((m1 (o + 1) (m1 o 3).toNatClampNeg < 97 → pX6_step_122 d o m1 KV X) ∧
    (¬ (m1 (o + 1) (m1 o 3).toNatClampNeg < 97) → (vp_in (m1 o 3) 700) ∧ ((122 < m1 (o + 1) (m1 o 3).toNatClampNeg → pX6_step_122 d o m1 KV X) ∧
      (¬ (122 < m1 (o + 1) (m1 o 3).toNatClampNeg) → zcV d mX6_takeWord [.ref o] m1 (fun m2 => KV m2) X))))) ∧
  (¬ (m1 o 3 < m1 o 1) → ∀ m3 : zMem, m3 = zw m1 o 4 0 → KV m3))
set_option maxRecDepth 20000 in
theorem wX6_step_60 {d : Nat} {o : Nat} {KV : zMem → Prop} {X : Nat → zMem → Prop} {μ : zMem} (ho : zsh o = .inr 6) (h : pX6_step_60 d o μ KV X) : Wr mX6_step (d + 1) 0 60 [(0, .ref o)] [] μ (kV KV X) := by
  unfold pX6_step_60 at h
  refine Wr_aload_n dX6_step_60 rfl 0 rfl ?_
  refine Wr_aload_n dX6_step_61 rfl 0 rfl ?_
  refine Wr_getI dX6_step_62 flX6_22 ho rfl ?_
  obtain ⟨m1, em1⟩ : ∃ z : zMem, z = zw μ o 2 (μ o 3) := ⟨_, rfl⟩
  have h := h m1 em1
  refine Wr_putI dX6_step_65 fpX6_19 ho rfl ?_
  refine Wr_mu em1 ?_
  refine Wr_aload_n dX6_step_68 rfl 0 rfl ?_
  refine Wr_getI dX6_step_69 flX6_22 ho rfl ?_
  refine Wr_aload_n dX6_step_72 rfl 0 rfl ?_
  refine Wr_getI dX6_step_73 flX6_15 ho rfl ?_
  refine Wr_icmp_lt 87 dX6_step_76 (by decide) (fun hc => ?_) (fun hc => ?_)
  · have h := h.1 hc
    refine Wr_aload_n dX6_step_87 rfl 0 rfl ?_
    refine Wr_getR 1 dX6_step_88 flX6_9 ho rfl (by decide) ?_
    refine Wr_aload_n dX6_step_91 rfl 0 rfl ?_
    refine Wr_getI dX6_step_92 flX6_22 ho rfl ?_
    obtain ⟨hi, h⟩ := h
    refine Wr_bald dX6_step_95 (zo6_0 ho) hi ?_
    refine Wr_bipush (v := 97) dX6_step_96 (by decide) ?_
    refine Wr_icmp_lt 122 dX6_step_98 (by decide) (fun hc => ?_) (fun hc => ?_)
    · have h := h.1 hc
      refine zsub [0] rfl ?_
      exact wX6_step_122 ho h
    · have h := h.2 hc
      refine Wr_aload_n dX6_step_101 rfl 0 rfl ?_
      refine Wr_getR 1 dX6_step_102 flX6_9 ho rfl (by decide) ?_
      refine Wr_aload_n dX6_step_105 rfl 0 rfl ?_
      refine Wr_getI dX6_step_106 flX6_22 ho rfl ?_
      obtain ⟨hi, h⟩ := h
      refine Wr_bald dX6_step_109 (zo6_0 ho) hi ?_
      refine Wr_bipush (v := 122) dX6_step_110 (by decide) ?_
      refine Wr_icmp_gt 122 dX6_step_112 (by decide) (fun hc => ?_) (fun hc => ?_)
      · have h := h.1 hc
        refine zsub [0] rfl ?_
        exact wX6_step_122 ho h
      · have h := h.2 hc
        refine Wr_aload_n dX6_step_115 rfl 0 rfl ?_
        refine Wr_cVv [] dX6_step_116 mlX6_43 mgX6_takeWord rfl mvX6_takeWord (zrv ho _ rfl rfl) rfl rfl (Nat.le_of_ble_eq_true rfl) rfl (zcV.imp h (fun m2 h => ?_) (fun _ _ h => ⟨rfl, h⟩))
        refine Wr_goto 206 dX6_step_119 (by decide) ?_
        exact Wr_vret dX6_step_206 rfl ⟨rfl, h⟩
  · have h := h.2 hc
    refine Wr_aload_n dX6_step_79 rfl 0 rfl ?_
    refine Wr_iconstv (v := 0) dX6_step_80 (by decide) ?_
    obtain ⟨m3, em3⟩ : ∃ z : zMem, z = zw m1 o 4 0 := ⟨_, rfl⟩
    have h := h m3 em3
    refine Wr_putI dX6_step_81 fpX6_25 ho rfl ?_
    refine Wr_mu em3 ?_
    refine Wr_goto 206 dX6_step_84 (by decide) ?_
    exact Wr_vret dX6_step_206 rfl ⟨rfl, h⟩
def pX6_step_8 : Nat → Nat → Nat → zMem → (zMem → Prop) → (Nat → zMem → Prop) → Prop
  | 0, _, _, _, _, _ => False
  | n + 1, d, o, μ, KV, X =>
  ((μ o 1 ≤ μ o 3 → pX6_step_60 d o μ KV X) ∧
  (¬ (μ o 1 ≤ μ o 3) → (vp_in (μ o 3) 700) ∧ ((μ (o + 1) (μ o 3).toNatClampNeg = 32 → pX6_step_47 d o μ KV X (fun m => pX6_step_8 n d o m KV X)) ∧
    (¬ (μ (o + 1) (μ o 3).toNatClampNeg = 32) → (vp_in (μ o 3) 700) ∧ ((μ (o + 1) (μ o 3).toNatClampNeg = 10 → pX6_step_47 d o μ KV X (fun m => pX6_step_8 n d o m KV X)) ∧
      (¬ (μ (o + 1) (μ o 3).toNatClampNeg = 10) → pX6_step_60 d o μ KV X))))))
set_option maxRecDepth 20000 in
theorem wX6_step_8 {d : Nat} {o : Nat} {KV : zMem → Prop} {X : Nat → zMem → Prop} (ho : zsh o = .inr 6) : ∀ (n : Nat) (μ : zMem), pX6_step_8 n d o μ KV X → Wr mX6_step (d + 1) 0 8 [(0, .ref o)] [] μ (kV KV X) := by
  intro n
  induction n with
  | zero =>
    intro μ h
    exact absurd h id
  | succ n ih =>
    intro μ h
    unfold pX6_step_8 at h
    refine Wr_aload_n dX6_step_8 rfl 0 rfl ?_
    refine Wr_getI dX6_step_9 flX6_22 ho rfl ?_
    refine Wr_aload_n dX6_step_12 rfl 0 rfl ?_
    refine Wr_getI dX6_step_13 flX6_15 ho rfl ?_
    refine Wr_icmp_ge 60 dX6_step_16 (by decide) (fun hc => ?_) (fun hc => ?_)
    · have h := h.1 hc
      refine zsub [0] rfl ?_
      exact wX6_step_60 ho h
    · have h := h.2 hc
      refine Wr_aload_n dX6_step_19 rfl 0 rfl ?_
      refine Wr_getR 1 dX6_step_20 flX6_9 ho rfl (by decide) ?_
      refine Wr_aload_n dX6_step_23 rfl 0 rfl ?_
      refine Wr_getI dX6_step_24 flX6_22 ho rfl ?_
      obtain ⟨hi, h⟩ := h
      refine Wr_bald dX6_step_27 (zo6_0 ho) hi ?_
      refine Wr_bipush (v := 32) dX6_step_28 (by decide) ?_
      refine Wr_icmp_eq 47 dX6_step_30 (by decide) (fun hc => ?_) (fun hc => ?_)
      · have h := h.1 hc
        refine zsub [0] rfl ?_
        exact wX6_step_47 ho (fun m h => ih m h) h
      · have h := h.2 hc
        refine Wr_aload_n dX6_step_33 rfl 0 rfl ?_
        refine Wr_getR 1 dX6_step_34 flX6_9 ho rfl (by decide) ?_
        refine Wr_aload_n dX6_step_37 rfl 0 rfl ?_
        refine Wr_getI dX6_step_38 flX6_22 ho rfl ?_
        obtain ⟨hi, h⟩ := h
        refine Wr_bald dX6_step_41 (zo6_0 ho) hi ?_
        refine Wr_bipush (v := 10) dX6_step_42 (by decide) ?_
        refine Wr_icmp_ne 60 dX6_step_44 (by decide) (fun hc => ?_) (fun hc => ?_)
        · have h := h.2 hc
          refine zsub [0] rfl ?_
          exact wX6_step_60 ho h
        · have h := h.1 hc
          refine zsub [0] rfl ?_
          exact wX6_step_47 ho (fun m h => ih m h) h
def pX6_step (d : Nat) (o : Nat) (μ : zMem) (KV : zMem → Prop) (X : Nat → zMem → Prop) : Prop :=
  ∀ m1 : zMem, m1 = zw μ o 3 (μ o 2) → ∃ n2 : Nat, pX6_step_8 n2 d o m1 KV X
set_option maxRecDepth 20000 in
theorem wX6_step_0 {d : Nat} {o : Nat} {KV : zMem → Prop} {X : Nat → zMem → Prop} {μ : zMem} (ho : zsh o = .inr 6) (h : pX6_step d o μ KV X) : Wr mX6_step (d + 1) 0 0 [(0, .ref o)] [] μ (kV KV X) := by
  unfold pX6_step at h
  refine Wr_aload_n dX6_step_0 rfl 0 rfl ?_
  refine Wr_aload_n dX6_step_1 rfl 0 rfl ?_
  refine Wr_getI dX6_step_2 flX6_19 ho rfl ?_
  obtain ⟨m1, em1⟩ : ∃ z : zMem, z = zw μ o 3 (μ o 2) := ⟨_, rfl⟩
  have h := h m1 em1
  refine Wr_putI dX6_step_5 fpX6_22 ho rfl ?_
  refine Wr_mu em1 ?_
  refine zsub [0] rfl ?_
  obtain ⟨n9, h⟩ := h
  exact wX6_step_8 ho n9 _ h
theorem cX6_step_ {d : Nat} {o : Nat} {μ : zMem} {KV : zMem → Prop} {X : Nat → zMem → Prop} (ho : zsh o = .inr 6) (h : pX6_step d o μ KV X) : zcV (d + 1) mX6_step [.ref o] μ KV X :=
  Ex_of (w := 1) mgX6_step.2.2.2.2.2 rfl rfl rfl (by decide) (wX6_step_0 ho h)

def pX6_takeWord_5 : Nat → Nat → Nat → zMem → (zMem → Prop) → (Nat → zMem → Prop) → Prop
  | 0, _, _, _, _, _ => False
  | n + 1, d, o, μ, KV, X =>
  ((μ o 1 ≤ μ o 2 → KV μ) ∧
  (¬ (μ o 1 ≤ μ o 2) → (vp_in (μ o 2) 700) ∧ ((μ (o + 1) (μ o 2).toNatClampNeg < 97 → KV μ) ∧
    (¬ (μ (o + 1) (μ o 2).toNatClampNeg < 97) → (vp_in (μ o 2) 700) ∧ ((122 < μ (o + 1) (μ o 2).toNatClampNeg → KV μ) ∧
      (¬ (122 < μ (o + 1) (μ o 2).toNatClampNeg) → ∀ m1 : zMem, m1 = zw μ o 2 ((μ o 2) + 1) → pX6_takeWord_5 n d o m1 KV X))))))
set_option maxRecDepth 20000 in
theorem wX6_takeWord_5 {d : Nat} {o : Nat} {KV : zMem → Prop} {X : Nat → zMem → Prop} (ho : zsh o = .inr 6) : ∀ (n : Nat) (μ : zMem), pX6_takeWord_5 n d o μ KV X → Wr mX6_takeWord (d + 1) 0 5 [(0, .ref o)] [] μ (kV KV X) := by
  intro n
  induction n with
  | zero =>
    intro μ h
    exact absurd h id
  | succ n ih =>
    intro μ h
    unfold pX6_takeWord_5 at h
    refine Wr_aload_n dX6_takeWord_5 rfl 0 rfl ?_
    refine Wr_getI dX6_takeWord_6 flX6_19 ho rfl ?_
    refine Wr_aload_n dX6_takeWord_9 rfl 0 rfl ?_
    refine Wr_getI dX6_takeWord_10 flX6_15 ho rfl ?_
    refine Wr_icmp_ge 57 dX6_takeWord_13 (by decide) (fun hc => ?_) (fun hc => ?_)
    · have h := h.1 hc
      exact Wr_vret dX6_takeWord_57 rfl ⟨rfl, h⟩
    · have h := h.2 hc
      refine Wr_aload_n dX6_takeWord_16 rfl 0 rfl ?_
      refine Wr_getR 1 dX6_takeWord_17 flX6_9 ho rfl (by decide) ?_
      refine Wr_aload_n dX6_takeWord_20 rfl 0 rfl ?_
      refine Wr_getI dX6_takeWord_21 flX6_19 ho rfl ?_
      obtain ⟨hi, h⟩ := h
      refine Wr_bald dX6_takeWord_24 (zo6_0 ho) hi ?_
      refine Wr_bipush (v := 97) dX6_takeWord_25 (by decide) ?_
      refine Wr_icmp_lt 57 dX6_takeWord_27 (by decide) (fun hc => ?_) (fun hc => ?_)
      · have h := h.1 hc
        exact Wr_vret dX6_takeWord_57 rfl ⟨rfl, h⟩
      · have h := h.2 hc
        refine Wr_aload_n dX6_takeWord_30 rfl 0 rfl ?_
        refine Wr_getR 1 dX6_takeWord_31 flX6_9 ho rfl (by decide) ?_
        refine Wr_aload_n dX6_takeWord_34 rfl 0 rfl ?_
        refine Wr_getI dX6_takeWord_35 flX6_19 ho rfl ?_
        obtain ⟨hi, h⟩ := h
        refine Wr_bald dX6_takeWord_38 (zo6_0 ho) hi ?_
        refine Wr_bipush (v := 122) dX6_takeWord_39 (by decide) ?_
        refine Wr_icmp_gt 57 dX6_takeWord_41 (by decide) (fun hc => ?_) (fun hc => ?_)
        · have h := h.1 hc
          exact Wr_vret dX6_takeWord_57 rfl ⟨rfl, h⟩
        · have h := h.2 hc
          refine Wr_aload_n dX6_takeWord_44 rfl 0 rfl ?_
          refine Wr_dup dX6_takeWord_45 rfl ?_
          refine Wr_getI dX6_takeWord_46 flX6_19 ho rfl ?_
          refine Wr_iconstv (v := 1) dX6_takeWord_49 (by decide) ?_
          refine Wr_iadd dX6_takeWord_50 ?_
          obtain ⟨m1, em1⟩ : ∃ z : zMem, z = zw μ o 2 ((μ o 2) + 1) := ⟨_, rfl⟩
          have h := h m1 em1
          refine Wr_putI dX6_takeWord_51 fpX6_19 ho rfl ?_
          refine Wr_mu em1 ?_
          refine Wr_goto 5 dX6_takeWord_54 (by decide) ?_
          refine zsub [0] rfl ?_
          exact ih _ h
def pX6_takeWord (d : Nat) (o : Nat) (μ : zMem) (KV : zMem → Prop) (X : Nat → zMem → Prop) : Prop :=
  ∀ m1 : zMem, m1 = zw μ o 4 1 → ∃ n2 : Nat, pX6_takeWord_5 n2 d o m1 KV X
set_option maxRecDepth 20000 in
theorem wX6_takeWord_0 {d : Nat} {o : Nat} {KV : zMem → Prop} {X : Nat → zMem → Prop} {μ : zMem} (ho : zsh o = .inr 6) (h : pX6_takeWord d o μ KV X) : Wr mX6_takeWord (d + 1) 0 0 [(0, .ref o)] [] μ (kV KV X) := by
  unfold pX6_takeWord at h
  refine Wr_aload_n dX6_takeWord_0 rfl 0 rfl ?_
  refine Wr_iconstv (v := 1) dX6_takeWord_1 (by decide) ?_
  obtain ⟨m1, em1⟩ : ∃ z : zMem, z = zw μ o 4 1 := ⟨_, rfl⟩
  have h := h m1 em1
  refine Wr_putI dX6_takeWord_2 fpX6_25 ho rfl ?_
  refine Wr_mu em1 ?_
  refine zsub [0] rfl ?_
  obtain ⟨n9, h⟩ := h
  exact wX6_takeWord_5 ho n9 _ h
theorem cX6_takeWord_ {d : Nat} {o : Nat} {μ : zMem} {KV : zMem → Prop} {X : Nat → zMem → Prop} (ho : zsh o = .inr 6) (h : pX6_takeWord d o μ KV X) : zcV (d + 1) mX6_takeWord [.ref o] μ KV X :=
  Ex_of (w := 1) mgX6_takeWord.2.2.2.2.2 rfl rfl rfl (by decide) (wX6_takeWord_0 ho h)

def pX6_takeNumber_89 (d : Nat) (o : Nat) (y0 : Int32) (μ : zMem) (KV : zMem → Prop) (X : Nat → zMem → Prop) (C10 : zMem → Prop) : Prop :=
  ∀ m1 : zMem, m1 = zw μ o 5 y0 → ∀ m2 : zMem, m2 = zw m1 o 2 ((m1 o 2) + 1) → C10 m2
set_option maxRecDepth 20000 in
theorem wX6_takeNumber_89 {d : Nat} {o : Nat} {KV : zMem → Prop} {X : Nat → zMem → Prop} {C10 : zMem → Prop} {y0 : Int32} {μ : zMem} (ho : zsh o = .inr 6) (hC10 : ∀ (μ : zMem), C10 μ → Wr mX6_takeNumber (d + 1) 0 10 [(0, .ref o)] [] μ (kV KV X)) (h : pX6_takeNumber_89 d o y0 μ KV X C10) : Wr mX6_takeNumber (d + 1) 0 89 [(0, .ref o)] [.int y0, .ref o] μ (kV KV X) := by
  unfold pX6_takeNumber_89 at h
  obtain ⟨m1, em1⟩ : ∃ z : zMem, z = zw μ o 5 y0 := ⟨_, rfl⟩
  have h := h m1 em1
  refine Wr_putI dX6_takeNumber_89 fpX6_28 ho rfl ?_
  refine Wr_mu em1 ?_
  refine Wr_aload_n dX6_takeNumber_92 rfl 0 rfl ?_
  refine Wr_dup dX6_takeNumber_93 rfl ?_
  refine Wr_getI dX6_takeNumber_94 flX6_19 ho rfl ?_
  refine Wr_iconstv (v := 1) dX6_takeNumber_97 (by decide) ?_
  refine Wr_iadd dX6_takeNumber_98 ?_
  obtain ⟨m2, em2⟩ : ∃ z : zMem, z = zw m1 o 2 ((m1 o 2) + 1) := ⟨_, rfl⟩
  have h := h m2 em2
  refine Wr_putI dX6_takeNumber_99 fpX6_19 ho rfl ?_
  refine Wr_mu em2 ?_
  refine Wr_goto 10 dX6_takeNumber_102 (by decide) ?_
  refine zsub [0] rfl ?_
  exact hC10 _ h
def pX6_takeNumber_10 : Nat → Nat → Nat → zMem → (zMem → Prop) → (Nat → zMem → Prop) → Prop
  | 0, _, _, _, _, _ => False
  | n + 1, d, o, μ, KV, X =>
  ((μ o 1 ≤ μ o 2 → KV μ) ∧
  (¬ (μ o 1 ≤ μ o 2) → (vp_in (μ o 2) 700) ∧ ((μ (o + 1) (μ o 2).toNatClampNeg < 48 → KV μ) ∧
    (¬ (μ (o + 1) (μ o 2).toNatClampNeg < 48) → (vp_in (μ o 2) 700) ∧ ((57 < μ (o + 1) (μ o 2).toNatClampNeg → KV μ) ∧
      (¬ (57 < μ (o + 1) (μ o 2).toNatClampNeg) → ((4 ≤ (μ o 2) - (μ o 3) → pX6_takeNumber_89 d o 10000 μ KV X (fun m => pX6_takeNumber_10 n d o m KV X)) ∧
        (¬ (4 ≤ (μ o 2) - (μ o 3)) → (vp_in (μ o 2) 700) ∧ pX6_takeNumber_89 d o ((((μ o 5) * 10) + (μ (o + 1) (μ o 2).toNatClampNeg)) - 48) μ KV X (fun m => pX6_takeNumber_10 n d o m KV X)))))))))
set_option maxRecDepth 20000 in
theorem wX6_takeNumber_10 {d : Nat} {o : Nat} {KV : zMem → Prop} {X : Nat → zMem → Prop} (ho : zsh o = .inr 6) : ∀ (n : Nat) (μ : zMem), pX6_takeNumber_10 n d o μ KV X → Wr mX6_takeNumber (d + 1) 0 10 [(0, .ref o)] [] μ (kV KV X) := by
  intro n
  induction n with
  | zero =>
    intro μ h
    exact absurd h id
  | succ n ih =>
    intro μ h
    unfold pX6_takeNumber_10 at h
    refine Wr_aload_n dX6_takeNumber_10 rfl 0 rfl ?_
    refine Wr_getI dX6_takeNumber_11 flX6_19 ho rfl ?_
    refine Wr_aload_n dX6_takeNumber_14 rfl 0 rfl ?_
    refine Wr_getI dX6_takeNumber_15 flX6_15 ho rfl ?_
    refine Wr_icmp_ge 105 dX6_takeNumber_18 (by decide) (fun hc => ?_) (fun hc => ?_)
    · have h := h.1 hc
      exact Wr_vret dX6_takeNumber_105 rfl ⟨rfl, h⟩
    · have h := h.2 hc
      refine Wr_aload_n dX6_takeNumber_21 rfl 0 rfl ?_
      refine Wr_getR 1 dX6_takeNumber_22 flX6_9 ho rfl (by decide) ?_
      refine Wr_aload_n dX6_takeNumber_25 rfl 0 rfl ?_
      refine Wr_getI dX6_takeNumber_26 flX6_19 ho rfl ?_
      obtain ⟨hi, h⟩ := h
      refine Wr_bald dX6_takeNumber_29 (zo6_0 ho) hi ?_
      refine Wr_bipush (v := 48) dX6_takeNumber_30 (by decide) ?_
      refine Wr_icmp_lt 105 dX6_takeNumber_32 (by decide) (fun hc => ?_) (fun hc => ?_)
      · have h := h.1 hc
        exact Wr_vret dX6_takeNumber_105 rfl ⟨rfl, h⟩
      · have h := h.2 hc
        refine Wr_aload_n dX6_takeNumber_35 rfl 0 rfl ?_
        refine Wr_getR 1 dX6_takeNumber_36 flX6_9 ho rfl (by decide) ?_
        refine Wr_aload_n dX6_takeNumber_39 rfl 0 rfl ?_
        refine Wr_getI dX6_takeNumber_40 flX6_19 ho rfl ?_
        obtain ⟨hi, h⟩ := h
        refine Wr_bald dX6_takeNumber_43 (zo6_0 ho) hi ?_
        refine Wr_bipush (v := 57) dX6_takeNumber_44 (by decide) ?_
        refine Wr_icmp_gt 105 dX6_takeNumber_46 (by decide) (fun hc => ?_) (fun hc => ?_)
        · have h := h.1 hc
          exact Wr_vret dX6_takeNumber_105 rfl ⟨rfl, h⟩
        · have h := h.2 hc
          refine Wr_aload_n dX6_takeNumber_49 rfl 0 rfl ?_
          refine Wr_aload_n dX6_takeNumber_50 rfl 0 rfl ?_
          refine Wr_getI dX6_takeNumber_51 flX6_19 ho rfl ?_
          refine Wr_aload_n dX6_takeNumber_54 rfl 0 rfl ?_
          refine Wr_getI dX6_takeNumber_55 flX6_22 ho rfl ?_
          refine Wr_isub dX6_takeNumber_58 ?_
          refine Wr_iconstv (v := 4) dX6_takeNumber_59 (by decide) ?_
          refine Wr_icmp_ge 86 dX6_takeNumber_60 (by decide) (fun hc => ?_) (fun hc => ?_)
          · have h := h.1 hc
            refine Wr_sipush (v := 10000) dX6_takeNumber_86 (by decide) ?_
            refine zsub [0] rfl ?_
            exact wX6_takeNumber_89 ho (fun m h => ih m h) h
          · have h := h.2 hc
            refine Wr_aload_n dX6_takeNumber_63 rfl 0 rfl ?_
            refine Wr_getI dX6_takeNumber_64 flX6_28 ho rfl ?_
            refine Wr_bipush (v := 10) dX6_takeNumber_67 (by decide) ?_
            refine Wr_imul dX6_takeNumber_69 ?_
            refine Wr_aload_n dX6_takeNumber_70 rfl 0 rfl ?_
            refine Wr_getR 1 dX6_takeNumber_71 flX6_9 ho rfl (by decide) ?_
            refine Wr_aload_n dX6_takeNumber_74 rfl 0 rfl ?_
            refine Wr_getI dX6_takeNumber_75 flX6_19 ho rfl ?_
            obtain ⟨hi, h⟩ := h
            refine Wr_bald dX6_takeNumber_78 (zo6_0 ho) hi ?_
            refine Wr_iadd dX6_takeNumber_79 ?_
            refine Wr_bipush (v := 48) dX6_takeNumber_80 (by decide) ?_
            refine Wr_isub dX6_takeNumber_82 ?_
            refine Wr_goto 89 dX6_takeNumber_83 (by decide) ?_
            refine zsub [0] rfl ?_
            exact wX6_takeNumber_89 ho (fun m h => ih m h) h
def pX6_takeNumber (d : Nat) (o : Nat) (μ : zMem) (KV : zMem → Prop) (X : Nat → zMem → Prop) : Prop :=
  ∀ m1 : zMem, m1 = zw μ o 4 2 → ∀ m2 : zMem, m2 = zw m1 o 5 0 → ∃ n2 : Nat, pX6_takeNumber_10 n2 d o m2 KV X
set_option maxRecDepth 20000 in
theorem wX6_takeNumber_0 {d : Nat} {o : Nat} {KV : zMem → Prop} {X : Nat → zMem → Prop} {μ : zMem} (ho : zsh o = .inr 6) (h : pX6_takeNumber d o μ KV X) : Wr mX6_takeNumber (d + 1) 0 0 [(0, .ref o)] [] μ (kV KV X) := by
  unfold pX6_takeNumber at h
  refine Wr_aload_n dX6_takeNumber_0 rfl 0 rfl ?_
  refine Wr_iconstv (v := 2) dX6_takeNumber_1 (by decide) ?_
  obtain ⟨m1, em1⟩ : ∃ z : zMem, z = zw μ o 4 2 := ⟨_, rfl⟩
  have h := h m1 em1
  refine Wr_putI dX6_takeNumber_2 fpX6_25 ho rfl ?_
  refine Wr_mu em1 ?_
  refine Wr_aload_n dX6_takeNumber_5 rfl 0 rfl ?_
  refine Wr_iconstv (v := 0) dX6_takeNumber_6 (by decide) ?_
  obtain ⟨m2, em2⟩ : ∃ z : zMem, z = zw m1 o 5 0 := ⟨_, rfl⟩
  have h := h m2 em2
  refine Wr_putI dX6_takeNumber_7 fpX6_28 ho rfl ?_
  refine Wr_mu em2 ?_
  refine zsub [0] rfl ?_
  obtain ⟨n9, h⟩ := h
  exact wX6_takeNumber_10 ho n9 _ h
theorem cX6_takeNumber_ {d : Nat} {o : Nat} {μ : zMem} {KV : zMem → Prop} {X : Nat → zMem → Prop} (ho : zsh o = .inr 6) (h : pX6_takeNumber d o μ KV X) : zcV (d + 1) mX6_takeNumber [.ref o] μ KV X :=
  Ex_of (w := 1) mgX6_takeNumber.2.2.2.2.2 rfl rfl rfl (by decide) (wX6_takeNumber_0 ho h)

def pX6_among_17 : Nat → Nat → Nat → Nat → Int32 → Int32 → Int32 → zMem → (Int32 → zMem → Prop) → (Nat → zMem → Prop) → Prop
  | 0, _, _, _, _, _, _, _, _, _ => False
  | n + 1, d, o, s1, x2, x3, x4, μ, KI, X =>
  zcI d mJ0_length_8abf5 [.ref (1000 + s1)] μ (fun u2 m1 => ((u2 ≤ x4 → KI (-1) m1) ∧
  (¬ (u2 ≤ x4) → zcI d mJ0_charAt_5068e [.ref (1000 + s1), .int x4] m1 (fun u4 m3 => ((u4 = 32 → zcI d mX6_spells [.ref o, .ref (1000 + s1), .int x3, .int x4] m3 (fun u7 m6 => ((u7 = 0 → ∀ v8 : Int32, v8 = x2 + 1 → ∀ v9 : Int32, v9 = x4 + 1 → pX6_among_17 n d o s1 v8 (x4 + 1) v9 m6 KI X) ∧
      (¬ (u7 = 0) → KI x2 m6))) X) ∧
    (¬ (u4 = 32) → ∀ v5 : Int32, v5 = x4 + 1 → pX6_among_17 n d o s1 x2 x3 v5 m3 KI X))) X))) X
set_option maxRecDepth 20000 in
theorem wX6_among_17 {d : Nat} {o : Nat} {s1 : Nat} {KI : Int32 → zMem → Prop} {X : Nat → zMem → Prop} (ho : zsh o = .inr 6) (hs1 : s1 < zNS) : ∀ (n : Nat) (x2 : Int32) (x3 : Int32) (x4 : Int32) (μ : zMem), pX6_among_17 n d o s1 x2 x3 x4 μ KI X → Wr mX6_among (d + 1) 0 17 [(0, .ref o), (1, .ref (1000 + s1)), (2, .int x2), (3, .int x3), (4, .int x4)] [] μ (kI KI X) := by
  intro n
  induction n with
  | zero =>
    intro x2 x3 x4 μ h
    exact absurd h id
  | succ n ih =>
    intro x2 x3 x4 μ h
    unfold pX6_among_17 at h
    refine Wr_iload dX6_among_17 4 rfl ?_
    refine Wr_aload_n dX6_among_19 rfl 1 rfl ?_
    refine Wr_cVi [] dX6_among_20 mlX6_57 mgJ0_length_8abf5 rfl mvJ0_length_8abf5 (zrs hs1 rfl) rfl rfl (Nat.le_of_ble_eq_true rfl) rfl (zcI.imp h (fun u2 m1 h => ?_) (fun _ _ h => ⟨rfl, h⟩))
    refine Wr_icmp_ge 64 dX6_among_23 (by decide) (fun hc => ?_) (fun hc => ?_)
    · have h := h.1 hc
      refine Wr_iconstv (v := (-1)) dX6_among_64 (by decide) ?_
      exact Wr_iret .int dX6_among_65 rfl rfl ⟨rfl, h⟩
    · have h := h.2 hc
      refine Wr_aload_n dX6_among_26 rfl 1 rfl ?_
      refine Wr_iload dX6_among_27 4 rfl ?_
      refine Wr_cVi [.int x4] dX6_among_29 mlX6_60 mgJ0_charAt_5068e rfl mvJ0_charAt_5068e (zrs hs1 rfl) rfl rfl (Nat.le_of_ble_eq_true rfl) rfl (zcI.imp h (fun u4 m3 h => ?_) (fun _ _ h => ⟨rfl, h⟩))
      refine Wr_bipush (v := 32) dX6_among_32 (by decide) ?_
      refine Wr_icmp_ne 58 dX6_among_34 (by decide) (fun hc => ?_) (fun hc => ?_)
      · have h := h.2 hc
        obtain ⟨v5, ev5⟩ : ∃ z : Int32, z = x4 + 1 := ⟨_, rfl⟩
        have h := h v5 ev5
        refine Wr_iinc (v := v5) dX6_among_58 (q := 4) rfl (by rw [ev5]; rfl) (by decide) rfl ?_
        refine Wr_goto 17 dX6_among_61 (by decide) ?_
        refine zsub [0, 1, 2, 3, 4] rfl ?_
        exact ih _ _ _ _ h
      · have h := h.1 hc
        refine Wr_aload_n dX6_among_37 rfl 0 rfl ?_
        refine Wr_aload_n dX6_among_38 rfl 1 rfl ?_
        refine Wr_iload_n dX6_among_39 rfl 3 rfl ?_
        refine Wr_iload dX6_among_40 4 rfl ?_
        refine Wr_cVi [.ref (1000 + s1), .int x3, .int x4] dX6_among_42 mlX6_64 mgX6_spells rfl mvX6_spells (zrv ho _ rfl rfl) rfl rfl (Nat.le_of_ble_eq_true rfl) rfl (zcI.imp h (fun u7 m6 h => ?_) (fun _ _ h => ⟨rfl, h⟩))
        refine Wr_if_eq 50 dX6_among_45 (by decide) (fun hc => ?_) (fun hc => ?_)
        · have h := h.1 hc
          obtain ⟨v8, ev8⟩ : ∃ z : Int32, z = x2 + 1 := ⟨_, rfl⟩
          have h := h v8 ev8
          refine Wr_iinc (v := v8) dX6_among_50 (q := 2) rfl (by rw [ev8]; rfl) (by decide) rfl ?_
          refine Wr_iload dX6_among_53 4 rfl ?_
          refine Wr_iconstv (v := 1) dX6_among_55 (by decide) ?_
          refine Wr_iadd dX6_among_56 ?_
          refine Wr_istore_n dX6_among_57 rfl (by decide) rfl ?_
          obtain ⟨v9, ev9⟩ : ∃ z : Int32, z = x4 + 1 := ⟨_, rfl⟩
          have h := h v9 ev9
          refine Wr_iinc (v := v9) dX6_among_58 (q := 4) rfl (by rw [ev9]; rfl) (by decide) rfl ?_
          refine Wr_goto 17 dX6_among_61 (by decide) ?_
          refine zsub [0, 1, 2, 3, 4] rfl ?_
          exact ih _ _ _ _ h
        · have h := h.2 hc
          refine Wr_iload_n dX6_among_48 rfl 2 rfl ?_
          exact Wr_iret .int dX6_among_49 rfl rfl ⟨rfl, h⟩
def pX6_among (d : Nat) (o : Nat) (s1 : Nat) (μ : zMem) (KI : Int32 → zMem → Prop) (X : Nat → zMem → Prop) : Prop :=
  ((μ o 4 = 1 → ∃ n2 : Nat, pX6_among_17 n2 d o s1 0 0 0 μ KI X) ∧
  (¬ (μ o 4 = 1) → KI (-1) μ))
set_option maxRecDepth 20000 in
theorem wX6_among_0 {d : Nat} {o : Nat} {s1 : Nat} {KI : Int32 → zMem → Prop} {X : Nat → zMem → Prop} {μ : zMem} (ho : zsh o = .inr 6) (hs1 : s1 < zNS) (h : pX6_among d o s1 μ KI X) : Wr mX6_among (d + 1) 0 0 [(0, .ref o), (1, .ref (1000 + s1))] [] μ (kI KI X) := by
  unfold pX6_among at h
  refine Wr_aload_n dX6_among_0 rfl 0 rfl ?_
  refine Wr_getI dX6_among_1 flX6_25 ho rfl ?_
  refine Wr_iconstv (v := 1) dX6_among_4 (by decide) ?_
  refine Wr_icmp_eq 10 dX6_among_5 (by decide) (fun hc => ?_) (fun hc => ?_)
  · have h := h.1 hc
    refine Wr_iconstv (v := 0) dX6_among_10 (by decide) ?_
    refine Wr_istore_n dX6_among_11 rfl (by decide) rfl ?_
    refine Wr_iconstv (v := 0) dX6_among_12 (by decide) ?_
    refine Wr_istore_n dX6_among_13 rfl (by decide) rfl ?_
    refine Wr_iconstv (v := 0) dX6_among_14 (by decide) ?_
    refine Wr_istore dX6_among_15 (by decide) rfl ?_
    refine zsub [0, 1, 2, 3, 4] rfl ?_
    obtain ⟨n9, h⟩ := h
    exact wX6_among_17 ho hs1 n9 _ _ _ _ h
  · have h := h.2 hc
    refine Wr_iconstv (v := (-1)) dX6_among_8 (by decide) ?_
    exact Wr_iret .int dX6_among_9 rfl rfl ⟨rfl, h⟩
theorem cX6_among_ {d : Nat} {o : Nat} {s1 : Nat} {μ : zMem} {KI : Int32 → zMem → Prop} {X : Nat → zMem → Prop} (ho : zsh o = .inr 6) (hs1 : s1 < zNS) (h : pX6_among d o s1 μ KI X) : zcI (d + 1) mX6_among [.ref o, .ref (1000 + s1)] μ KI X :=
  Ex_of (w := 2) mgX6_among.2.2.2.2.2 rfl rfl rfl (by decide) (wX6_among_0 ho hs1 h)

def pX6_spells_20 : Nat → Nat → Nat → Nat → Int32 → Int32 → Int32 → zMem → (Int32 → zMem → Prop) → (Nat → zMem → Prop) → Prop
  | 0, _, _, _, _, _, _, _, _, _ => False
  | n + 1, d, o, s1, x2, x3, x4, μ, KI, X =>
  ((x3 ≤ x4 → KI 1 μ) ∧
  (¬ (x3 ≤ x4) → zcI d mJ0_charAt_5068e [.ref (1000 + s1), .int x4] μ (fun u2 m1 => (vp_in (((m1 o 3) + x4) - x2) 700) ∧ ((u2 = m1 (o + 1) (((m1 o 3) + x4) - x2).toNatClampNeg → ∀ v3 : Int32, v3 = x4 + 1 → pX6_spells_20 n d o s1 x2 x3 v3 m1 KI X) ∧
    (¬ (u2 = m1 (o + 1) (((m1 o 3) + x4) - x2).toNatClampNeg) → KI 0 m1))) X))
set_option maxRecDepth 20000 in
theorem wX6_spells_20 {d : Nat} {o : Nat} {s1 : Nat} {KI : Int32 → zMem → Prop} {X : Nat → zMem → Prop} (ho : zsh o = .inr 6) (hs1 : s1 < zNS) : ∀ (n : Nat) (x2 : Int32) (x3 : Int32) (x4 : Int32) (μ : zMem), pX6_spells_20 n d o s1 x2 x3 x4 μ KI X → Wr mX6_spells (d + 1) 0 20 [(0, .ref o), (1, .ref (1000 + s1)), (2, .int x2), (3, .int x3), (4, .int x4)] [] μ (kI KI X) := by
  intro n
  induction n with
  | zero =>
    intro x2 x3 x4 μ h
    exact absurd h id
  | succ n ih =>
    intro x2 x3 x4 μ h
    unfold pX6_spells_20 at h
    refine Wr_iload dX6_spells_20 4 rfl ?_
    refine Wr_iload_n dX6_spells_22 rfl 3 rfl ?_
    refine Wr_icmp_ge 57 dX6_spells_23 (by decide) (fun hc => ?_) (fun hc => ?_)
    · have h := h.1 hc
      refine Wr_iconstv (v := 1) dX6_spells_57 (by decide) ?_
      exact Wr_iret .boolean dX6_spells_58 rfl rfl ⟨rfl, h⟩
    · have h := h.2 hc
      refine Wr_aload_n dX6_spells_26 rfl 1 rfl ?_
      refine Wr_iload dX6_spells_27 4 rfl ?_
      refine Wr_cVi [.int x4] dX6_spells_29 mlX6_60 mgJ0_charAt_5068e rfl mvJ0_charAt_5068e (zrs hs1 rfl) rfl rfl (Nat.le_of_ble_eq_true rfl) rfl (zcI.imp h (fun u2 m1 h => ?_) (fun _ _ h => ⟨rfl, h⟩))
      refine Wr_aload_n dX6_spells_32 rfl 0 rfl ?_
      refine Wr_getR 1 dX6_spells_33 flX6_9 ho rfl (by decide) ?_
      refine Wr_aload_n dX6_spells_36 rfl 0 rfl ?_
      refine Wr_getI dX6_spells_37 flX6_22 ho rfl ?_
      refine Wr_iload dX6_spells_40 4 rfl ?_
      refine Wr_iadd dX6_spells_42 ?_
      refine Wr_iload_n dX6_spells_43 rfl 2 rfl ?_
      refine Wr_isub dX6_spells_44 ?_
      obtain ⟨hi, h⟩ := h
      refine Wr_bald dX6_spells_45 (zo6_0 ho) hi ?_
      refine Wr_icmp_eq 51 dX6_spells_46 (by decide) (fun hc => ?_) (fun hc => ?_)
      · have h := h.1 hc
        obtain ⟨v3, ev3⟩ : ∃ z : Int32, z = x4 + 1 := ⟨_, rfl⟩
        have h := h v3 ev3
        refine Wr_iinc (v := v3) dX6_spells_51 (q := 4) rfl (by rw [ev3]; rfl) (by decide) rfl ?_
        refine Wr_goto 20 dX6_spells_54 (by decide) ?_
        refine zsub [0, 1, 2, 3, 4] rfl ?_
        exact ih _ _ _ _ h
      · have h := h.2 hc
        refine Wr_iconstv (v := 0) dX6_spells_49 (by decide) ?_
        exact Wr_iret .boolean dX6_spells_50 rfl rfl ⟨rfl, h⟩
def pX6_spells (d : Nat) (o : Nat) (s1 : Nat) (x2 : Int32) (x3 : Int32) (μ : zMem) (KI : Int32 → zMem → Prop) (X : Nat → zMem → Prop) : Prop :=
  ((x3 - x2 = (μ o 2) - (μ o 3) → ∃ n2 : Nat, pX6_spells_20 n2 d o s1 x2 x3 x2 μ KI X) ∧
  (¬ (x3 - x2 = (μ o 2) - (μ o 3)) → KI 0 μ))
set_option maxRecDepth 20000 in
theorem wX6_spells_0 {d : Nat} {o : Nat} {s1 : Nat} {KI : Int32 → zMem → Prop} {X : Nat → zMem → Prop} {x2 : Int32} {x3 : Int32} {μ : zMem} (ho : zsh o = .inr 6) (hs1 : s1 < zNS) (h : pX6_spells d o s1 x2 x3 μ KI X) : Wr mX6_spells (d + 1) 0 0 [(0, .ref o), (1, .ref (1000 + s1)), (2, .int x2), (3, .int x3)] [] μ (kI KI X) := by
  unfold pX6_spells at h
  refine Wr_iload_n dX6_spells_0 rfl 3 rfl ?_
  refine Wr_iload_n dX6_spells_1 rfl 2 rfl ?_
  refine Wr_isub dX6_spells_2 ?_
  refine Wr_aload_n dX6_spells_3 rfl 0 rfl ?_
  refine Wr_getI dX6_spells_4 flX6_19 ho rfl ?_
  refine Wr_aload_n dX6_spells_7 rfl 0 rfl ?_
  refine Wr_getI dX6_spells_8 flX6_22 ho rfl ?_
  refine Wr_isub dX6_spells_11 ?_
  refine Wr_icmp_eq 17 dX6_spells_12 (by decide) (fun hc => ?_) (fun hc => ?_)
  · have h := h.1 hc
    refine Wr_iload_n dX6_spells_17 rfl 2 rfl ?_
    refine Wr_istore dX6_spells_18 (by decide) rfl ?_
    refine zsub [0, 1, 2, 3, 4] rfl ?_
    obtain ⟨n9, h⟩ := h
    exact wX6_spells_20 ho hs1 n9 _ _ _ _ h
  · have h := h.2 hc
    refine Wr_iconstv (v := 0) dX6_spells_15 (by decide) ?_
    exact Wr_iret .boolean dX6_spells_16 rfl rfl ⟨rfl, h⟩
theorem cX6_spells_ {d : Nat} {o : Nat} {s1 : Nat} {x2 : Int32} {x3 : Int32} {μ : zMem} {KI : Int32 → zMem → Prop} {X : Nat → zMem → Prop} (ho : zsh o = .inr 6) (hs1 : s1 < zNS) (h : pX6_spells d o s1 x2 x3 μ KI X) : zcI (d + 1) mX6_spells [.ref o, .ref (1000 + s1), .int x2, .int x3] μ KI X :=
  Ex_of (w := 4) mgX6_spells.2.2.2.2.2 rfl rfl rfl (by decide) (wX6_spells_0 ho hs1 h)
