def pJ6_bitCount_0f7a4 (d : Nat) (x0 : Int32) (μ : zMem) (KI : Int32 → zMem → Prop) (X : Nat → zMem → Prop) : Prop :=
  ∀ v1 : Int32, v1 = x0 - (((x0.toUInt32 >>> ((Int32.toUInt32 1) &&& Int32.toUInt32 31)).toInt32) &&& 1431655765) → ∀ v2 : Int32, v2 = (v1 &&& 858993459) + (((v1.toUInt32 >>> ((Int32.toUInt32 2) &&& Int32.toUInt32 31)).toInt32) &&& 858993459) → ∀ v3 : Int32, v3 = (v2 + ((v2.toUInt32 >>> ((Int32.toUInt32 4) &&& Int32.toUInt32 31)).toInt32)) &&& 252645135 → ∀ v4 : Int32, v4 = v3 + ((v3.toUInt32 >>> ((Int32.toUInt32 8) &&& Int32.toUInt32 31)).toInt32) → ∀ v5 : Int32, v5 = v4 + ((v4.toUInt32 >>> ((Int32.toUInt32 16) &&& Int32.toUInt32 31)).toInt32) → KI (v5 &&& 63) μ
set_option maxRecDepth 20000 in
theorem wJ6_bitCount_0f7a4_0 {d : Nat} {KI : Int32 → zMem → Prop} {X : Nat → zMem → Prop} {x0 : Int32} {μ : zMem} (h : pJ6_bitCount_0f7a4 d x0 μ KI X) : Wr mJ6_bitCount_0f7a4 (d + 1) 0 0 [(0, .int x0)] [] μ (kI KI X) := by
  unfold pJ6_bitCount_0f7a4 at h
  refine Wr_iload_n dJ6_bitCount_0f7a4_0 rfl 0 rfl ?_
  refine Wr_iload_n dJ6_bitCount_0f7a4_1 rfl 0 rfl ?_
  refine Wr_iconstv (v := 1) dJ6_bitCount_0f7a4_2 (by decide) ?_
  refine Wr_iushr dJ6_bitCount_0f7a4_3 ?_
  refine Wr_ldcw dJ6_bitCount_0f7a4_4 lcJ6_265 ?_
  refine Wr_iand dJ6_bitCount_0f7a4_7 ?_
  refine Wr_isub dJ6_bitCount_0f7a4_8 ?_
  obtain ⟨v1, ev1⟩ : ∃ z : Int32, z = x0 - (((x0.toUInt32 >>> ((Int32.toUInt32 1) &&& Int32.toUInt32 31)).toInt32) &&& 1431655765) := ⟨_, rfl⟩
  have h := h v1 ev1
  refine Wr_top ev1 ?_
  refine Wr_istore_n dJ6_bitCount_0f7a4_9 rfl (by decide) rfl ?_
  refine Wr_iload_n dJ6_bitCount_0f7a4_10 rfl 0 rfl ?_
  refine Wr_ldcw dJ6_bitCount_0f7a4_11 lcJ6_266 ?_
  refine Wr_iand dJ6_bitCount_0f7a4_14 ?_
  refine Wr_iload_n dJ6_bitCount_0f7a4_15 rfl 0 rfl ?_
  refine Wr_iconstv (v := 2) dJ6_bitCount_0f7a4_16 (by decide) ?_
  refine Wr_iushr dJ6_bitCount_0f7a4_17 ?_
  refine Wr_ldcw dJ6_bitCount_0f7a4_18 lcJ6_266 ?_
  refine Wr_iand dJ6_bitCount_0f7a4_21 ?_
  refine Wr_iadd dJ6_bitCount_0f7a4_22 ?_
  obtain ⟨v2, ev2⟩ : ∃ z : Int32, z = (v1 &&& 858993459) + (((v1.toUInt32 >>> ((Int32.toUInt32 2) &&& Int32.toUInt32 31)).toInt32) &&& 858993459) := ⟨_, rfl⟩
  have h := h v2 ev2
  refine Wr_top ev2 ?_
  refine Wr_istore_n dJ6_bitCount_0f7a4_23 rfl (by decide) rfl ?_
  refine Wr_iload_n dJ6_bitCount_0f7a4_24 rfl 0 rfl ?_
  refine Wr_iload_n dJ6_bitCount_0f7a4_25 rfl 0 rfl ?_
  refine Wr_iconstv (v := 4) dJ6_bitCount_0f7a4_26 (by decide) ?_
  refine Wr_iushr dJ6_bitCount_0f7a4_27 ?_
  refine Wr_iadd dJ6_bitCount_0f7a4_28 ?_
  refine Wr_ldcw dJ6_bitCount_0f7a4_29 lcJ6_267 ?_
  refine Wr_iand dJ6_bitCount_0f7a4_32 ?_
  obtain ⟨v3, ev3⟩ : ∃ z : Int32, z = (v2 + ((v2.toUInt32 >>> ((Int32.toUInt32 4) &&& Int32.toUInt32 31)).toInt32)) &&& 252645135 := ⟨_, rfl⟩
  have h := h v3 ev3
  refine Wr_top ev3 ?_
  refine Wr_istore_n dJ6_bitCount_0f7a4_33 rfl (by decide) rfl ?_
  refine Wr_iload_n dJ6_bitCount_0f7a4_34 rfl 0 rfl ?_
  refine Wr_iload_n dJ6_bitCount_0f7a4_35 rfl 0 rfl ?_
  refine Wr_bipush (v := 8) dJ6_bitCount_0f7a4_36 (by decide) ?_
  refine Wr_iushr dJ6_bitCount_0f7a4_38 ?_
  refine Wr_iadd dJ6_bitCount_0f7a4_39 ?_
  obtain ⟨v4, ev4⟩ : ∃ z : Int32, z = v3 + ((v3.toUInt32 >>> ((Int32.toUInt32 8) &&& Int32.toUInt32 31)).toInt32) := ⟨_, rfl⟩
  have h := h v4 ev4
  refine Wr_top ev4 ?_
  refine Wr_istore_n dJ6_bitCount_0f7a4_40 rfl (by decide) rfl ?_
  refine Wr_iload_n dJ6_bitCount_0f7a4_41 rfl 0 rfl ?_
  refine Wr_iload_n dJ6_bitCount_0f7a4_42 rfl 0 rfl ?_
  refine Wr_bipush (v := 16) dJ6_bitCount_0f7a4_43 (by decide) ?_
  refine Wr_iushr dJ6_bitCount_0f7a4_45 ?_
  refine Wr_iadd dJ6_bitCount_0f7a4_46 ?_
  obtain ⟨v5, ev5⟩ : ∃ z : Int32, z = v4 + ((v4.toUInt32 >>> ((Int32.toUInt32 16) &&& Int32.toUInt32 31)).toInt32) := ⟨_, rfl⟩
  have h := h v5 ev5
  refine Wr_top ev5 ?_
  refine Wr_istore_n dJ6_bitCount_0f7a4_47 rfl (by decide) rfl ?_
  refine Wr_iload_n dJ6_bitCount_0f7a4_48 rfl 0 rfl ?_
  refine Wr_bipush (v := 63) dJ6_bitCount_0f7a4_49 (by decide) ?_
  refine Wr_iand dJ6_bitCount_0f7a4_51 ?_
  exact Wr_iret .int dJ6_bitCount_0f7a4_52 rfl rfl ⟨rfl, h⟩
theorem cJ6_bitCount_0f7a4_ {d : Nat} {x0 : Int32} {μ : zMem} {KI : Int32 → zMem → Prop} {X : Nat → zMem → Prop} (h : pJ6_bitCount_0f7a4 d x0 μ KI X) : zcI (d + 1) mJ6_bitCount_0f7a4 [.int x0] μ KI X :=
  Ex_of (w := 1) mgJ6_bitCount_0f7a4.2.2.2.2.2 rfl rfl rfl (by decide) (wJ6_bitCount_0f7a4_0 h)
