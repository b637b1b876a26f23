theorem fiX6_9 : zFPF RX6 9 6 0 (.array .byte) := ⟨(RX6, TX6, 6), rfl, by decide, (wGm 150 (by decide +kernel) rfl), by decide, rfl, by decide +kernel⟩
theorem fiX6_15 : zFP RX6 15 6 1 .int := ⟨(RX6, TX6, 6), rfl, by decide, (wGm 151 (by decide +kernel) rfl), by decide, by decide +kernel⟩
theorem fiX6_19 : zFP RX6 19 6 2 .int := ⟨(RX6, TX6, 6), rfl, by decide, (wGm 152 (by decide +kernel) rfl), by decide, by decide +kernel⟩
theorem fiX6_22 : zFP RX6 22 6 3 .int := ⟨(RX6, TX6, 6), rfl, by decide, (wGm 153 (by decide +kernel) rfl), by decide, by decide +kernel⟩
theorem fiX6_25 : zFP RX6 25 6 4 .int := ⟨(RX6, TX6, 6), rfl, by decide, (wGm 155 (by decide +kernel) rfl), by decide, by decide +kernel⟩
theorem fiX6_28 : zFP RX6 28 6 5 .int := ⟨(RX6, TX6, 6), rfl, by decide, (wGm 157 (by decide +kernel) rfl), by decide, by decide +kernel⟩
abbrev mX6_init : zMD := (yX6_init, cX6_init, 1, none, some [])
theorem mgX6_init : zMG mX6_init 0 := ⟨(wGm 148 (by decide +kernel) rfl), (wGm 109 (by decide +kernel) rfl), by decide +kernel, by decide +kernel, by decide, by decide +kernel⟩
theorem miX6_init : Cond.instanceMethod mX6_init.1 ∈ wG := (wGm 147 (by decide +kernel) rfl)
def eX6 (cA : Nat → ClassId) (h : Nat) : List va_E := (.inr (6, [.ref (h + 1), .int 0, .int 0, .int 0, .int 0, .int 0]) :: ([] ++ [.inl (cA 1, 700, .inl (fun _ => 0))]))
set_option maxRecDepth 100000 in
set_option maxHeartbeats 4000000 in
theorem iX6 {l : Launch} {D : va_G} {cA : Nat → ClassId} {h d : Nat}  : zIn l D cA h mX6_init 6 1 700 d [.null, .int 0, .int 0, .int 0, .int 0, .int 0] zNn (eX6 cA h) := by
  refine zIn_of (by decide +kernel) rfl rfl (by decide) (fun p e s m below meth c9 ls F hin hB hZ hS hl => ?_)
  refine lv_aload_n F.1 F.2.1 dX6_init_0 rfl (lv_at hl 0 rfl) ?_
  refine bd_obj F (wGm 149 (by decide +kernel) rfl) wO_i wO_c hl.1 (Nat.le_of_ble_eq_true rfl) dX6_init_1 ?_
  refine lv_aload_n F.1 F.2.1 dX6_init_4 rfl (lv_at hl 0 rfl) ?_
  refine lv_sipush (v := 700) F.1 F.2.1 dX6_init_5 (by decide) ?_
  refine bd_newa (at9 := .byte) 1 700 (h + 1) (700, .inl fun _ => 0) F hB hS wA_byte rfl (fun _ => rfl) rfl (by decide) (by decide) (by decide) (Nat.le_of_ble_eq_true rfl) (Nat.le_of_ble_eq_true rfl) dX6_init_8 (fun H hB hS => ?_)
  have hB : zB D h (.inr (6, [.null, .int 0, .int 0, .int 0, .int 0, .int 0]) :: ([] ++ [.inl (cA 1, 700, .inl (fun _ => 0))])) H := hB
  refine bd_putF (v := .ref (h + 1)) (fs := [.null, .int 0, .int 0, .int 0, .int 0, .int 0]) 0 F hB hS fiX6_9 hin rfl (Nat.le_of_ble_eq_true rfl) rfl rfl rfl dX6_init_10 (fun H locs hB hS => ?_)
  have hB : zB D h (.inr (6, [.ref (h + 1), .int 0, .int 0, .int 0, .int 0, .int 0]) :: ([] ++ [.inl (cA 1, 700, .inl (fun _ => 0))])) H := hB
  refine lv_aload_n F.1 F.2.1 dX6_init_13 rfl (lv_at hl 0 rfl) ?_
  refine lv_iconst (v := 0) F.1 F.2.1 dX6_init_14 (by decide) ?_
  refine bd_put (v := .int 0) (fs := [.ref (h + 1), .int 0, .int 0, .int 0, .int 0, .int 0]) 0 F hB hS fiX6_15 rfl (Nat.le_of_ble_eq_true rfl) rfl rfl rfl dX6_init_15 (fun H locs hB hS => ?_)
  have hB : zB D h (.inr (6, [.ref (h + 1), .int 0, .int 0, .int 0, .int 0, .int 0]) :: ([] ++ [.inl (cA 1, 700, .inl (fun _ => 0))])) H := hB
  refine lv_aload_n F.1 F.2.1 dX6_init_18 rfl (lv_at hl 0 rfl) ?_
  refine lv_iconst (v := 0) F.1 F.2.1 dX6_init_19 (by decide) ?_
  refine bd_put (v := .int 0) (fs := [.ref (h + 1), .int 0, .int 0, .int 0, .int 0, .int 0]) 0 F hB hS fiX6_19 rfl (Nat.le_of_ble_eq_true rfl) rfl rfl rfl dX6_init_20 (fun H locs hB hS => ?_)
  have hB : zB D h (.inr (6, [.ref (h + 1), .int 0, .int 0, .int 0, .int 0, .int 0]) :: ([] ++ [.inl (cA 1, 700, .inl (fun _ => 0))])) H := hB
  refine lv_aload_n F.1 F.2.1 dX6_init_23 rfl (lv_at hl 0 rfl) ?_
  refine lv_iconst (v := 0) F.1 F.2.1 dX6_init_24 (by decide) ?_
  refine bd_put (v := .int 0) (fs := [.ref (h + 1), .int 0, .int 0, .int 0, .int 0, .int 0]) 0 F hB hS fiX6_22 rfl (Nat.le_of_ble_eq_true rfl) rfl rfl rfl dX6_init_25 (fun H locs hB hS => ?_)
  have hB : zB D h (.inr (6, [.ref (h + 1), .int 0, .int 0, .int 0, .int 0, .int 0]) :: ([] ++ [.inl (cA 1, 700, .inl (fun _ => 0))])) H := hB
  refine lv_aload_n F.1 F.2.1 dX6_init_28 rfl (lv_at hl 0 rfl) ?_
  refine lv_iconst (v := 0) F.1 F.2.1 dX6_init_29 (by decide) ?_
  refine bd_put (v := .int 0) (fs := [.ref (h + 1), .int 0, .int 0, .int 0, .int 0, .int 0]) 0 F hB hS fiX6_25 rfl (Nat.le_of_ble_eq_true rfl) rfl rfl rfl dX6_init_30 (fun H locs hB hS => ?_)
  have hB : zB D h (.inr (6, [.ref (h + 1), .int 0, .int 0, .int 0, .int 0, .int 0]) :: ([] ++ [.inl (cA 1, 700, .inl (fun _ => 0))])) H := hB
  refine lv_aload_n F.1 F.2.1 dX6_init_33 rfl (lv_at hl 0 rfl) ?_
  refine lv_iconst (v := 0) F.1 F.2.1 dX6_init_34 (by decide) ?_
  refine bd_put (v := .int 0) (fs := [.ref (h + 1), .int 0, .int 0, .int 0, .int 0, .int 0]) 0 F hB hS fiX6_28 rfl (Nat.le_of_ble_eq_true rfl) rfl rfl rfl dX6_init_35 (fun H locs hB hS => ?_)
  have hB : zB D h (.inr (6, [.ref (h + 1), .int 0, .int 0, .int 0, .int 0, .int 0]) :: ([] ++ [.inl (cA 1, 700, .inl (fun _ => 0))])) H := hB
  exact bd_end (E := eX6 cA h) F rfl hB hS dX6_init_38
