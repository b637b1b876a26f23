theorem fiX0_9 : zFPF RX0 9 0 0 (.array .int) := ⟨(RX0, TX0, 5), rfl, by decide, (wGm 392 (by decide +kernel) rfl), by decide, rfl, by decide +kernel⟩
theorem fiX0_15 : zFPF RX0 15 0 1 (.array .int) := ⟨(RX0, TX0, 5), rfl, by decide, (wGm 394 (by decide +kernel) rfl), by decide, rfl, by decide +kernel⟩
theorem fiX0_18 : zFPF RX0 18 0 2 (.array .int) := ⟨(RX0, TX0, 5), rfl, by decide, (wGm 396 (by decide +kernel) rfl), by decide, rfl, by decide +kernel⟩
theorem fiX0_21 : zFPF RX0 21 0 3 (.array .int) := ⟨(RX0, TX0, 5), rfl, by decide, (wGm 398 (by decide +kernel) rfl), by decide, rfl, by decide +kernel⟩
theorem fiX0_24 : zFPF RX0 24 0 4 (.array .int) := ⟨(RX0, TX0, 5), rfl, by decide, (wGm 400 (by decide +kernel) rfl), by decide, rfl, by decide +kernel⟩
abbrev mX0_init : zMD := (yX0_init, cX0_init, 1, none, some [])
theorem mgX0_init : zMG mX0_init 0 := ⟨(wGm 390 (by decide +kernel) rfl), (wGm 114 (by decide +kernel) rfl), by decide +kernel, by decide +kernel, by decide, by decide +kernel⟩
theorem miX0_init : Cond.instanceMethod mX0_init.1 ∈ wG := (wGm 389 (by decide +kernel) rfl)
def eX0 (cA : Nat → ClassId) (h : Nat) : List va_E := (.inr (0, [.ref (h + 1), .ref (h + 2), .ref (h + 3), .ref (h + 4), .ref (h + 5)]) :: [.inl (cA 0, 36, .inl (fun _ => 0)), .inl (cA 0, 36, .inl (fun _ => 0)), .inl (cA 0, 36, .inl (fun _ => 0)), .inl (cA 0, 36, .inl (fun _ => 0)), .inl (cA 0, 36, .inl (fun _ => 0))])
set_option maxRecDepth 100000 in
set_option maxHeartbeats 4000000 in
theorem iX0 {l : Launch} {D : va_G} {cA : Nat → ClassId} {h d : Nat}  : zIn l D cA h mX0_init 0 5 180 d [.null, .null, .null, .null, .null] zNn (eX0 cA h) := by
  refine zIn_of (by decide +kernel) rfl rfl (by decide) (fun p e s m below meth c9 ls F hin hB hZ hS hl => ?_)
  refine lv_aload_n F.1 F.2.1 dX0_init_0 rfl (lv_at hl 0 rfl) ?_
  refine bd_obj F (wGm 391 (by decide +kernel) rfl) wO_i wO_c hl.1 (Nat.le_of_ble_eq_true rfl) dX0_init_1 ?_
  refine lv_aload_n F.1 F.2.1 dX0_init_4 rfl (lv_at hl 0 rfl) ?_
  refine lv_bipush (v := 36) F.1 F.2.1 dX0_init_5 (by decide) ?_
  refine bd_newa (at9 := .int) 0 36 (h + 1) (36, .inl fun _ => 0) F hB hS wA_int rfl (fun _ => rfl) rfl (by decide) (by decide) (by decide) (Nat.le_of_ble_eq_true rfl) (Nat.le_of_ble_eq_true rfl) dX0_init_7 (fun H hB hS => ?_)
  have hB : zB D h (.inr (0, [.null, .null, .null, .null, .null]) :: [.inl (cA 0, 36, .inl (fun _ => 0))]) H := hB
  refine bd_putF (v := .ref (h + 1)) (fs := [.null, .null, .null, .null, .null]) 0 F hB hS fiX0_9 hin rfl (Nat.le_of_ble_eq_true rfl) rfl rfl rfl dX0_init_9 (fun H locs hB hS => ?_)
  have hB : zB D h (.inr (0, [.ref (h + 1), .null, .null, .null, .null]) :: [.inl (cA 0, 36, .inl (fun _ => 0))]) H := hB
  refine lv_aload_n F.1 F.2.1 dX0_init_12 rfl (lv_at hl 0 rfl) ?_
  refine lv_bipush (v := 36) F.1 F.2.1 dX0_init_13 (by decide) ?_
  refine bd_newa (at9 := .int) 0 36 (h + 2) (36, .inl fun _ => 0) F hB hS wA_int rfl (fun _ => rfl) rfl (by decide) (by decide) (by decide) (Nat.le_of_ble_eq_true rfl) (Nat.le_of_ble_eq_true rfl) dX0_init_15 (fun H hB hS => ?_)
  have hB : zB D h (.inr (0, [.ref (h + 1), .null, .null, .null, .null]) :: [.inl (cA 0, 36, .inl (fun _ => 0)), .inl (cA 0, 36, .inl (fun _ => 0))]) H := hB
  refine bd_putF (v := .ref (h + 2)) (fs := [.ref (h + 1), .null, .null, .null, .null]) 0 F hB hS fiX0_15 hin rfl (Nat.le_of_ble_eq_true rfl) rfl rfl rfl dX0_init_17 (fun H locs hB hS => ?_)
  have hB : zB D h (.inr (0, [.ref (h + 1), .ref (h + 2), .null, .null, .null]) :: [.inl (cA 0, 36, .inl (fun _ => 0)), .inl (cA 0, 36, .inl (fun _ => 0))]) H := hB
  refine lv_aload_n F.1 F.2.1 dX0_init_20 rfl (lv_at hl 0 rfl) ?_
  refine lv_bipush (v := 36) F.1 F.2.1 dX0_init_21 (by decide) ?_
  refine bd_newa (at9 := .int) 0 36 (h + 3) (36, .inl fun _ => 0) F hB hS wA_int rfl (fun _ => rfl) rfl (by decide) (by decide) (by decide) (Nat.le_of_ble_eq_true rfl) (Nat.le_of_ble_eq_true rfl) dX0_init_23 (fun H hB hS => ?_)
  have hB : zB D h (.inr (0, [.ref (h + 1), .ref (h + 2), .null, .null, .null]) :: [.inl (cA 0, 36, .inl (fun _ => 0)), .inl (cA 0, 36, .inl (fun _ => 0)), .inl (cA 0, 36, .inl (fun _ => 0))]) H := hB
  refine bd_putF (v := .ref (h + 3)) (fs := [.ref (h + 1), .ref (h + 2), .null, .null, .null]) 0 F hB hS fiX0_18 hin rfl (Nat.le_of_ble_eq_true rfl) rfl rfl rfl dX0_init_25 (fun H locs hB hS => ?_)
  have hB : zB D h (.inr (0, [.ref (h + 1), .ref (h + 2), .ref (h + 3), .null, .null]) :: [.inl (cA 0, 36, .inl (fun _ => 0)), .inl (cA 0, 36, .inl (fun _ => 0)), .inl (cA 0, 36, .inl (fun _ => 0))]) H := hB
  refine lv_aload_n F.1 F.2.1 dX0_init_28 rfl (lv_at hl 0 rfl) ?_
  refine lv_bipush (v := 36) F.1 F.2.1 dX0_init_29 (by decide) ?_
  refine bd_newa (at9 := .int) 0 36 (h + 4) (36, .inl fun _ => 0) F hB hS wA_int rfl (fun _ => rfl) rfl (by decide) (by decide) (by decide) (Nat.le_of_ble_eq_true rfl) (Nat.le_of_ble_eq_true rfl) dX0_init_31 (fun H hB hS => ?_)
  have hB : zB D h (.inr (0, [.ref (h + 1), .ref (h + 2), .ref (h + 3), .null, .null]) :: [.inl (cA 0, 36, .inl (fun _ => 0)), .inl (cA 0, 36, .inl (fun _ => 0)), .inl (cA 0, 36, .inl (fun _ => 0)), .inl (cA 0, 36, .inl (fun _ => 0))]) H := hB
  refine bd_putF (v := .ref (h + 4)) (fs := [.ref (h + 1), .ref (h + 2), .ref (h + 3), .null, .null]) 0 F hB hS fiX0_21 hin rfl (Nat.le_of_ble_eq_true rfl) rfl rfl rfl dX0_init_33 (fun H locs hB hS => ?_)
  have hB : zB D h (.inr (0, [.ref (h + 1), .ref (h + 2), .ref (h + 3), .ref (h + 4), .null]) :: [.inl (cA 0, 36, .inl (fun _ => 0)), .inl (cA 0, 36, .inl (fun _ => 0)), .inl (cA 0, 36, .inl (fun _ => 0)), .inl (cA 0, 36, .inl (fun _ => 0))]) H := hB
  refine lv_aload_n F.1 F.2.1 dX0_init_36 rfl (lv_at hl 0 rfl) ?_
  refine lv_bipush (v := 36) F.1 F.2.1 dX0_init_37 (by decide) ?_
  refine bd_newa (at9 := .int) 0 36 (h + 5) (36, .inl fun _ => 0) F hB hS wA_int rfl (fun _ => rfl) rfl (by decide) (by decide) (by decide) (Nat.le_of_ble_eq_true rfl) (Nat.le_of_ble_eq_true rfl) dX0_init_39 (fun H hB hS => ?_)
  have hB : zB D h (.inr (0, [.ref (h + 1), .ref (h + 2), .ref (h + 3), .ref (h + 4), .null]) :: [.inl (cA 0, 36, .inl (fun _ => 0)), .inl (cA 0, 36, .inl (fun _ => 0)), .inl (cA 0, 36, .inl (fun _ => 0)), .inl (cA 0, 36, .inl (fun _ => 0)), .inl (cA 0, 36, .inl (fun _ => 0))]) H := hB
  refine bd_putF (v := .ref (h + 5)) (fs := [.ref (h + 1), .ref (h + 2), .ref (h + 3), .ref (h + 4), .null]) 0 F hB hS fiX0_24 hin rfl (Nat.le_of_ble_eq_true rfl) rfl rfl rfl dX0_init_41 (fun H locs hB hS => ?_)
  have hB : zB D h (.inr (0, [.ref (h + 1), .ref (h + 2), .ref (h + 3), .ref (h + 4), .ref (h + 5)]) :: [.inl (cA 0, 36, .inl (fun _ => 0)), .inl (cA 0, 36, .inl (fun _ => 0)), .inl (cA 0, 36, .inl (fun _ => 0)), .inl (cA 0, 36, .inl (fun _ => 0)), .inl (cA 0, 36, .inl (fun _ => 0))]) H := hB
  exact bd_end (E := eX0 cA h) F rfl hB hS dX0_init_44
