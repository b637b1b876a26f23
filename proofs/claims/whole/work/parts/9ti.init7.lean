theorem fiX7_9 : zFPF RX7 9 7 0 (.array .int) := ⟨(RX7, TX7, 5), rfl, by decide, (wGm 418 (by decide +kernel) rfl), by decide, rfl, by decide +kernel⟩
theorem fiX7_15 : zFPF RX7 15 7 1 (.array .int) := ⟨(RX7, TX7, 5), rfl, by decide, (wGm 419 (by decide +kernel) rfl), by decide, rfl, by decide +kernel⟩
theorem fiX7_18 : zFPF RX7 18 7 2 (.array .int) := ⟨(RX7, TX7, 5), rfl, by decide, (wGm 420 (by decide +kernel) rfl), by decide, rfl, by decide +kernel⟩
theorem fiX7_21 : zFPF RX7 21 7 3 (.array .int) := ⟨(RX7, TX7, 5), rfl, by decide, (wGm 421 (by decide +kernel) rfl), by decide, rfl, by decide +kernel⟩
theorem fiX7_24 : zFP RX7 24 7 4 .boolean := ⟨(RX7, TX7, 5), rfl, by decide, (wGm 423 (by decide +kernel) rfl), by decide, by decide +kernel⟩
abbrev mX7_init : zMD := (yX7_init, cX7_init, 1, none, some [])
theorem mgX7_init : zMG mX7_init 0 := ⟨(wGm 416 (by decide +kernel) rfl), (wGm 115 (by decide +kernel) rfl), by decide +kernel, by decide +kernel, by decide, by decide +kernel⟩
theorem miX7_init : Cond.instanceMethod mX7_init.1 ∈ wG := (wGm 415 (by decide +kernel) rfl)
def eX7 (cA : Nat → ClassId) (h : Nat) : List va_E := (.inr (7, [.ref (h + 1), .ref (h + 2), .ref (h + 3), .ref (h + 4), .int 0]) :: [.inl (cA 0, 1296, .inl (fun _ => 0)), .inl (cA 0, 4, .inl (fun _ => 0)), .inl (cA 0, 4, .inl (fun _ => 0)), .inl (cA 0, 4, .inl (fun _ => 0))])
set_option maxRecDepth 100000 in
set_option maxHeartbeats 4000000 in
theorem iX7 {l : Launch} {D : va_G} {cA : Nat → ClassId} {h d : Nat}  : zIn l D cA h mX7_init 7 4 1308 d [.null, .null, .null, .null, .int 0] zNn (eX7 cA h) := by
  refine zIn_of (by decide +kernel) rfl rfl (by decide) (fun p e s m below meth c9 ls F hin hB hZ hS hl => ?_)
  refine lv_aload_n F.1 F.2.1 dX7_init_0 rfl (lv_at hl 0 rfl) ?_
  refine bd_obj F (wGm 417 (by decide +kernel) rfl) wO_i wO_c hl.1 (Nat.le_of_ble_eq_true rfl) dX7_init_1 ?_
  refine lv_aload_n F.1 F.2.1 dX7_init_4 rfl (lv_at hl 0 rfl) ?_
  refine lv_sipush (v := 1296) F.1 F.2.1 dX7_init_5 (by decide) ?_
  refine bd_newa (at9 := .int) 0 1296 (h + 1) (1296, .inl fun _ => 0) F hB hS wA_int rfl (fun _ => rfl) rfl (by decide) (by decide) (by decide) (Nat.le_of_ble_eq_true rfl) (Nat.le_of_ble_eq_true rfl) dX7_init_8 (fun H hB hS => ?_)
  have hB : zB D h (.inr (7, [.null, .null, .null, .null, .int 0]) :: [.inl (cA 0, 1296, .inl (fun _ => 0))]) H := hB
  refine bd_putF (v := .ref (h + 1)) (fs := [.null, .null, .null, .null, .int 0]) 0 F hB hS fiX7_9 hin rfl (Nat.le_of_ble_eq_true rfl) rfl rfl rfl dX7_init_10 (fun H locs hB hS => ?_)
  have hB : zB D h (.inr (7, [.ref (h + 1), .null, .null, .null, .int 0]) :: [.inl (cA 0, 1296, .inl (fun _ => 0))]) H := hB
  refine lv_aload_n F.1 F.2.1 dX7_init_13 rfl (lv_at hl 0 rfl) ?_
  refine lv_iconst (v := 4) F.1 F.2.1 dX7_init_14 (by decide) ?_
  refine bd_newa (at9 := .int) 0 4 (h + 2) (4, .inl fun _ => 0) F hB hS wA_int rfl (fun _ => rfl) rfl (by decide) (by decide) (by decide) (Nat.le_of_ble_eq_true rfl) (Nat.le_of_ble_eq_true rfl) dX7_init_15 (fun H hB hS => ?_)
  have hB : zB D h (.inr (7, [.ref (h + 1), .null, .null, .null, .int 0]) :: [.inl (cA 0, 1296, .inl (fun _ => 0)), .inl (cA 0, 4, .inl (fun _ => 0))]) H := hB
  refine bd_putF (v := .ref (h + 2)) (fs := [.ref (h + 1), .null, .null, .null, .int 0]) 0 F hB hS fiX7_15 hin rfl (Nat.le_of_ble_eq_true rfl) rfl rfl rfl dX7_init_17 (fun H locs hB hS => ?_)
  have hB : zB D h (.inr (7, [.ref (h + 1), .ref (h + 2), .null, .null, .int 0]) :: [.inl (cA 0, 1296, .inl (fun _ => 0)), .inl (cA 0, 4, .inl (fun _ => 0))]) H := hB
  refine lv_aload_n F.1 F.2.1 dX7_init_20 rfl (lv_at hl 0 rfl) ?_
  refine lv_iconst (v := 4) F.1 F.2.1 dX7_init_21 (by decide) ?_
  refine bd_newa (at9 := .int) 0 4 (h + 3) (4, .inl fun _ => 0) F hB hS wA_int rfl (fun _ => rfl) rfl (by decide) (by decide) (by decide) (Nat.le_of_ble_eq_true rfl) (Nat.le_of_ble_eq_true rfl) dX7_init_22 (fun H hB hS => ?_)
  have hB : zB D h (.inr (7, [.ref (h + 1), .ref (h + 2), .null, .null, .int 0]) :: [.inl (cA 0, 1296, .inl (fun _ => 0)), .inl (cA 0, 4, .inl (fun _ => 0)), .inl (cA 0, 4, .inl (fun _ => 0))]) H := hB
  refine bd_putF (v := .ref (h + 3)) (fs := [.ref (h + 1), .ref (h + 2), .null, .null, .int 0]) 0 F hB hS fiX7_18 hin rfl (Nat.le_of_ble_eq_true rfl) rfl rfl rfl dX7_init_24 (fun H locs hB hS => ?_)
  have hB : zB D h (.inr (7, [.ref (h + 1), .ref (h + 2), .ref (h + 3), .null, .int 0]) :: [.inl (cA 0, 1296, .inl (fun _ => 0)), .inl (cA 0, 4, .inl (fun _ => 0)), .inl (cA 0, 4, .inl (fun _ => 0))]) H := hB
  refine lv_aload_n F.1 F.2.1 dX7_init_27 rfl (lv_at hl 0 rfl) ?_
  refine lv_iconst (v := 4) F.1 F.2.1 dX7_init_28 (by decide) ?_
  refine bd_newa (at9 := .int) 0 4 (h + 4) (4, .inl fun _ => 0) F hB hS wA_int rfl (fun _ => rfl) rfl (by decide) (by decide) (by decide) (Nat.le_of_ble_eq_true rfl) (Nat.le_of_ble_eq_true rfl) dX7_init_29 (fun H hB hS => ?_)
  have hB : zB D h (.inr (7, [.ref (h + 1), .ref (h + 2), .ref (h + 3), .null, .int 0]) :: [.inl (cA 0, 1296, .inl (fun _ => 0)), .inl (cA 0, 4, .inl (fun _ => 0)), .inl (cA 0, 4, .inl (fun _ => 0)), .inl (cA 0, 4, .inl (fun _ => 0))]) H := hB
  refine bd_putF (v := .ref (h + 4)) (fs := [.ref (h + 1), .ref (h + 2), .ref (h + 3), .null, .int 0]) 0 F hB hS fiX7_21 hin rfl (Nat.le_of_ble_eq_true rfl) rfl rfl rfl dX7_init_31 (fun H locs hB hS => ?_)
  have hB : zB D h (.inr (7, [.ref (h + 1), .ref (h + 2), .ref (h + 3), .ref (h + 4), .int 0]) :: [.inl (cA 0, 1296, .inl (fun _ => 0)), .inl (cA 0, 4, .inl (fun _ => 0)), .inl (cA 0, 4, .inl (fun _ => 0)), .inl (cA 0, 4, .inl (fun _ => 0))]) H := hB
  refine lv_aload_n F.1 F.2.1 dX7_init_34 rfl (lv_at hl 0 rfl) ?_
  refine lv_iconst (v := 0) F.1 F.2.1 dX7_init_35 (by decide) ?_
  refine bd_put (v := .int 0) (fs := [.ref (h + 1), .ref (h + 2), .ref (h + 3), .ref (h + 4), .int 0]) 0 F hB hS fiX7_24 rfl (Nat.le_of_ble_eq_true rfl) rfl rfl rfl dX7_init_36 (fun H locs hB hS => ?_)
  have hB : zB D h (.inr (7, [.ref (h + 1), .ref (h + 2), .ref (h + 3), .ref (h + 4), .int 0]) :: [.inl (cA 0, 1296, .inl (fun _ => 0)), .inl (cA 0, 4, .inl (fun _ => 0)), .inl (cA 0, 4, .inl (fun _ => 0)), .inl (cA 0, 4, .inl (fun _ => 0))]) H := hB
  exact bd_end (E := eX7 cA h) F rfl hB hS dX7_init_39
