theorem fiX3_9 : zFPF RX3 9 3 0 (.array .int) := ⟨(RX3, TX3, 3), rfl, by decide, (wGm 286 (by decide +kernel) rfl), by decide, rfl, by decide +kernel⟩
theorem fiX3_15 : zFP RX3 15 3 1 .int := ⟨(RX3, TX3, 3), rfl, by decide, (wGm 287 (by decide +kernel) rfl), by decide, by decide +kernel⟩
theorem fiX3_19 : zFPF RX3 19 3 2 (.array .int) := ⟨(RX3, TX3, 3), rfl, by decide, (wGm 289 (by decide +kernel) rfl), by decide, rfl, by decide +kernel⟩
abbrev mX3_init : zMD := (yX3_init, cX3_init, 1, none, some [])
theorem mgX3_init : zMG mX3_init 0 := ⟨(wGm 284 (by decide +kernel) rfl), (wGm 112 (by decide +kernel) rfl), by decide +kernel, by decide +kernel, by decide, by decide +kernel⟩
theorem miX3_init : Cond.instanceMethod mX3_init.1 ∈ wG := (wGm 283 (by decide +kernel) rfl)
def eX3 (cA : Nat → ClassId) (h : Nat) : List va_E := (.inr (3, [.ref (h + 1), .int 0, .ref (h + 2)]) :: [.inl (cA 0, 700, .inl (fun _ => 0)), .inl (cA 0, 40, .inl (fun _ => 0))])
set_option maxRecDepth 100000 in
set_option maxHeartbeats 4000000 in
theorem iX3 {l : Launch} {D : va_G} {cA : Nat → ClassId} {h d : Nat}  : zIn l D cA h mX3_init 3 2 740 d [.null, .int 0, .null] zNn (eX3 cA h) := by
  refine zIn_of (by decide +kernel) rfl rfl (by decide) (fun p e s m below meth c9 ls F hin hB hZ hS hl => ?_)
  refine lv_aload_n F.1 F.2.1 dX3_init_0 rfl (lv_at hl 0 rfl) ?_
  refine bd_obj F (wGm 285 (by decide +kernel) rfl) wO_i wO_c hl.1 (Nat.le_of_ble_eq_true rfl) dX3_init_1 ?_
  refine lv_aload_n F.1 F.2.1 dX3_init_4 rfl (lv_at hl 0 rfl) ?_
  refine lv_sipush (v := 700) F.1 F.2.1 dX3_init_5 (by decide) ?_
  refine bd_newa (at9 := .int) 0 700 (h + 1) (700, .inl fun _ => 0) F hB hS wA_int rfl (fun _ => rfl) rfl (by decide) (by decide) (by decide) (Nat.le_of_ble_eq_true rfl) (Nat.le_of_ble_eq_true rfl) dX3_init_8 (fun H hB hS => ?_)
  have hB : zB D h (.inr (3, [.null, .int 0, .null]) :: [.inl (cA 0, 700, .inl (fun _ => 0))]) H := hB
  refine bd_putF (v := .ref (h + 1)) (fs := [.null, .int 0, .null]) 0 F hB hS fiX3_9 hin rfl (Nat.le_of_ble_eq_true rfl) rfl rfl rfl dX3_init_10 (fun H locs hB hS => ?_)
  have hB : zB D h (.inr (3, [.ref (h + 1), .int 0, .null]) :: [.inl (cA 0, 700, .inl (fun _ => 0))]) H := hB
  refine lv_aload_n F.1 F.2.1 dX3_init_13 rfl (lv_at hl 0 rfl) ?_
  refine lv_iconst (v := 0) F.1 F.2.1 dX3_init_14 (by decide) ?_
  refine bd_put (v := .int 0) (fs := [.ref (h + 1), .int 0, .null]) 0 F hB hS fiX3_15 rfl (Nat.le_of_ble_eq_true rfl) rfl rfl rfl dX3_init_15 (fun H locs hB hS => ?_)
  have hB : zB D h (.inr (3, [.ref (h + 1), .int 0, .null]) :: [.inl (cA 0, 700, .inl (fun _ => 0))]) H := hB
  refine lv_aload_n F.1 F.2.1 dX3_init_18 rfl (lv_at hl 0 rfl) ?_
  refine lv_bipush (v := 40) F.1 F.2.1 dX3_init_19 (by decide) ?_
  refine bd_newa (at9 := .int) 0 40 (h + 2) (40, .inl fun _ => 0) F hB hS wA_int rfl (fun _ => rfl) rfl (by decide) (by decide) (by decide) (Nat.le_of_ble_eq_true rfl) (Nat.le_of_ble_eq_true rfl) dX3_init_21 (fun H hB hS => ?_)
  have hB : zB D h (.inr (3, [.ref (h + 1), .int 0, .null]) :: [.inl (cA 0, 700, .inl (fun _ => 0)), .inl (cA 0, 40, .inl (fun _ => 0))]) H := hB
  refine bd_putF (v := .ref (h + 2)) (fs := [.ref (h + 1), .int 0, .null]) 0 F hB hS fiX3_19 hin rfl (Nat.le_of_ble_eq_true rfl) rfl rfl rfl dX3_init_23 (fun H locs hB hS => ?_)
  have hB : zB D h (.inr (3, [.ref (h + 1), .int 0, .ref (h + 2)]) :: [.inl (cA 0, 700, .inl (fun _ => 0)), .inl (cA 0, 40, .inl (fun _ => 0))]) H := hB
  exact bd_end (E := eX3 cA h) F rfl hB hS dX3_init_26
