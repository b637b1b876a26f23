theorem fiX5_12 : zFPF RX5 12 5 0 (.object "TetherSky$Isles") := ⟨(RX5, TX5, 8), rfl, by decide, (wGm 352 (by decide +kernel) rfl), by decide, rfl, by decide +kernel⟩
theorem fiX5_18 : zFPF RX5 18 5 1 (.array .int) := ⟨(RX5, TX5, 8), rfl, by decide, (wGm 354 (by decide +kernel) rfl), by decide, rfl, by decide +kernel⟩
theorem fiX5_22 : zFP RX5 22 5 2 .int := ⟨(RX5, TX5, 8), rfl, by decide, (wGm 355 (by decide +kernel) rfl), by decide, by decide +kernel⟩
theorem fiX5_26 : zFPF RX5 26 5 3 (.array .int) := ⟨(RX5, TX5, 8), rfl, by decide, (wGm 357 (by decide +kernel) rfl), by decide, rfl, by decide +kernel⟩
theorem fiX5_29 : zFP RX5 29 5 4 .int := ⟨(RX5, TX5, 8), rfl, by decide, (wGm 359 (by decide +kernel) rfl), by decide, by decide +kernel⟩
theorem fiX5_32 : zFPF RX5 32 5 5 (.array .int) := ⟨(RX5, TX5, 8), rfl, by decide, (wGm 361 (by decide +kernel) rfl), by decide, rfl, by decide +kernel⟩
theorem fiX5_35 : zFP RX5 35 5 6 .int := ⟨(RX5, TX5, 8), rfl, by decide, (wGm 363 (by decide +kernel) rfl), by decide, by decide +kernel⟩
theorem fiX5_38 : zFPF RX5 38 5 7 (.array .int) := ⟨(RX5, TX5, 8), rfl, by decide, (wGm 365 (by decide +kernel) rfl), by decide, rfl, by decide +kernel⟩
abbrev mX5_init : zMD := (yX5_init, cX5_init, 1, none, some [])
theorem mgX5_init : zMG mX5_init 0 := ⟨(wGm 348 (by decide +kernel) rfl), (wGm 113 (by decide +kernel) rfl), by decide +kernel, by decide +kernel, by decide, by decide +kernel⟩
theorem miX5_init : Cond.instanceMethod mX5_init.1 ∈ wG := (wGm 347 (by decide +kernel) rfl)
def eX5 (cA : Nat → ClassId) (h : Nat) : List va_E := (.inr (5, [.ref (h + 1), .ref (h + 13), .int 0, .ref (h + 14), .int 0, .ref (h + 15), .int 0, .ref (h + 16)]) :: (eX1 cA (h + 1) ++ ([.inl (cA 0, 200, .inl (fun _ => 0)), .inl (cA 0, 40, .inl (fun _ => 0)), .inl (cA 0, 36, .inl (fun _ => 0)), .inl (cA 0, 3, .inl (fun _ => 0))])))
set_option maxRecDepth 100000 in
set_option maxHeartbeats 4000000 in
theorem iX5 {l : Launch} {D : va_G} {cA : Nat → ClassId} {h d : Nat}  : zIn l D cA h mX5_init 5 16 375 (d + 1) [.null, .null, .int 0, .null, .int 0, .null, .int 0, .null] zNn (eX5 cA h) := by
  refine zIn_of (by decide +kernel) rfl rfl (by decide) (fun p e s m below meth c9 ls F hin hB hZ hS hl => ?_)
  refine lv_aload_n F.1 F.2.1 dX5_init_0 rfl (lv_at hl 0 rfl) ?_
  refine bd_obj F (wGm 349 (by decide +kernel) rfl) wO_i wO_c hl.1 (Nat.le_of_ble_eq_true rfl) dX5_init_1 ?_
  refine lv_aload_n F.1 F.2.1 dX5_init_4 rfl (lv_at hl 0 rfl) ?_
  refine bd_newN (h + 1) [.int 0, .null, .null, .null, .null, .null, .null, .null, .null, .null, .null, .null] F hB hS rfl (ci := 1) (C := RX1) (T := TX1) (N := 12) rfl tyX1 tyX1_ok (fun j hj => by match j, hj with | 0, _ => rfl | 1, _ => rfl | 2, _ => rfl | 3, _ => rfl | 4, _ => rfl | 5, _ => rfl | 6, _ => rfl | 7, _ => rfl | 8, _ => rfl | 9, _ => rfl | 10, _ => rfl | 11, _ => rfl | j + 12, hj => exact absurd hj (by omega)) (wGm 350 (by decide +kernel) rfl) (wGm 198 (by decide +kernel) rfl) (wGm 111 (by decide +kernel) rfl) mgX1_init rfl rfl miX1_init rfl (hZ.at 5 rfl) iX1 (fun _ _ _ _ h => zNn.call h) (fun _ _ _ _ hW => hZ.warm hW) dX5_init_5 dX5_init_8 dX5_init_9 (Nat.le_of_ble_eq_true rfl) (Nat.le_of_ble_eq_true rfl) (Nat.le_of_ble_eq_true rfl) hl.1 (fun H locs hB hS => ?_)
  have hB : zB D h (.inr (5, [.null, .null, .int 0, .null, .int 0, .null, .int 0, .null]) :: (eX1 cA (h + 1))) H := hB
  refine bd_putF (v := .ref (h + 1)) (fs := [.null, .null, .int 0, .null, .int 0, .null, .int 0, .null]) 0 F hB hS fiX5_12 hin rfl (Nat.le_of_ble_eq_true rfl) rfl rfl rfl dX5_init_12 (fun H locs hB hS => ?_)
  have hB : zB D h (.inr (5, [.ref (h + 1), .null, .int 0, .null, .int 0, .null, .int 0, .null]) :: (eX1 cA (h + 1))) H := hB
  refine lv_aload_n F.1 F.2.1 dX5_init_15 rfl (lv_at hl 0 rfl) ?_
  refine lv_sipush (v := 200) F.1 F.2.1 dX5_init_16 (by decide) ?_
  refine bd_newa (at9 := .int) 0 200 (h + 13) (200, .inl fun _ => 0) F hB hS wA_int rfl (fun _ => rfl) rfl (by decide) (by decide) (by decide) (Nat.le_of_ble_eq_true rfl) (Nat.le_of_ble_eq_true rfl) dX5_init_19 (fun H hB hS => ?_)
  have hB : zB D h (.inr (5, [.ref (h + 1), .null, .int 0, .null, .int 0, .null, .int 0, .null]) :: (eX1 cA (h + 1) ++ ([.inl (cA 0, 200, .inl (fun _ => 0))]))) H := hB
  refine bd_putF (v := .ref (h + 13)) (fs := [.ref (h + 1), .null, .int 0, .null, .int 0, .null, .int 0, .null]) 0 F hB hS fiX5_18 hin rfl (Nat.le_of_ble_eq_true rfl) rfl rfl rfl dX5_init_21 (fun H locs hB hS => ?_)
  have hB : zB D h (.inr (5, [.ref (h + 1), .ref (h + 13), .int 0, .null, .int 0, .null, .int 0, .null]) :: (eX1 cA (h + 1) ++ ([.inl (cA 0, 200, .inl (fun _ => 0))]))) H := hB
  refine lv_aload_n F.1 F.2.1 dX5_init_24 rfl (lv_at hl 0 rfl) ?_
  refine lv_iconst (v := 0) F.1 F.2.1 dX5_init_25 (by decide) ?_
  refine bd_put (v := .int 0) (fs := [.ref (h + 1), .ref (h + 13), .int 0, .null, .int 0, .null, .int 0, .null]) 0 F hB hS fiX5_22 rfl (Nat.le_of_ble_eq_true rfl) rfl rfl rfl dX5_init_26 (fun H locs hB hS => ?_)
  have hB : zB D h (.inr (5, [.ref (h + 1), .ref (h + 13), .int 0, .null, .int 0, .null, .int 0, .null]) :: (eX1 cA (h + 1) ++ ([.inl (cA 0, 200, .inl (fun _ => 0))]))) H := hB
  refine lv_aload_n F.1 F.2.1 dX5_init_29 rfl (lv_at hl 0 rfl) ?_
  refine lv_bipush (v := 40) F.1 F.2.1 dX5_init_30 (by decide) ?_
  refine bd_newa (at9 := .int) 0 40 (h + 14) (40, .inl fun _ => 0) F hB hS wA_int rfl (fun _ => rfl) rfl (by decide) (by decide) (by decide) (Nat.le_of_ble_eq_true rfl) (Nat.le_of_ble_eq_true rfl) dX5_init_32 (fun H hB hS => ?_)
  have hB : zB D h (.inr (5, [.ref (h + 1), .ref (h + 13), .int 0, .null, .int 0, .null, .int 0, .null]) :: (eX1 cA (h + 1) ++ ([.inl (cA 0, 200, .inl (fun _ => 0)), .inl (cA 0, 40, .inl (fun _ => 0))]))) H := hB
  refine bd_putF (v := .ref (h + 14)) (fs := [.ref (h + 1), .ref (h + 13), .int 0, .null, .int 0, .null, .int 0, .null]) 0 F hB hS fiX5_26 hin rfl (Nat.le_of_ble_eq_true rfl) rfl rfl rfl dX5_init_34 (fun H locs hB hS => ?_)
  have hB : zB D h (.inr (5, [.ref (h + 1), .ref (h + 13), .int 0, .ref (h + 14), .int 0, .null, .int 0, .null]) :: (eX1 cA (h + 1) ++ ([.inl (cA 0, 200, .inl (fun _ => 0)), .inl (cA 0, 40, .inl (fun _ => 0))]))) H := hB
  refine lv_aload_n F.1 F.2.1 dX5_init_37 rfl (lv_at hl 0 rfl) ?_
  refine lv_iconst (v := 0) F.1 F.2.1 dX5_init_38 (by decide) ?_
  refine bd_put (v := .int 0) (fs := [.ref (h + 1), .ref (h + 13), .int 0, .ref (h + 14), .int 0, .null, .int 0, .null]) 0 F hB hS fiX5_29 rfl (Nat.le_of_ble_eq_true rfl) rfl rfl rfl dX5_init_39 (fun H locs hB hS => ?_)
  have hB : zB D h (.inr (5, [.ref (h + 1), .ref (h + 13), .int 0, .ref (h + 14), .int 0, .null, .int 0, .null]) :: (eX1 cA (h + 1) ++ ([.inl (cA 0, 200, .inl (fun _ => 0)), .inl (cA 0, 40, .inl (fun _ => 0))]))) H := hB
  refine lv_aload_n F.1 F.2.1 dX5_init_42 rfl (lv_at hl 0 rfl) ?_
  refine lv_bipush (v := 36) F.1 F.2.1 dX5_init_43 (by decide) ?_
  refine bd_newa (at9 := .int) 0 36 (h + 15) (36, .inl fun _ => 0) F hB hS wA_int rfl (fun _ => rfl) rfl (by decide) (by decide) (by decide) (Nat.le_of_ble_eq_true rfl) (Nat.le_of_ble_eq_true rfl) dX5_init_45 (fun H hB hS => ?_)
  have hB : zB D h (.inr (5, [.ref (h + 1), .ref (h + 13), .int 0, .ref (h + 14), .int 0, .null, .int 0, .null]) :: (eX1 cA (h + 1) ++ ([.inl (cA 0, 200, .inl (fun _ => 0)), .inl (cA 0, 40, .inl (fun _ => 0)), .inl (cA 0, 36, .inl (fun _ => 0))]))) H := hB
  refine bd_putF (v := .ref (h + 15)) (fs := [.ref (h + 1), .ref (h + 13), .int 0, .ref (h + 14), .int 0, .null, .int 0, .null]) 0 F hB hS fiX5_32 hin rfl (Nat.le_of_ble_eq_true rfl) rfl rfl rfl dX5_init_47 (fun H locs hB hS => ?_)
  have hB : zB D h (.inr (5, [.ref (h + 1), .ref (h + 13), .int 0, .ref (h + 14), .int 0, .ref (h + 15), .int 0, .null]) :: (eX1 cA (h + 1) ++ ([.inl (cA 0, 200, .inl (fun _ => 0)), .inl (cA 0, 40, .inl (fun _ => 0)), .inl (cA 0, 36, .inl (fun _ => 0))]))) H := hB
  refine lv_aload_n F.1 F.2.1 dX5_init_50 rfl (lv_at hl 0 rfl) ?_
  refine lv_iconst (v := 0) F.1 F.2.1 dX5_init_51 (by decide) ?_
  refine bd_put (v := .int 0) (fs := [.ref (h + 1), .ref (h + 13), .int 0, .ref (h + 14), .int 0, .ref (h + 15), .int 0, .null]) 0 F hB hS fiX5_35 rfl (Nat.le_of_ble_eq_true rfl) rfl rfl rfl dX5_init_52 (fun H locs hB hS => ?_)
  have hB : zB D h (.inr (5, [.ref (h + 1), .ref (h + 13), .int 0, .ref (h + 14), .int 0, .ref (h + 15), .int 0, .null]) :: (eX1 cA (h + 1) ++ ([.inl (cA 0, 200, .inl (fun _ => 0)), .inl (cA 0, 40, .inl (fun _ => 0)), .inl (cA 0, 36, .inl (fun _ => 0))]))) H := hB
  refine lv_aload_n F.1 F.2.1 dX5_init_55 rfl (lv_at hl 0 rfl) ?_
  refine lv_iconst (v := 3) F.1 F.2.1 dX5_init_56 (by decide) ?_
  refine bd_newa (at9 := .int) 0 3 (h + 16) (3, .inl fun _ => 0) F hB hS wA_int rfl (fun _ => rfl) rfl (by decide) (by decide) (by decide) (Nat.le_of_ble_eq_true rfl) (Nat.le_of_ble_eq_true rfl) dX5_init_57 (fun H hB hS => ?_)
  have hB : zB D h (.inr (5, [.ref (h + 1), .ref (h + 13), .int 0, .ref (h + 14), .int 0, .ref (h + 15), .int 0, .null]) :: (eX1 cA (h + 1) ++ ([.inl (cA 0, 200, .inl (fun _ => 0)), .inl (cA 0, 40, .inl (fun _ => 0)), .inl (cA 0, 36, .inl (fun _ => 0)), .inl (cA 0, 3, .inl (fun _ => 0))]))) H := hB
  refine bd_putF (v := .ref (h + 16)) (fs := [.ref (h + 1), .ref (h + 13), .int 0, .ref (h + 14), .int 0, .ref (h + 15), .int 0, .null]) 0 F hB hS fiX5_38 hin rfl (Nat.le_of_ble_eq_true rfl) rfl rfl rfl dX5_init_59 (fun H locs hB hS => ?_)
  have hB : zB D h (.inr (5, [.ref (h + 1), .ref (h + 13), .int 0, .ref (h + 14), .int 0, .ref (h + 15), .int 0, .ref (h + 16)]) :: (eX1 cA (h + 1) ++ ([.inl (cA 0, 200, .inl (fun _ => 0)), .inl (cA 0, 40, .inl (fun _ => 0)), .inl (cA 0, 36, .inl (fun _ => 0)), .inl (cA 0, 3, .inl (fun _ => 0))]))) H := hB
  exact bd_end (E := eX5 cA h) F rfl hB hS dX5_init_62
