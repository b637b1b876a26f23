theorem fiX4_12 : zFPF RX4 12 4 0 (.object "TetherSky$Isles") := ⟨(RX4, TX4, 10), rfl, by decide, (wGm 297 (by decide +kernel) rfl), by decide, rfl, by decide +kernel⟩
theorem fiX4_18 : zFP RX4 18 4 1 .int := ⟨(RX4, TX4, 10), rfl, by decide, (wGm 300 (by decide +kernel) rfl), by decide, by decide +kernel⟩
theorem fiX4_22 : zFPF RX4 22 4 2 (.array .int) := ⟨(RX4, TX4, 10), rfl, by decide, (wGm 303 (by decide +kernel) rfl), by decide, rfl, by decide +kernel⟩
theorem fiX4_26 : zFPF RX4 26 4 3 (.array .int) := ⟨(RX4, TX4, 10), rfl, by decide, (wGm 305 (by decide +kernel) rfl), by decide, rfl, by decide +kernel⟩
theorem fiX4_29 : zFPF RX4 29 4 4 (.array .int) := ⟨(RX4, TX4, 10), rfl, by decide, (wGm 307 (by decide +kernel) rfl), by decide, rfl, by decide +kernel⟩
theorem fiX4_32 : zFP RX4 32 4 5 .int := ⟨(RX4, TX4, 10), rfl, by decide, (wGm 309 (by decide +kernel) rfl), by decide, by decide +kernel⟩
theorem fiX4_35 : zFP RX4 35 4 6 .int := ⟨(RX4, TX4, 10), rfl, by decide, (wGm 312 (by decide +kernel) rfl), by decide, by decide +kernel⟩
theorem fiX4_38 : zFP RX4 38 4 7 .int := ⟨(RX4, TX4, 10), rfl, by decide, (wGm 315 (by decide +kernel) rfl), by decide, by decide +kernel⟩
theorem fiX4_41 : zFPF RX4 41 4 8 (.array .int) := ⟨(RX4, TX4, 10), rfl, by decide, (wGm 318 (by decide +kernel) rfl), by decide, rfl, by decide +kernel⟩
theorem fiX4_47 : zFPF RX4 47 4 9 (.object "TetherSky$Rule") := ⟨(RX4, TX4, 10), rfl, by decide, (wGm 321 (by decide +kernel) rfl), by decide, rfl, by decide +kernel⟩
abbrev mX4_init : zMD := (yX4_init, cX4_init, 1, none, some [])
theorem mgX4_init : zMG mX4_init 0 := ⟨(wGm 195 (by decide +kernel) rfl), (wGm 110 (by decide +kernel) rfl), by decide +kernel, by decide +kernel, by decide, by decide +kernel⟩
theorem miX4_init : Cond.instanceMethod mX4_init.1 ∈ wG := (wGm 194 (by decide +kernel) rfl)
def eX4 (cA : Nat → ClassId) (h : Nat) : List va_E := (.inr (4, [.ref (h + 1), .int 0, .ref (h + 13), .ref (h + 14), .ref (h + 15), .int 0, .int 2, .int 8, .ref (h + 16), .ref (h + 17)]) :: (eX1 cA (h + 1) ++ ([.inl (cA 0, 12, .inl (fun _ => 0)), .inl (cA 0, 12, .inl (fun _ => 0)), .inl (cA 0, 12, .inl (fun _ => 0)), .inl (cA 0, 4, .inl (upd (fun _ => 0) 0 1))] ++ (eX3 cA (h + 17)))))
set_option maxRecDepth 100000 in
set_option maxHeartbeats 4000000 in
theorem iX4 {l : Launch} {D : va_G} {cA : Nat → ClassId} {h d : Nat}  : zIn l D cA h mX4_init 4 19 879 (d + 1) [.null, .int 0, .null, .null, .null, .int 0, .int 0, .int 0, .null, .null] zNn (eX4 cA h) := by
  refine zIn_of (by decide +kernel) rfl rfl (by decide) (fun p e s m below meth c9 ls F hin hB hZ hS hl => ?_)
  refine lv_aload_n F.1 F.2.1 dX4_init_0 rfl (lv_at hl 0 rfl) ?_
  refine bd_obj F (wGm 196 (by decide +kernel) rfl) wO_i wO_c hl.1 (Nat.le_of_ble_eq_true rfl) dX4_init_1 ?_
  refine lv_aload_n F.1 F.2.1 dX4_init_4 rfl (lv_at hl 0 rfl) ?_
  refine bd_newN (h + 1) [.int 0, .null, .null, .null, .null, .null, .null, .null, .null, .null, .null, .null] F hB hS rfl (ci := 1) (C := RX1) (T := TX1) (N := 12) rfl tyX1 tyX1_ok (fun j hj => by match j, hj with | 0, _ => rfl | 1, _ => rfl | 2, _ => rfl | 3, _ => rfl | 4, _ => rfl | 5, _ => rfl | 6, _ => rfl | 7, _ => rfl | 8, _ => rfl | 9, _ => rfl | 10, _ => rfl | 11, _ => rfl | j + 12, hj => exact absurd hj (by omega)) (wGm 197 (by decide +kernel) rfl) (wGm 198 (by decide +kernel) rfl) (wGm 111 (by decide +kernel) rfl) mgX1_init rfl rfl miX1_init rfl (hZ.at 2 rfl) iX1 (fun _ _ _ _ h => zNn.call h) (fun _ _ _ _ hW => hZ.warm hW) dX4_init_5 dX4_init_8 dX4_init_9 (Nat.le_of_ble_eq_true rfl) (Nat.le_of_ble_eq_true rfl) (Nat.le_of_ble_eq_true rfl) hl.1 (fun H locs hB hS => ?_)
  have hB : zB D h (.inr (4, [.null, .int 0, .null, .null, .null, .int 0, .int 0, .int 0, .null, .null]) :: (eX1 cA (h + 1))) H := hB
  refine bd_putF (v := .ref (h + 1)) (fs := [.null, .int 0, .null, .null, .null, .int 0, .int 0, .int 0, .null, .null]) 0 F hB hS fiX4_12 hin rfl (Nat.le_of_ble_eq_true rfl) rfl rfl rfl dX4_init_12 (fun H locs hB hS => ?_)
  have hB : zB D h (.inr (4, [.ref (h + 1), .int 0, .null, .null, .null, .int 0, .int 0, .int 0, .null, .null]) :: (eX1 cA (h + 1))) H := hB
  refine lv_aload_n F.1 F.2.1 dX4_init_15 rfl (lv_at hl 0 rfl) ?_
  refine lv_iconst (v := 0) F.1 F.2.1 dX4_init_16 (by decide) ?_
  refine bd_put (v := .int 0) (fs := [.ref (h + 1), .int 0, .null, .null, .null, .int 0, .int 0, .int 0, .null, .null]) 0 F hB hS fiX4_18 rfl (Nat.le_of_ble_eq_true rfl) rfl rfl rfl dX4_init_17 (fun H locs hB hS => ?_)
  have hB : zB D h (.inr (4, [.ref (h + 1), .int 0, .null, .null, .null, .int 0, .int 0, .int 0, .null, .null]) :: (eX1 cA (h + 1))) H := hB
  refine lv_aload_n F.1 F.2.1 dX4_init_20 rfl (lv_at hl 0 rfl) ?_
  refine lv_bipush (v := 12) F.1 F.2.1 dX4_init_21 (by decide) ?_
  refine bd_newa (at9 := .int) 0 12 (h + 13) (12, .inl fun _ => 0) F hB hS wA_int rfl (fun _ => rfl) rfl (by decide) (by decide) (by decide) (Nat.le_of_ble_eq_true rfl) (Nat.le_of_ble_eq_true rfl) dX4_init_23 (fun H hB hS => ?_)
  have hB : zB D h (.inr (4, [.ref (h + 1), .int 0, .null, .null, .null, .int 0, .int 0, .int 0, .null, .null]) :: (eX1 cA (h + 1) ++ ([.inl (cA 0, 12, .inl (fun _ => 0))]))) H := hB
  refine bd_putF (v := .ref (h + 13)) (fs := [.ref (h + 1), .int 0, .null, .null, .null, .int 0, .int 0, .int 0, .null, .null]) 0 F hB hS fiX4_22 hin rfl (Nat.le_of_ble_eq_true rfl) rfl rfl rfl dX4_init_25 (fun H locs hB hS => ?_)
  have hB : zB D h (.inr (4, [.ref (h + 1), .int 0, .ref (h + 13), .null, .null, .int 0, .int 0, .int 0, .null, .null]) :: (eX1 cA (h + 1) ++ ([.inl (cA 0, 12, .inl (fun _ => 0))]))) H := hB
  refine lv_aload_n F.1 F.2.1 dX4_init_28 rfl (lv_at hl 0 rfl) ?_
  refine lv_bipush (v := 12) F.1 F.2.1 dX4_init_29 (by decide) ?_
  refine bd_newa (at9 := .int) 0 12 (h + 14) (12, .inl fun _ => 0) F hB hS wA_int rfl (fun _ => rfl) rfl (by decide) (by decide) (by decide) (Nat.le_of_ble_eq_true rfl) (Nat.le_of_ble_eq_true rfl) dX4_init_31 (fun H hB hS => ?_)
  have hB : zB D h (.inr (4, [.ref (h + 1), .int 0, .ref (h + 13), .null, .null, .int 0, .int 0, .int 0, .null, .null]) :: (eX1 cA (h + 1) ++ ([.inl (cA 0, 12, .inl (fun _ => 0)), .inl (cA 0, 12, .inl (fun _ => 0))]))) H := hB
  refine bd_putF (v := .ref (h + 14)) (fs := [.ref (h + 1), .int 0, .ref (h + 13), .null, .null, .int 0, .int 0, .int 0, .null, .null]) 0 F hB hS fiX4_26 hin rfl (Nat.le_of_ble_eq_true rfl) rfl rfl rfl dX4_init_33 (fun H locs hB hS => ?_)
  have hB : zB D h (.inr (4, [.ref (h + 1), .int 0, .ref (h + 13), .ref (h + 14), .null, .int 0, .int 0, .int 0, .null, .null]) :: (eX1 cA (h + 1) ++ ([.inl (cA 0, 12, .inl (fun _ => 0)), .inl (cA 0, 12, .inl (fun _ => 0))]))) H := hB
  refine lv_aload_n F.1 F.2.1 dX4_init_36 rfl (lv_at hl 0 rfl) ?_
  refine lv_bipush (v := 12) F.1 F.2.1 dX4_init_37 (by decide) ?_
  refine bd_newa (at9 := .int) 0 12 (h + 15) (12, .inl fun _ => 0) F hB hS wA_int rfl (fun _ => rfl) rfl (by decide) (by decide) (by decide) (Nat.le_of_ble_eq_true rfl) (Nat.le_of_ble_eq_true rfl) dX4_init_39 (fun H hB hS => ?_)
  have hB : zB D h (.inr (4, [.ref (h + 1), .int 0, .ref (h + 13), .ref (h + 14), .null, .int 0, .int 0, .int 0, .null, .null]) :: (eX1 cA (h + 1) ++ ([.inl (cA 0, 12, .inl (fun _ => 0)), .inl (cA 0, 12, .inl (fun _ => 0)), .inl (cA 0, 12, .inl (fun _ => 0))]))) H := hB
  refine bd_putF (v := .ref (h + 15)) (fs := [.ref (h + 1), .int 0, .ref (h + 13), .ref (h + 14), .null, .int 0, .int 0, .int 0, .null, .null]) 0 F hB hS fiX4_29 hin rfl (Nat.le_of_ble_eq_true rfl) rfl rfl rfl dX4_init_41 (fun H locs hB hS => ?_)
  have hB : zB D h (.inr (4, [.ref (h + 1), .int 0, .ref (h + 13), .ref (h + 14), .ref (h + 15), .int 0, .int 0, .int 0, .null, .null]) :: (eX1 cA (h + 1) ++ ([.inl (cA 0, 12, .inl (fun _ => 0)), .inl (cA 0, 12, .inl (fun _ => 0)), .inl (cA 0, 12, .inl (fun _ => 0))]))) H := hB
  refine lv_aload_n F.1 F.2.1 dX4_init_44 rfl (lv_at hl 0 rfl) ?_
  refine lv_iconst (v := 0) F.1 F.2.1 dX4_init_45 (by decide) ?_
  refine bd_put (v := .int 0) (fs := [.ref (h + 1), .int 0, .ref (h + 13), .ref (h + 14), .ref (h + 15), .int 0, .int 0, .int 0, .null, .null]) 0 F hB hS fiX4_32 rfl (Nat.le_of_ble_eq_true rfl) rfl rfl rfl dX4_init_46 (fun H locs hB hS => ?_)
  have hB : zB D h (.inr (4, [.ref (h + 1), .int 0, .ref (h + 13), .ref (h + 14), .ref (h + 15), .int 0, .int 0, .int 0, .null, .null]) :: (eX1 cA (h + 1) ++ ([.inl (cA 0, 12, .inl (fun _ => 0)), .inl (cA 0, 12, .inl (fun _ => 0)), .inl (cA 0, 12, .inl (fun _ => 0))]))) H := hB
  refine lv_aload_n F.1 F.2.1 dX4_init_49 rfl (lv_at hl 0 rfl) ?_
  refine lv_iconst (v := 2) F.1 F.2.1 dX4_init_50 (by decide) ?_
  refine bd_put (v := .int 2) (fs := [.ref (h + 1), .int 0, .ref (h + 13), .ref (h + 14), .ref (h + 15), .int 0, .int 0, .int 0, .null, .null]) 0 F hB hS fiX4_35 rfl (Nat.le_of_ble_eq_true rfl) rfl rfl rfl dX4_init_51 (fun H locs hB hS => ?_)
  have hB : zB D h (.inr (4, [.ref (h + 1), .int 0, .ref (h + 13), .ref (h + 14), .ref (h + 15), .int 0, .int 2, .int 0, .null, .null]) :: (eX1 cA (h + 1) ++ ([.inl (cA 0, 12, .inl (fun _ => 0)), .inl (cA 0, 12, .inl (fun _ => 0)), .inl (cA 0, 12, .inl (fun _ => 0))]))) H := hB
  refine lv_aload_n F.1 F.2.1 dX4_init_54 rfl (lv_at hl 0 rfl) ?_
  refine lv_bipush (v := 8) F.1 F.2.1 dX4_init_55 (by decide) ?_
  refine bd_put (v := .int 8) (fs := [.ref (h + 1), .int 0, .ref (h + 13), .ref (h + 14), .ref (h + 15), .int 0, .int 2, .int 0, .null, .null]) 0 F hB hS fiX4_38 rfl (Nat.le_of_ble_eq_true rfl) rfl rfl rfl dX4_init_57 (fun H locs hB hS => ?_)
  have hB : zB D h (.inr (4, [.ref (h + 1), .int 0, .ref (h + 13), .ref (h + 14), .ref (h + 15), .int 0, .int 2, .int 8, .null, .null]) :: (eX1 cA (h + 1) ++ ([.inl (cA 0, 12, .inl (fun _ => 0)), .inl (cA 0, 12, .inl (fun _ => 0)), .inl (cA 0, 12, .inl (fun _ => 0))]))) H := hB
  refine lv_aload_n F.1 F.2.1 dX4_init_60 rfl (lv_at hl 0 rfl) ?_
  refine lv_iconst (v := 4) F.1 F.2.1 dX4_init_61 (by decide) ?_
  refine bd_newa (at9 := .int) 0 4 (h + 16) (4, .inl fun _ => 0) F hB hS wA_int rfl (fun _ => rfl) rfl (by decide) (by decide) (by decide) (Nat.le_of_ble_eq_true rfl) (Nat.le_of_ble_eq_true rfl) dX4_init_62 (fun H hB hS => ?_)
  have hB : zB D h (.inr (4, [.ref (h + 1), .int 0, .ref (h + 13), .ref (h + 14), .ref (h + 15), .int 0, .int 2, .int 8, .null, .null]) :: (eX1 cA (h + 1) ++ ([.inl (cA 0, 12, .inl (fun _ => 0)), .inl (cA 0, 12, .inl (fun _ => 0)), .inl (cA 0, 12, .inl (fun _ => 0)), .inl (cA 0, 4, .inl (fun _ => 0))]))) H := hB
  refine bd_putF (v := .ref (h + 16)) (fs := [.ref (h + 1), .int 0, .ref (h + 13), .ref (h + 14), .ref (h + 15), .int 0, .int 2, .int 8, .null, .null]) 0 F hB hS fiX4_41 hin rfl (Nat.le_of_ble_eq_true rfl) rfl rfl rfl dX4_init_64 (fun H locs hB hS => ?_)
  have hB : zB D h (.inr (4, [.ref (h + 1), .int 0, .ref (h + 13), .ref (h + 14), .ref (h + 15), .int 0, .int 2, .int 8, .ref (h + 16), .null]) :: (eX1 cA (h + 1) ++ ([.inl (cA 0, 12, .inl (fun _ => 0)), .inl (cA 0, 12, .inl (fun _ => 0)), .inl (cA 0, 12, .inl (fun _ => 0)), .inl (cA 0, 4, .inl (fun _ => 0))]))) H := hB
  refine lv_aload_n F.1 F.2.1 dX4_init_67 rfl (lv_at hl 0 rfl) ?_
  refine bd_newN (h + 17) [.null, .int 0, .null] F hB hS rfl (ci := 3) (C := RX3) (T := TX3) (N := 3) rfl tyX3 tyX3_ok (fun j hj => by match j, hj with | 0, _ => rfl | 1, _ => rfl | 2, _ => rfl | j + 3, hj => exact absurd hj (by omega)) (wGm 280 (by decide +kernel) rfl) (wGm 281 (by decide +kernel) rfl) (wGm 112 (by decide +kernel) rfl) mgX3_init rfl rfl miX3_init rfl (hZ.at 3 rfl) iX3 (fun _ _ _ _ h => zNn.call h) (fun _ _ _ _ hW => hZ.warm hW) dX4_init_68 dX4_init_71 dX4_init_72 (Nat.le_of_ble_eq_true rfl) (Nat.le_of_ble_eq_true rfl) (Nat.le_of_ble_eq_true rfl) hl.1 (fun H locs hB hS => ?_)
  have hB : zB D h (.inr (4, [.ref (h + 1), .int 0, .ref (h + 13), .ref (h + 14), .ref (h + 15), .int 0, .int 2, .int 8, .ref (h + 16), .null]) :: (eX1 cA (h + 1) ++ ([.inl (cA 0, 12, .inl (fun _ => 0)), .inl (cA 0, 12, .inl (fun _ => 0)), .inl (cA 0, 12, .inl (fun _ => 0)), .inl (cA 0, 4, .inl (fun _ => 0))] ++ (eX3 cA (h + 17))))) H := hB
  refine bd_putF (v := .ref (h + 17)) (fs := [.ref (h + 1), .int 0, .ref (h + 13), .ref (h + 14), .ref (h + 15), .int 0, .int 2, .int 8, .ref (h + 16), .null]) 0 F hB hS fiX4_47 hin rfl (Nat.le_of_ble_eq_true rfl) rfl rfl rfl dX4_init_75 (fun H locs hB hS => ?_)
  have hB : zB D h (.inr (4, [.ref (h + 1), .int 0, .ref (h + 13), .ref (h + 14), .ref (h + 15), .int 0, .int 2, .int 8, .ref (h + 16), .ref (h + 17)]) :: (eX1 cA (h + 1) ++ ([.inl (cA 0, 12, .inl (fun _ => 0)), .inl (cA 0, 12, .inl (fun _ => 0)), .inl (cA 0, 12, .inl (fun _ => 0)), .inl (cA 0, 4, .inl (fun _ => 0))] ++ (eX3 cA (h + 17))))) H := hB
  refine lv_aload_n F.1 F.2.1 dX4_init_78 rfl (lv_at hl 0 rfl) ?_
  refine bd_get 8 0 F hB ⟨(RX4, TX4, 10), rfl, by decide, (wGm 318 (by decide +kernel) rfl)⟩ rfl rfl rfl dX4_init_79 ?_
  refine lv_iconst (v := 0) F.1 F.2.1 dX4_init_82 (by decide) ?_
  refine lv_iconst (v := 1) F.1 F.2.1 dX4_init_83 (by decide) ?_
  refine bd_iast 16 F hB hS rfl rfl (by unfold vp_in; decide) dX4_init_84 (fun H locs hB hS => ?_)
  have hB : zB D h (.inr (4, [.ref (h + 1), .int 0, .ref (h + 13), .ref (h + 14), .ref (h + 15), .int 0, .int 2, .int 8, .ref (h + 16), .ref (h + 17)]) :: (eX1 cA (h + 1) ++ ([.inl (cA 0, 12, .inl (fun _ => 0)), .inl (cA 0, 12, .inl (fun _ => 0)), .inl (cA 0, 12, .inl (fun _ => 0)), .inl (cA 0, 4, .inl (upd (fun _ => 0) 0 1))] ++ (eX3 cA (h + 17))))) H := hB
  exact bd_end (E := eX4 cA h) F rfl hB hS dX4_init_85
