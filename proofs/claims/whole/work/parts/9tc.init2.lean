theorem fiX2_12 : zFPF RX2 12 2 0 (.object "TetherSky$Tokens") := ⟨(RX2, TX2, 5), rfl, by decide, (wGm 173 (by decide +kernel) rfl), by decide, rfl, by decide +kernel⟩
theorem fiX2_18 : zFPF RX2 18 2 1 (.array .boolean) := ⟨(RX2, TX2, 5), rfl, by decide, (wGm 174 (by decide +kernel) rfl), by decide, rfl, by decide +kernel⟩
theorem fiX2_22 : zFP RX2 22 2 2 .int := ⟨(RX2, TX2, 5), rfl, by decide, (wGm 175 (by decide +kernel) rfl), by decide, by decide +kernel⟩
theorem fiX2_26 : zFP RX2 26 2 3 .int := ⟨(RX2, TX2, 5), rfl, by decide, (wGm 176 (by decide +kernel) rfl), by decide, by decide +kernel⟩
theorem fiX2_29 : zFP RX2 29 2 4 .int := ⟨(RX2, TX2, 5), rfl, by decide, (wGm 177 (by decide +kernel) rfl), by decide, by decide +kernel⟩
abbrev mX2_init : zMD := (yX2_init, cX2_init, 1, none, some [])
theorem mgX2_init : zMG mX2_init 0 := ⟨(wGm 142 (by decide +kernel) rfl), (wGm 108 (by decide +kernel) rfl), by decide +kernel, by decide +kernel, by decide, by decide +kernel⟩
theorem miX2_init : Cond.instanceMethod mX2_init.1 ∈ wG := (wGm 141 (by decide +kernel) rfl)
def eX2 (cA : Nat → ClassId) (h : Nat) : List va_E := (.inr (2, [.ref (h + 1), .ref (h + 3), .int 0, .int 0, .int (-1)]) :: (([] ++ eX6 cA (h + 1)) ++ [.inl (cA 2, 5, .inl (fun _ => 0))]))
set_option maxRecDepth 100000 in
set_option maxHeartbeats 4000000 in
theorem iX2 {l : Launch} {D : va_G} {cA : Nat → ClassId} {h d : Nat}  : zIn l D cA h mX2_init 2 3 711 (d + 1) [.null, .null, .int 0, .int 0, .int 0] zNn (eX2 cA h) := by
  refine zIn_of (by decide +kernel) rfl rfl (by decide) (fun p e s m below meth c9 ls F hin hB hZ hS hl => ?_)
  refine lv_aload_n F.1 F.2.1 dX2_init_0 rfl (lv_at hl 0 rfl) ?_
  refine bd_obj F (wGm 143 (by decide +kernel) rfl) wO_i wO_c hl.1 (Nat.le_of_ble_eq_true rfl) dX2_init_1 ?_
  refine lv_aload_n F.1 F.2.1 dX2_init_4 rfl (lv_at hl 0 rfl) ?_
  refine bd_newN (h + 1) [.null, .int 0, .int 0, .int 0, .int 0, .int 0] F hB hS rfl (ci := 6) (C := RX6) (T := TX6) (N := 6) rfl tyX6 tyX6_ok (fun j hj => by match j, hj with | 0, _ => rfl | 1, _ => rfl | 2, _ => rfl | 3, _ => rfl | 4, _ => rfl | 5, _ => rfl | j + 6, hj => exact absurd hj (by omega)) (wGm 144 (by decide +kernel) rfl) (wGm 145 (by decide +kernel) rfl) (wGm 109 (by decide +kernel) rfl) mgX6_init rfl rfl miX6_init rfl (hZ.at 1 rfl) iX6 (fun _ _ _ _ h => zNn.call h) (fun _ _ _ _ hW => hZ.warm hW) dX2_init_5 dX2_init_8 dX2_init_9 (Nat.le_of_ble_eq_true rfl) (Nat.le_of_ble_eq_true rfl) (Nat.le_of_ble_eq_true rfl) hl.1 (fun H locs hB hS => ?_)
  have hB : zB D h (.inr (2, [.null, .null, .int 0, .int 0, .int 0]) :: ([] ++ eX6 cA (h + 1))) H := hB
  refine bd_putF (v := .ref (h + 1)) (fs := [.null, .null, .int 0, .int 0, .int 0]) 0 F hB hS fiX2_12 hin rfl (Nat.le_of_ble_eq_true rfl) rfl rfl rfl dX2_init_12 (fun H locs hB hS => ?_)
  have hB : zB D h (.inr (2, [.ref (h + 1), .null, .int 0, .int 0, .int 0]) :: ([] ++ eX6 cA (h + 1))) H := hB
  refine lv_aload_n F.1 F.2.1 dX2_init_15 rfl (lv_at hl 0 rfl) ?_
  refine lv_iconst (v := 5) F.1 F.2.1 dX2_init_16 (by decide) ?_
  refine bd_newa (at9 := .boolean) 2 5 (h + 3) (5, .inl fun _ => 0) F hB hS wA_boolean rfl (fun _ => rfl) rfl (by decide) (by decide) (by decide) (Nat.le_of_ble_eq_true rfl) (Nat.le_of_ble_eq_true rfl) dX2_init_17 (fun H hB hS => ?_)
  have hB : zB D h (.inr (2, [.ref (h + 1), .null, .int 0, .int 0, .int 0]) :: (([] ++ eX6 cA (h + 1)) ++ [.inl (cA 2, 5, .inl (fun _ => 0))])) H := hB
  refine bd_putF (v := .ref (h + 3)) (fs := [.ref (h + 1), .null, .int 0, .int 0, .int 0]) 0 F hB hS fiX2_18 hin rfl (Nat.le_of_ble_eq_true rfl) rfl rfl rfl dX2_init_19 (fun H locs hB hS => ?_)
  have hB : zB D h (.inr (2, [.ref (h + 1), .ref (h + 3), .int 0, .int 0, .int 0]) :: (([] ++ eX6 cA (h + 1)) ++ [.inl (cA 2, 5, .inl (fun _ => 0))])) H := hB
  refine lv_aload_n F.1 F.2.1 dX2_init_22 rfl (lv_at hl 0 rfl) ?_
  refine lv_iconst (v := 0) F.1 F.2.1 dX2_init_23 (by decide) ?_
  refine bd_put (v := .int 0) (fs := [.ref (h + 1), .ref (h + 3), .int 0, .int 0, .int 0]) 0 F hB hS fiX2_22 rfl (Nat.le_of_ble_eq_true rfl) rfl rfl rfl dX2_init_24 (fun H locs hB hS => ?_)
  have hB : zB D h (.inr (2, [.ref (h + 1), .ref (h + 3), .int 0, .int 0, .int 0]) :: (([] ++ eX6 cA (h + 1)) ++ [.inl (cA 2, 5, .inl (fun _ => 0))])) H := hB
  refine lv_aload_n F.1 F.2.1 dX2_init_27 rfl (lv_at hl 0 rfl) ?_
  refine lv_iconst (v := 0) F.1 F.2.1 dX2_init_28 (by decide) ?_
  refine bd_put (v := .int 0) (fs := [.ref (h + 1), .ref (h + 3), .int 0, .int 0, .int 0]) 0 F hB hS fiX2_26 rfl (Nat.le_of_ble_eq_true rfl) rfl rfl rfl dX2_init_29 (fun H locs hB hS => ?_)
  have hB : zB D h (.inr (2, [.ref (h + 1), .ref (h + 3), .int 0, .int 0, .int 0]) :: (([] ++ eX6 cA (h + 1)) ++ [.inl (cA 2, 5, .inl (fun _ => 0))])) H := hB
  refine lv_aload_n F.1 F.2.1 dX2_init_32 rfl (lv_at hl 0 rfl) ?_
  refine lv_iconst (v := (-1)) F.1 F.2.1 dX2_init_33 (by decide) ?_
  refine bd_put (v := .int (-1)) (fs := [.ref (h + 1), .ref (h + 3), .int 0, .int 0, .int 0]) 0 F hB hS fiX2_29 rfl (Nat.le_of_ble_eq_true rfl) rfl rfl rfl dX2_init_34 (fun H locs hB hS => ?_)
  have hB : zB D h (.inr (2, [.ref (h + 1), .ref (h + 3), .int 0, .int 0, .int (-1)]) :: (([] ++ eX6 cA (h + 1)) ++ [.inl (cA 2, 5, .inl (fun _ => 0))])) H := hB
  exact bd_end (E := eX2 cA h) F rfl hB hS dX2_init_37
