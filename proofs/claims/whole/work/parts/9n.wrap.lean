theorem wL_13 : Cond.classLink RL 13 "java/lang/IllegalArgumentException" ∈ wG := wGm 533 (by decide +kernel) rfl
theorem wL_18 : Cond.classLink RL 18 "java/util/NoSuchElementException" ∈ wG := wGm 885 (by decide +kernel) rfl
abbrev mL_sky : zMD := (yL_sky, cL_sky, 4, (some .int), some [(0, 9, 12, 13)])
set_option maxRecDepth 20000 in
theorem cL_sky_ {d : Nat} {x1 : Int32} {μ : zMem} {K : zRes → zMem → Nat → Prop} (h : zcI d mX8_sky [.ref 0, .int x1] μ (fun v m1 => K (.inl (some (.int 0))) (zO m1 v.toInt64) 0) (fun E m1 => ¬ c11 E = 0 ∧ K (.inl (some (.int (c11 E)))) m1 1)) : Ex (d + 1) mL_sky [.ref 0, .int x1, .ref 143] μ K := by
  refine Ex_ofH (by decide +kernel) rfl rfl (w := 3) rfl (by decide) ?_
  refine Wr_sub (L' := [(0, .ref 0), (1, .int x1), (2, .ref 143)]) [0, 1, 2] rfl ?_
  refine Wr_aload_n dL_sky_0 rfl 2 rfl ?_
  refine Wr_iconstv (v := 0) dL_sky_1 (by decide) ?_
  refine Wr_aload_n dL_sky_2 rfl 0 rfl ?_
  refine Wr_iload_n dL_sky_3 rfl 1 rfl ?_
  refine Wr_cHi [.int x1] (g := mX8_sky) dL_sky_4 (wGm 534 (by decide +kernel) rfl) mgX8_sky rfl mvX8_sky (zrv zl0 _ rfl rfl) rfl rfl (Nat.le_of_ble_eq_true rfl) (zcI.imp h (fun v m1 hk => ?_) (fun E m1 hk => ?_))
  · refine Wr_i2l dL_sky_7 ?_
    refine Wr_last dL_sky_8 rfl ?_
    refine Wr_goto 15 dL_sky_9 (by decide) ?_
    refine Wr_iconstv (v := 0) dL_sky_15 (by decide) ?_
    exact Wr_iret .int dL_sky_16 rfl rfl hk
  · obtain ⟨hE, hk⟩ := hk
    obtain ⟨E, rfl⟩ := c11_0 hE
    refine ⟨12, 3, 1, ⟨_, [], _, _, rfl, rfl, fun z hz => absurd hz List.not_mem_nil, rfl, by decide, wL_13, rfl⟩, ⟨by decide, Or.inl ⟨3, rfl, dL_sky_12, rfl⟩⟩, (zLi_c (by decide) rfl (zLi_c (by decide) rfl (zLi_c (by decide) rfl zLi_n))), ?_⟩
    refine Wr_iconstv (v := 1) dL_sky_13 (by decide) ?_
    exact Wr_iret .int dL_sky_14 rfl rfl hk
theorem mgL_sky : zMW mL_sky 3 [(0, 9, 12, 13)] := ⟨rfl, wGm 532 (by decide +kernel) rfl, wGm 106 (by decide +kernel) rfl, by decide +kernel, by decide +kernel, by decide, wGm 531 (by decide +kernel) rfl⟩
abbrev mL_count : zMD := (yL_count, cL_count, 4, (some .int), some [(0, 9, 12, 18)])
set_option maxRecDepth 20000 in
theorem cL_count_ {d : Nat} {x1 : Int32} {μ : zMem} {K : zRes → zMem → Nat → Prop} (h : zcI d mX8_count [.ref 0, .int x1] μ (fun v m1 => K (.inl (some (.int 0))) (zO m1 v.toInt64) 0) (fun E m1 => ¬ c10 E = 0 ∧ K (.inl (some (.int (c10 E)))) m1 1)) : Ex (d + 1) mL_count [.ref 0, .int x1, .ref 143] μ K := by
  refine Ex_ofH (by decide +kernel) rfl rfl (w := 3) rfl (by decide) ?_
  refine Wr_sub (L' := [(0, .ref 0), (1, .int x1), (2, .ref 143)]) [0, 1, 2] rfl ?_
  refine Wr_aload_n dL_count_0 rfl 2 rfl ?_
  refine Wr_iconstv (v := 0) dL_count_1 (by decide) ?_
  refine Wr_aload_n dL_count_2 rfl 0 rfl ?_
  refine Wr_iload_n dL_count_3 rfl 1 rfl ?_
  refine Wr_cHi [.int x1] (g := mX8_count) dL_count_4 (wGm 886 (by decide +kernel) rfl) mgX8_count rfl mvX8_count (zrv zl0 _ rfl rfl) rfl rfl (Nat.le_of_ble_eq_true rfl) (zcI.imp h (fun v m1 hk => ?_) (fun E m1 hk => ?_))
  · refine Wr_i2l dL_count_7 ?_
    refine Wr_last dL_count_8 rfl ?_
    refine Wr_goto 15 dL_count_9 (by decide) ?_
    refine Wr_iconstv (v := 0) dL_count_15 (by decide) ?_
    exact Wr_iret .int dL_count_16 rfl rfl hk
  · obtain ⟨hE, hk⟩ := hk
    cases c10_0 hE
    refine ⟨12, 3, 1, ⟨_, [], _, _, rfl, rfl, fun z hz => absurd hz List.not_mem_nil, rfl, by decide, wL_18, rfl⟩, ⟨by decide, Or.inl ⟨3, rfl, dL_count_12, rfl⟩⟩, (zLi_c (by decide) rfl (zLi_c (by decide) rfl (zLi_c (by decide) rfl zLi_n))), ?_⟩
    refine Wr_iconstv (v := 1) dL_count_13 (by decide) ?_
    exact Wr_iret .int dL_count_14 rfl rfl hk
theorem mgL_count : zMW mL_count 3 [(0, 9, 12, 18)] := ⟨rfl, wGm 884 (by decide +kernel) rfl, wGm 106 (by decide +kernel) rfl, by decide +kernel, by decide +kernel, by decide, wGm 883 (by decide +kernel) rfl⟩
abbrev mL_isle : zMD := (yL_isle, cL_isle, 5, (some .int), some [(0, 10, 13, 18)])
set_option maxRecDepth 20000 in
theorem cL_isle_ {d : Nat} {x1 x2 : Int32} {μ : zMem} {K : zRes → zMem → Nat → Prop} (h : zcI d mX8_isle [.ref 0, .int x1, .int x2] μ (fun v m1 => K (.inl (some (.int 0))) (zO m1 v.toInt64) 0) (fun E m1 => ¬ c10 E = 0 ∧ K (.inl (some (.int (c10 E)))) m1 1)) : Ex (d + 1) mL_isle [.ref 0, .int x1, .int x2, .ref 143] μ K := by
  refine Ex_ofH (by decide +kernel) rfl rfl (w := 4) rfl (by decide) ?_
  refine Wr_sub (L' := [(0, .ref 0), (1, .int x1), (2, .int x2), (3, .ref 143)]) [0, 1, 2, 3] rfl ?_
  refine Wr_aload_n dL_isle_0 rfl 3 rfl ?_
  refine Wr_iconstv (v := 0) dL_isle_1 (by decide) ?_
  refine Wr_aload_n dL_isle_2 rfl 0 rfl ?_
  refine Wr_iload_n dL_isle_3 rfl 1 rfl ?_
  refine Wr_iload_n dL_isle_4 rfl 2 rfl ?_
  refine Wr_cHi [.int x1, .int x2] (g := mX8_isle) dL_isle_5 (wGm 909 (by decide +kernel) rfl) mgX8_isle rfl mvX8_isle (zrv zl0 _ rfl rfl) rfl rfl (Nat.le_of_ble_eq_true rfl) (zcI.imp h (fun v m1 hk => ?_) (fun E m1 hk => ?_))
  · refine Wr_i2l dL_isle_8 ?_
    refine Wr_last dL_isle_9 rfl ?_
    refine Wr_goto 17 dL_isle_10 (by decide) ?_
    refine Wr_iconstv (v := 0) dL_isle_17 (by decide) ?_
    exact Wr_iret .int dL_isle_18 rfl rfl hk
  · obtain ⟨hE, hk⟩ := hk
    cases c10_0 hE
    refine ⟨13, 4, 2, ⟨_, [], _, _, rfl, rfl, fun z hz => absurd hz List.not_mem_nil, rfl, by decide, wL_18, rfl⟩, ⟨by decide, Or.inr ⟨dL_isle_13, rfl⟩⟩, (zLi_c (by decide) rfl (zLi_c (by decide) rfl (zLi_c (by decide) rfl (zLi_c (by decide) rfl zLi_n)))), ?_⟩
    refine Wr_iconstv (v := 1) dL_isle_15 (by decide) ?_
    exact Wr_iret .int dL_isle_16 rfl rfl hk
theorem mgL_isle : zMW mL_isle 4 [(0, 10, 13, 18)] := ⟨rfl, wGm 908 (by decide +kernel) rfl, wGm 106 (by decide +kernel) rfl, by decide +kernel, by decide +kernel, by decide, wGm 907 (by decide +kernel) rfl⟩
abbrev mL_wind : zMD := (yL_wind, cL_wind, 5, (some .int), some [(0, 10, 13, 18)])
set_option maxRecDepth 20000 in
theorem cL_wind_ {d : Nat} {x1 x2 : Int32} {μ : zMem} {K : zRes → zMem → Nat → Prop} (h : zcI d mX8_wind [.ref 0, .int x1, .int x2] μ (fun v m1 => K (.inl (some (.int 0))) (zO m1 v.toInt64) 0) (fun E m1 => ¬ c10 E = 0 ∧ K (.inl (some (.int (c10 E)))) m1 1)) : Ex (d + 1) mL_wind [.ref 0, .int x1, .int x2, .ref 143] μ K := by
  refine Ex_ofH (by decide +kernel) rfl rfl (w := 4) rfl (by decide) ?_
  refine Wr_sub (L' := [(0, .ref 0), (1, .int x1), (2, .int x2), (3, .ref 143)]) [0, 1, 2, 3] rfl ?_
  refine Wr_aload_n dL_wind_0 rfl 3 rfl ?_
  refine Wr_iconstv (v := 0) dL_wind_1 (by decide) ?_
  refine Wr_aload_n dL_wind_2 rfl 0 rfl ?_
  refine Wr_iload_n dL_wind_3 rfl 1 rfl ?_
  refine Wr_iload_n dL_wind_4 rfl 2 rfl ?_
  refine Wr_cHi [.int x1, .int x2] (g := mX8_wind) dL_wind_5 (wGm 940 (by decide +kernel) rfl) mgX8_wind rfl mvX8_wind (zrv zl0 _ rfl rfl) rfl rfl (Nat.le_of_ble_eq_true rfl) (zcI.imp h (fun v m1 hk => ?_) (fun E m1 hk => ?_))
  · refine Wr_i2l dL_wind_8 ?_
    refine Wr_last dL_wind_9 rfl ?_
    refine Wr_goto 17 dL_wind_10 (by decide) ?_
    refine Wr_iconstv (v := 0) dL_wind_17 (by decide) ?_
    exact Wr_iret .int dL_wind_18 rfl rfl hk
  · obtain ⟨hE, hk⟩ := hk
    cases c10_0 hE
    refine ⟨13, 4, 2, ⟨_, [], _, _, rfl, rfl, fun z hz => absurd hz List.not_mem_nil, rfl, by decide, wL_18, rfl⟩, ⟨by decide, Or.inr ⟨dL_wind_13, rfl⟩⟩, (zLi_c (by decide) rfl (zLi_c (by decide) rfl (zLi_c (by decide) rfl (zLi_c (by decide) rfl zLi_n)))), ?_⟩
    refine Wr_iconstv (v := 1) dL_wind_15 (by decide) ?_
    exact Wr_iret .int dL_wind_16 rfl rfl hk
theorem mgL_wind : zMW mL_wind 4 [(0, 10, 13, 18)] := ⟨rfl, wGm 939 (by decide +kernel) rfl, wGm 106 (by decide +kernel) rfl, by decide +kernel, by decide +kernel, by decide, wGm 938 (by decide +kernel) rfl⟩
abbrev mL_where : zMD := (yL_where, cL_where, 6, (some .int), some [(0, 12, 15, 18)])
set_option maxRecDepth 20000 in
theorem cL_where_ {d : Nat} {x1 x2 x3 : Int32} {μ : zMem} {K : zRes → zMem → Nat → Prop} (h : zcI d mX8_where [.ref 0, .int x1, .int x2, .int x3] μ (fun v m1 => K (.inl (some (.int 0))) (zO m1 v.toInt64) 0) (fun E m1 => ¬ c10 E = 0 ∧ K (.inl (some (.int (c10 E)))) m1 1)) : Ex (d + 1) mL_where [.ref 0, .int x1, .int x2, .int x3, .ref 143] μ K := by
  refine Ex_ofH (by decide +kernel) rfl rfl (w := 5) rfl (by decide) ?_
  refine Wr_sub (L' := [(0, .ref 0), (1, .int x1), (2, .int x2), (3, .int x3), (4, .ref 143)]) [0, 1, 2, 3, 4] rfl ?_
  refine Wr_aload dL_where_0 4 rfl ?_
  refine Wr_iconstv (v := 0) dL_where_2 (by decide) ?_
  refine Wr_aload_n dL_where_3 rfl 0 rfl ?_
  refine Wr_iload_n dL_where_4 rfl 1 rfl ?_
  refine Wr_iload_n dL_where_5 rfl 2 rfl ?_
  refine Wr_iload_n dL_where_6 rfl 3 rfl ?_
  refine Wr_cHi [.int x1, .int x2, .int x3] (g := mX8_where) dL_where_7 (wGm 967 (by decide +kernel) rfl) mgX8_where rfl mvX8_where (zrv zl0 _ rfl rfl) rfl rfl (Nat.le_of_ble_eq_true rfl) (zcI.imp h (fun v m1 hk => ?_) (fun E m1 hk => ?_))
  · refine Wr_i2l dL_where_10 ?_
    refine Wr_last dL_where_11 rfl ?_
    refine Wr_goto 19 dL_where_12 (by decide) ?_
    refine Wr_iconstv (v := 0) dL_where_19 (by decide) ?_
    exact Wr_iret .int dL_where_20 rfl rfl hk
  · obtain ⟨hE, hk⟩ := hk
    cases c10_0 hE
    refine ⟨15, 5, 2, ⟨_, [], _, _, rfl, rfl, fun z hz => absurd hz List.not_mem_nil, rfl, by decide, wL_18, rfl⟩, ⟨by decide, Or.inr ⟨dL_where_15, rfl⟩⟩, (zLi_c (by decide) rfl (zLi_c (by decide) rfl (zLi_c (by decide) rfl (zLi_c (by decide) rfl (zLi_c (by decide) rfl zLi_n))))), ?_⟩
    refine Wr_iconstv (v := 1) dL_where_17 (by decide) ?_
    exact Wr_iret .int dL_where_18 rfl rfl hk
theorem mgL_where : zMW mL_where 5 [(0, 12, 15, 18)] := ⟨rfl, wGm 966 (by decide +kernel) rfl, wGm 106 (by decide +kernel) rfl, by decide +kernel, by decide +kernel, by decide, wGm 965 (by decide +kernel) rfl⟩
abbrev mL_between : zMD := (yL_between, cL_between, 7, (some .int), some [(0, 21, 24, 18), (0, 21, 28, 13)])
set_option maxRecDepth 20000 in
theorem cL_between_ {d : Nat} {x1 x2 x3 x4 : Int32} {μ : zMem} {K : zRes → zMem → Nat → Prop} (h : zcI d mX8_between [.ref 0, .int x1, .int x2, .int x3, .int x4] μ (fun v m1 => K (.inl (some (.int 0))) (zO m1 (if v = 0 then 0 else 1)) 0) (fun E m1 => ¬ c12 E = 0 ∧ K (.inl (some (.int (c12 E)))) m1 1)) : Ex (d + 1) mL_between [.ref 0, .int x1, .int x2, .int x3, .int x4, .ref 143] μ K := by
  refine Ex_ofH (by decide +kernel) rfl rfl (w := 6) rfl (by decide) ?_
  refine Wr_sub (L' := [(0, .ref 0), (1, .int x1), (2, .int x2), (3, .int x3), (4, .int x4), (5, .ref 143)]) [0, 1, 2, 3, 4, 5] rfl ?_
  refine Wr_aload dL_between_0 5 rfl ?_
  refine Wr_iconstv (v := 0) dL_between_2 (by decide) ?_
  refine Wr_aload_n dL_between_3 rfl 0 rfl ?_
  refine Wr_iload_n dL_between_4 rfl 1 rfl ?_
  refine Wr_iload_n dL_between_5 rfl 2 rfl ?_
  refine Wr_iload_n dL_between_6 rfl 3 rfl ?_
  refine Wr_iload dL_between_7 4 rfl ?_
  refine Wr_cHi [.int x1, .int x2, .int x3, .int x4] (g := mX8_between) dL_between_9 (wGm 1012 (by decide +kernel) rfl) mgX8_between rfl mvX8_between (zrv zl0 _ rfl rfl) rfl rfl (Nat.le_of_ble_eq_true rfl) (zcI.imp h (fun v m1 hk => ?_) (fun E m1 hk => ?_))
  · refine Wr_if_eq 19 dL_between_12 (by decide) (fun z => ?_) (fun z => ?_)
    · rw [if_pos z] at hk
      refine Wr_lconst (v := 0) dL_between_19 (by decide) ?_
      refine Wr_last dL_between_20 rfl ?_
      refine Wr_goto 32 dL_between_21 (by decide) ?_
      refine Wr_iconstv (v := 0) dL_between_32 (by decide) ?_
      exact Wr_iret .int dL_between_33 rfl rfl hk
    · rw [if_neg z] at hk
      refine Wr_lconst (v := 1) dL_between_15 (by decide) ?_
      refine Wr_goto 20 dL_between_16 (by decide) ?_
      refine Wr_last dL_between_20 rfl ?_
      refine Wr_goto 32 dL_between_21 (by decide) ?_
      refine Wr_iconstv (v := 0) dL_between_32 (by decide) ?_
      exact Wr_iret .int dL_between_33 rfl rfl hk
  · obtain ⟨hE, hk⟩ := hk
    cases E with
    | zero =>
      refine ⟨24, 6, 2, ⟨_, [], _, _, rfl, rfl, fun z hz => absurd hz List.not_mem_nil, rfl, by decide, wL_18, rfl⟩, ⟨by decide, Or.inr ⟨dL_between_24, rfl⟩⟩, (zLi_c (by decide) rfl (zLi_c (by decide) rfl (zLi_c (by decide) rfl (zLi_c (by decide) rfl (zLi_c (by decide) rfl (zLi_c (by decide) rfl zLi_n)))))), ?_⟩
      refine Wr_iconstv (v := 1) dL_between_26 (by decide) ?_
      exact Wr_iret .int dL_between_27 rfl rfl hk
    | succ E =>
      refine ⟨28, 6, 2, ⟨_, [_], _, _, rfl, rfl, fun z hz => Or.inr ⟨Nat.succ_ne_zero _, by rw [List.mem_singleton.mp hz]; decide, by rw [List.mem_singleton.mp hz]; exact wGm 885 (by decide +kernel) rfl⟩, rfl, by decide, wL_13, rfl⟩, ⟨by decide, Or.inr ⟨dL_between_28, rfl⟩⟩, (zLi_c (by decide) rfl (zLi_c (by decide) rfl (zLi_c (by decide) rfl (zLi_c (by decide) rfl (zLi_c (by decide) rfl (zLi_c (by decide) rfl zLi_n)))))), ?_⟩
      refine Wr_iconstv (v := 2) dL_between_30 (by decide) ?_
      exact Wr_iret .int dL_between_31 rfl rfl hk
theorem mgL_between : zMW mL_between 6 [(0, 21, 24, 18), (0, 21, 28, 13)] := ⟨rfl, wGm 1011 (by decide +kernel) rfl, wGm 106 (by decide +kernel) rfl, by decide +kernel, by decide +kernel, by decide, wGm 1010 (by decide +kernel) rfl⟩
abbrev mL_rain : zMD := (yL_rain, cL_rain, 5, (some .int), some [(0, 10, 13, 18)])
set_option maxRecDepth 20000 in
theorem cL_rain_ {d : Nat} {x1 x2 : Int32} {μ : zMem} {K : zRes → zMem → Nat → Prop} (h : zcI d mX8_rain [.ref 0, .int x1, .int x2] μ (fun v m1 => K (.inl (some (.int 0))) (zO m1 v.toInt64) 0) (fun E m1 => ¬ c10 E = 0 ∧ K (.inl (some (.int (c10 E)))) m1 1)) : Ex (d + 1) mL_rain [.ref 0, .int x1, .int x2, .ref 143] μ K := by
  refine Ex_ofH (by decide +kernel) rfl rfl (w := 4) rfl (by decide) ?_
  refine Wr_sub (L' := [(0, .ref 0), (1, .int x1), (2, .int x2), (3, .ref 143)]) [0, 1, 2, 3] rfl ?_
  refine Wr_aload_n dL_rain_0 rfl 3 rfl ?_
  refine Wr_iconstv (v := 0) dL_rain_1 (by decide) ?_
  refine Wr_aload_n dL_rain_2 rfl 0 rfl ?_
  refine Wr_iload_n dL_rain_3 rfl 1 rfl ?_
  refine Wr_iload_n dL_rain_4 rfl 2 rfl ?_
  refine Wr_cHi [.int x1, .int x2] (g := mX8_rain) dL_rain_5 (wGm 1040 (by decide +kernel) rfl) mgX8_rain rfl mvX8_rain (zrv zl0 _ rfl rfl) rfl rfl (Nat.le_of_ble_eq_true rfl) (zcI.imp h (fun v m1 hk => ?_) (fun E m1 hk => ?_))
  · refine Wr_i2l dL_rain_8 ?_
    refine Wr_last dL_rain_9 rfl ?_
    refine Wr_goto 17 dL_rain_10 (by decide) ?_
    refine Wr_iconstv (v := 0) dL_rain_17 (by decide) ?_
    exact Wr_iret .int dL_rain_18 rfl rfl hk
  · obtain ⟨hE, hk⟩ := hk
    cases c10_0 hE
    refine ⟨13, 4, 2, ⟨_, [], _, _, rfl, rfl, fun z hz => absurd hz List.not_mem_nil, rfl, by decide, wL_18, rfl⟩, ⟨by decide, Or.inr ⟨dL_rain_13, rfl⟩⟩, (zLi_c (by decide) rfl (zLi_c (by decide) rfl (zLi_c (by decide) rfl (zLi_c (by decide) rfl zLi_n)))), ?_⟩
    refine Wr_iconstv (v := 1) dL_rain_15 (by decide) ?_
    exact Wr_iret .int dL_rain_16 rfl rfl hk
theorem mgL_rain : zMW mL_rain 4 [(0, 10, 13, 18)] := ⟨rfl, wGm 1039 (by decide +kernel) rfl, wGm 106 (by decide +kernel) rfl, by decide +kernel, by decide +kernel, by decide, wGm 1038 (by decide +kernel) rfl⟩
abbrev mL_winch : zMD := (yL_winch, cL_winch, 5, (some .int), some [(0, 10, 13, 18)])
set_option maxRecDepth 20000 in
theorem cL_winch_ {d : Nat} {x1 x2 : Int32} {μ : zMem} {K : zRes → zMem → Nat → Prop} (h : zcI d mX8_winch [.ref 0, .int x1, .int x2] μ (fun v m1 => K (.inl (some (.int 0))) (zO m1 v.toInt64) 0) (fun E m1 => ¬ c10 E = 0 ∧ K (.inl (some (.int (c10 E)))) m1 1)) : Ex (d + 1) mL_winch [.ref 0, .int x1, .int x2, .ref 143] μ K := by
  refine Ex_ofH (by decide +kernel) rfl rfl (w := 4) rfl (by decide) ?_
  refine Wr_sub (L' := [(0, .ref 0), (1, .int x1), (2, .int x2), (3, .ref 143)]) [0, 1, 2, 3] rfl ?_
  refine Wr_aload_n dL_winch_0 rfl 3 rfl ?_
  refine Wr_iconstv (v := 0) dL_winch_1 (by decide) ?_
  refine Wr_aload_n dL_winch_2 rfl 0 rfl ?_
  refine Wr_iload_n dL_winch_3 rfl 1 rfl ?_
  refine Wr_iload_n dL_winch_4 rfl 2 rfl ?_
  refine Wr_cHi [.int x1, .int x2] (g := mX8_winch) dL_winch_5 (wGm 1056 (by decide +kernel) rfl) mgX8_winch rfl mvX8_winch (zrv zl0 _ rfl rfl) rfl rfl (Nat.le_of_ble_eq_true rfl) (zcI.imp h (fun v m1 hk => ?_) (fun E m1 hk => ?_))
  · refine Wr_i2l dL_winch_8 ?_
    refine Wr_last dL_winch_9 rfl ?_
    refine Wr_goto 17 dL_winch_10 (by decide) ?_
    refine Wr_iconstv (v := 0) dL_winch_17 (by decide) ?_
    exact Wr_iret .int dL_winch_18 rfl rfl hk
  · obtain ⟨hE, hk⟩ := hk
    cases c10_0 hE
    refine ⟨13, 4, 2, ⟨_, [], _, _, rfl, rfl, fun z hz => absurd hz List.not_mem_nil, rfl, by decide, wL_18, rfl⟩, ⟨by decide, Or.inr ⟨dL_winch_13, rfl⟩⟩, (zLi_c (by decide) rfl (zLi_c (by decide) rfl (zLi_c (by decide) rfl (zLi_c (by decide) rfl zLi_n)))), ?_⟩
    refine Wr_iconstv (v := 1) dL_winch_15 (by decide) ?_
    exact Wr_iret .int dL_winch_16 rfl rfl hk
theorem mgL_winch : zMW mL_winch 4 [(0, 10, 13, 18)] := ⟨rfl, wGm 1055 (by decide +kernel) rfl, wGm 106 (by decide +kernel) rfl, by decide +kernel, by decide +kernel, by decide, wGm 1054 (by decide +kernel) rfl⟩
abbrev mL_knot : zMD := (yL_knot, cL_knot, 5, (some .int), some [(0, 10, 13, 18)])
set_option maxRecDepth 20000 in
theorem cL_knot_ {d : Nat} {x1 x2 : Int32} {μ : zMem} {K : zRes → zMem → Nat → Prop} (h : zcI d mX8_knot [.ref 0, .int x1, .int x2] μ (fun v m1 => K (.inl (some (.int 0))) (zO m1 v.toInt64) 0) (fun E m1 => ¬ c10 E = 0 ∧ K (.inl (some (.int (c10 E)))) m1 1)) : Ex (d + 1) mL_knot [.ref 0, .int x1, .int x2, .ref 143] μ K := by
  refine Ex_ofH (by decide +kernel) rfl rfl (w := 4) rfl (by decide) ?_
  refine Wr_sub (L' := [(0, .ref 0), (1, .int x1), (2, .int x2), (3, .ref 143)]) [0, 1, 2, 3] rfl ?_
  refine Wr_aload_n dL_knot_0 rfl 3 rfl ?_
  refine Wr_iconstv (v := 0) dL_knot_1 (by decide) ?_
  refine Wr_aload_n dL_knot_2 rfl 0 rfl ?_
  refine Wr_iload_n dL_knot_3 rfl 1 rfl ?_
  refine Wr_iload_n dL_knot_4 rfl 2 rfl ?_
  refine Wr_cHi [.int x1, .int x2] (g := mX8_knot) dL_knot_5 (wGm 1071 (by decide +kernel) rfl) mgX8_knot rfl mvX8_knot (zrv zl0 _ rfl rfl) rfl rfl (Nat.le_of_ble_eq_true rfl) (zcI.imp h (fun v m1 hk => ?_) (fun E m1 hk => ?_))
  · refine Wr_i2l dL_knot_8 ?_
    refine Wr_last dL_knot_9 rfl ?_
    refine Wr_goto 17 dL_knot_10 (by decide) ?_
    refine Wr_iconstv (v := 0) dL_knot_17 (by decide) ?_
    exact Wr_iret .int dL_knot_18 rfl rfl hk
  · obtain ⟨hE, hk⟩ := hk
    cases c10_0 hE
    refine ⟨13, 4, 2, ⟨_, [], _, _, rfl, rfl, fun z hz => absurd hz List.not_mem_nil, rfl, by decide, wL_18, rfl⟩, ⟨by decide, Or.inr ⟨dL_knot_13, rfl⟩⟩, (zLi_c (by decide) rfl (zLi_c (by decide) rfl (zLi_c (by decide) rfl (zLi_c (by decide) rfl zLi_n)))), ?_⟩
    refine Wr_iconstv (v := 1) dL_knot_15 (by decide) ?_
    exact Wr_iret .int dL_knot_16 rfl rfl hk
theorem mgL_knot : zMW mL_knot 4 [(0, 10, 13, 18)] := ⟨rfl, wGm 1070 (by decide +kernel) rfl, wGm 106 (by decide +kernel) rfl, by decide +kernel, by decide +kernel, by decide, wGm 1069 (by decide +kernel) rfl⟩
abbrev mL_load : zMD := (yL_load, cL_load, 5, (some .int), some [(0, 10, 13, 18)])
set_option maxRecDepth 20000 in
theorem cL_load_ {d : Nat} {x1 x2 : Int32} {μ : zMem} {K : zRes → zMem → Nat → Prop} (h : zcI d mX8_load [.ref 0, .int x1, .int x2] μ (fun v m1 => K (.inl (some (.int 0))) (zO m1 v.toInt64) 0) (fun E m1 => ¬ c10 E = 0 ∧ K (.inl (some (.int (c10 E)))) m1 1)) : Ex (d + 1) mL_load [.ref 0, .int x1, .int x2, .ref 143] μ K := by
  refine Ex_ofH (by decide +kernel) rfl rfl (w := 4) rfl (by decide) ?_
  refine Wr_sub (L' := [(0, .ref 0), (1, .int x1), (2, .int x2), (3, .ref 143)]) [0, 1, 2, 3] rfl ?_
  refine Wr_aload_n dL_load_0 rfl 3 rfl ?_
  refine Wr_iconstv (v := 0) dL_load_1 (by decide) ?_
  refine Wr_aload_n dL_load_2 rfl 0 rfl ?_
  refine Wr_iload_n dL_load_3 rfl 1 rfl ?_
  refine Wr_iload_n dL_load_4 rfl 2 rfl ?_
  refine Wr_cHi [.int x1, .int x2] (g := mX8_load) dL_load_5 (wGm 1078 (by decide +kernel) rfl) mgX8_load rfl mvX8_load (zrv zl0 _ rfl rfl) rfl rfl (Nat.le_of_ble_eq_true rfl) (zcI.imp h (fun v m1 hk => ?_) (fun E m1 hk => ?_))
  · refine Wr_i2l dL_load_8 ?_
    refine Wr_last dL_load_9 rfl ?_
    refine Wr_goto 17 dL_load_10 (by decide) ?_
    refine Wr_iconstv (v := 0) dL_load_17 (by decide) ?_
    exact Wr_iret .int dL_load_18 rfl rfl hk
  · obtain ⟨hE, hk⟩ := hk
    cases c10_0 hE
    refine ⟨13, 4, 2, ⟨_, [], _, _, rfl, rfl, fun z hz => absurd hz List.not_mem_nil, rfl, by decide, wL_18, rfl⟩, ⟨by decide, Or.inr ⟨dL_load_13, rfl⟩⟩, (zLi_c (by decide) rfl (zLi_c (by decide) rfl (zLi_c (by decide) rfl (zLi_c (by decide) rfl zLi_n)))), ?_⟩
    refine Wr_iconstv (v := 1) dL_load_15 (by decide) ?_
    exact Wr_iret .int dL_load_16 rfl rfl hk
theorem mgL_load : zMW mL_load 4 [(0, 10, 13, 18)] := ⟨rfl, wGm 1077 (by decide +kernel) rfl, wGm 106 (by decide +kernel) rfl, by decide +kernel, by decide +kernel, by decide, wGm 1076 (by decide +kernel) rfl⟩
abbrev mL_goat : zMD := (yL_goat, cL_goat, 6, (some .int), some [(0, 19, 22, 18)])
set_option maxRecDepth 20000 in
theorem cL_goat_ {d : Nat} {x1 x2 x3 : Int32} {μ : zMem} {K : zRes → zMem → Nat → Prop} (h : zcI d mX8_goat [.ref 0, .int x1, .int x2, .int x3] μ (fun v m1 => K (.inl (some (.int 0))) (zO m1 (if v = 0 then 0 else 1)) 0) (fun E m1 => ¬ c10 E = 0 ∧ K (.inl (some (.int (c10 E)))) m1 1)) : Ex (d + 1) mL_goat [.ref 0, .int x1, .int x2, .int x3, .ref 143] μ K := by
  refine Ex_ofH (by decide +kernel) rfl rfl (w := 5) rfl (by decide) ?_
  refine Wr_sub (L' := [(0, .ref 0), (1, .int x1), (2, .int x2), (3, .int x3), (4, .ref 143)]) [0, 1, 2, 3, 4] rfl ?_
  refine Wr_aload dL_goat_0 4 rfl ?_
  refine Wr_iconstv (v := 0) dL_goat_2 (by decide) ?_
  refine Wr_aload_n dL_goat_3 rfl 0 rfl ?_
  refine Wr_iload_n dL_goat_4 rfl 1 rfl ?_
  refine Wr_iload_n dL_goat_5 rfl 2 rfl ?_
  refine Wr_iload_n dL_goat_6 rfl 3 rfl ?_
  refine Wr_cHi [.int x1, .int x2, .int x3] (g := mX8_goat) dL_goat_7 (wGm 1085 (by decide +kernel) rfl) mgX8_goat rfl mvX8_goat (zrv zl0 _ rfl rfl) rfl rfl (Nat.le_of_ble_eq_true rfl) (zcI.imp h (fun v m1 hk => ?_) (fun E m1 hk => ?_))
  · refine Wr_if_eq 17 dL_goat_10 (by decide) (fun z => ?_) (fun z => ?_)
    · rw [if_pos z] at hk
      refine Wr_lconst (v := 0) dL_goat_17 (by decide) ?_
      refine Wr_last dL_goat_18 rfl ?_
      refine Wr_goto 26 dL_goat_19 (by decide) ?_
      refine Wr_iconstv (v := 0) dL_goat_26 (by decide) ?_
      exact Wr_iret .int dL_goat_27 rfl rfl hk
    · rw [if_neg z] at hk
      refine Wr_lconst (v := 1) dL_goat_13 (by decide) ?_
      refine Wr_goto 18 dL_goat_14 (by decide) ?_
      refine Wr_last dL_goat_18 rfl ?_
      refine Wr_goto 26 dL_goat_19 (by decide) ?_
      refine Wr_iconstv (v := 0) dL_goat_26 (by decide) ?_
      exact Wr_iret .int dL_goat_27 rfl rfl hk
  · obtain ⟨hE, hk⟩ := hk
    cases c10_0 hE
    refine ⟨22, 5, 2, ⟨_, [], _, _, rfl, rfl, fun z hz => absurd hz List.not_mem_nil, rfl, by decide, wL_18, rfl⟩, ⟨by decide, Or.inr ⟨dL_goat_22, rfl⟩⟩, (zLi_c (by decide) rfl (zLi_c (by decide) rfl (zLi_c (by decide) rfl (zLi_c (by decide) rfl (zLi_c (by decide) rfl zLi_n))))), ?_⟩
    refine Wr_iconstv (v := 1) dL_goat_24 (by decide) ?_
    exact Wr_iret .int dL_goat_25 rfl rfl hk
theorem mgL_goat : zMW mL_goat 5 [(0, 19, 22, 18)] := ⟨rfl, wGm 1084 (by decide +kernel) rfl, wGm 106 (by decide +kernel) rfl, by decide +kernel, by decide +kernel, by decide, wGm 1083 (by decide +kernel) rfl⟩
abbrev mL_walk : zMD := (yL_walk, cL_walk, 7, (some .int), some [(0, 14, 17, 18)])
set_option maxRecDepth 20000 in
theorem cL_walk_ {d : Nat} {x1 x2 x3 x4 : Int32} {μ : zMem} {K : zRes → zMem → Nat → Prop} (h : zcI d mX8_walk [.ref 0, .int x1, .int x2, .int x3, .int x4] μ (fun v m1 => K (.inl (some (.int 0))) (zO m1 v.toInt64) 0) (fun E m1 => ¬ c10 E = 0 ∧ K (.inl (some (.int (c10 E)))) m1 1)) : Ex (d + 1) mL_walk [.ref 0, .int x1, .int x2, .int x3, .int x4, .ref 143] μ K := by
  refine Ex_ofH (by decide +kernel) rfl rfl (w := 6) rfl (by decide) ?_
  refine Wr_sub (L' := [(0, .ref 0), (1, .int x1), (2, .int x2), (3, .int x3), (4, .int x4), (5, .ref 143)]) [0, 1, 2, 3, 4, 5] rfl ?_
  refine Wr_aload dL_walk_0 5 rfl ?_
  refine Wr_iconstv (v := 0) dL_walk_2 (by decide) ?_
  refine Wr_aload_n dL_walk_3 rfl 0 rfl ?_
  refine Wr_iload_n dL_walk_4 rfl 1 rfl ?_
  refine Wr_iload_n dL_walk_5 rfl 2 rfl ?_
  refine Wr_iload_n dL_walk_6 rfl 3 rfl ?_
  refine Wr_iload dL_walk_7 4 rfl ?_
  refine Wr_cHi [.int x1, .int x2, .int x3, .int x4] (g := mX8_walk) dL_walk_9 (wGm 1096 (by decide +kernel) rfl) mgX8_walk rfl mvX8_walk (zrv zl0 _ rfl rfl) rfl rfl (Nat.le_of_ble_eq_true rfl) (zcI.imp h (fun v m1 hk => ?_) (fun E m1 hk => ?_))
  · refine Wr_i2l dL_walk_12 ?_
    refine Wr_last dL_walk_13 rfl ?_
    refine Wr_goto 21 dL_walk_14 (by decide) ?_
    refine Wr_iconstv (v := 0) dL_walk_21 (by decide) ?_
    exact Wr_iret .int dL_walk_22 rfl rfl hk
  · obtain ⟨hE, hk⟩ := hk
    cases c10_0 hE
    refine ⟨17, 6, 2, ⟨_, [], _, _, rfl, rfl, fun z hz => absurd hz List.not_mem_nil, rfl, by decide, wL_18, rfl⟩, ⟨by decide, Or.inr ⟨dL_walk_17, rfl⟩⟩, (zLi_c (by decide) rfl (zLi_c (by decide) rfl (zLi_c (by decide) rfl (zLi_c (by decide) rfl (zLi_c (by decide) rfl (zLi_c (by decide) rfl zLi_n)))))), ?_⟩
    refine Wr_iconstv (v := 1) dL_walk_19 (by decide) ?_
    exact Wr_iret .int dL_walk_20 rfl rfl hk
theorem mgL_walk : zMW mL_walk 6 [(0, 14, 17, 18)] := ⟨rfl, wGm 1095 (by decide +kernel) rfl, wGm 106 (by decide +kernel) rfl, by decide +kernel, by decide +kernel, by decide, wGm 1094 (by decide +kernel) rfl⟩
abbrev mL_knock : zMD := (yL_knock, cL_knock, 6, (some .int), some [(0, 12, 15, 18), (0, 12, 19, 13)])
set_option maxRecDepth 20000 in
theorem cL_knock_ {d : Nat} {x1 x2 x3 : Int32} {μ : zMem} {K : zRes → zMem → Nat → Prop} (h : zcI d mX8_knock [.ref 0, .int x1, .int x2, .int x3] μ (fun v m1 => K (.inl (some (.int 0))) (zO m1 v.toInt64) 0) (fun E m1 => ¬ c12 E = 0 ∧ K (.inl (some (.int (c12 E)))) m1 1)) : Ex (d + 1) mL_knock [.ref 0, .int x1, .int x2, .int x3, .ref 143] μ K := by
  refine Ex_ofH (by decide +kernel) rfl rfl (w := 5) rfl (by decide) ?_
  refine Wr_sub (L' := [(0, .ref 0), (1, .int x1), (2, .int x2), (3, .int x3), (4, .ref 143)]) [0, 1, 2, 3, 4] rfl ?_
  refine Wr_aload dL_knock_0 4 rfl ?_
  refine Wr_iconstv (v := 0) dL_knock_2 (by decide) ?_
  refine Wr_aload_n dL_knock_3 rfl 0 rfl ?_
  refine Wr_iload_n dL_knock_4 rfl 1 rfl ?_
  refine Wr_iload_n dL_knock_5 rfl 2 rfl ?_
  refine Wr_iload_n dL_knock_6 rfl 3 rfl ?_
  refine Wr_cHi [.int x1, .int x2, .int x3] (g := mX8_knock) dL_knock_7 (wGm 1107 (by decide +kernel) rfl) mgX8_knock rfl mvX8_knock (zrv zl0 _ rfl rfl) rfl rfl (Nat.le_of_ble_eq_true rfl) (zcI.imp h (fun v m1 hk => ?_) (fun E m1 hk => ?_))
  · refine Wr_i2l dL_knock_10 ?_
    refine Wr_last dL_knock_11 rfl ?_
    refine Wr_goto 23 dL_knock_12 (by decide) ?_
    refine Wr_iconstv (v := 0) dL_knock_23 (by decide) ?_
    exact Wr_iret .int dL_knock_24 rfl rfl hk
  · obtain ⟨hE, hk⟩ := hk
    cases E with
    | zero =>
      refine ⟨15, 5, 2, ⟨_, [], _, _, rfl, rfl, fun z hz => absurd hz List.not_mem_nil, rfl, by decide, wL_18, rfl⟩, ⟨by decide, Or.inr ⟨dL_knock_15, rfl⟩⟩, (zLi_c (by decide) rfl (zLi_c (by decide) rfl (zLi_c (by decide) rfl (zLi_c (by decide) rfl (zLi_c (by decide) rfl zLi_n))))), ?_⟩
      refine Wr_iconstv (v := 1) dL_knock_17 (by decide) ?_
      exact Wr_iret .int dL_knock_18 rfl rfl hk
    | succ E =>
      refine ⟨19, 5, 2, ⟨_, [_], _, _, rfl, rfl, fun z hz => Or.inr ⟨Nat.succ_ne_zero _, by rw [List.mem_singleton.mp hz]; decide, by rw [List.mem_singleton.mp hz]; exact wGm 885 (by decide +kernel) rfl⟩, rfl, by decide, wL_13, rfl⟩, ⟨by decide, Or.inr ⟨dL_knock_19, rfl⟩⟩, (zLi_c (by decide) rfl (zLi_c (by decide) rfl (zLi_c (by decide) rfl (zLi_c (by decide) rfl (zLi_c (by decide) rfl zLi_n))))), ?_⟩
      refine Wr_iconstv (v := 2) dL_knock_21 (by decide) ?_
      exact Wr_iret .int dL_knock_22 rfl rfl hk
theorem mgL_knock : zMW mL_knock 5 [(0, 12, 15, 18), (0, 12, 19, 13)] := ⟨rfl, wGm 1106 (by decide +kernel) rfl, wGm 106 (by decide +kernel) rfl, by decide +kernel, by decide +kernel, by decide, wGm 1105 (by decide +kernel) rfl⟩
abbrev mL_shade : zMD := (yL_shade, cL_shade, 6, (some .int), some [(0, 12, 15, 18), (0, 12, 19, 13)])
set_option maxRecDepth 20000 in
theorem cL_shade_ {d : Nat} {x1 x2 x3 : Int32} {μ : zMem} {K : zRes → zMem → Nat → Prop} (h : zcI d mX8_shade [.ref 0, .int x1, .int x2, .int x3] μ (fun v m1 => K (.inl (some (.int 0))) (zO m1 v.toInt64) 0) (fun E m1 => ¬ c12 E = 0 ∧ K (.inl (some (.int (c12 E)))) m1 1)) : Ex (d + 1) mL_shade [.ref 0, .int x1, .int x2, .int x3, .ref 143] μ K := by
  refine Ex_ofH (by decide +kernel) rfl rfl (w := 5) rfl (by decide) ?_
  refine Wr_sub (L' := [(0, .ref 0), (1, .int x1), (2, .int x2), (3, .int x3), (4, .ref 143)]) [0, 1, 2, 3, 4] rfl ?_
  refine Wr_aload dL_shade_0 4 rfl ?_
  refine Wr_iconstv (v := 0) dL_shade_2 (by decide) ?_
  refine Wr_aload_n dL_shade_3 rfl 0 rfl ?_
  refine Wr_iload_n dL_shade_4 rfl 1 rfl ?_
  refine Wr_iload_n dL_shade_5 rfl 2 rfl ?_
  refine Wr_iload_n dL_shade_6 rfl 3 rfl ?_
  refine Wr_cHi [.int x1, .int x2, .int x3] (g := mX8_shade) dL_shade_7 (wGm 1123 (by decide +kernel) rfl) mgX8_shade rfl mvX8_shade (zrv zl0 _ rfl rfl) rfl rfl (Nat.le_of_ble_eq_true rfl) (zcI.imp h (fun v m1 hk => ?_) (fun E m1 hk => ?_))
  · refine Wr_i2l dL_shade_10 ?_
    refine Wr_last dL_shade_11 rfl ?_
    refine Wr_goto 23 dL_shade_12 (by decide) ?_
    refine Wr_iconstv (v := 0) dL_shade_23 (by decide) ?_
    exact Wr_iret .int dL_shade_24 rfl rfl hk
  · obtain ⟨hE, hk⟩ := hk
    cases E with
    | zero =>
      refine ⟨15, 5, 2, ⟨_, [], _, _, rfl, rfl, fun z hz => absurd hz List.not_mem_nil, rfl, by decide, wL_18, rfl⟩, ⟨by decide, Or.inr ⟨dL_shade_15, rfl⟩⟩, (zLi_c (by decide) rfl (zLi_c (by decide) rfl (zLi_c (by decide) rfl (zLi_c (by decide) rfl (zLi_c (by decide) rfl zLi_n))))), ?_⟩
      refine Wr_iconstv (v := 1) dL_shade_17 (by decide) ?_
      exact Wr_iret .int dL_shade_18 rfl rfl hk
    | succ E =>
      refine ⟨19, 5, 2, ⟨_, [_], _, _, rfl, rfl, fun z hz => Or.inr ⟨Nat.succ_ne_zero _, by rw [List.mem_singleton.mp hz]; decide, by rw [List.mem_singleton.mp hz]; exact wGm 885 (by decide +kernel) rfl⟩, rfl, by decide, wL_13, rfl⟩, ⟨by decide, Or.inr ⟨dL_shade_19, rfl⟩⟩, (zLi_c (by decide) rfl (zLi_c (by decide) rfl (zLi_c (by decide) rfl (zLi_c (by decide) rfl (zLi_c (by decide) rfl zLi_n))))), ?_⟩
      refine Wr_iconstv (v := 2) dL_shade_21 (by decide) ?_
      exact Wr_iret .int dL_shade_22 rfl rfl hk
theorem mgL_shade : zMW mL_shade 5 [(0, 12, 15, 18), (0, 12, 19, 13)] := ⟨rfl, wGm 1122 (by decide +kernel) rfl, wGm 106 (by decide +kernel) rfl, by decide +kernel, by decide +kernel, by decide, wGm 1121 (by decide +kernel) rfl⟩
abbrev mL_wet : zMD := (yL_wet, cL_wet, 6, (some .int), some [(0, 12, 15, 18), (0, 12, 19, 13)])
set_option maxRecDepth 20000 in
theorem cL_wet_ {d : Nat} {x1 x2 x3 : Int32} {μ : zMem} {K : zRes → zMem → Nat → Prop} (h : zcI d mX8_wet [.ref 0, .int x1, .int x2, .int x3] μ (fun v m1 => K (.inl (some (.int 0))) (zO m1 v.toInt64) 0) (fun E m1 => ¬ c12 E = 0 ∧ K (.inl (some (.int (c12 E)))) m1 1)) : Ex (d + 1) mL_wet [.ref 0, .int x1, .int x2, .int x3, .ref 143] μ K := by
  refine Ex_ofH (by decide +kernel) rfl rfl (w := 5) rfl (by decide) ?_
  refine Wr_sub (L' := [(0, .ref 0), (1, .int x1), (2, .int x2), (3, .int x3), (4, .ref 143)]) [0, 1, 2, 3, 4] rfl ?_
  refine Wr_aload dL_wet_0 4 rfl ?_
  refine Wr_iconstv (v := 0) dL_wet_2 (by decide) ?_
  refine Wr_aload_n dL_wet_3 rfl 0 rfl ?_
  refine Wr_iload_n dL_wet_4 rfl 1 rfl ?_
  refine Wr_iload_n dL_wet_5 rfl 2 rfl ?_
  refine Wr_iload_n dL_wet_6 rfl 3 rfl ?_
  refine Wr_cHi [.int x1, .int x2, .int x3] (g := mX8_wet) dL_wet_7 (wGm 1130 (by decide +kernel) rfl) mgX8_wet rfl mvX8_wet (zrv zl0 _ rfl rfl) rfl rfl (Nat.le_of_ble_eq_true rfl) (zcI.imp h (fun v m1 hk => ?_) (fun E m1 hk => ?_))
  · refine Wr_i2l dL_wet_10 ?_
    refine Wr_last dL_wet_11 rfl ?_
    refine Wr_goto 23 dL_wet_12 (by decide) ?_
    refine Wr_iconstv (v := 0) dL_wet_23 (by decide) ?_
    exact Wr_iret .int dL_wet_24 rfl rfl hk
  · obtain ⟨hE, hk⟩ := hk
    cases E with
    | zero =>
      refine ⟨15, 5, 2, ⟨_, [], _, _, rfl, rfl, fun z hz => absurd hz List.not_mem_nil, rfl, by decide, wL_18, rfl⟩, ⟨by decide, Or.inr ⟨dL_wet_15, rfl⟩⟩, (zLi_c (by decide) rfl (zLi_c (by decide) rfl (zLi_c (by decide) rfl (zLi_c (by decide) rfl (zLi_c (by decide) rfl zLi_n))))), ?_⟩
      refine Wr_iconstv (v := 1) dL_wet_17 (by decide) ?_
      exact Wr_iret .int dL_wet_18 rfl rfl hk
    | succ E =>
      refine ⟨19, 5, 2, ⟨_, [_], _, _, rfl, rfl, fun z hz => Or.inr ⟨Nat.succ_ne_zero _, by rw [List.mem_singleton.mp hz]; decide, by rw [List.mem_singleton.mp hz]; exact wGm 885 (by decide +kernel) rfl⟩, rfl, by decide, wL_13, rfl⟩, ⟨by decide, Or.inr ⟨dL_wet_19, rfl⟩⟩, (zLi_c (by decide) rfl (zLi_c (by decide) rfl (zLi_c (by decide) rfl (zLi_c (by decide) rfl (zLi_c (by decide) rfl zLi_n))))), ?_⟩
      refine Wr_iconstv (v := 2) dL_wet_21 (by decide) ?_
      exact Wr_iret .int dL_wet_22 rfl rfl hk
theorem mgL_wet : zMW mL_wet 5 [(0, 12, 15, 18), (0, 12, 19, 13)] := ⟨rfl, wGm 1129 (by decide +kernel) rfl, wGm 106 (by decide +kernel) rfl, by decide +kernel, by decide +kernel, by decide, wGm 1128 (by decide +kernel) rfl⟩
abbrev mL_winds : zMD := (yL_winds, cL_winds, 7, (some .int), some [(0, 14, 17, 18), (0, 14, 21, 13)])
set_option maxRecDepth 20000 in
theorem cL_winds_ {d : Nat} {x1 x2 x3 x4 : Int32} {μ : zMem} {K : zRes → zMem → Nat → Prop} (h : zcI d mX8_winds [.ref 0, .int x1, .int x2, .int x3, .int x4] μ (fun v m1 => K (.inl (some (.int 0))) (zO m1 v.toInt64) 0) (fun E m1 => ¬ c12 E = 0 ∧ K (.inl (some (.int (c12 E)))) m1 1)) : Ex (d + 1) mL_winds [.ref 0, .int x1, .int x2, .int x3, .int x4, .ref 143] μ K := by
  refine Ex_ofH (by decide +kernel) rfl rfl (w := 6) rfl (by decide) ?_
  refine Wr_sub (L' := [(0, .ref 0), (1, .int x1), (2, .int x2), (3, .int x3), (4, .int x4), (5, .ref 143)]) [0, 1, 2, 3, 4, 5] rfl ?_
  refine Wr_aload dL_winds_0 5 rfl ?_
  refine Wr_iconstv (v := 0) dL_winds_2 (by decide) ?_
  refine Wr_aload_n dL_winds_3 rfl 0 rfl ?_
  refine Wr_iload_n dL_winds_4 rfl 1 rfl ?_
  refine Wr_iload_n dL_winds_5 rfl 2 rfl ?_
  refine Wr_iload_n dL_winds_6 rfl 3 rfl ?_
  refine Wr_iload dL_winds_7 4 rfl ?_
  refine Wr_cHi [.int x1, .int x2, .int x3, .int x4] (g := mX8_winds) dL_winds_9 (wGm 1145 (by decide +kernel) rfl) mgX8_winds rfl mvX8_winds (zrv zl0 _ rfl rfl) rfl rfl (Nat.le_of_ble_eq_true rfl) (zcI.imp h (fun v m1 hk => ?_) (fun E m1 hk => ?_))
  · refine Wr_i2l dL_winds_12 ?_
    refine Wr_last dL_winds_13 rfl ?_
    refine Wr_goto 25 dL_winds_14 (by decide) ?_
    refine Wr_iconstv (v := 0) dL_winds_25 (by decide) ?_
    exact Wr_iret .int dL_winds_26 rfl rfl hk
  · obtain ⟨hE, hk⟩ := hk
    cases E with
    | zero =>
      refine ⟨17, 6, 2, ⟨_, [], _, _, rfl, rfl, fun z hz => absurd hz List.not_mem_nil, rfl, by decide, wL_18, rfl⟩, ⟨by decide, Or.inr ⟨dL_winds_17, rfl⟩⟩, (zLi_c (by decide) rfl (zLi_c (by decide) rfl (zLi_c (by decide) rfl (zLi_c (by decide) rfl (zLi_c (by decide) rfl (zLi_c (by decide) rfl zLi_n)))))), ?_⟩
      refine Wr_iconstv (v := 1) dL_winds_19 (by decide) ?_
      exact Wr_iret .int dL_winds_20 rfl rfl hk
    | succ E =>
      refine ⟨21, 6, 2, ⟨_, [_], _, _, rfl, rfl, fun z hz => Or.inr ⟨Nat.succ_ne_zero _, by rw [List.mem_singleton.mp hz]; decide, by rw [List.mem_singleton.mp hz]; exact wGm 885 (by decide +kernel) rfl⟩, rfl, by decide, wL_13, rfl⟩, ⟨by decide, Or.inr ⟨dL_winds_21, rfl⟩⟩, (zLi_c (by decide) rfl (zLi_c (by decide) rfl (zLi_c (by decide) rfl (zLi_c (by decide) rfl (zLi_c (by decide) rfl (zLi_c (by decide) rfl zLi_n)))))), ?_⟩
      refine Wr_iconstv (v := 2) dL_winds_23 (by decide) ?_
      exact Wr_iret .int dL_winds_24 rfl rfl hk
theorem mgL_winds : zMW mL_winds 6 [(0, 14, 17, 18), (0, 14, 21, 13)] := ⟨rfl, wGm 1144 (by decide +kernel) rfl, wGm 106 (by decide +kernel) rfl, by decide +kernel, by decide +kernel, by decide, wGm 1143 (by decide +kernel) rfl⟩
abbrev mL_least : zMD := (yL_least, cL_least, 7, (some .int), some [(0, 14, 17, 13)])
set_option maxRecDepth 20000 in
theorem cL_least_ {d : Nat} {x1 x2 x3 x4 : Int32} {μ : zMem} {K : zRes → zMem → Nat → Prop} (h : zcI d mX8_least [.ref 0, .int x1, .int x2, .int x3, .int x4] μ (fun v m1 => K (.inl (some (.int 0))) (zO m1 v.toInt64) 0) (fun E m1 => ¬ c11 E = 0 ∧ K (.inl (some (.int (c11 E)))) m1 1)) : Ex (d + 1) mL_least [.ref 0, .int x1, .int x2, .int x3, .int x4, .ref 143] μ K := by
  refine Ex_ofH (by decide +kernel) rfl rfl (w := 6) rfl (by decide) ?_
  refine Wr_sub (L' := [(0, .ref 0), (1, .int x1), (2, .int x2), (3, .int x3), (4, .int x4), (5, .ref 143)]) [0, 1, 2, 3, 4, 5] rfl ?_
  refine Wr_aload dL_least_0 5 rfl ?_
  refine Wr_iconstv (v := 0) dL_least_2 (by decide) ?_
  refine Wr_aload_n dL_least_3 rfl 0 rfl ?_
  refine Wr_iload_n dL_least_4 rfl 1 rfl ?_
  refine Wr_iload_n dL_least_5 rfl 2 rfl ?_
  refine Wr_iload_n dL_least_6 rfl 3 rfl ?_
  refine Wr_iload dL_least_7 4 rfl ?_
  refine Wr_cHi [.int x1, .int x2, .int x3, .int x4] (g := mX8_least) dL_least_9 (wGm 1152 (by decide +kernel) rfl) mgX8_least rfl mvX8_least (zrv zl0 _ rfl rfl) rfl rfl (Nat.le_of_ble_eq_true rfl) (zcI.imp h (fun v m1 hk => ?_) (fun E m1 hk => ?_))
  · refine Wr_i2l dL_least_12 ?_
    refine Wr_last dL_least_13 rfl ?_
    refine Wr_goto 21 dL_least_14 (by decide) ?_
    refine Wr_iconstv (v := 0) dL_least_21 (by decide) ?_
    exact Wr_iret .int dL_least_22 rfl rfl hk
  · obtain ⟨hE, hk⟩ := hk
    obtain ⟨E, rfl⟩ := c11_0 hE
    refine ⟨17, 6, 2, ⟨_, [], _, _, rfl, rfl, fun z hz => absurd hz List.not_mem_nil, rfl, by decide, wL_13, rfl⟩, ⟨by decide, Or.inr ⟨dL_least_17, rfl⟩⟩, (zLi_c (by decide) rfl (zLi_c (by decide) rfl (zLi_c (by decide) rfl (zLi_c (by decide) rfl (zLi_c (by decide) rfl (zLi_c (by decide) rfl zLi_n)))))), ?_⟩
    refine Wr_iconstv (v := 1) dL_least_19 (by decide) ?_
    exact Wr_iret .int dL_least_20 rfl rfl hk
theorem mgL_least : zMW mL_least 6 [(0, 14, 17, 13)] := ⟨rfl, wGm 1151 (by decide +kernel) rfl, wGm 106 (by decide +kernel) rfl, by decide +kernel, by decide +kernel, by decide, wGm 1150 (by decide +kernel) rfl⟩
abbrev mL_rope : zMD := (yL_rope, cL_rope, 4, (some .int), some [(0, 9, 12, 18)])
set_option maxRecDepth 20000 in
theorem cL_rope_ {d : Nat} {x1 : Int32} {μ : zMem} {K : zRes → zMem → Nat → Prop} (h : zcI d mX8_rope [.ref 0, .int x1] μ (fun v m1 => K (.inl (some (.int 0))) (zO m1 v.toInt64) 0) (fun E m1 => ¬ c10 E = 0 ∧ K (.inl (some (.int (c10 E)))) m1 1)) : Ex (d + 1) mL_rope [.ref 0, .int x1, .ref 143] μ K := by
  refine Ex_ofH (by decide +kernel) rfl rfl (w := 3) rfl (by decide) ?_
  refine Wr_sub (L' := [(0, .ref 0), (1, .int x1), (2, .ref 143)]) [0, 1, 2] rfl ?_
  refine Wr_aload_n dL_rope_0 rfl 2 rfl ?_
  refine Wr_iconstv (v := 0) dL_rope_1 (by decide) ?_
  refine Wr_aload_n dL_rope_2 rfl 0 rfl ?_
  refine Wr_iload_n dL_rope_3 rfl 1 rfl ?_
  refine Wr_cHi [.int x1] (g := mX8_rope) dL_rope_4 (wGm 1203 (by decide +kernel) rfl) mgX8_rope rfl mvX8_rope (zrv zl0 _ rfl rfl) rfl rfl (Nat.le_of_ble_eq_true rfl) (zcI.imp h (fun v m1 hk => ?_) (fun E m1 hk => ?_))
  · refine Wr_i2l dL_rope_7 ?_
    refine Wr_last dL_rope_8 rfl ?_
    refine Wr_goto 15 dL_rope_9 (by decide) ?_
    refine Wr_iconstv (v := 0) dL_rope_15 (by decide) ?_
    exact Wr_iret .int dL_rope_16 rfl rfl hk
  · obtain ⟨hE, hk⟩ := hk
    cases c10_0 hE
    refine ⟨12, 3, 1, ⟨_, [], _, _, rfl, rfl, fun z hz => absurd hz List.not_mem_nil, rfl, by decide, wL_18, rfl⟩, ⟨by decide, Or.inl ⟨3, rfl, dL_rope_12, rfl⟩⟩, (zLi_c (by decide) rfl (zLi_c (by decide) rfl (zLi_c (by decide) rfl zLi_n))), ?_⟩
    refine Wr_iconstv (v := 1) dL_rope_13 (by decide) ?_
    exact Wr_iret .int dL_rope_14 rfl rfl hk
theorem mgL_rope : zMW mL_rope 3 [(0, 9, 12, 18)] := ⟨rfl, wGm 1202 (by decide +kernel) rfl, wGm 106 (by decide +kernel) rfl, by decide +kernel, by decide +kernel, by decide, wGm 1201 (by decide +kernel) rfl⟩
abbrev mL_way : zMD := (yL_way, cL_way, 7, (some .int), some [(0, 14, 17, 18)])
set_option maxRecDepth 20000 in
theorem cL_way_ {d : Nat} {x1 x2 x3 x4 : Int32} {μ : zMem} {K : zRes → zMem → Nat → Prop} (h : zcI d mX8_way [.ref 0, .int x1, .int x2, .int x3, .int x4] μ (fun v m1 => K (.inl (some (.int 0))) (zO m1 v.toInt64) 0) (fun E m1 => ¬ c10 E = 0 ∧ K (.inl (some (.int (c10 E)))) m1 1)) : Ex (d + 1) mL_way [.ref 0, .int x1, .int x2, .int x3, .int x4, .ref 143] μ K := by
  refine Ex_ofH (by decide +kernel) rfl rfl (w := 6) rfl (by decide) ?_
  refine Wr_sub (L' := [(0, .ref 0), (1, .int x1), (2, .int x2), (3, .int x3), (4, .int x4), (5, .ref 143)]) [0, 1, 2, 3, 4, 5] rfl ?_
  refine Wr_aload dL_way_0 5 rfl ?_
  refine Wr_iconstv (v := 0) dL_way_2 (by decide) ?_
  refine Wr_aload_n dL_way_3 rfl 0 rfl ?_
  refine Wr_iload_n dL_way_4 rfl 1 rfl ?_
  refine Wr_iload_n dL_way_5 rfl 2 rfl ?_
  refine Wr_iload_n dL_way_6 rfl 3 rfl ?_
  refine Wr_iload dL_way_7 4 rfl ?_
  refine Wr_cHi [.int x1, .int x2, .int x3, .int x4] (g := mX8_way) dL_way_9 (wGm 1211 (by decide +kernel) rfl) mgX8_way rfl mvX8_way (zrv zl0 _ rfl rfl) rfl rfl (Nat.le_of_ble_eq_true rfl) (zcI.imp h (fun v m1 hk => ?_) (fun E m1 hk => ?_))
  · refine Wr_i2l dL_way_12 ?_
    refine Wr_last dL_way_13 rfl ?_
    refine Wr_goto 21 dL_way_14 (by decide) ?_
    refine Wr_iconstv (v := 0) dL_way_21 (by decide) ?_
    exact Wr_iret .int dL_way_22 rfl rfl hk
  · obtain ⟨hE, hk⟩ := hk
    cases c10_0 hE
    refine ⟨17, 6, 2, ⟨_, [], _, _, rfl, rfl, fun z hz => absurd hz List.not_mem_nil, rfl, by decide, wL_18, rfl⟩, ⟨by decide, Or.inr ⟨dL_way_17, rfl⟩⟩, (zLi_c (by decide) rfl (zLi_c (by decide) rfl (zLi_c (by decide) rfl (zLi_c (by decide) rfl (zLi_c (by decide) rfl (zLi_c (by decide) rfl zLi_n)))))), ?_⟩
    refine Wr_iconstv (v := 1) dL_way_19 (by decide) ?_
    exact Wr_iret .int dL_way_20 rfl rfl hk
theorem mgL_way : zMW mL_way 6 [(0, 14, 17, 18)] := ⟨rfl, wGm 1210 (by decide +kernel) rfl, wGm 106 (by decide +kernel) rfl, by decide +kernel, by decide +kernel, by decide, wGm 1209 (by decide +kernel) rfl⟩
abbrev mL_freed : zMD := (yL_freed, cL_freed, 4, (some .int), some [(0, 9, 12, 18)])
set_option maxRecDepth 20000 in
theorem cL_freed_ {d : Nat} {x1 : Int32} {μ : zMem} {K : zRes → zMem → Nat → Prop} (h : zcI d mX8_freed [.ref 0, .int x1] μ (fun v m1 => K (.inl (some (.int 0))) (zO m1 v.toInt64) 0) (fun E m1 => ¬ c10 E = 0 ∧ K (.inl (some (.int (c10 E)))) m1 1)) : Ex (d + 1) mL_freed [.ref 0, .int x1, .ref 143] μ K := by
  refine Ex_ofH (by decide +kernel) rfl rfl (w := 3) rfl (by decide) ?_
  refine Wr_sub (L' := [(0, .ref 0), (1, .int x1), (2, .ref 143)]) [0, 1, 2] rfl ?_
  refine Wr_aload_n dL_freed_0 rfl 2 rfl ?_
  refine Wr_iconstv (v := 0) dL_freed_1 (by decide) ?_
  refine Wr_aload_n dL_freed_2 rfl 0 rfl ?_
  refine Wr_iload_n dL_freed_3 rfl 1 rfl ?_
  refine Wr_cHi [.int x1] (g := mX8_freed) dL_freed_4 (wGm 1226 (by decide +kernel) rfl) mgX8_freed rfl mvX8_freed (zrv zl0 _ rfl rfl) rfl rfl (Nat.le_of_ble_eq_true rfl) (zcI.imp h (fun v m1 hk => ?_) (fun E m1 hk => ?_))
  · refine Wr_i2l dL_freed_7 ?_
    refine Wr_last dL_freed_8 rfl ?_
    refine Wr_goto 15 dL_freed_9 (by decide) ?_
    refine Wr_iconstv (v := 0) dL_freed_15 (by decide) ?_
    exact Wr_iret .int dL_freed_16 rfl rfl hk
  · obtain ⟨hE, hk⟩ := hk
    cases c10_0 hE
    refine ⟨12, 3, 1, ⟨_, [], _, _, rfl, rfl, fun z hz => absurd hz List.not_mem_nil, rfl, by decide, wL_18, rfl⟩, ⟨by decide, Or.inl ⟨3, rfl, dL_freed_12, rfl⟩⟩, (zLi_c (by decide) rfl (zLi_c (by decide) rfl (zLi_c (by decide) rfl zLi_n))), ?_⟩
    refine Wr_iconstv (v := 1) dL_freed_13 (by decide) ?_
    exact Wr_iret .int dL_freed_14 rfl rfl hk
theorem mgL_freed : zMW mL_freed 3 [(0, 9, 12, 18)] := ⟨rfl, wGm 1225 (by decide +kernel) rfl, wGm 106 (by decide +kernel) rfl, by decide +kernel, by decide +kernel, by decide, wGm 1224 (by decide +kernel) rfl⟩
abbrev mL_tangle : zMD := (yL_tangle, cL_tangle, 5, (some .int), some [(0, 10, 13, 18)])
set_option maxRecDepth 20000 in
theorem cL_tangle_ {d : Nat} {x1 x2 : Int32} {μ : zMem} {K : zRes → zMem → Nat → Prop} (h : zcI d mX8_tangle [.ref 0, .int x1, .int x2] μ (fun v m1 => K (.inl (some (.int 0))) (zO m1 v.toInt64) 0) (fun E m1 => ¬ c10 E = 0 ∧ K (.inl (some (.int (c10 E)))) m1 1)) : Ex (d + 1) mL_tangle [.ref 0, .int x1, .int x2, .ref 143] μ K := by
  refine Ex_ofH (by decide +kernel) rfl rfl (w := 4) rfl (by decide) ?_
  refine Wr_sub (L' := [(0, .ref 0), (1, .int x1), (2, .int x2), (3, .ref 143)]) [0, 1, 2, 3] rfl ?_
  refine Wr_aload_n dL_tangle_0 rfl 3 rfl ?_
  refine Wr_iconstv (v := 0) dL_tangle_1 (by decide) ?_
  refine Wr_aload_n dL_tangle_2 rfl 0 rfl ?_
  refine Wr_iload_n dL_tangle_3 rfl 1 rfl ?_
  refine Wr_iload_n dL_tangle_4 rfl 2 rfl ?_
  refine Wr_cHi [.int x1, .int x2] (g := mX8_tangle) dL_tangle_5 (wGm 1239 (by decide +kernel) rfl) mgX8_tangle rfl mvX8_tangle (zrv zl0 _ rfl rfl) rfl rfl (Nat.le_of_ble_eq_true rfl) (zcI.imp h (fun v m1 hk => ?_) (fun E m1 hk => ?_))
  · refine Wr_i2l dL_tangle_8 ?_
    refine Wr_last dL_tangle_9 rfl ?_
    refine Wr_goto 17 dL_tangle_10 (by decide) ?_
    refine Wr_iconstv (v := 0) dL_tangle_17 (by decide) ?_
    exact Wr_iret .int dL_tangle_18 rfl rfl hk
  · obtain ⟨hE, hk⟩ := hk
    cases c10_0 hE
    refine ⟨13, 4, 2, ⟨_, [], _, _, rfl, rfl, fun z hz => absurd hz List.not_mem_nil, rfl, by decide, wL_18, rfl⟩, ⟨by decide, Or.inr ⟨dL_tangle_13, rfl⟩⟩, (zLi_c (by decide) rfl (zLi_c (by decide) rfl (zLi_c (by decide) rfl (zLi_c (by decide) rfl zLi_n)))), ?_⟩
    refine Wr_iconstv (v := 1) dL_tangle_15 (by decide) ?_
    exact Wr_iret .int dL_tangle_16 rfl rfl hk
theorem mgL_tangle : zMW mL_tangle 4 [(0, 10, 13, 18)] := ⟨rfl, wGm 1238 (by decide +kernel) rfl, wGm 106 (by decide +kernel) rfl, by decide +kernel, by decide +kernel, by decide, wGm 1237 (by decide +kernel) rfl⟩
abbrev mL_see : zMD := (yL_see, cL_see, 6, (some .int), some [(0, 12, 15, 18)])
set_option maxRecDepth 20000 in
theorem cL_see_ {d : Nat} {x1 x2 x3 : Int32} {μ : zMem} {K : zRes → zMem → Nat → Prop} (h : zcI d mX8_see [.ref 0, .int x1, .int x2, .int x3] μ (fun v m1 => K (.inl (some (.int 0))) (zO m1 v.toInt64) 0) (fun E m1 => ¬ c10 E = 0 ∧ K (.inl (some (.int (c10 E)))) m1 1)) : Ex (d + 1) mL_see [.ref 0, .int x1, .int x2, .int x3, .ref 143] μ K := by
  refine Ex_ofH (by decide +kernel) rfl rfl (w := 5) rfl (by decide) ?_
  refine Wr_sub (L' := [(0, .ref 0), (1, .int x1), (2, .int x2), (3, .int x3), (4, .ref 143)]) [0, 1, 2, 3, 4] rfl ?_
  refine Wr_aload dL_see_0 4 rfl ?_
  refine Wr_iconstv (v := 0) dL_see_2 (by decide) ?_
  refine Wr_aload_n dL_see_3 rfl 0 rfl ?_
  refine Wr_iload_n dL_see_4 rfl 1 rfl ?_
  refine Wr_iload_n dL_see_5 rfl 2 rfl ?_
  refine Wr_iload_n dL_see_6 rfl 3 rfl ?_
  refine Wr_cHi [.int x1, .int x2, .int x3] (g := mX8_see) dL_see_7 (wGm 1250 (by decide +kernel) rfl) mgX8_see rfl mvX8_see (zrv zl0 _ rfl rfl) rfl rfl (Nat.le_of_ble_eq_true rfl) (zcI.imp h (fun v m1 hk => ?_) (fun E m1 hk => ?_))
  · refine Wr_i2l dL_see_10 ?_
    refine Wr_last dL_see_11 rfl ?_
    refine Wr_goto 19 dL_see_12 (by decide) ?_
    refine Wr_iconstv (v := 0) dL_see_19 (by decide) ?_
    exact Wr_iret .int dL_see_20 rfl rfl hk
  · obtain ⟨hE, hk⟩ := hk
    cases c10_0 hE
    refine ⟨15, 5, 2, ⟨_, [], _, _, rfl, rfl, fun z hz => absurd hz List.not_mem_nil, rfl, by decide, wL_18, rfl⟩, ⟨by decide, Or.inr ⟨dL_see_15, rfl⟩⟩, (zLi_c (by decide) rfl (zLi_c (by decide) rfl (zLi_c (by decide) rfl (zLi_c (by decide) rfl (zLi_c (by decide) rfl zLi_n))))), ?_⟩
    refine Wr_iconstv (v := 1) dL_see_17 (by decide) ?_
    exact Wr_iret .int dL_see_18 rfl rfl hk
theorem mgL_see : zMW mL_see 5 [(0, 12, 15, 18)] := ⟨rfl, wGm 1249 (by decide +kernel) rfl, wGm 106 (by decide +kernel) rfl, by decide +kernel, by decide +kernel, by decide, wGm 1248 (by decide +kernel) rfl⟩
abbrev mL_fits : zMD := (yL_fits, cL_fits, 4, (some .int), some [(0, 9, 12, 18)])
set_option maxRecDepth 20000 in
theorem cL_fits_ {d : Nat} {x1 : Int32} {μ : zMem} {K : zRes → zMem → Nat → Prop} (h : zcI d mX8_fits [.ref 0, .int x1] μ (fun v m1 => K (.inl (some (.int 0))) (zO m1 v.toInt64) 0) (fun E m1 => ¬ c10 E = 0 ∧ K (.inl (some (.int (c10 E)))) m1 1)) : Ex (d + 1) mL_fits [.ref 0, .int x1, .ref 143] μ K := by
  refine Ex_ofH (by decide +kernel) rfl rfl (w := 3) rfl (by decide) ?_
  refine Wr_sub (L' := [(0, .ref 0), (1, .int x1), (2, .ref 143)]) [0, 1, 2] rfl ?_
  refine Wr_aload_n dL_fits_0 rfl 2 rfl ?_
  refine Wr_iconstv (v := 0) dL_fits_1 (by decide) ?_
  refine Wr_aload_n dL_fits_2 rfl 0 rfl ?_
  refine Wr_iload_n dL_fits_3 rfl 1 rfl ?_
  refine Wr_cHi [.int x1] (g := mX8_fits) dL_fits_4 (wGm 1257 (by decide +kernel) rfl) mgX8_fits rfl mvX8_fits (zrv zl0 _ rfl rfl) rfl rfl (Nat.le_of_ble_eq_true rfl) (zcI.imp h (fun v m1 hk => ?_) (fun E m1 hk => ?_))
  · refine Wr_i2l dL_fits_7 ?_
    refine Wr_last dL_fits_8 rfl ?_
    refine Wr_goto 15 dL_fits_9 (by decide) ?_
    refine Wr_iconstv (v := 0) dL_fits_15 (by decide) ?_
    exact Wr_iret .int dL_fits_16 rfl rfl hk
  · obtain ⟨hE, hk⟩ := hk
    cases c10_0 hE
    refine ⟨12, 3, 1, ⟨_, [], _, _, rfl, rfl, fun z hz => absurd hz List.not_mem_nil, rfl, by decide, wL_18, rfl⟩, ⟨by decide, Or.inl ⟨3, rfl, dL_fits_12, rfl⟩⟩, (zLi_c (by decide) rfl (zLi_c (by decide) rfl (zLi_c (by decide) rfl zLi_n))), ?_⟩
    refine Wr_iconstv (v := 1) dL_fits_13 (by decide) ?_
    exact Wr_iret .int dL_fits_14 rfl rfl hk
theorem mgL_fits : zMW mL_fits 3 [(0, 9, 12, 18)] := ⟨rfl, wGm 1256 (by decide +kernel) rfl, wGm 106 (by decide +kernel) rfl, by decide +kernel, by decide +kernel, by decide, wGm 1255 (by decide +kernel) rfl⟩
abbrev mL_weighed : zMD := (yL_weighed, cL_weighed, 7, (some .int), some [(0, 14, 17, 18)])
set_option maxRecDepth 20000 in
theorem cL_weighed_ {d : Nat} {x1 x2 x3 x4 : Int32} {μ : zMem} {K : zRes → zMem → Nat → Prop} (h : zcI d mX8_weighed [.ref 0, .int x1, .int x2, .int x3, .int x4] μ (fun v m1 => K (.inl (some (.int 0))) (zO m1 v.toInt64) 0) (fun E m1 => ¬ c10 E = 0 ∧ K (.inl (some (.int (c10 E)))) m1 1)) : Ex (d + 1) mL_weighed [.ref 0, .int x1, .int x2, .int x3, .int x4, .ref 143] μ K := by
  refine Ex_ofH (by decide +kernel) rfl rfl (w := 6) rfl (by decide) ?_
  refine Wr_sub (L' := [(0, .ref 0), (1, .int x1), (2, .int x2), (3, .int x3), (4, .int x4), (5, .ref 143)]) [0, 1, 2, 3, 4, 5] rfl ?_
  refine Wr_aload dL_weighed_0 5 rfl ?_
  refine Wr_iconstv (v := 0) dL_weighed_2 (by decide) ?_
  refine Wr_aload_n dL_weighed_3 rfl 0 rfl ?_
  refine Wr_iload_n dL_weighed_4 rfl 1 rfl ?_
  refine Wr_iload_n dL_weighed_5 rfl 2 rfl ?_
  refine Wr_iload_n dL_weighed_6 rfl 3 rfl ?_
  refine Wr_iload dL_weighed_7 4 rfl ?_
  refine Wr_cHi [.int x1, .int x2, .int x3, .int x4] (g := mX8_weighed) dL_weighed_9 (wGm 1272 (by decide +kernel) rfl) mgX8_weighed rfl mvX8_weighed (zrv zl0 _ rfl rfl) rfl rfl (Nat.le_of_ble_eq_true rfl) (zcI.imp h (fun v m1 hk => ?_) (fun E m1 hk => ?_))
  · refine Wr_i2l dL_weighed_12 ?_
    refine Wr_last dL_weighed_13 rfl ?_
    refine Wr_goto 21 dL_weighed_14 (by decide) ?_
    refine Wr_iconstv (v := 0) dL_weighed_21 (by decide) ?_
    exact Wr_iret .int dL_weighed_22 rfl rfl hk
  · obtain ⟨hE, hk⟩ := hk
    cases c10_0 hE
    refine ⟨17, 6, 2, ⟨_, [], _, _, rfl, rfl, fun z hz => absurd hz List.not_mem_nil, rfl, by decide, wL_18, rfl⟩, ⟨by decide, Or.inr ⟨dL_weighed_17, rfl⟩⟩, (zLi_c (by decide) rfl (zLi_c (by decide) rfl (zLi_c (by decide) rfl (zLi_c (by decide) rfl (zLi_c (by decide) rfl (zLi_c (by decide) rfl zLi_n)))))), ?_⟩
    refine Wr_iconstv (v := 1) dL_weighed_19 (by decide) ?_
    exact Wr_iret .int dL_weighed_20 rfl rfl hk
theorem mgL_weighed : zMW mL_weighed 6 [(0, 14, 17, 18)] := ⟨rfl, wGm 1271 (by decide +kernel) rfl, wGm 106 (by decide +kernel) rfl, by decide +kernel, by decide +kernel, by decide, wGm 1270 (by decide +kernel) rfl⟩
abbrev mL_gust : zMD := (yL_gust, cL_gust, 5, (some .int), some [(0, 10, 13, 18)])
set_option maxRecDepth 20000 in
theorem cL_gust_ {d : Nat} {x1 x2 : Int32} {μ : zMem} {K : zRes → zMem → Nat → Prop} (h : zcI d mX8_gust [.ref 0, .int x1, .int x2] μ (fun v m1 => K (.inl (some (.int 0))) (zO m1 v.toInt64) 0) (fun E m1 => ¬ c10 E = 0 ∧ K (.inl (some (.int (c10 E)))) m1 1)) : Ex (d + 1) mL_gust [.ref 0, .int x1, .int x2, .ref 143] μ K := by
  refine Ex_ofH (by decide +kernel) rfl rfl (w := 4) rfl (by decide) ?_
  refine Wr_sub (L' := [(0, .ref 0), (1, .int x1), (2, .int x2), (3, .ref 143)]) [0, 1, 2, 3] rfl ?_
  refine Wr_aload_n dL_gust_0 rfl 3 rfl ?_
  refine Wr_iconstv (v := 0) dL_gust_1 (by decide) ?_
  refine Wr_aload_n dL_gust_2 rfl 0 rfl ?_
  refine Wr_iload_n dL_gust_3 rfl 1 rfl ?_
  refine Wr_iload_n dL_gust_4 rfl 2 rfl ?_
  refine Wr_cHi [.int x1, .int x2] (g := mX8_gust) dL_gust_5 (wGm 1279 (by decide +kernel) rfl) mgX8_gust rfl mvX8_gust (zrv zl0 _ rfl rfl) rfl rfl (Nat.le_of_ble_eq_true rfl) (zcI.imp h (fun v m1 hk => ?_) (fun E m1 hk => ?_))
  · refine Wr_i2l dL_gust_8 ?_
    refine Wr_last dL_gust_9 rfl ?_
    refine Wr_goto 17 dL_gust_10 (by decide) ?_
    refine Wr_iconstv (v := 0) dL_gust_17 (by decide) ?_
    exact Wr_iret .int dL_gust_18 rfl rfl hk
  · obtain ⟨hE, hk⟩ := hk
    cases c10_0 hE
    refine ⟨13, 4, 2, ⟨_, [], _, _, rfl, rfl, fun z hz => absurd hz List.not_mem_nil, rfl, by decide, wL_18, rfl⟩, ⟨by decide, Or.inr ⟨dL_gust_13, rfl⟩⟩, (zLi_c (by decide) rfl (zLi_c (by decide) rfl (zLi_c (by decide) rfl (zLi_c (by decide) rfl zLi_n)))), ?_⟩
    refine Wr_iconstv (v := 1) dL_gust_15 (by decide) ?_
    exact Wr_iret .int dL_gust_16 rfl rfl hk
theorem mgL_gust : zMW mL_gust 4 [(0, 10, 13, 18)] := ⟨rfl, wGm 1278 (by decide +kernel) rfl, wGm 106 (by decide +kernel) rfl, by decide +kernel, by decide +kernel, by decide, wGm 1277 (by decide +kernel) rfl⟩
abbrev mL_calm : zMD := (yL_calm, cL_calm, 6, (some .int), some [(0, 11, 14, 18), (0, 11, 18, 13)])
set_option maxRecDepth 20000 in
theorem cL_calm_ {d : Nat} {x1 x2 x3 : Int32} {μ : zMem} {K : zRes → zMem → Nat → Prop} (h : zcL d mX8_calm [.ref 0, .int x1, .int x2, .int x3] μ (fun v m1 => K (.inl (some (.int 0))) (zO m1 v) 0) (fun E m1 => ¬ c12 E = 0 ∧ K (.inl (some (.int (c12 E)))) m1 1)) : Ex (d + 1) mL_calm [.ref 0, .int x1, .int x2, .int x3, .ref 143] μ K := by
  refine Ex_ofH (by decide +kernel) rfl rfl (w := 5) rfl (by decide) ?_
  refine Wr_sub (L' := [(0, .ref 0), (1, .int x1), (2, .int x2), (3, .int x3), (4, .ref 143)]) [0, 1, 2, 3, 4] rfl ?_
  refine Wr_aload dL_calm_0 4 rfl ?_
  refine Wr_iconstv (v := 0) dL_calm_2 (by decide) ?_
  refine Wr_aload_n dL_calm_3 rfl 0 rfl ?_
  refine Wr_iload_n dL_calm_4 rfl 1 rfl ?_
  refine Wr_iload_n dL_calm_5 rfl 2 rfl ?_
  refine Wr_iload_n dL_calm_6 rfl 3 rfl ?_
  refine Wr_cHl [.int x1, .int x2, .int x3] (g := mX8_calm) dL_calm_7 (wGm 1297 (by decide +kernel) rfl) mgX8_calm rfl mvX8_calm (zrv zl0 _ rfl rfl) rfl rfl (Nat.le_of_ble_eq_true rfl) (zcL.imp h (fun v m1 hk => ?_) (fun E m1 hk => ?_))
  · refine Wr_last dL_calm_10 rfl ?_
    refine Wr_goto 22 dL_calm_11 (by decide) ?_
    refine Wr_iconstv (v := 0) dL_calm_22 (by decide) ?_
    exact Wr_iret .int dL_calm_23 rfl rfl hk
  · obtain ⟨hE, hk⟩ := hk
    cases E with
    | zero =>
      refine ⟨14, 5, 2, ⟨_, [], _, _, rfl, rfl, fun z hz => absurd hz List.not_mem_nil, rfl, by decide, wL_18, rfl⟩, ⟨by decide, Or.inr ⟨dL_calm_14, rfl⟩⟩, (zLi_c (by decide) rfl (zLi_c (by decide) rfl (zLi_c (by decide) rfl (zLi_c (by decide) rfl (zLi_c (by decide) rfl zLi_n))))), ?_⟩
      refine Wr_iconstv (v := 1) dL_calm_16 (by decide) ?_
      exact Wr_iret .int dL_calm_17 rfl rfl hk
    | succ E =>
      refine ⟨18, 5, 2, ⟨_, [_], _, _, rfl, rfl, fun z hz => Or.inr ⟨Nat.succ_ne_zero _, by rw [List.mem_singleton.mp hz]; decide, by rw [List.mem_singleton.mp hz]; exact wGm 885 (by decide +kernel) rfl⟩, rfl, by decide, wL_13, rfl⟩, ⟨by decide, Or.inr ⟨dL_calm_18, rfl⟩⟩, (zLi_c (by decide) rfl (zLi_c (by decide) rfl (zLi_c (by decide) rfl (zLi_c (by decide) rfl (zLi_c (by decide) rfl zLi_n))))), ?_⟩
      refine Wr_iconstv (v := 2) dL_calm_20 (by decide) ?_
      exact Wr_iret .int dL_calm_21 rfl rfl hk
theorem mgL_calm : zMW mL_calm 5 [(0, 11, 14, 18), (0, 11, 18, 13)] := ⟨rfl, wGm 1296 (by decide +kernel) rfl, wGm 106 (by decide +kernel) rfl, by decide +kernel, by decide +kernel, by decide, wGm 1295 (by decide +kernel) rfl⟩
abbrev mL_view : zMD := (yL_view, cL_view, 6, (some .int), some [(0, 12, 15, 18)])
set_option maxRecDepth 20000 in
theorem cL_view_ {d : Nat} {x1 x2 x3 : Int32} {μ : zMem} {K : zRes → zMem → Nat → Prop} (h : zcI d mX8_view [.ref 0, .int x1, .int x2, .int x3] μ (fun v m1 => K (.inl (some (.int 0))) (zO m1 v.toInt64) 0) (fun E m1 => ¬ c10 E = 0 ∧ K (.inl (some (.int (c10 E)))) m1 1)) : Ex (d + 1) mL_view [.ref 0, .int x1, .int x2, .int x3, .ref 143] μ K := by
  refine Ex_ofH (by decide +kernel) rfl rfl (w := 5) rfl (by decide) ?_
  refine Wr_sub (L' := [(0, .ref 0), (1, .int x1), (2, .int x2), (3, .int x3), (4, .ref 143)]) [0, 1, 2, 3, 4] rfl ?_
  refine Wr_aload dL_view_0 4 rfl ?_
  refine Wr_iconstv (v := 0) dL_view_2 (by decide) ?_
  refine Wr_aload_n dL_view_3 rfl 0 rfl ?_
  refine Wr_iload_n dL_view_4 rfl 1 rfl ?_
  refine Wr_iload_n dL_view_5 rfl 2 rfl ?_
  refine Wr_iload_n dL_view_6 rfl 3 rfl ?_
  refine Wr_cHi [.int x1, .int x2, .int x3] (g := mX8_view) dL_view_7 (wGm 1304 (by decide +kernel) rfl) mgX8_view rfl mvX8_view (zrv zl0 _ rfl rfl) rfl rfl (Nat.le_of_ble_eq_true rfl) (zcI.imp h (fun v m1 hk => ?_) (fun E m1 hk => ?_))
  · refine Wr_i2l dL_view_10 ?_
    refine Wr_last dL_view_11 rfl ?_
    refine Wr_goto 19 dL_view_12 (by decide) ?_
    refine Wr_iconstv (v := 0) dL_view_19 (by decide) ?_
    exact Wr_iret .int dL_view_20 rfl rfl hk
  · obtain ⟨hE, hk⟩ := hk
    cases c10_0 hE
    refine ⟨15, 5, 2, ⟨_, [], _, _, rfl, rfl, fun z hz => absurd hz List.not_mem_nil, rfl, by decide, wL_18, rfl⟩, ⟨by decide, Or.inr ⟨dL_view_15, rfl⟩⟩, (zLi_c (by decide) rfl (zLi_c (by decide) rfl (zLi_c (by decide) rfl (zLi_c (by decide) rfl (zLi_c (by decide) rfl zLi_n))))), ?_⟩
    refine Wr_iconstv (v := 1) dL_view_17 (by decide) ?_
    exact Wr_iret .int dL_view_18 rfl rfl hk
theorem mgL_view : zMW mL_view 5 [(0, 12, 15, 18)] := ⟨rfl, wGm 1303 (by decide +kernel) rfl, wGm 106 (by decide +kernel) rfl, by decide +kernel, by decide +kernel, by decide, wGm 1302 (by decide +kernel) rfl⟩
abbrev mL_debt : zMD := (yL_debt, cL_debt, 7, (some .int), some [(0, 14, 17, 18), (0, 14, 21, 13)])
set_option maxRecDepth 20000 in
theorem cL_debt_ {d : Nat} {x1 x2 x3 x4 : Int32} {μ : zMem} {K : zRes → zMem → Nat → Prop} (h : zcI d mX8_debt [.ref 0, .int x1, .int x2, .int x3, .int x4] μ (fun v m1 => K (.inl (some (.int 0))) (zO m1 v.toInt64) 0) (fun E m1 => ¬ c12 E = 0 ∧ K (.inl (some (.int (c12 E)))) m1 1)) : Ex (d + 1) mL_debt [.ref 0, .int x1, .int x2, .int x3, .int x4, .ref 143] μ K := by
  refine Ex_ofH (by decide +kernel) rfl rfl (w := 6) rfl (by decide) ?_
  refine Wr_sub (L' := [(0, .ref 0), (1, .int x1), (2, .int x2), (3, .int x3), (4, .int x4), (5, .ref 143)]) [0, 1, 2, 3, 4, 5] rfl ?_
  refine Wr_aload dL_debt_0 5 rfl ?_
  refine Wr_iconstv (v := 0) dL_debt_2 (by decide) ?_
  refine Wr_aload_n dL_debt_3 rfl 0 rfl ?_
  refine Wr_iload_n dL_debt_4 rfl 1 rfl ?_
  refine Wr_iload_n dL_debt_5 rfl 2 rfl ?_
  refine Wr_iload_n dL_debt_6 rfl 3 rfl ?_
  refine Wr_iload dL_debt_7 4 rfl ?_
  refine Wr_cHi [.int x1, .int x2, .int x3, .int x4] (g := mX8_debt) dL_debt_9 (wGm 1315 (by decide +kernel) rfl) mgX8_debt rfl mvX8_debt (zrv zl0 _ rfl rfl) rfl rfl (Nat.le_of_ble_eq_true rfl) (zcI.imp h (fun v m1 hk => ?_) (fun E m1 hk => ?_))
  · refine Wr_i2l dL_debt_12 ?_
    refine Wr_last dL_debt_13 rfl ?_
    refine Wr_goto 25 dL_debt_14 (by decide) ?_
    refine Wr_iconstv (v := 0) dL_debt_25 (by decide) ?_
    exact Wr_iret .int dL_debt_26 rfl rfl hk
  · obtain ⟨hE, hk⟩ := hk
    cases E with
    | zero =>
      refine ⟨17, 6, 2, ⟨_, [], _, _, rfl, rfl, fun z hz => absurd hz List.not_mem_nil, rfl, by decide, wL_18, rfl⟩, ⟨by decide, Or.inr ⟨dL_debt_17, rfl⟩⟩, (zLi_c (by decide) rfl (zLi_c (by decide) rfl (zLi_c (by decide) rfl (zLi_c (by decide) rfl (zLi_c (by decide) rfl (zLi_c (by decide) rfl zLi_n)))))), ?_⟩
      refine Wr_iconstv (v := 1) dL_debt_19 (by decide) ?_
      exact Wr_iret .int dL_debt_20 rfl rfl hk
    | succ E =>
      refine ⟨21, 6, 2, ⟨_, [_], _, _, rfl, rfl, fun z hz => Or.inr ⟨Nat.succ_ne_zero _, by rw [List.mem_singleton.mp hz]; decide, by rw [List.mem_singleton.mp hz]; exact wGm 885 (by decide +kernel) rfl⟩, rfl, by decide, wL_13, rfl⟩, ⟨by decide, Or.inr ⟨dL_debt_21, rfl⟩⟩, (zLi_c (by decide) rfl (zLi_c (by decide) rfl (zLi_c (by decide) rfl (zLi_c (by decide) rfl (zLi_c (by decide) rfl (zLi_c (by decide) rfl zLi_n)))))), ?_⟩
      refine Wr_iconstv (v := 2) dL_debt_23 (by decide) ?_
      exact Wr_iret .int dL_debt_24 rfl rfl hk
theorem mgL_debt : zMW mL_debt 6 [(0, 14, 17, 18), (0, 14, 21, 13)] := ⟨rfl, wGm 1314 (by decide +kernel) rfl, wGm 106 (by decide +kernel) rfl, by decide +kernel, by decide +kernel, by decide, wGm 1313 (by decide +kernel) rfl⟩
abbrev mL_rich : zMD := (yL_rich, cL_rich, 5, (some .int), some [(0, 10, 13, 13)])
set_option maxRecDepth 20000 in
theorem cL_rich_ {d : Nat} {x1 x2 : Int32} {μ : zMem} {K : zRes → zMem → Nat → Prop} (h : zcI d mX8_rich [.ref 0, .int x1, .int x2] μ (fun v m1 => K (.inl (some (.int 0))) (zO m1 v.toInt64) 0) (fun E m1 => ¬ c11 E = 0 ∧ K (.inl (some (.int (c11 E)))) m1 1)) : Ex (d + 1) mL_rich [.ref 0, .int x1, .int x2, .ref 143] μ K := by
  refine Ex_ofH (by decide +kernel) rfl rfl (w := 4) rfl (by decide) ?_
  refine Wr_sub (L' := [(0, .ref 0), (1, .int x1), (2, .int x2), (3, .ref 143)]) [0, 1, 2, 3] rfl ?_
  refine Wr_aload_n dL_rich_0 rfl 3 rfl ?_
  refine Wr_iconstv (v := 0) dL_rich_1 (by decide) ?_
  refine Wr_aload_n dL_rich_2 rfl 0 rfl ?_
  refine Wr_iload_n dL_rich_3 rfl 1 rfl ?_
  refine Wr_iload_n dL_rich_4 rfl 2 rfl ?_
  refine Wr_cHi [.int x1, .int x2] (g := mX8_rich) dL_rich_5 (wGm 1331 (by decide +kernel) rfl) mgX8_rich rfl mvX8_rich (zrv zl0 _ rfl rfl) rfl rfl (Nat.le_of_ble_eq_true rfl) (zcI.imp h (fun v m1 hk => ?_) (fun E m1 hk => ?_))
  · refine Wr_i2l dL_rich_8 ?_
    refine Wr_last dL_rich_9 rfl ?_
    refine Wr_goto 17 dL_rich_10 (by decide) ?_
    refine Wr_iconstv (v := 0) dL_rich_17 (by decide) ?_
    exact Wr_iret .int dL_rich_18 rfl rfl hk
  · obtain ⟨hE, hk⟩ := hk
    obtain ⟨E, rfl⟩ := c11_0 hE
    refine ⟨13, 4, 2, ⟨_, [], _, _, rfl, rfl, fun z hz => absurd hz List.not_mem_nil, rfl, by decide, wL_13, rfl⟩, ⟨by decide, Or.inr ⟨dL_rich_13, rfl⟩⟩, (zLi_c (by decide) rfl (zLi_c (by decide) rfl (zLi_c (by decide) rfl (zLi_c (by decide) rfl zLi_n)))), ?_⟩
    refine Wr_iconstv (v := 1) dL_rich_15 (by decide) ?_
    exact Wr_iret .int dL_rich_16 rfl rfl hk
theorem mgL_rich : zMW mL_rich 4 [(0, 10, 13, 13)] := ⟨rfl, wGm 1330 (by decide +kernel) rfl, wGm 106 (by decide +kernel) rfl, by decide +kernel, by decide +kernel, by decide, wGm 1329 (by decide +kernel) rfl⟩
abbrev mL_week : zMD := (yL_week, cL_week, 5, (some .int), some [(0, 10, 13, 18)])
set_option maxRecDepth 20000 in
theorem cL_week_ {d : Nat} {x1 x2 : Int32} {μ : zMem} {K : zRes → zMem → Nat → Prop} (h : zcI d mX8_week [.ref 0, .int x1, .int x2] μ (fun v m1 => K (.inl (some (.int 0))) (zO m1 v.toInt64) 0) (fun E m1 => ¬ c10 E = 0 ∧ K (.inl (some (.int (c10 E)))) m1 1)) : Ex (d + 1) mL_week [.ref 0, .int x1, .int x2, .ref 143] μ K := by
  refine Ex_ofH (by decide +kernel) rfl rfl (w := 4) rfl (by decide) ?_
  refine Wr_sub (L' := [(0, .ref 0), (1, .int x1), (2, .int x2), (3, .ref 143)]) [0, 1, 2, 3] rfl ?_
  refine Wr_aload_n dL_week_0 rfl 3 rfl ?_
  refine Wr_iconstv (v := 0) dL_week_1 (by decide) ?_
  refine Wr_aload_n dL_week_2 rfl 0 rfl ?_
  refine Wr_iload_n dL_week_3 rfl 1 rfl ?_
  refine Wr_iload_n dL_week_4 rfl 2 rfl ?_
  refine Wr_cHi [.int x1, .int x2] (g := mX8_week) dL_week_5 (wGm 1338 (by decide +kernel) rfl) mgX8_week rfl mvX8_week (zrv zl0 _ rfl rfl) rfl rfl (Nat.le_of_ble_eq_true rfl) (zcI.imp h (fun v m1 hk => ?_) (fun E m1 hk => ?_))
  · refine Wr_i2l dL_week_8 ?_
    refine Wr_last dL_week_9 rfl ?_
    refine Wr_goto 17 dL_week_10 (by decide) ?_
    refine Wr_iconstv (v := 0) dL_week_17 (by decide) ?_
    exact Wr_iret .int dL_week_18 rfl rfl hk
  · obtain ⟨hE, hk⟩ := hk
    cases c10_0 hE
    refine ⟨13, 4, 2, ⟨_, [], _, _, rfl, rfl, fun z hz => absurd hz List.not_mem_nil, rfl, by decide, wL_18, rfl⟩, ⟨by decide, Or.inr ⟨dL_week_13, rfl⟩⟩, (zLi_c (by decide) rfl (zLi_c (by decide) rfl (zLi_c (by decide) rfl (zLi_c (by decide) rfl zLi_n)))), ?_⟩
    refine Wr_iconstv (v := 1) dL_week_15 (by decide) ?_
    exact Wr_iret .int dL_week_16 rfl rfl hk
theorem mgL_week : zMW mL_week 4 [(0, 10, 13, 18)] := ⟨rfl, wGm 1337 (by decide +kernel) rfl, wGm 106 (by decide +kernel) rfl, by decide +kernel, by decide +kernel, by decide, wGm 1336 (by decide +kernel) rfl⟩
