/-! the law from its entry -/
theorem zD0 {base : Nat} {adK adV : Nat → Nat} {t3 : Nat} : zD (zAd base adK adV t3) := by
  intro i j hi hj e
  have hi : i < 144 := hi
  have hj : j < 144 := hj
  rw [zAd_c (by omega), zAd_c (by omega)] at e
  omega
theorem zA0 {base : Nat} {adK adV : Nat → Nat} {t3 : Nat} : ∀ q, zA (zAd base adK adV t3) base q ↔ base ≤ q := by
  intro q
  constructor
  · rintro (⟨k, hk, rfl⟩ | h)
    · have hk : k < 144 := hk
      rw [zAd_c (by omega)]
      omega
    · exact h
  · exact Or.inr
theorem zF0 {args : Array Value} {s : State} {ad : Nat → Nat} {adK adV : Nat → Nat} {t3 : Nat} (hts : ∀ w ∈ lw_tbl, w.before args s = true) (hfl : ∀ w ∈ zFl, w.before args s = true)
    (hK : ∀ i, i < 42 → (zTm i).eval args s none [] s = some (.ref (adK i)) ∧ va_O "java/lang/String" (adK i) (fun q => s.heap.size ≤ q) s s.heap)
    (hV : ∀ i, i < 31 → va_OF "java/lang/String" "coder" "B" (.int 0) (adK i) (fun q => s.heap.size ≤ q) s s.heap ∧ va_OF "java/lang/String" "value" "[B" (.ref (adV i)) (adK i) (fun q => s.heap.size ≤ q) s s.heap ∧ va_T .byte (adV i) (zlen i) (fun j => .int (zbyt i j)) (fun q => s.heap.size ≤ q) s s.heap)
    (hU : vx_Zq Bundle.tN "UNASSIGNED_STACK" Bundle.steD (fun q => s.heap.size ≤ q) s s.heap) (hN : vx_Zq Bundle.tN "SUPPRESSED_SENTINEL" Bundle.listD (fun q => s.heap.size ≤ q) s s.heap) (hZ : va_Z "java/lang/String" "COMPACT_STRINGS" "Z" (.int 1) (fun q => s.heap.size ≤ q) s s.heap)
    (hP : va_Z "jdk/internal/util/Preconditions" "SIOOBE_FORMATTER" "Ljava/util/function/BiFunction;" .null (fun q => s.heap.size ≤ q) s s.heap ∨ va_Z "jdk/internal/util/Preconditions" "SIOOBE_FORMATTER" "Ljava/util/function/BiFunction;" (.ref t3) (fun q => s.heap.size ≤ q) s s.heap) :
    zF (zAd s.heap.size adK adV t3) (zA (zAd s.heap.size adK adV t3) s.heap.size) s s.heap := by
  refine zF.go (A := fun q => s.heap.size ≤ q) (s := s) (H := s.heap) ⟨fun i hi => ?_, fun q hq => ?_, hU, hN, hZ, hP, zNw_of hts hfl⟩ (State.WarmedH.refl s) (fun _ _ _ => rfl) (fun q hq => (zA0 q).mp hq)
  · have hi : i < 31 := hi
    unfold zS1
    rw [zAd_K (by omega), zAd_V (by omega)]
    exact ⟨(hK i (by omega)).2, hV i hi⟩
  · have h42 := (zSd_ok q hq).1
    rw [zAd_K (by omega)]
    exact zR_of hts (fun i hi => (hK i hi).1) q hq
theorem hfX8 : ∀ j, j < 15 → defaultValue (tyX8 j) = vp_V [.null, .int 0, .null, .int 0, .null, .null, .null, .null, .int 0, .null, .null, .null, .null, .null, .null] j := by decide +kernel
theorem hfX9 : ∀ j, j < 64 → defaultValue (tyX9 j) = vp_V [.null, .null, .null, .int 0, .null, .null, .null, .null, .null, .null, .null, .null, .int 0, .int 0, .int 0, .int 0, .int 0, .int 0, .int 0, .int 0, .int 0, .int 0, .null, .null, .null, .null, .null, .int 0, .int 0, .int 0, .int 0, .int 0, .null, .null, .null, .null, .int 0, .int 0, .int 0, .int 0, .int 0, .int 0, .int 0, .null, .null, .null, .null, .null, .null, .null, .null, .null, .int 0, .int 0, .int 0, .int 0, .int 0, .null, .null, .null, .null, .null, .null, .null] j := by decide +kernel
theorem zZ9.call {sa : Nat → Nat} {h : Nat} {U : State} {a : Array Value} {g : JFrame} {mk : MethodId} (hz : zZ9 sa h U) : zZ9 sa h (U.calling g mk a) :=
  ⟨fun q hq => vk_R.same (u := U) rfl (hz.1 q hq), fun i hi => va_O.moved (u := U) (Vm.Alike.refl U.vm) (hz.2.1 i hi), va_AO.moved (u := U) (Vm.Alike.refl U.vm) hz.2.2⟩
set_option maxHeartbeats 4000000 in
theorem whole_start {p : Program} {e : Env} {s : State} {m : MethodId} {below : List Frame} {meth : Method} {c : Code} (l : Launch) (hflags : l.flags = flags0) {b L : Nat} {xs : Nat → Int32} (hL : L ≤ 3072) (C0 : lw_At p s m meth c b L xs) : W p l e room_1 s m #[Value.ref b] below meth c s.heap [] 0 0 (lw_Z below #[Value.ref b] s) (entryFrame m ([Value.ref b] : List Value).toArray 8) := by
  obtain ⟨hx, hb, hr, hml, hown, hts, hX, hbl, hlk, hgv⟩ := C0
  have hfl : ∀ w ∈ zFl, w.before #[Value.ref b] s = true := flat_of_before _ hgv
  obtain ⟨D, cA, hK⟩ := zK_of hts
  obtain ⟨adK, adV, hS1, hS2⟩ := zS_of (A := fun q => s.heap.size ≤ q) hfl (fun a h1 h2 => by have h2 : s.heap.size ≤ a := h2; omega)
  obtain ⟨t3, hU, hN, hZ, hP⟩ := zStat_of (A := fun q => s.heap.size ≤ q) hts hfl (fun a h1 h2 => by have h2 : s.heap.size ≤ a := h2; omega)
  have htr : l.stackTraces = false := by
    unfold Launch.stackTraces
    rw [hflags]
    decide
  have hwG : ∀ w ∈ wG, w.before #[Value.ref b] s = true := fun w hw => hts w (wG_tbl hw)
  have hF := zF0 (ad := fun q => q) (adK := adK) (adV := adV) (t3 := t3) hts hfl hS1 hS2 hU hN hZ hP
  have FX : zFix mL_law 100 D cA (zAd s.heap.size adK adV t3) p l room_1 s m #[Value.ref b] meth c := ⟨hx, hb, hr, hml, hown, hwG, hlk, fun hh h => (by cases h), htr, (by decide), (by decide), hK, zD0, hF⟩
  have F : zFB mL_law 100 D cA p l room_1 s m #[Value.ref b] meth c := ⟨hx, hb, hr, hml, hown, hwG, hlk, (by decide), (by decide), hK⟩
  have hNn := zNn_of hts
  have hR9 := zR_of (adK := adK) hts (fun i hi => (hS1 i hi).1)
  have hAO := zAOs hts
  generalize hbase : s.heap.size = base at *
  have hl := lv_entry [Value.ref b] (n := 8) (show 1 ≤ 8 by decide)
  rw [lg_entry_eq]
  have hB : zB D base [] s.heap := ⟨hbase, fun k q hq => by cases hq⟩
  refine bd_new (d := 99) base [.null, .int 0, .null, .int 0, .null, .null, .null, .null, .int 0, .null, .null, .null, .null, .null, .null] F hB va_S.rf rfl (ci := 8) (C := RX8) (T := TX8) (N := 15) rfl tyX8 tyX8_ok hfX8 (wGm 130 (by decide +kernel) rfl) (wGm 131 (by decide +kernel) rfl) (wGm 107 (by decide +kernel) rfl) mgX8_init rfl rfl miX8_init rfl (wGm 132 (by decide +kernel) rfl) (iX8 (d := 97)) (fun _ _ _ _ h => zNn.call h) (fun _ _ _ _ hW => hNn.warm hW) dL_law_0 dL_law_3 dL_law_4 (Nat.le_of_ble_eq_true rfl) (Nat.le_of_ble_eq_true rfl) (Nat.le_of_ble_eq_true rfl) hl.1 (fun H1 locs1 hB hS => ?_)
  have hB : zB D base (eX8 cA base) H1 := hB
  refine lv_astore_n (lv' := [(1, .ref base), (0, .ref b)]) hx hb dL_law_7 rfl hl (by decide) rfl (fun ls2 hl2 => ?_)
  refine bd_new (d := 99) (base + 106) [.null, .null, .null, .int 0, .null, .null, .null, .null, .null, .null, .null, .null, .int 0, .int 0, .int 0, .int 0, .int 0, .int 0, .int 0, .int 0, .int 0, .int 0, .null, .null, .null, .null, .null, .int 0, .int 0, .int 0, .int 0, .int 0, .null, .null, .null, .null, .int 0, .int 0, .int 0, .int 0, .int 0, .int 0, .int 0, .null, .null, .null, .null, .null, .null, .null, .null, .null, .int 0, .int 0, .int 0, .int 0, .int 0, .null, .null, .null, .null, .null, .null, .null] F hB hS rfl (ci := 9) (C := RX9) (T := TX9) (N := 64) rfl tyX9 tyX9_ok hfX9 (wGm 1354 (by decide +kernel) rfl) (wGm 1355 (by decide +kernel) rfl) (wGm 116 (by decide +kernel) rfl) mgX9_init rfl rfl miX9_init rfl (wGm 1356 (by decide +kernel) rfl) (iX9 (d := 99) (sa := adK)) (fun _ _ _ _ h => zZ9.call h) (fun H1 U hS hUH hW => ?_) dL_law_8 dL_law_11 dL_law_12 (Nat.le_of_ble_eq_true rfl) (Nat.le_of_ble_eq_true rfl) (Nat.le_of_ble_eq_true rfl) hl2.1 (fun H2 locs2 hB hS => ?_)
  · refine ⟨fun q hq => (hR9 q hq).warm hW, fun i hi => ?_, hAO.moved hW.alike⟩
    have hi : i < 31 := hi
    rw [hUH]
    exact (((hS1 i (by omega)).2.moved hW.alike).kept hS.2.1).narrow (fun q hq => by have hq : base + 106 ≤ q := hq; show base ≤ q; omega)
  · refine lv_astore_n (lv' := [(2, .ref (base + 106)), (1, .ref base), (0, .ref b)]) hx hb dL_law_15 rfl hl2 (by decide) rfl (fun ls3 hl3 => ?_)
    refine lv_iconst (v := 1) hx hb dL_law_16 (by decide) ?_
    refine bd_newa (at9 := .long) 3 1 (base + 143) (1, .inr (.inl fun _ => 0)) F hB hS wA_long rfl (fun _ => rfl) rfl (by decide) (by decide) (by decide) (Nat.le_of_ble_eq_true rfl) (Nat.le_of_ble_eq_true rfl) dL_law_17 (fun H3 hB hS => ?_)
    refine lv_astore_n (lv' := [(3, .ref (base + 143)), (2, .ref (base + 106)), (1, .ref base), (0, .ref b)]) hx hb dL_law_19 rfl hl3 (by decide) rfl (fun ls4 hl4 => ?_)
    refine lv_iconst (v := 0) hx hb dL_law_20 (by decide) ?_
    refine lv_istore (lv' := [(4, .int 0), (3, .ref (base + 143)), (2, .ref (base + 106)), (1, .ref base), (0, .ref b)]) hx hb dL_law_21 hl4 (by decide) rfl (fun ls5 hl5 => ?_)
    rw [List.append_assoc] at hB
    have hP0 := zP0 (adK := adK) (adV := adV) (t3 := t3) hB
    have LFx : LF (D, cA, zAd base adK adV t3, p, l, e, s, m, below, meth, c, b) L xs := ⟨FX, hX, by omega, fun k hk => by
      have hk : k < 144 := hk
      rw [zAd_c (by omega)]
      omega, hL⟩
    have hloop := law_loop LFx 513 0 zμ0 (by omega) (by decide) QI0
    refine W.widen (k := 200) (n := 100000 + 200 * 6) (by omega) (by omega) ?_
    refine hloop H3 locs2 ls5 hP0 ?_ (lv_sub hl5 [4, 3, 2, 1, 0] rfl)
    rw [show zA (zAd base adK adV t3) s.heap.size = fun q => base ≤ q from by rw [hbase]; funext q; exact propext (zA0 q)]
    exact hS
