/-! the law's loop -/
def swL : List Nat := [164, 237, 293, 306, 362, 430, 498, 578, 677, 745, 813, 897, 965, 1052, 1144, 1157, 1237, 1317, 1397, 1489, 1597, 1653, 1745, 1798, 1811, 1867, 1935, 2015, 2071, 2163, 2231, 2310, 2390, 2482, 2550, 2618, 2629]
theorem swT : ∀ j, j ≤ 36 → (#[164, 237, 293, 306, 362, 430, 498, 578, 677, 745, 813, 897, 965, 1052, 1144, 1157, 1237, 1317, 1397, 1489, 1597, 1653, 1745, 1798, 1811, 1867, 1935, 2015, 2071, 2163, 2231, 2310, 2390, 2482, 2550, 2618, 2629] : Array Int)[j]? = some ((swL.getD j 0 : Nat) : Int) := by decide +kernel
section LawL
variable {G : LG} {Ls : Nat} {xs : Nat → Int32} {kc : Nat} {L : List (Nat × Value)} {μ : zMem}
theorem LW_end (F : LF G Ls xs) (hc : kc ≤ 3000) : LW G kc 2688 L [] μ := by
  obtain ⟨D, cA, ad, p, l, e, s, m, below, meth, c, b⟩ := G
  intro H locs ls hP hS hl
  obtain ⟨F0, hX, hbl, hA, h3072⟩ := F
  refine va_forget (fun q hq => ?_) ?_
  · rcases hS.2.2 q hq with ⟨k, hk, e9⟩ | e9
    · rw [e9]; exact hA k hk
    · exact e9
  · refine lv_iconst (v := 1) F0.1 F0.2.1 dL_law_2688 (by decide) ?_
    refine W.widen (k := 601024) (n := 7293033) (by omega) (by omega) ?_
    exact lw_ret F0.1 F0.2.1 F0.2.2.1 F0.2.2.2.2.2.2.1 dL_law_2689
theorem LW_head (F : LF G Ls xs) {t : Nat} (ht : t ≤ 4000) (h0 : ¬ t + 6 ≤ Ls → LW G kc 2688 (LL G t) [] μ) (h1 : t + 6 ≤ Ls → LW G kc 33 (LL G t) [] μ) : LW G kc 23 (LL G t) [] μ := by
  refine LW_il F dL_law_23 4 rfl ?_
  obtain ⟨D, cA, ad, p, l, e, s, m, below, meth, c, b⟩ := G
  intro H locs ls hP hS hl
  obtain ⟨F0, hX, hbl, hA, h3072⟩ := F
  have hx := F0.1
  have hb := F0.2.1
  have hnb : ¬ zA ad s.heap.size b := by
    rintro (⟨k, hk, e9⟩ | e9)
    · have := hA k hk
      omega
    · omega
  refine lv_aload_n hx hb dL_law_25 rfl (lv_at hl 0 rfl) ?_
  refine va_slen hx hb hX hbl hnb hS dL_law_26 ?_
  refine lv_bipush (v := 6) hx hb dL_law_27 (by decide) ?_
  refine lv_isub hx hb dL_law_29 ?_
  have i6 : (6 : Int32).toInt = 6 := by decide
  have iL : (Int32.ofNat Ls).toInt = Ls := n_i (n := Ls) (by omega)
  have iS : (Int32.ofNat Ls - 6).toInt = (Ls : Int) - 6 := by rw [i_sub (by rw [iL, i6]; omega) (by rw [iL, i6]; omega), iL, i6]
  have iT : (nI t).toInt = t := n_i (by omega)
  refine lv_icmp_gt (tgt := 2688) hx hb dL_law_30 (by decide) (fun z => ?_) (fun z => ?_)
  · rw [i_lt, iS, iT] at z
    exact h0 (by omega) H locs ls hP hS hl
  · rw [i_lt, iS, iT] at z
    exact h1 (by omega) H locs ls hP hS hl
theorem LW_step (F : LF G Ls xs) {t : Nat} (h : LW G kc 23 (LL G (t + 6)) [] μ) : LW G kc 2682 (LL G t) [] μ := by
  obtain ⟨D, cA, ad, p, l, e, s, m, below, meth, c, b⟩ := G
  intro H locs ls hP hS hl
  have hx := F.1.1
  have hb := F.1.2.1
  refine lv_iinc (v := nI (t + 6)) (k := 4) hx hb dL_law_2682 hl rfl ?_ (by decide) rfl (fun ls' hls => ?_)
  · rw [show Int32.ofInt 6 = nI 6 from by decide, nI_add]
  · refine lv_goto (tgt := 23) hx hb dL_law_2685 (by decide) ?_
    exact h H locs ls' hP hS (lv_sub hls [1, 2, 3, 4, 0] rfl)
/-- the switch -/
theorem LW_sw (F : LF G Ls xs) {t : Nat} (ht : t + 6 ≤ Ls) (h : ∀ j, j < 64 → LW G kc (if j ≤ 36 then 40 + swL.getD j 0 else 2682) (LL G t) [] μ) : LW G kc 33 (LL G t) [] μ := by
  obtain ⟨D, cA, ad, p, l, e, s, m, below, meth, c, b⟩ := G
  intro H locs ls hP hS hl
  obtain ⟨F0, hX, hbl, hA, h3072⟩ := F
  have hx := F0.1
  have hb := F0.2.1
  have hnb : ¬ zA ad s.heap.size b := by
    rintro (⟨k, hk, e9⟩ | e9)
    · have := hA k hk
      omega
    · omega
  refine lv_aload_n hx hb dL_law_33 rfl (lv_at hl 0 rfl) ?_
  refine lv_iload hx hb dL_law_34 (lv_at hl 4 rfl) ?_
  refine va_sld hx hb hX hbl hnb hS (vp_in_nI (by omega) (by omega)) dL_law_36 ?_
  refine lv_bipush (v := 63) hx hb dL_law_37 (by decide) ?_
  refine lv_iand hx hb dL_law_39 ?_
  obtain ⟨j, hj, ej⟩ := pk_andE (xs (nI t).toNatClampNeg) (m := 63) 6 (by decide)
  rw [ej]
  have hj : j < 64 := hj
  have ij : (nI j).toInt = j := n_i (by omega)
  by_cases z : j ≤ 36
  · have hh := h j hj H locs ls hP hS hl
    rw [if_pos z] at hh
    refine lv_tableIn (tgt := 40 + swL.getD j 0) (off := ((swL.getD j 0 : Nat) : Int)) hx hb dL_law_40 (by rw [ij]; omega) (by rw [ij]; omega) ?_ (by omega) hh
    rw [ij, show ((j : Int) - 0).toNat = j by omega]
    exact swT j z
  · have hh := h j hj H locs ls hP hS hl
    rw [if_neg z] at hh
    exact lv_tableOut (tgt := 2682) hx hb dL_law_40 (by rw [ij]; omega) (by decide) hh
theorem LW_body (F : LF G Ls xs) {t : Nat} (ht : t + 6 ≤ Ls) (hc : kc ≤ 1990) (hQ : QI μ) (fin : ∀ μ', QI μ' → LW G (kc + 3) 2682 (LL G t) [] μ') : LW G kc 33 (LL G t) [] μ := by
  refine LW_sw F ht (fun j hj => ?_)
  by_cases z : j ≤ 36
  · rw [if_pos z]
    match j, z with
    | 0, _ => exact lc_0 F ht hc hQ fin
    | 1, _ => exact lc_1 F ht hc hQ fin
    | 2, _ => exact lc_2 F ht hc hQ fin
    | 3, _ => exact lc_3 F ht hc hQ fin
    | 4, _ => exact lc_4 F ht hc hQ fin
    | 5, _ => exact lc_5 F ht hc hQ fin
    | 6, _ => exact lc_6 F ht hc hQ fin
    | 7, _ => exact lc_7 F ht hc hQ fin
    | 8, _ => exact lc_8 F ht hc hQ fin
    | 9, _ => exact lc_9 F ht hc hQ fin
    | 10, _ => exact lc_10 F ht hc hQ fin
    | 11, _ => exact lc_11 F ht hc hQ fin
    | 12, _ => exact lc_12 F ht hc hQ fin
    | 13, _ => exact lc_13 F ht hc hQ fin
    | 14, _ => exact lc_14 F ht hc hQ fin
    | 15, _ => exact lc_15 F ht hc hQ fin
    | 16, _ => exact lc_16 F ht hc hQ fin
    | 17, _ => exact lc_17 F ht hc hQ fin
    | 18, _ => exact lc_18 F ht hc hQ fin
    | 19, _ => exact lc_19 F ht hc hQ fin
    | 20, _ => exact lc_20 F ht hc hQ fin
    | 21, _ => exact lc_21 F ht hc hQ fin
    | 22, _ => exact lc_22 F ht hc hQ fin
    | 23, _ => exact lc_23 F ht hc hQ fin
    | 24, _ => exact lc_24 F ht hc hQ fin
    | 25, _ => exact lc_25 F ht hc hQ fin
    | 26, _ => exact lc_26 F ht hc hQ fin
    | 27, _ => exact lc_27 F ht hc hQ fin
    | 28, _ => exact lc_28 F ht hc hQ fin
    | 29, _ => exact lc_29 F ht hc hQ fin
    | 30, _ => exact lc_30 F ht hc hQ fin
    | 31, _ => exact lc_31 F ht hc hQ fin
    | 32, _ => exact lc_32 F ht hc hQ fin
    | 33, _ => exact lc_33 F ht hc hQ fin
    | 34, _ => exact lc_34 F ht hc hQ fin
    | 35, _ => exact lc_35 F ht hc hQ fin
    | 36, _ => exact lc_36 F ht hc hQ fin
    | j + 37, z => exact absurd z (by omega)
  · rw [if_neg z]
    exact LW.le (kc' := kc + 3) (by omega) (fin _ hQ)
theorem law_loop (F : LF G Ls xs) : ∀ (m r : Nat) (μ : zMem), Ls ≤ 6 * (r + m) → r ≤ 512 → QI μ → LW G (200 + 3 * r) 23 (LL G (6 * r)) [] μ := by
  have h3072 : Ls ≤ 3072 := by
    obtain ⟨D, cA, ad, p, l, e, s, m, below, meth, c, b⟩ := G
    exact F.2.2.2.2
  intro m
  induction m with
  | zero =>
    intro r μ h1 h2 hQ
    exact LW_head F (by omega) (fun _ => LW_end F (by omega)) (fun z => absurd z (by omega))
  | succ m ih =>
    intro r μ h1 h2 hQ
    refine LW_head F (by omega) (fun _ => LW_end F (by omega)) (fun z => LW_body F z (by omega) hQ (fun μ' q => LW_step F ?_))
    exact ih (r + 1) μ' (by omega) (by omega) q
end LawL
