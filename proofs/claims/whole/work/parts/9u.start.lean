/-! what the law's start gives -/
def zTm (i : Nat) : Term := .string ((zstrs.getD i ("", 0, "", 0)).1) ((zstrs.getD i ("", 0, "", 0)).2.1)
def zFl : List Cond := flatC (Jvm.Cond.and given_1 narrow_1)
def zPs (i : Nat) : Nat := ([80, 134, 224, 216, 160, 168, 67, 445, 453, 461, 469, 478, 486, 495, 503, 511, 521, 529, 538, 548, 556, 563, 616, 623, 630, 571, 581, 590, 599, 608, 636, 33, 231, 264, 363, 396, 417, 248, 291, 307, 347, 331] : List Nat).getD i 0
def zSw (i : Nat) : List Cond := [.exactly (zTm i) "java/lang/String", .eq (.field (zTm i) "java/lang/String" "coder" "B") (.int 0), .arrayOf (.field (zTm i) "java/lang/String" "value" "[B") .byte, .eq (.length (.field (zTm i) "java/lang/String" "value" "[B")) (.int (Int32.ofNat (zlen i)))] ++ (List.range (zlen i)).map fun j => .eq (.elem (.field (zTm i) "java/lang/String" "value" "[B") (.int (Int32.ofNat j))) (.int (zbyt i j))
theorem zSw_ok : ∀ i, i < 31 → zSw i = (zFl.drop (zPs i)).take (4 + zlen i) := by decide +kernel
theorem zSx_ok : ∀ i, i < 42 → zFl[zPs i]? = some (.exactly (zTm i) "java/lang/String") := by decide +kernel
theorem zSp_ok : (List.range 42).map (fun i => some (Cond.stringRef (zstrs.getD i ("", 0, "", 0)).1 (zstrs.getD i ("", 0, "", 0)).2.1 (zstrs.getD i ("", 0, "", 0)).2.2.1)) = [721, 780, 849, 848, 809, 834, 634, 1362, 1363, 1364, 1365, 1366, 1367, 1368, 1369, 1370, 1371, 1372, 1373, 1374, 1375, 1376, 1655, 1676, 1677, 1608, 1615, 1616, 1617, 1618, 1682, 578, 899, 936, 1156, 1207, 1235, 921, 947, 951, 1114, 1019].map (fun i => lw_tbl[i]?) := by decide +kernel
theorem zSl_ok : ∀ i, i < 31 → zlen i < 2 ^ 31 := by decide +kernel
theorem zSd_ok : ∀ q ∈ zstrs, q.2.2.2 < 42 ∧ zstrs.getD q.2.2.2 ("", 0, "", 0) = q := by decide +kernel
section Start
variable {args : Array Value} {s : State} {A : Nat → Prop}
theorem zSw_in {i : Nat} (hi : i < 31) {w : Cond} (hw : w ∈ zSw i) : w ∈ zFl := by
  rw [zSw_ok i hi] at hw
  exact List.mem_of_mem_drop (List.mem_of_mem_take hw)
theorem zS_of (hfl : ∀ w ∈ zFl, w.before args s = true) (hA : ∀ a : Nat, a < s.heap.size → ¬ A a) : ∃ adK adV : Nat → Nat, (∀ i, i < 42 → (zTm i).eval args s none [] s = some (.ref (adK i)) ∧ va_O "java/lang/String" (adK i) A s s.heap) ∧
    ∀ i, i < 31 → va_OF "java/lang/String" "coder" "B" (.int 0) (adK i) A s s.heap ∧ va_OF "java/lang/String" "value" "[B" (.ref (adV i)) (adK i) A s s.heap ∧ va_T .byte (adV i) (zlen i) (fun j => .int (zbyt i j)) A s s.heap := by
  have h0 : ∀ i : Nat, ∃ q : Nat, i < 42 → (zTm i).eval args s none [] s = some (.ref q) ∧ va_O "java/lang/String" q A s s.heap := by
    intro i
    by_cases hi : i < 42
    · have hex := hfl _ (List.mem_of_getElem? (zSx_ok i hi))
      obtain ⟨a, c, cA, kA, q1, q2, q3, q4, q5, q6, -⟩ := Cond.exactly_spec (args := args) (first := s) (o := none) (s := s) (idx := []) (t := zTm i) (cls := "java/lang/String") hex
      exact ⟨a, fun _ => ⟨q1, cA, q3, q5, by rw [q6]; exact q2, hA a (Array.getElem?_eq_some_iff.mp q3).1⟩⟩
    · exact ⟨0, fun h => absurd h hi⟩
  obtain ⟨adK, hK⟩ := Classical.axiomOfChoice h0
  have h1 : ∀ i : Nat, ∃ q : Nat, i < 31 → va_OF "java/lang/String" "coder" "B" (.int 0) (adK i) A s s.heap ∧ va_OF "java/lang/String" "value" "[B" (.ref q) (adK i) A s s.heap ∧ va_T .byte q (zlen i) (fun j => .int (zbyt i j)) A s s.heap := by
    intro i
    by_cases hi : i < 31
    · have hin : ∀ w ∈ zSw i, w.before args s = true := fun w hw => hfl w (zSw_in hi hw)
      have q1 := (hK i (by omega)).1
      have hco : (Cond.eq (.field (zTm i) "java/lang/String" "coder" "B") (.int 0)).before args s = true := hin _ (by unfold zSw; simp)
      have har : (Cond.arrayOf (.field (zTm i) "java/lang/String" "value" "[B") .byte).before args s = true := hin _ (by unfold zSw; simp)
      have hle : (Cond.eq (.length (.field (zTm i) "java/lang/String" "value" "[B")) (.int (Int32.ofNat (zlen i)))).before args s = true := hin _ (by unfold zSw; simp)
      have hel : ∀ j : Nat, j < zlen i → (Cond.eq (.elem (.field (zTm i) "java/lang/String" "value" "[B") (.int (Int32.ofNat j))) (.int (zbyt i j))).before args s = true := fun j hj => hin _ (by
        unfold zSw
        exact List.mem_append_right _ (List.mem_map.mpr ⟨j, List.mem_range.mpr hj, rfl⟩))
      obtain ⟨t, ht, hT⟩ := va_Tof (f := fun j => .int (zbyt i j)) (A := A) (zSl_ok i hi) har (va_eqt hle) (fun j hj => va_eqt (hel j hj)) hA
      exact ⟨t, fun _ => ⟨vk_OFof q1 (va_eqt hco) hA, vk_OFof q1 ht hA, hT⟩⟩
    · exact ⟨0, fun h => absurd h hi⟩
  obtain ⟨adV, hV⟩ := Classical.axiomOfChoice h1
  exact ⟨adK, adV, hK, hV⟩
theorem zR_of (hts : ∀ w ∈ lw_tbl, w.before args s = true) {adK : Nat → Nat} (h : ∀ i, i < 42 → (zTm i).eval args s none [] s = some (.ref (adK i))) : ∀ q ∈ zstrs, vk_R q.1 q.2.1 q.2.2.1 (adK q.2.2.2) s := by
  intro q hq
  obtain ⟨h42, he⟩ := zSd_ok q hq
  have h1 := h _ h42
  unfold zTm at h1
  rw [he] at h1
  refine vk_R.of (A := args) (hts _ ?_) h1
  have e1 := congrArg (fun l => l[q.2.2.2]?) zSp_ok
  simp only [List.getElem?_map, List.getElem?_range h42, Option.map_some] at e1
  rw [he] at e1
  cases hp : ([721, 780, 849, 848, 809, 834, 634, 1362, 1363, 1364, 1365, 1366, 1367, 1368, 1369, 1370, 1371, 1372, 1373, 1374, 1375, 1376, 1655, 1676, 1677, 1608, 1615, 1616, 1617, 1618, 1682, 578, 899, 936, 1156, 1207, 1235, 921, 947, 951, 1114, 1019] : List Nat)[q.2.2.2]? with
  | none => rw [hp] at e1; cases e1
  | some i =>
    rw [hp] at e1
    exact List.mem_of_getElem? (Option.some.inj e1).symm
theorem zNw_of (hts : ∀ w ∈ lw_tbl, w.before args s = true) (hfl : ∀ w ∈ zFl, w.before args s = true) : zNw s :=
  ⟨⟨va_Nw.of rfl (hts _ (List.mem_of_getElem? (i := 542) (by decide +kernel))), va_Nw.of rfl (hts _ (List.mem_of_getElem? (i := 544) (by decide +kernel))), va_Nw.of rfl (hts _ (List.mem_of_getElem? (i := 546) (by decide +kernel)))⟩, va_Nw.of rfl (hts _ (List.mem_of_getElem? (i := 892) (by decide +kernel))), va_Nw.of rfl (hts _ (List.mem_of_getElem? (i := 540) (by decide +kernel))),
    va_Nc.of (hfl _ (List.mem_of_getElem? (i := 32) (by decide +kernel)))⟩
theorem zNn_of (hts : ∀ w ∈ lw_tbl, w.before args s = true) : zNn s := by
  intro q hq
  simp only [zNeL, List.mem_cons, List.not_mem_nil, or_false] at hq
  rcases hq with rfl | rfl | rfl | rfl | rfl | rfl | rfl | rfl | rfl
  · exact va_Nw.of rfl (hts _ (List.mem_of_getElem? (i := 140) (by decide +kernel)))
  · exact va_Nw.of rfl (hts _ (List.mem_of_getElem? (i := 146) (by decide +kernel)))
  · exact va_Nw.of rfl (hts _ (List.mem_of_getElem? (i := 199) (by decide +kernel)))
  · exact va_Nw.of rfl (hts _ (List.mem_of_getElem? (i := 282) (by decide +kernel)))
  · exact va_Nw.of rfl (hts _ (List.mem_of_getElem? (i := 346) (by decide +kernel)))
  · exact va_Nw.of rfl (hts _ (List.mem_of_getElem? (i := 351) (by decide +kernel)))
  · exact va_Nw.of rfl (hts _ (List.mem_of_getElem? (i := 385) (by decide +kernel)))
  · exact va_Nw.of rfl (hts _ (List.mem_of_getElem? (i := 388) (by decide +kernel)))
  · exact va_Nw.of rfl (hts _ (List.mem_of_getElem? (i := 414) (by decide +kernel)))
theorem zStat_of (hts : ∀ w ∈ lw_tbl, w.before args s = true) (hfl : ∀ w ∈ zFl, w.before args s = true) (hA : ∀ a : Nat, a < s.heap.size → ¬ A a) : ∃ t3 : Nat, vx_Zq Bundle.tN "UNASSIGNED_STACK" Bundle.steD A s s.heap ∧ vx_Zq Bundle.tN "SUPPRESSED_SENTINEL" Bundle.listD A s s.heap ∧ va_Z "java/lang/String" "COMPACT_STRINGS" "Z" (.int 1) A s s.heap ∧
    (va_Z "jdk/internal/util/Preconditions" "SIOOBE_FORMATTER" "Ljava/util/function/BiFunction;" .null A s s.heap ∨ va_Z "jdk/internal/util/Preconditions" "SIOOBE_FORMATTER" "Ljava/util/function/BiFunction;" (.ref t3) A s s.heap) := by
  have z1 : vx_Zq Bundle.tN "UNASSIGNED_STACK" Bundle.steD A s s.heap := vx_Zqof (hts _ (List.mem_of_getElem? (i := 565) (by decide +kernel))) (hts _ (List.mem_of_getElem? (i := 117) (by decide +kernel))) (hfl _ (List.mem_of_getElem? (i := 4) (by decide +kernel))) hA
  have z2 : vx_Zq Bundle.tN "SUPPRESSED_SENTINEL" Bundle.listD A s s.heap := vx_Zqof (hts _ (List.mem_of_getElem? (i := 567) (by decide +kernel))) (hts _ (List.mem_of_getElem? (i := 117) (by decide +kernel))) (hfl _ (List.mem_of_getElem? (i := 5) (by decide +kernel))) hA
  have z3 : va_Z "java/lang/String" "COMPACT_STRINGS" "Z" (.int 1) A s s.heap := va_Zof (hts _ (List.mem_of_getElem? (i := 648) (by decide +kernel))) (hts _ (List.mem_of_getElem? (i := 122) (by decide +kernel))) (va_eqt (hfl _ (List.mem_of_getElem? (i := 6) (by decide +kernel)))) hA
  have z4 : va_Zq "jdk/internal/util/Preconditions" "SIOOBE_FORMATTER" "Ljava/util/function/BiFunction;" A s s.heap := va_Zqof (hts _ (List.mem_of_getElem? (i := 687) (by decide +kernel))) (hts _ (List.mem_of_getElem? (i := 125) (by decide +kernel))) (hfl _ (List.mem_of_getElem? (i := 7) (by decide +kernel))) hA
  rcases z4 with z4 | ⟨t3, z4⟩
  · exact ⟨0, z1, z2, z3, Or.inl z4⟩
  · exact ⟨t3, z1, z2, z3, Or.inr z4⟩
theorem zAC_of {ty : FieldType} (h : (Cond.arrayClass ty).before args s = true) (hr : ∀ cA, s.vm.findClass ("[" ++ ty.toString) = some cA → va_RA s cA ty) : ∃ cA, ArrOfT s cA ty ∧ va_RA s cA ty := by
  obtain ⟨c, k, comp, h1, h2, h3⟩ := Cond.arrayClass_spec h
  exact ⟨c, fun n z => ⟨fun k h => (by cases h), k, h2, comp, h3⟩, hr c h1⟩
theorem zAO_of {C : String} (h : (Cond.arrayOver (.object C)).before args s = true) : ∃ cA, ArrOfT s cA (.object C) ∧ va_RA s cA (.object C) := by
  obtain ⟨comp, c, k, h1, -, h3, h4, h5⟩ := Cond.arrayOver_spec h
  exact ⟨c, fun n z => ⟨fun k h => (by cases h), k, h3, comp, h4⟩, k, comp, h3, h4, h1, h5⟩
theorem zK_of (hts : ∀ w ∈ lw_tbl, w.before args s = true) : ∃ (D : va_G) (cA : Nat → ClassId), zK D cA s := by
  have hG : ∀ w ∈ wG, w.before args s = true := fun w hw => hts w (wG_tbl hw)
  have h0 : ∀ c : Nat, ∃ d : ClassId × (Nat → Nat), ∀ q, vwCl[c]? = some q → u_Kn s q.1 q.2.1 q.2.2 d.1 d.2 := by
    intro c
    have go : ∀ q : vw_C, vwCl[c]? = some q → (Cond.instantiable q.1 q.2.2).before args s = true → ∃ d : ClassId × (Nat → Nat), ∀ q, vwCl[c]? = some q → u_Kn s q.1 q.2.1 q.2.2 d.1 d.2 := by
      intro q hq hi
      obtain ⟨cC, iS, h⟩ := u_known hG (zCW c q hq) hi
      refine ⟨(cC, iS), fun q' hq' => ?_⟩
      cases hq.symm.trans hq'
      exact h
    match c with
    | 0 => exact go _ rfl (hts _ (List.mem_of_getElem? (i := 387) (by decide +kernel)))
    | 1 => exact go _ rfl (hts _ (List.mem_of_getElem? (i := 198) (by decide +kernel)))
    | 2 => exact go _ rfl (hts _ (List.mem_of_getElem? (i := 139) (by decide +kernel)))
    | 3 => exact go _ rfl (hts _ (List.mem_of_getElem? (i := 281) (by decide +kernel)))
    | 4 => exact go _ rfl (hts _ (List.mem_of_getElem? (i := 192) (by decide +kernel)))
    | 5 => exact go _ rfl (hts _ (List.mem_of_getElem? (i := 345) (by decide +kernel)))
    | 6 => exact go _ rfl (hts _ (List.mem_of_getElem? (i := 145) (by decide +kernel)))
    | 7 => exact go _ rfl (hts _ (List.mem_of_getElem? (i := 413) (by decide +kernel)))
    | 8 => exact go _ rfl (hts _ (List.mem_of_getElem? (i := 131) (by decide +kernel)))
    | 9 => exact go _ rfl (hts _ (List.mem_of_getElem? (i := 1355) (by decide +kernel)))
    | c + 10 => exact ⟨(0, fun _ => 0), fun q hq => absurd (List.getElem?_eq_some_iff.mp hq).1 (by show ¬ c + 10 < 10; omega)⟩
  obtain ⟨dd, hd⟩ := Classical.axiomOfChoice h0
  obtain ⟨c0, a0, r0⟩ := zAC_of (ty := .int) (hts _ (List.mem_of_getElem? (i := 279) (by decide +kernel))) (fun _ h => h)
  obtain ⟨c1, a1, r1⟩ := zAC_of (ty := .byte) (hts _ (List.mem_of_getElem? (i := 172) (by decide +kernel))) (fun _ h => h)
  obtain ⟨c2, a2, r2⟩ := zAC_of (ty := .boolean) (hts _ (List.mem_of_getElem? (i := 190) (by decide +kernel))) (fun _ h => h)
  obtain ⟨c3, a3, r3⟩ := zAC_of (ty := .long) (hts _ (List.mem_of_getElem? (i := 2000) (by decide +kernel))) (fun _ h => h)
  obtain ⟨c4, a4, r4⟩ := zAO_of (C := "java/lang/String") (hts _ (List.mem_of_getElem? (i := 1361) (by decide +kernel)))
  refine ⟨(fun c => (dd c).1, fun c => (dd c).2), fun t => match t with | 0 => c0 | 1 => c1 | 2 => c2 | 3 => c3 | _ => c4, fun c q hq => hd c q hq, fun k q hq => ?_⟩
  match k, hq with
  | 0, hq => cases hq; exact ⟨a0, r0⟩
  | 1, hq => cases hq; exact ⟨a1, r1⟩
  | 2, hq => cases hq; exact ⟨a2, r2⟩
  | 3, hq => cases hq; exact ⟨a3, r3⟩
  | 4, hq => cases hq; exact ⟨a4, r4⟩
  | k + 5, hq => exact absurd (List.getElem?_eq_some_iff.mp hq).1 (by show ¬ k + 5 < 5; omega)
theorem zAOs (hts : ∀ w ∈ lw_tbl, w.before args s = true) : va_AO "java/lang/String" s := va_AO.of (hts _ (List.mem_of_getElem? (i := 1361) (by decide +kernel)))
end Start
