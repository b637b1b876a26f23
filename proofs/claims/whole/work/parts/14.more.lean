theorem lgc_lt {x y : Int64} : (lg_cmp x y < 0) ↔ x < y := lg_cmp_lt x y
theorem lgc_gt {x y : Int64} : (0 < lg_cmp x y) ↔ y < x := lg_cmp_gt x y
theorem lgc_ge {x y : Int64} : (0 ≤ lg_cmp x y) ↔ y ≤ x := lg_cmp_ge x y
theorem lgc_le {x y : Int64} : (lg_cmp x y ≤ 0) ↔ x ≤ y := lg_cmp_le x y
theorem lgc_eq {x y : Int64} : (lg_cmp x y = 0) ↔ x = y := lg_cmp_eq x y
def zabs (x : Int32) : Int32 := if 0 ≤ x then x else 0 - x
def zmax (x y : Int32) : Int32 := if x < y then y else x
def zmin (x y : Int32) : Int32 := if y < x then y else x
def zsn (k j : Nat) : Nat := zstr k j - 1000
theorem zstr_sn (k j : Nat) : zstr k j = 1000 + zsn k j := by
  unfold zsn zstr
  omega
theorem zst {q : String × Nat × String × Nat} (i : Nat) (h : zstrs[i]? = some q) : q ∈ zstrs := List.mem_of_getElem? h
theorem zsn_lt (k j : Nat) : zsn k j < zNS := by
  have g : ∀ (l : List Nat) (j : Nat), (l.all fun x => decide (x < zNS)) = true → l.getD j 0 < zNS := by
    intro l j h
    rw [List.getD_eq_getElem?_getD]
    cases hq : l[j]? with
    | none => decide
    | some x => exact of_decide_eq_true (List.all_eq_true.mp h x (List.mem_of_getElem? hq))
  unfold zsn zstr
  rw [Nat.add_sub_cancel_left]
  split
  · exact g _ _ (by decide)
  · split
    · exact g _ _ (by decide)
    · exact g _ _ (by decide)
theorem znar {x : Int32} (h : x = 0 ∨ x = 1) : narrow .boolean (.int x) = .int x := by rcases h with rfl | rfl <;> rfl
theorem zsk_ab (μ : zMem) (o j : Nat) : zsk μ o j = zSKA ∨ zsk μ o j = zSKB := by
  unfold zsk
  split
  · exact Or.inl rfl
  · exact Or.inr rfl
/-- the listed locals by their keys -/
def zpk (L : List (Nat × Value)) (ks : List Nat) : List (Nat × Value) := ks.filterMap fun i => L.find? fun q => q.1 == i
theorem zpk_pick (L : List (Nat × Value)) : ∀ ks : List Nat, ∃ js : List Nat, lv_pick L js = zpk L ks
  | [] => ⟨[], rfl⟩
  | i :: ks => by
    obtain ⟨js, h⟩ := zpk_pick L ks
    unfold zpk at h ⊢
    rw [List.filterMap_cons]
    cases hf : L.find? fun q => q.1 == i with
    | none => exact ⟨js, h⟩
    | some q =>
      obtain ⟨j, hj⟩ := List.getElem?_of_mem (List.mem_of_find?_eq_some hf)
      refine ⟨j :: js, ?_⟩
      unfold lv_pick at h ⊢
      rw [List.filterMap_cons, hj, h]
section More2
variable {M : zMD} {d k pc : Nat} {L : List (Nat × Value)} {st : List Value} {μ : zMem} {K : zRes → zMem → Nat → Prop}
theorem zsub {L' : List (Nat × Value)} (ks : List Nat) (hL : zpk L ks = L') (h : Wr M d k pc L' st μ K) : Wr M d k pc L st μ K := by
  obtain ⟨js, hj⟩ := zpk_pick L ks
  exact Wr_sub js (hj.trans hL) h
theorem Wr_top {x y : Int32} (e : x = y) (h : Wr M d k pc L (.int x :: st) μ K) : Wr M d k pc L (.int y :: st) μ K := by rw [← e]; exact h
theorem Wr_topL {x y : Int64} (e : x = y) (h : Wr M d k pc L (.long x :: st) μ K) : Wr M d k pc L (.long y :: st) μ K := by rw [← e]; exact h
theorem Wr_mu {μ' : zMem} (e : μ' = μ) (h : Wr M d k pc L st μ' K) : Wr M d k pc L st μ K := by rw [← e]; exact h
theorem Wr_lc_lt {x y : Int64} {off : Int} (tgt : Nat) (hd : decode M.2.1 pc = .ok (.lcmp, 1)) (hd2 : decode M.2.1 (pc + 1) = .ok (.ifCond .lt off, 3)) (ht : ((pc + 1 : Nat) : Int) + off = (tgt : Int)) (h1 : x < y → Wr M d k tgt L st μ K) (h2 : ¬ x < y → Wr M d k (pc + 1 + 3) L st μ K) : Wr M d k pc L (.long y :: .long x :: st) μ K :=
  Wr_st (st' := .int (lg_cmp x y) :: st) (fun ad hx hb hl kk => W.lcmp hx hb hd kk) (Wr_if_lt tgt hd2 ht (fun q => h1 (lgc_lt.mp q)) (fun q => h2 (fun z => q (lgc_lt.mpr z))))
theorem Wr_lc_eq {x y : Int64} {off : Int} (tgt : Nat) (hd : decode M.2.1 pc = .ok (.lcmp, 1)) (hd2 : decode M.2.1 (pc + 1) = .ok (.ifCond .eq off, 3)) (ht : ((pc + 1 : Nat) : Int) + off = (tgt : Int)) (h1 : x = y → Wr M d k tgt L st μ K) (h2 : ¬ x = y → Wr M d k (pc + 1 + 3) L st μ K) : Wr M d k pc L (.long y :: .long x :: st) μ K :=
  Wr_st (st' := .int (lg_cmp x y) :: st) (fun ad hx hb hl kk => W.lcmp hx hb hd kk) (Wr_if_eq tgt hd2 ht (fun q => h1 (lgc_eq.mp q)) (fun q => h2 (fun z => q (lgc_eq.mpr z))))
theorem Wr_lc_gt {x y : Int64} {off : Int} (tgt : Nat) (hd : decode M.2.1 pc = .ok (.lcmp, 1)) (hd2 : decode M.2.1 (pc + 1) = .ok (.ifCond .gt off, 3)) (ht : ((pc + 1 : Nat) : Int) + off = (tgt : Int)) (h1 : y < x → Wr M d k tgt L st μ K) (h2 : ¬ y < x → Wr M d k (pc + 1 + 3) L st μ K) : Wr M d k pc L (.long y :: .long x :: st) μ K :=
  Wr_st (st' := .int (lg_cmp x y) :: st) (fun ad hx hb hl kk => W.lcmp hx hb hd kk) (Wr_if_gt tgt hd2 ht (fun q => h1 (lgc_gt.mp q)) (fun q => h2 (fun z => q (lgc_gt.mpr z))))
theorem Wr_lc_ne {x y : Int64} {off : Int} (tgt : Nat) (hd : decode M.2.1 pc = .ok (.lcmp, 1)) (hd2 : decode M.2.1 (pc + 1) = .ok (.ifCond .ne off, 3)) (ht : ((pc + 1 : Nat) : Int) + off = (tgt : Int)) (h1 : ¬ x = y → Wr M d k tgt L st μ K) (h2 : x = y → Wr M d k (pc + 1 + 3) L st μ K) : Wr M d k pc L (.long y :: .long x :: st) μ K :=
  Wr_st (st' := .int (lg_cmp x y) :: st) (fun ad hx hb hl kk => W.lcmp hx hb hd kk) (Wr_if_ne tgt hd2 ht (fun q => h1 (fun z => q (lgc_eq.mpr z))) (fun q => h2 (lgc_eq.mp q)))
theorem Wr_lc_ge {x y : Int64} {off : Int} (tgt : Nat) (hd : decode M.2.1 pc = .ok (.lcmp, 1)) (hd2 : decode M.2.1 (pc + 1) = .ok (.ifCond .ge off, 3)) (ht : ((pc + 1 : Nat) : Int) + off = (tgt : Int)) (h1 : y ≤ x → Wr M d k tgt L st μ K) (h2 : ¬ y ≤ x → Wr M d k (pc + 1 + 3) L st μ K) : Wr M d k pc L (.long y :: .long x :: st) μ K :=
  Wr_st (st' := .int (lg_cmp x y) :: st) (fun ad hx hb hl kk => W.lcmp hx hb hd kk) (Wr_if_ge tgt hd2 ht (fun q => h1 (lgc_ge.mp q)) (fun q => h2 (fun z => q (lgc_ge.mpr z))))
theorem Wr_lc_le {x y : Int64} {off : Int} (tgt : Nat) (hd : decode M.2.1 pc = .ok (.lcmp, 1)) (hd2 : decode M.2.1 (pc + 1) = .ok (.ifCond .le off, 3)) (ht : ((pc + 1 : Nat) : Int) + off = (tgt : Int)) (h1 : x ≤ y → Wr M d k tgt L st μ K) (h2 : ¬ x ≤ y → Wr M d k (pc + 1 + 3) L st μ K) : Wr M d k pc L (.long y :: .long x :: st) μ K :=
  Wr_st (st' := .int (lg_cmp x y) :: st) (fun ad hx hb hl kk => W.lcmp hx hb hd kk) (Wr_if_le tgt hd2 ht (fun q => h1 (lgc_le.mp q)) (fun q => h2 (fun z => q (lgc_le.mpr z))))
theorem mMathI : Cond.initialized "java/lang/Math" ∈ wG := wGm 121 (by decide +kernel) rfl
theorem mMath_abss : Cond.static Lib.Math.abs.name ∈ wG := wGm 998 (by decide +kernel) rfl
theorem mMath_absc : Cond.code Lib.Math.abs.name Lib.Math.abs.code 1 (some .int) ∈ wG := wGm 999 (by decide +kernel) rfl
theorem Wr_mabs {x : Int32} {idx : Nat} (hd : decode M.2.1 pc = .ok (.invokestatic idx, 3)) (hl : Cond.methodLink M.1.cls idx ⟨"java/lang/Math", "abs", "(I)I"⟩ ∈ wG) (hroom : (st.map fun v => v.category).sum ≤ 8) (h : Wr M d k (pc + 3) L (.int (zabs x) :: st) μ K) : Wr M d k pc L (.int x :: st) μ K := by
  obtain ⟨r, μ', kf, a1, a2, h⟩ := h
  refine ⟨r, μ', kf, a1, a2, fun D cA ad p l e R s m args below meth c c0 s0 H locs ls F b1 b2 hP hS hl9 => ?_⟩
  have g := h D cA ad p l e R s m args below meth c c0 s0 H locs ls F b1 b2 hP hS hl9
  obtain ⟨hx, hb, hr, hml, hown, hts, hlk, hh, htr, hfr, hlo, hK, hD, hF⟩ := F
  exact va_mabs hx hb (hml.trans hl9.1.symm) hown (hts _ hl) (hts _ mMath_abss) (hts _ mMathI) (hts _ mMath_absc) (by omega) (by rw [zv_sum]; omega) (by omega) (by omega) hd g
theorem mMath_maxs : Cond.static Lib.Math.max.name ∈ wG := wGm 620 (by decide +kernel) rfl
theorem mMath_maxc : Cond.code Lib.Math.max.name Lib.Math.max.code 2 (some .int) ∈ wG := wGm 621 (by decide +kernel) rfl
theorem Wr_mmax {x y : Int32} {idx : Nat} (hd : decode M.2.1 pc = .ok (.invokestatic idx, 3)) (hl : Cond.methodLink M.1.cls idx ⟨"java/lang/Math", "max", "(II)I"⟩ ∈ wG) (hroom : (st.map fun v => v.category).sum ≤ 8) (h : Wr M d k (pc + 3) L (.int (zmax x y) :: st) μ K) : Wr M d k pc L (.int y :: .int x :: st) μ K := by
  obtain ⟨r, μ', kf, a1, a2, h⟩ := h
  refine ⟨r, μ', kf, a1, a2, fun D cA ad p l e R s m args below meth c c0 s0 H locs ls F b1 b2 hP hS hl9 => ?_⟩
  have g := h D cA ad p l e R s m args below meth c c0 s0 H locs ls F b1 b2 hP hS hl9
  obtain ⟨hx, hb, hr, hml, hown, hts, hlk, hh, htr, hfr, hlo, hK, hD, hF⟩ := F
  exact va_mmax hx hb (hml.trans hl9.1.symm) hown (hts _ hl) (hts _ mMath_maxs) (hts _ mMathI) (hts _ mMath_maxc) (by omega) (by rw [zv_sum]; omega) (by omega) (by omega) hd g
theorem mMath_mins : Cond.static Lib.Math.min.name ∈ wG := wGm 617 (by decide +kernel) rfl
theorem mMath_minc : Cond.code Lib.Math.min.name Lib.Math.min.code 2 (some .int) ∈ wG := wGm 618 (by decide +kernel) rfl
theorem Wr_mmin {x y : Int32} {idx : Nat} (hd : decode M.2.1 pc = .ok (.invokestatic idx, 3)) (hl : Cond.methodLink M.1.cls idx ⟨"java/lang/Math", "min", "(II)I"⟩ ∈ wG) (hroom : (st.map fun v => v.category).sum ≤ 8) (h : Wr M d k (pc + 3) L (.int (zmin x y) :: st) μ K) : Wr M d k pc L (.int y :: .int x :: st) μ K := by
  obtain ⟨r, μ', kf, a1, a2, h⟩ := h
  refine ⟨r, μ', kf, a1, a2, fun D cA ad p l e R s m args below meth c c0 s0 H locs ls F b1 b2 hP hS hl9 => ?_⟩
  have g := h D cA ad p l e R s m args below meth c c0 s0 H locs ls F b1 b2 hP hS hl9
  obtain ⟨hx, hb, hr, hml, hown, hts, hlk, hh, htr, hfr, hlo, hK, hD, hF⟩ := F
  exact va_mmin hx hb (hml.trans hl9.1.symm) hown (hts _ hl) (hts _ mMath_mins) (hts _ mMathI) (hts _ mMath_minc) (by omega) (by rw [zv_sum]; omega) (by omega) (by omega) hd g
end More2
