def zFL (own : String) (idx c j : Nat) : Prop := ∃ q : vw_C, vwCl[c]? = some q ∧ j < q.2.2 ∧ Cond.fieldLink own idx (q.2.1 j).1 (q.2.1 j).2.1 (q.2.1 j).2.2.1 ∈ wG
def zsk (μ : zMem) (o j : Nat) : Nat := if μ o j = 0 then zSKA else zSKB
theorem zfs_at {ad : Nat → Nat} {μ : zMem} {o c j : Nat} (h : j < zfn c) : ((List.range (zfn c)).map (zfv ad μ o c))[j]? = some (zfv ad μ o c j) := by
  rw [List.getElem?_map, List.getElem?_range h]; rfl
theorem zws_obj {cA : Nat → ClassId} {ad : Nat → Nat} {μ : zMem} {o c : Nat} (h : zsh o = .inr c) : (zws cA ad μ)[o]? = some (ad o, .inr (c, (List.range (zfn c)).map (zfv ad μ o c))) := by
  rw [zws_get (zsh_inr h), zent_obj h]
theorem zws_arr {cA : Nat → ClassId} {ad : Nat → Nat} {μ : zMem} {a t n : Nat} (h : zsh a = .inl (t, n)) (h3 : t < 3) : (zws cA ad μ)[a]? = some (ad a, .inl (cA t, n, .inl (μ a))) := by
  rw [zws_get (zsh_inl h (by omega)), zent_arr h (by omega) (by omega)]
theorem zent_put {cA : Nat → ClassId} {ad : Nat → Nat} {μ : zMem} {o c j : Nat} {x : Int32} {v : Value} (h : zsh o = .inr c) (hv : zfv ad (zw μ o j x) o c j = v) : zent cA ad (zw μ o j x) o = .inr (c, ((List.range (zfn c)).map (zfv ad μ o c)).set j v) := by
  rw [zent_obj h]
  congr 2
  apply List.ext_getElem?
  intro i
  by_cases hi : i < zfn c
  · rw [zfs_at hi]
    by_cases hij : j = i
    · subst hij
      rw [List.getElem?_set_self (by simpa using hi), hv]
    · rw [List.getElem?_set_ne hij, zfs_at hi]
      have e : zw μ o j x o i = μ o i := by unfold zw; rw [if_neg (fun q => hij q.2.symm)]
      unfold zfv; rw [e]
  · rw [List.getElem?_eq_none (by simpa using hi), List.getElem?_eq_none (by simpa using hi)]
section Hp
variable {M : zMD} {d k pc : Nat} {L : List (Nat × Value)} {st : List Value} {μ : zMem} {K : zRes → zMem → Nat → Prop}
theorem Wr_get {idx c j o : Nat} {v : Value} (hd : decode M.2.1 pc = .ok (.getfield idx, 3)) (hf : zFL M.1.cls idx c j) (ho : zsh o = .inr c) (hv : ∀ ad : Nat → Nat, zfv ad μ o c j = zv ad v) (h : Wr M d k (pc + 3) L (v :: st) μ K) : Wr M d k pc L (.ref o :: st) μ K := by
  obtain ⟨⟨C, T, N⟩, hq, hjN, hl⟩ := hf
  refine Wr_fx (fun {D cA ad p l e R s m args below meth c0 H locs cells slots Q ls} F hP hS hl' kk => ?_) h
  obtain ⟨hx, hb, hr, hml, hown, hts, hlk, hh, htr, hfr, hlo, hK, hD, hF⟩ := F
  have hn := zfn_ok _ _ hq
  exact va_get (D := D) (ci := c) (C := C) (T := T) (N := N) hx hb hts (zCW c _ hq) hown hK hP o (zws_obj ho) hq j hjN (hts _ hl) (fun _ h9 => h9) (v := zv ad v) (by rw [zfs_at (by rw [hn]; exact hjN), hv ad]) hd kk
theorem Wr_getI {idx c j o : Nat} (hd : decode M.2.1 pc = .ok (.getfield idx, 3)) (hf : zFL M.1.cls idx c j) (ho : zsh o = .inr c) (hj : zfk c j = 0) (h : Wr M d k (pc + 3) L (.int (μ o j) :: st) μ K) : Wr M d k pc L (.ref o :: st) μ K :=
  Wr_get hd hf ho (fun ad => by unfold zfv; rw [if_pos hj]; rfl) h
theorem Wr_getR {idx c j o : Nat} (n : Nat) (hd : decode M.2.1 pc = .ok (.getfield idx, 3)) (hf : zFL M.1.cls idx c j) (ho : zsh o = .inr c) (hj : zfk c j = n + 1) (hn : n < 9000) (h : Wr M d k (pc + 3) L (.ref (o + n) :: st) μ K) : Wr M d k pc L (.ref o :: st) μ K :=
  Wr_get hd hf ho (fun ad => by unfold zfv; rw [if_neg (by omega), if_neg (by omega), if_neg (by omega), hj]; rfl) h
theorem Wr_getT {idx c j o : Nat} (hd : decode M.2.1 pc = .ok (.getfield idx, 3)) (hf : zFL M.1.cls idx c j) (ho : zsh o = .inr c) (hj : zfk c j = 9998 ∨ zfk c j = 9999) (h : Wr M d k (pc + 3) L (.ref (zsk μ o j) :: st) μ K) : Wr M d k pc L (.ref o :: st) μ K :=
  Wr_get hd hf ho (fun ad => by unfold zfv; rcases hj with hj | hj <;> simp [hj, zsk, zv]) h
def zFP (own : String) (idx c j : Nat) (ty : FieldType) : Prop := ∃ q : vw_C, vwCl[c]? = some q ∧ j < q.2.2 ∧ Cond.fieldLink own idx (q.2.1 j).1 (q.2.1 j).2.1 (q.2.1 j).2.2.1 ∈ wG ∧ (q.2.1 j).2.2.2 = false ∧ parseFieldDescriptor (q.2.1 j).2.2.1 = some ty
theorem Wr_put {idx c j o : Nat} {v : Value} {ty : FieldType} {x : Int32} (hd : decode M.2.1 pc = .ok (.putfield idx, 3)) (hf : zFP M.1.cls idx c j ty) (ho : zsh o = .inr c) (hv : ∀ ad : Nat → Nat, zfv ad (zw μ o j x) o c j = zv ad v) (hn : ∀ ad : Nat → Nat, narrow ty (zv ad v) = zv ad v) (hfit : ∀ ad : Nat → Nat, fits ty (zv ad v) = true) (h : Wr M d k (pc + 3) L st (zw μ o j x) K) : Wr M d k pc L (v :: .ref o :: st) μ K := by
  obtain ⟨⟨C, T, N⟩, hq, hjN, hl, hfin, hty⟩ := hf
  refine Wr_hp (fun {D cA ad p l e R s m args below meth c0 H locs cells slots Q ls} F hP hS hl' kk => ?_) h
  obtain ⟨hx, hb, hr, hml, hown, hts, hlk, hh, htr, hfr, hlo, hK, hD, hF⟩ := F
  have hnn := zfn_ok _ _ hq
  obtain ⟨⟨ty0, hty0⟩, hnm⟩ := zCT _ _ hq
  refine va_put (D := D) (ci := c) (C := C) (T := T) (N := N) hx hb hts (zCW c _ hq) ty0 hty0 hnm hown hK hP (zD_va hD) hS o (zws_obj ho) hq j hjN (hts _ hl) (fun _ h9 => h9) hfin (v := zv ad v) hty (hn ad) (hfit ad) (by simp; rw [hnn]; exact hjN) hd (fun H1 locs1 hP1 hD1 hS1 => kk H1 locs1 ?_ hS1)
  rw [zws_set (zsh_inr ho) (zent_put ho (hv ad))] at hP1
  exact hP1
theorem Wr_putI {idx c j o : Nat} {x : Int32} (hd : decode M.2.1 pc = .ok (.putfield idx, 3)) (hf : zFP M.1.cls idx c j .int) (ho : zsh o = .inr c) (hj : zfk c j = 0) (h : Wr M d k (pc + 3) L st (zw μ o j x) K) : Wr M d k pc L (.int x :: .ref o :: st) μ K :=
  Wr_put hd hf ho (fun ad => by unfold zfv; rw [if_pos hj]; simp [zw, zv]) (fun _ => rfl) (fun _ => rfl) h
theorem Wr_putZ {idx c j o : Nat} {x : Int32} (hd : decode M.2.1 pc = .ok (.putfield idx, 3)) (hf : zFP M.1.cls idx c j .boolean) (ho : zsh o = .inr c) (hj : zfk c j = 0) (hx : x = 0 ∨ x = 1) (h : Wr M d k (pc + 3) L st (zw μ o j x) K) : Wr M d k pc L (.int x :: .ref o :: st) μ K :=
  Wr_put hd hf ho (fun ad => by unfold zfv; rw [if_pos hj]; simp [zw, zv]) (fun _ => by rcases hx with rfl | rfl <;> rfl) (fun _ => by rcases hx with rfl | rfl <;> rfl) h
theorem Wr_putT {idx c j o b : Nat} {C : String} (hd : decode M.2.1 pc = .ok (.putfield idx, 3)) (hf : zFP M.1.cls idx c j (.object C)) (ho : zsh o = .inr c) (hj : zfk c j = 9998 ∨ zfk c j = 9999) (hx : b = zSKA ∨ b = zSKB) (h : Wr M d k (pc + 3) L st (zw μ o j (if b = zSKA then 0 else 1)) K) : Wr M d k pc L (.ref b :: .ref o :: st) μ K :=
  Wr_put hd hf ho (fun ad => by
    unfold zfv
    have e : (if (if b = zSKA then (0 : Int32) else 1) = 0 then zSKA else zSKB) = b := by rcases hx with rfl | rfl <;> decide
    have e2 : zw μ o j (if b = zSKA then (0 : Int32) else 1) o j = (if b = zSKA then (0 : Int32) else 1) := by simp [zw]
    have e3 : (if b = zSKA then zSKA else zSKB) = b := by rcases hx with rfl | rfl <;> decide
    rcases hj with hj | hj <;> simp only [hj, e2] <;> simp [zv, e3]) (fun _ => rfl) (fun _ => rfl) h
theorem Wr_ald {a t n : Nat} {i : Int32} (ha : zsh a = .inl (t, n)) (ht : t < 3) (hi : vp_in i n)
    (f : ∀ {D : va_G} {cA : Nat → ClassId} {ad : Nat → Nat} {p : Program} {l : Launch} {e : Env} {R : Room} {s : State} {m : MethodId} {args : Array Value} {below : List Frame} {meth : Method} {c : Code} {H : Heap} {locs : List Loc} {cells slots : Nat} {Q : State → Prop} {ls : Array Slot} {rest : List Value}, p.tables.exec = Jvm.exec → c.code = M.2.1 → zK D cA s → zP D cA ad μ H → (zws cA ad μ)[a]? = some (ad a, .inl (cA t, n, .inl (μ a))) → vp_in i n →
      W p l e R s m args below meth c H locs cells slots Q (F0 m (pc + 1) ls (.int (μ a i.toNatClampNeg) :: rest)) → W p l e R s m args below meth c H locs cells slots Q (F0 m pc ls (.int i :: .ref (ad a) :: rest)))
    (h : Wr M d k (pc + 1) L (.int (μ a i.toNatClampNeg) :: st) μ K) : Wr M d k pc L (.int i :: .ref a :: st) μ K := by
  refine Wr_fx (fun {D cA ad p l e R s m args below meth c0 H locs cells slots Q ls} F hP hS hl' kk => ?_) h
  obtain ⟨hx, hb, hr, hml, hown, hts, hlk, hh, htr, hfr, hlo, hK, hD, hF⟩ := F
  exact f hx hb hK hP (zws_arr ha ht) hi kk
theorem Wr_iald {a n : Nat} {i : Int32} (hd : decode M.2.1 pc = .ok (.iaload, 1)) (ha : zsh a = .inl (0, n)) (hi : vp_in i n) (h : Wr M d k (pc + 1) L (.int (μ a i.toNatClampNeg) :: st) μ K) : Wr M d k pc L (.int i :: .ref a :: st) μ K :=
  Wr_ald ha (by omega) hi (fun hx hb hK hP he hi kk => va_iald hx hb hK hP _ 0 he rfl hi hd kk) h
theorem Wr_bald {a n : Nat} {i : Int32} (hd : decode M.2.1 pc = .ok (.baload, 1)) (ha : zsh a = .inl (1, n)) (hi : vp_in i n) (h : Wr M d k (pc + 1) L (.int (μ a i.toNatClampNeg) :: st) μ K) : Wr M d k pc L (.int i :: .ref a :: st) μ K :=
  Wr_ald ha (by omega) hi (fun hx hb hK hP he hi kk => va_bald hx hb hK hP _ 1 he rfl hi hd kk) h
theorem Wr_zald {a n : Nat} {i : Int32} (hd : decode M.2.1 pc = .ok (.baload, 1)) (ha : zsh a = .inl (2, n)) (hi : vp_in i n) (h : Wr M d k (pc + 1) L (.int (μ a i.toNatClampNeg) :: st) μ K) : Wr M d k pc L (.int i :: .ref a :: st) μ K :=
  Wr_ald ha (by omega) hi (fun hx hb hK hP he hi kk => va_zald hx hb hK hP _ 2 he rfl hi hd kk) h
theorem zent_iw {cA : Nat → ClassId} {ad : Nat → Nat} {μ : zMem} {a t n i : Nat} {x : Int32} (ha : zsh a = .inl (t, n)) (ht : t < 3) : zent cA ad (zw μ a i x) a = .inl (cA t, n, .inl (upd (μ a) i x)) := by
  rw [zent_arr ha (by omega) (by omega), zw_upd]
theorem Wr_iast {a n : Nat} {i x : Int32} (hd : decode M.2.1 pc = .ok (.iastore, 1)) (ha : zsh a = .inl (0, n)) (hi : vp_in i n) (h : Wr M d k (pc + 1) L st (zw μ a i.toNatClampNeg x) K) : Wr M d k pc L (.int x :: .int i :: .ref a :: st) μ K := by
  refine Wr_hp (fun {D cA ad p l e R s m args below meth c0 H locs cells slots Q ls} F hP hS hl' kk => ?_) h
  obtain ⟨hx, hb, hr, hml, hown, hts, hlk, hh, htr, hfr, hlo, hK, hD, hF⟩ := F
  refine va_iast hx hb hK hP (zD_va hD) hS a 0 (zws_arr ha (by omega)) rfl hi hd (fun H1 locs1 hP1 hD1 hS1 => kk H1 locs1 ?_ hS1)
  rw [zws_set (zsh_inl ha (by omega)) (zent_iw ha (by omega))] at hP1
  exact hP1
theorem Wr_bast {a n : Nat} {i x : Int32} (hd : decode M.2.1 pc = .ok (.bastore, 1)) (ha : zsh a = .inl (1, n)) (hi : vp_in i n) (h : Wr M d k (pc + 1) L st (zw μ a i.toNatClampNeg (vp_nar .byte x)) K) : Wr M d k pc L (.int x :: .int i :: .ref a :: st) μ K := by
  refine Wr_hp (fun {D cA ad p l e R s m args below meth c0 H locs cells slots Q ls} F hP hS hl' kk => ?_) h
  obtain ⟨hx, hb, hr, hml, hown, hts, hlk, hh, htr, hfr, hlo, hK, hD, hF⟩ := F
  refine va_bast hx hb hK hP (zD_va hD) hS a 1 (zws_arr ha (by omega)) rfl hi hd (fun H1 locs1 hP1 hD1 hS1 => kk H1 locs1 ?_ hS1)
  rw [zws_set (zsh_inl ha (by omega)) (zent_iw ha (by omega))] at hP1
  exact hP1
theorem Wr_zast {a n : Nat} {i x : Int32} (hd : decode M.2.1 pc = .ok (.bastore, 1)) (ha : zsh a = .inl (2, n)) (hi : vp_in i n) (h : Wr M d k (pc + 1) L st (zw μ a i.toNatClampNeg (vp_nar .boolean x)) K) : Wr M d k pc L (.int x :: .int i :: .ref a :: st) μ K := by
  refine Wr_hp (fun {D cA ad p l e R s m args below meth c0 H locs cells slots Q ls} F hP hS hl' kk => ?_) h
  obtain ⟨hx, hb, hr, hml, hown, hts, hlk, hh, htr, hfr, hlo, hK, hD, hF⟩ := F
  refine va_zast hx hb hK hP (zD_va hD) hS a 2 (zws_arr ha (by omega)) rfl hi hd (fun H1 locs1 hP1 hD1 hS1 => kk H1 locs1 ?_ hS1)
  rw [zws_set (zsh_inl ha (by omega)) (zent_iw ha (by omega))] at hP1
  exact hP1
theorem Wr_alen {a t n : Nat} (hd : decode M.2.1 pc = .ok (.arraylength, 1)) (ha : zsh a = .inl (t, n)) (ht : t < 5) (h : Wr M d k (pc + 1) L (.int (Int32.ofNat n) :: st) μ K) : Wr M d k pc L (.ref a :: st) μ K := by
  refine Wr_fx (fun {D cA ad p l e R s m args below meth c0 H locs cells slots Q ls} F hP hS hl' kk => ?_) h
  obtain ⟨hx, hb, hr, hml, hown, hts, hlk, hh, htr, hfr, hlo, hK, hD, hF⟩ := F
  obtain ⟨z, hz⟩ : ∃ z, zent cA ad μ a = .inl (cA t, n, z) := by
    unfold zent; rw [ha]
    match t, ht with
    | 0, _ => exact ⟨_, rfl⟩
    | 1, _ => exact ⟨_, rfl⟩
    | 2, _ => exact ⟨_, rfl⟩
    | 3, _ => exact ⟨_, rfl⟩
    | 4, _ => exact ⟨_, rfl⟩
  obtain ⟨ty, hty⟩ : ∃ ty, (ztys cA)[t]? = some (cA t, ty) := by
    match t, ht with
    | 0, _ => exact ⟨_, rfl⟩
    | 1, _ => exact ⟨_, rfl⟩
    | 2, _ => exact ⟨_, rfl⟩
    | 3, _ => exact ⟨_, rfl⟩
    | 4, _ => exact ⟨_, rfl⟩
  exact va_alen (x := (n, z)) hx hb hK hP a t ((zws_get (zsh_inl ha (by omega))).trans (by rw [hz])) hty rfl hd kk
theorem Wr_aald {a n : Nat} {i : Int32} (hd : decode M.2.1 pc = .ok (.aaload, 1)) (ha : zsh a = .inl (4, n)) (hi : vp_in i n) (h : Wr M d k (pc + 1) L (.ref (zstr a i.toNatClampNeg) :: st) μ K) : Wr M d k pc L (.int i :: .ref a :: st) μ K := by
  refine Wr_fx (fun {D cA ad p l e R s m args below meth c0 H locs cells slots Q ls} F hP hS hl' kk => ?_) h
  obtain ⟨hx, hb, hr, hml, hown, hts, hlk, hh, htr, hfr, hlo, hK, hD, hF⟩ := F
  exact va_aldq hx hb hK hP a 4 (C := "java/lang/String") (f := fun j => some (ad (zstr a j))) ((zws_get (zsh_inl ha (by omega))).trans (by unfold zent; rw [ha]; rfl)) rfl hi hd kk
theorem Wr_lald {a : Nat} (hd : decode M.2.1 pc = .ok (.laload, 1)) (ha : zsh a = .inl (3, 1)) (h : Wr M d k (pc + 1) L (.long (zJ (μ a 0) (μ a 1)) :: st) μ K) : Wr M d k pc L (.int 0 :: .ref a :: st) μ K := by
  refine Wr_fx (fun {D cA ad p l e R s m args below meth c0 H locs cells slots Q ls} F hP hS hl' kk => ?_) h
  obtain ⟨hx, hb, hr, hml, hown, hts, hlk, hh, htr, hfr, hlo, hK, hD, hF⟩ := F
  exact va_lald hx hb hK hP a 3 (f := fun j => zJ (μ a (2 * j)) (μ a (2 * j + 1))) ((zws_get (zsh_inl ha (by omega))).trans (by unfold zent; rw [ha]; rfl)) rfl (by unfold vp_in; decide) hd kk
theorem Wr_last {a : Nat} {x : Int64} (hd : decode M.2.1 pc = .ok (.lastore, 1)) (ha : zsh a = .inl (3, 1)) (h : Wr M d k (pc + 1) L st (zw (zw μ a 0 (zLo x)) a 1 (zHi x)) K) : Wr M d k pc L (.long x :: .int 0 :: .ref a :: st) μ K := by
  refine Wr_hp (fun {D cA ad p l e R s m args below meth c0 H locs cells slots Q ls} F hP hS hl' kk => ?_) h
  obtain ⟨hx, hb, hr, hml, hown, hts, hlk, hh, htr, hfr, hlo, hK, hD, hF⟩ := F
  refine va_last hx hb hK hP (zD_va hD) hS a 3 (f := fun j => zJ (μ a (2 * j)) (μ a (2 * j + 1))) ((zws_get (zsh_inl ha (by omega))).trans (by unfold zent; rw [ha]; rfl)) rfl (by unfold vp_in; decide) hd (fun H1 locs1 hP1 hD1 hS1 => kk H1 locs1 ?_ hS1)
  have e : (zws cA ad μ).set a (ad a, .inl (cA 3, 1, .inr (.inl (vp_updL (fun j => zJ (μ a (2 * j)) (μ a (2 * j + 1))) (Int32.toNatClampNeg 0) x)))) = zws cA ad (zw (zw μ a 0 (zLo x)) a 1 (zHi x)) := by
    have ha9 : a < zN := zsh_inl ha (by omega)
    apply List.ext_getElem?
    intro i
    by_cases hi : i < zN
    · rw [zws_get hi]
      by_cases hai : a = i
      · subst hai
        rw [List.getElem?_set_self (by rw [zws_len]; exact hi)]
        congr 2
        unfold zent
        rw [ha]
        show _ = Sum.inl (cA 3, 1, Sum.inr (Sum.inl _))
        congr 4
        refine congrArg Sum.inl (funext fun j => ?_)
        by_cases hj : j = 0
        · subst hj
          show x = zJ _ _
          rw [show zw (zw μ a 0 (zLo x)) a 1 (zHi x) a (2 * 0) = zLo x from by simp [zw], show zw (zw μ a 0 (zLo x)) a 1 (zHi x) a (2 * 0 + 1) = zHi x from by simp [zw], zJ_of]
        · have e1 : ¬ 2 * j = 1 := by omega
          have e2 : ¬ 2 * j + 1 = 0 := by omega
          simp [vp_updL, zw, hj, e1, e2]
          rw [if_neg (by omega), if_neg (by omega)]
      · rw [List.getElem?_set_ne hai, zws_get hi, zent_ne (fun q => hai q.symm), zent_ne (fun q => hai q.symm)]
    · rw [List.getElem?_eq_none (by rw [List.length_set, zws_len]; omega), List.getElem?_eq_none (by rw [zws_len]; omega)]
  rw [e] at hP1
  exact hP1
end Hp
