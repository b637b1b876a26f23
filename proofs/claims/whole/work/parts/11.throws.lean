def zXn : List String := ["java/lang/Exception"]
def zCx (ix : Nat) : ByteArray := ⟨#[0x2a, 0x2b, 0xb7, 0x00, UInt8.ofNat ix, 0xb1]⟩
def zRest (X : String) (ix : Nat) : List Cond := (Bundle.throwableAtoms ++ Bundle.throwableSAtoms ++ (Bundle.passSAtoms X "java/lang/RuntimeException" ix (zCx ix) ++ Bundle.chainSAtoms "java/lang/RuntimeException" zXn) ++ ([.instantiable X 6, .castable X X, .selects X Bundle.tFill0 Bundle.tFill0, .selects X Bundle.tFill Bundle.tFill, .lays X Bundle.tN "cause" "Ljava/lang/Throwable;", .lays X Bundle.tN "stackTrace" Bundle.steD, .lays X Bundle.tN "suppressedExceptions" Bundle.listD, .lays X Bundle.tN "detailMessage" "Ljava/lang/String;", .fieldLink Bundle.tN 198 Bundle.tN "backtrace" "Ljava/lang/Object;", .lays Bundle.tN Bundle.tN "backtrace" "Ljava/lang/Object;", .lays X Bundle.tN "backtrace" "Ljava/lang/Object;"] : List Cond)).filter vx_no
def zatS (own : String) (ic : Nat) (X : String) (ix : Nat) : List Cond := (zOwn own ic X ix (zCx ix) "java/lang/RuntimeException" zXn).filter vx_no
theorem zRest_of {own X : String} {ic ix : Nat} {w : Cond} (h : w ∈ zatS own ic X ix) : w = .methodLink own ic (Bundle.initS X) ∨ w ∈ zRest X ix := by
  obtain ⟨h1, h2⟩ := List.mem_filter.mp h
  unfold zOwn at h1
  rcases List.mem_append.mp h1 with h3 | h3
  · exact Or.inr (List.mem_filter.mpr ⟨List.mem_append_left _ h3, h2⟩)
  · simp only [List.mem_cons, List.not_mem_nil, or_false] at h3
    rcases h3 with h3 | h3 | h3 | h3 | h3 | h3 | h3 | h3 | h3 | h3 | h3 | h3 | h3 | h3
    · exact Or.inl h3
    all_goals first
      | (refine Or.inr (List.mem_filter.mpr ⟨List.mem_append_right _ ?_, h2⟩); rw [h3]; simp; done)
      | (exfalso; rw [h3] at h2; unfold vx_no at h2; simp at h2; done)
theorem zRg0 : ∀ w ∈ (zRest "java/util/NoSuchElementException" 13).filter goodWord, w ∈ wG := wGl _ [117, 560, 569, 572, 575, 577, 561, 562, 136, 137, 563, 568, 573, 593, 550, 594, 552, 595, 554, 564, 566, 556, 589, 590, 592, 556, 901, 902, 903, 583, 583, 584, 585, 586, 586, 587, 588, 589, 891, 893, 571, 894, 895, 896, 897, 559, 558, 898] (by decide +kernel) (by decide +kernel)
theorem zRo0 : (zRest "java/util/NoSuchElementException" 13).all vx_ot = true := by decide +kernel
theorem zRn0 : ((zRest "java/util/NoSuchElementException" 13).filter (fun w => !goodWord w)).all (fun w => decide (w ∈ zNwL ++ zNwC)) = true := by decide +kernel
theorem zRg1 : ∀ w ∈ (zRest "java/lang/IllegalArgumentException" 7).filter goodWord, w ∈ wG := wGl _ [117, 560, 569, 572, 575, 577, 561, 562, 136, 137, 563, 568, 573, 593, 550, 594, 552, 595, 554, 564, 566, 556, 589, 590, 592, 556, 580, 581, 582, 583, 583, 584, 585, 586, 586, 587, 588, 589, 539, 547, 548, 549, 551, 553, 555, 559, 558, 557] (by decide +kernel) (by decide +kernel)
theorem zRo1 : (zRest "java/lang/IllegalArgumentException" 7).all vx_ot = true := by decide +kernel
theorem zRn1 : ((zRest "java/lang/IllegalArgumentException" 7).filter (fun w => !goodWord w)).all (fun w => decide (w ∈ zNwL ++ zNwC)) = true := by decide +kernel
theorem zNw_use {s : State} {args : Array Value} (h : zNw s) : ∀ w ∈ zNwL ++ zNwC, w.before args s = true := by
  intro w hw
  obtain ⟨⟨h1, h2, h3⟩, h4, h5, -⟩ := h
  simp only [zNwL, zNwC, List.mem_append, List.mem_cons, List.not_mem_nil, or_false] at hw
  rcases hw with (rfl | rfl | rfl) | rfl | rfl
  · exact h1.use rfl
  · exact h2.use rfl
  · exact h3.use rfl
  · exact h4.use rfl
  · exact h5.use rfl
theorem zat {X own : String} {ic ix : Nat} {s : State} {args : Array Value} (hg : ∀ w ∈ (zRest X ix).filter goodWord, w ∈ wG) (hn : ((zRest X ix).filter (fun w => !goodWord w)).all (fun w => decide (w ∈ zNwL ++ zNwC)) = true) (hl : Cond.methodLink own ic (Bundle.initS X) ∈ wG) (hts : ∀ w ∈ wG, w.before args s = true) (hN : zNw s) : ∀ w ∈ zatS own ic X ix, w.before args s = true := by
  intro w hw
  rcases zRest_of hw with rfl | h
  · exact hts _ hl
  · exact vx_hat (L := zRest X ix) (B := zNwL ++ zNwC) (fun w h9 => hts w (hg w h9)) (fun w h9 => by have := List.all_eq_true.mp hn w h9; exact of_decide_eq_true this) (zNw_use hN) w h
theorem zotall {X own : String} {ic ik ix : Nat} (ho : (zRest X ix).all vx_ot = true) : ∀ w ∈ Cond.classLink own ik X :: Cond.initialized X :: zatS own ic X ix, vx_ot w = true := by
  intro w hw
  rcases List.mem_cons.mp hw with rfl | hw
  · rfl
  rcases List.mem_cons.mp hw with rfl | hw
  · rfl
  rcases zRest_of hw with rfl | h
  · rfl
  · exact List.all_eq_true.mp ho w h
def zXi : Nat → Nat
  | 0 => 13
  | _ => 7
set_option maxHeartbeats 1000000 in
theorem zthrowW {p : Program} {l : Launch} {e : Env} {R : Room} {s : State} {m : MethodId} {args : Array Value} {below : List Frame} {meth : Method} {c : Code} {H : Heap} {locs : List Loc} {cells slots : Nat} {free : Addr → Prop} {ls : Array Slot} {rest : List Value} {Qc : Array Value → State → Outcome → State → Prop} {XC : String → State → State → Prop}
    {cc : ByteArray} {pc : Nat} (hexec : p.tables.exec = Jvm.exec) (hb : c.code = cc) (hl : l.stackTraces = false) {own cls text : String} {ik is ic ix mc ms sa n2 : Nat} {A : Nat → Prop}
    (x0 : decode (zCx ix) 0 = .ok (.aload_n 0, 1)) (x1 : decode (zCx ix) 1 = .ok (.aload_n 1, 1)) (x2 : decode (zCx ix) 2 = .ok (.invokespecial ix, 3)) (x5 : decode (zCx ix) 5 = .ok (.return_, 1))
    (hown : s.vm.findClass own = some m.cls) (hcls : Bundle.fit cls = true)
    (hk : (Cond.classLink own ik cls).before args s = true) (hini : (Cond.initialized cls).before args s = true) (hstr : vk_R own is text sa s) (hat : ∀ w ∈ zatS own ic cls ix, w.before args s = true)
    (hgood : ∀ w ∈ Cond.classLink own ik cls :: Cond.initialized cls :: zatS own ic cls ix, vx_ot w = true)
    (hU : vx_Zq Bundle.tN "UNASSIGNED_STACK" Bundle.steD A s s.heap) (hN : vx_Zq Bundle.tN "SUPPRESSED_SENTINEL" Bundle.listD A s s.heap) (hS : va_S A s.heap H locs) (hsize : ls.size = c.maxLocals)
    (d0 : decode cc pc = .ok (.new ik, 3)) (d3 : decode cc (pc + 3) = .ok (.dup, 1)) (d4 : (decode cc (pc + 4) = .ok (.ldc is, 2) ∧ n2 = pc + 6) ∨ (decode cc (pc + 4) = .ok (.ldc_w is, 3) ∧ n2 = pc + 7)) (d6 : decode cc n2 = .ok (.invokespecial ic, 3)) (d9 : decode cc (n2 + 3) = .ok (.athrow, 1))
    (hout : ∀ x ∈ c.exceptionTable.toList, covers x (n2 + 3) = false)
    (hRframes : 5 < R.frames) (hRlocals : (rest.map fun v => v.category).sum + (13 * 3 + 43) ≤ R.locals) (hRcells : cells + 1 ≤ R.cells) (hRslots : slots + 6 ≤ R.slots) (hlocks : meth.locks = false)
    (hx : ∀ t : State, s.vm.Alike t.vm → H.size ≤ t.heap.size → (∀ q : Nat, q < H.size → t.heap[q]? = H[q]?) → XC cls s t)
    (hf : ∀ z ∈ locs, free z.base) (hc : cells + 1 ≤ mc) (hs : slots + 6 ≤ ms) :
    W p l e R s m args below meth c H locs cells slots (vx_MQ below Qc XC args s mc ms free) (F0 m pc ls rest) := by
  intro T hT X
  have htr : e.platform.stackTraces = false := (show e.platform.stackTraces = l.stackTraces by rw [X.admits.platform]).trans hl
  have Y := vx_rebase X (R' := { frames := R.frames, locals := R.locals, cells := 1, slots := 6 }) (Nat.le_refl _) (Nat.le_refl _) hRcells hRslots
  obtain ⟨s', hA⟩ : ∃ z, z = (T.setVm s.vm).setFrames (.invoking m args :: below) := ⟨_, rfl⟩
  rw [← hA] at Y
  have hvm : s'.vm = s.vm := by rw [hA]; rfl
  have hhp : s'.heap = H := by rw [hA]; exact hT
  have hW0 : s.WarmedH s'.vm := by rw [hvm]; exact State.WarmedH.refl s
  have hat' : ∀ w ∈ zatS own ic cls ix, w.before args s' = true := fun w hw => vx_ot_at hW0 hvm.symm (hgood w (List.mem_cons_of_mem _ (List.mem_cons_of_mem _ hw))) (hat w hw)
  have hk' : (Cond.classLink own ik cls).before args s' = true := vx_ot_at hW0 hvm.symm (hgood _ List.mem_cons_self) hk
  have hini' : (Cond.initialized cls).before args s' = true := vx_ot_at hW0 hvm.symm (hgood _ (List.mem_cons_of_mem _ List.mem_cons_self)) hini
  have hU' : vx_Zq Bundle.tN "UNASSIGNED_STACK" Bundle.steD A s' s'.heap := by rw [hhp]; exact vx_Zq.moved hW0.alike (hU.kept hS.2.1)
  have hN' : vx_Zq Bundle.tN "SUPPRESSED_SENTINEL" Bundle.listD A s' s'.heap := by rw [hhp]; exact vx_Zq.moved hW0.alike (hN.kept hS.2.1)
  have h : ∀ w ∈ zOwn own ic cls ix (zCx ix) "java/lang/RuntimeException" zXn, w.before args s' = true := vx_own hat' (vx_isRefq hU'.1) (vx_isRefq hN'.1) hU'.2.word hN'.2.word
  have hown' : s'.vm.findClass own = some m.cls := by rw [hvm]; exact hown
  have hins : (Cond.instantiable cls 6).before args s' = true := h _ (by simp [zOwn])
  obtain ⟨vm₁, cX, kX, hfX, hkX, -, -, X₁, st1⟩ := Y.newCold hexec (own := own) (C := cls) (index := ik) (n := 6) hown' hk' hins hini'
    (g := F0 m pc ls rest) rfl (by rw [hb]; exact d0) (Nat.le_refl _) (Nat.le_refl _)
  generalize hT1 : (T.setVm vm₁).pushCell { cls := cX, slots := kX.instanceTypes.map defaultValue, vm := .none } = T1 at X₁ st1
  have hcat : (Value.ref T.heap.size).category = 1 := rfl
  have hcellA : T1.heap[T.heap.size]? = some (freshCell cX kX) := by rw [← hT1]; exact State.heap_pushCell_size _ _
  have d3' : decode c.code (pc + 3) = .ok (.dup, 1) := by rw [hb]; exact d3
  have hstr' : vk_R own is text sa s' := vk_R.warm hW0 hstr
  obtain ⟨U, hsteps, hrun, hend, hW, hsame, ce, hce, hO1, hO2⟩ := zctor X₁ hexec htr (own := own) (cls := cls) (ic := ic) x0 x1 x2 x5 hown' hcls (by decide +kernel) (by decide +kernel) h (fun x hx => nomatch hx) hfX hkX hcellA (by rw [hhp, hT]; exact Nat.le_refl _) (msg := .ref sa) rfl
    (g := { method := m, pc := n2, locals := ls, stack := .ref sa :: .ref T.heap.size :: .ref T.heap.size :: rest, locked := none }) rfl hsize rfl rfl (rest := rest) rfl
    (by rw [hb]; exact d6) (by rw [hb]; exact d9) hout hRframes (by
      show 2 * 0 + _ + (13 * (zXn.length + 1 + 1) + 42) ≤ _
      have : zXn.length = 1 := rfl
      rw [this]
      simp only [List.map_cons, List.sum_cons, hcat]; omega) hlocks
  obtain ⟨f1, f2⟩ := vx_frame hsame
  rw [hhp] at f1 f2
  have hWs : s.WarmedH U.vm := State.WarmedH.trans hW0 hW
  have hcl : s.vm.findClass cls = some ce.cls := by rw [← hvm]; exact hO1
  have hall : s.sameButNew ({ U with vm := s.vm } : State) locs mc ms := by
    subst hA
    obtain ⟨e1, e2⟩ := hsame
    rw [State.setFrames_setFrames] at e1
    have h2 : (T.setVm s.vm).sameButNew ({ U with vm := s.vm } : State) [] (0 + 1) (0 + 6) := ⟨e1, e2⟩
    have h3 := X.same.trans h2
    rw [List.append_nil] at h3
    exact h3.mono hc hs
  refine ⟨U, ?_, .threw T.heap.size, hrun, hend, Or.inr ⟨T.heap.size, rfl, cls, ce, locs, hx U hWs.alike f1 (fun q hq => f2 q hq (fun z hz => nomatch hz)), hce, hO2, hcl, hWs, hall, hf⟩⟩
  refine st1 _ ?_
  show Steps p.tables e below (T1.setTop { method := m, pc := pc + 3, locals := ls, stack := .ref T.heap.size :: rest, locked := none }) _
  jvm_step X₁.here [X₁.here.top, hexec, d3', Value.category]
  rcases d4 with ⟨d4, rfl⟩ | ⟨d4, rfl⟩
  · exact X₁.ldcString hexec (own := own) (text := text) (index := is) (a := sa) hown' hstr'.1 hstr'.2
      (g := { method := m, pc := pc + 4, locals := ls, stack := .ref T.heap.size :: .ref T.heap.size :: rest, locked := none }) rfl (by rw [hb]; exact d4) _ hsteps
  · exact X₁.ldcStringW hexec (own := own) (text := text) (index := is) (a := sa) hown' hstr'.1 hstr'.2
      (g := { method := m, pc := pc + 4, locals := ls, stack := .ref T.heap.size :: .ref T.heap.size :: rest, locked := none }) rfl (by rw [hb]; exact d4) _ hsteps
def zThr (M : zMD) (ik is ic E : Nat) (tx : String) (sn : Nat) : Prop := Cond.classLink M.1.cls ik (zEn E) ∈ wG ∧ Cond.initialized (zEn E) ∈ wG ∧ Cond.methodLink M.1.cls ic (Bundle.initS (zEn E)) ∈ wG ∧ (M.1.cls, is, tx, sn) ∈ zstrs ∧ E < 2
theorem Wr_throw {M : zMD} {d k pc : Nat} {L : List (Nat × Value)} {st : List Value} {μ : zMem} {K : zRes → zMem → Nat → Prop} {ik is ic E sn : Nat} {tx : String} (n2 : Nat) (hz : zThr M ik is ic E tx sn) (hnoh : zNoH M) (hroom : (st.map fun v => v.category).sum ≤ 8)
    (d0 : decode M.2.1 pc = .ok (.new ik, 3)) (d3 : decode M.2.1 (pc + 3) = .ok (.dup, 1)) (d4 : (decode M.2.1 (pc + 4) = .ok (.ldc is, 2) ∧ n2 = pc + 6) ∨ (decode M.2.1 (pc + 4) = .ok (.ldc_w is, 3) ∧ n2 = pc + 7)) (d6 : decode M.2.1 n2 = .ok (.invokespecial ic, 3)) (d9 : decode M.2.1 (n2 + 3) = .ok (.athrow, 1))
    (h : K (.inr E) μ (k + 1)) : Wr M d k pc L st μ K := by
  obtain ⟨z1, z2, z3, z4, z5⟩ := hz
  refine ⟨.inr E, μ, k + 1, by omega, h, fun D cA ad p l e R s m args below meth c c0 s0 H locs ls F b1 b2 hP hS hl => ?_⟩
  obtain ⟨hx, hb, hr, hml, hown, hts, hlk, hh, htr, hfr, hlo, hK, hD, hF⟩ := F
  obtain ⟨f1, f2, f3, f4, f5, f6, f7⟩ := hF
  have hout := zNoH_out (pc := n2 + 3) hnoh hh
  have hat : ∀ w ∈ zatS M.1.cls ic (zEn E) (zXi E), w.before args s = true := by
    match E, z5 with
    | 0, _ => exact zat zRg0 zRn0 z3 hts f7
    | 1, _ => exact zat zRg1 zRn1 z3 hts f7
  have hot : ∀ w ∈ Cond.classLink M.1.cls ik (zEn E) :: Cond.initialized (zEn E) :: zatS M.1.cls ic (zEn E) (zXi E), vx_ot w = true := by
    match E, z5 with
    | 0, _ => exact zotall zRo0
    | 1, _ => exact zotall zRo1
  have hfit : Bundle.fit (zEn E) = true := by
    match E, z5 with
    | 0, _ => decide +kernel
    | 1, _ => decide +kernel
  have hx4 : decode (zCx (zXi E)) 0 = .ok (.aload_n 0, 1) ∧ decode (zCx (zXi E)) 1 = .ok (.aload_n 1, 1) ∧ decode (zCx (zXi E)) 2 = .ok (.invokespecial (zXi E), 3) ∧ decode (zCx (zXi E)) 5 = .ok (.return_, 1) := by
    match E, z5 with
    | 0, _ => exact ⟨by decide +kernel, by decide +kernel, by decide +kernel, by decide +kernel⟩
    | 1, _ => exact ⟨by decide +kernel, by decide +kernel, by decide +kernel, by decide +kernel⟩
  have es : s0 + (k + 1) * 6 = s0 + k * 6 + 6 := by omega
  have ec : c0 + (k + 1) = c0 + k + 1 := by omega
  rw [es] at b2
  rw [ec] at b1
  rw [es, ec]
  exact zthrowW hx hb htr hx4.1 hx4.2.1 hx4.2.2.1 hx4.2.2.2 hown hfit (hts _ z1) (hts _ z2) (f2 _ z4) hat hot f3 f4 hS (hl.1.trans hml.symm) d0 d3 d4 d6 d9 hout
    (by omega) (by rw [zv_sum]; omega) b1 b2 hlk
    (fun t _ hz9 hq9 => ⟨⟨E, rfl, rfl⟩, fun k9 q9 h9 => (hP k9 q9 h9).kept (hq9 _ (vx_lt hP h9)), ⟨Nat.le_trans hS.1 hz9, fun q9 h8 h9 => (hq9 q9 (Nat.lt_of_lt_of_le h8 hS.1)).trans (hS.2.1 q9 h8 h9)⟩⟩)
    hS.2.2 (Nat.le_refl _) (Nat.le_refl _)
