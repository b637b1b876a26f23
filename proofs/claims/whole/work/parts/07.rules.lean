theorem zvl_at {ad : Nat → Nat} {L : List (Nat × Value)} {q i : Nat} {v : Value} (h : L[q]? = some (i, v)) : (zvl ad L)[q]? = some (i, zv ad v) := by
  unfold zvl
  rw [List.getElem?_map, h]
  rfl
def zfl1 (i : Nat) (v : Value) (L : List (Nat × Value)) : List (Nat × Value) := (i, v) :: L.filter (fun q => !(q.1 == i) && !(q.1 + 1 == i && q.2.category == 2))
def zfl2 (i : Nat) (v : Value) (L : List (Nat × Value)) : List (Nat × Value) := (i, v) :: L.filter (fun q => !(q.1 == i) && (!(q.1 == i + 1) && !(q.1 + 1 == i && q.2.category == 2)))
theorem zfl_map (ad : Nat → Nat) (f : Nat → Nat → Bool) (L : List (Nat × Value)) : (zvl ad L).filter (fun q => f q.1 q.2.category) = zvl ad (L.filter fun q => f q.1 q.2.category) := by
  unfold zvl
  rw [List.filter_map]
  congr 1
  apply List.filter_congr
  intro q _
  show f q.1 (zv ad q.2).category = _
  rw [zv_cat]
theorem zfl1_eq (ad : Nat → Nat) {i : Nat} {v : Value} {L L' : List (Nat × Value)} (h : zfl1 i v L = L') : (i, zv ad v) :: (zvl ad L).filter (fun q => !(q.1 == i) && !(q.1 + 1 == i && q.2.category == 2)) = zvl ad L' := by
  rw [← h]
  exact congrArg (fun l => (i, zv ad v) :: l) (zfl_map ad (fun a b => !(a == i) && !(a + 1 == i && b == 2)) L)
theorem zfl2_eq (ad : Nat → Nat) {i : Nat} {v : Value} {L L' : List (Nat × Value)} (h : zfl2 i v L = L') : (i, zv ad v) :: (zvl ad L).filter (fun q => !(q.1 == i) && (!(q.1 == i + 1) && !(q.1 + 1 == i && q.2.category == 2))) = zvl ad L' := by
  rw [← h]
  exact congrArg (fun l => (i, zv ad v) :: l) (zfl_map ad (fun a b => !(a == i) && (!(a == i + 1) && !(a + 1 == i && b == 2))) L)
def zcode (g : zMD) : Cond := match g.2.2.2.2 with
  | some (q :: hh) => .codeWith g.1 g.2.1 g.2.2.1 g.2.2.2.1 (q :: hh)
  | _ => .code g.1 g.2.1 g.2.2.1 g.2.2.2.1
def zwd (g : zMD) : List Cond := zcode g :: wG
def zRm (d k : Nat) : Room := { frames := d + 10, cells := k, slots := k * 6, locals := d * 40 + 200 }
def zPre (D : va_G) (cA : Nat → ClassId) (ad : Nat → Nat) (μ : zMem) (sz : Nat) : State → Prop := fun U => U.heap.size = sz ∧ zP D cA ad μ U.heap ∧ zK D cA U ∧ zD ad ∧ zF ad (zA ad sz) U U.heap
def zQ (D : va_G) (cA : Nat → ClassId) (ad : Nat → Nat) (sz : Nat) (μ' : zMem) (r : zRes) : Array Value → State → Outcome → State → Prop := fun _ st oc t => (∃ v, r = .inl v ∧ oc = .returned (v.map (zv ad))) ∧ zP D cA ad μ' t.heap ∧ va_F (zA ad sz) st t
def zEn : Nat → String
  | 0 => "java/util/NoSuchElementException"
  | _ => "java/lang/IllegalArgumentException"
def zX (D : va_G) (cA : Nat → ClassId) (ad : Nat → Nat) (sz : Nat) (μ' : zMem) (r : zRes) : String → State → State → Prop := fun E st t => (∃ e, r = .inr e ∧ E = zEn e) ∧ zP D cA ad μ' t.heap ∧ va_F (zA ad sz) st t
/-- a call of g comes to an end, and K holds of how -/
def Ex (d : Nat) (g : zMD) (as : List Value) (μ : zMem) (K : zRes → zMem → Nat → Prop) : Prop :=
  ∃ (r : zRes) (μ' : zMem) (k : Nat), K r μ' k ∧ ∀ (l : Launch) (D : va_G) (cA : Nat → ClassId) (ad : Nat → Nat) (sz : Nat), l.stackTraces = false →
    vx_Met l g.1 (zwd g) (zRm d k) (va_Pc (as.map (zv ad)) (zPre D cA ad μ sz)) (zQ D cA ad sz μ' r) (zX D cA ad sz μ' r) k (k * 6) (zA ad sz)
def zFix (M : zMD) (d : Nat) (D : va_G) (cA : Nat → ClassId) (ad : Nat → Nat) (p : Program) (l : Launch) (R : Room) (s : State) (m : MethodId) (args : Array Value) (meth : Method) (c : Code) : Prop :=
  p.tables.exec = Jvm.exec ∧ c.code = M.2.1 ∧ meth.sig.returnType = M.2.2.2.1 ∧ c.maxLocals = M.2.2.1 ∧ s.vm.findClass M.1.cls = some m.cls ∧ (∀ w ∈ wG, w.before args s = true) ∧ meth.locks = false ∧ (∀ hh, M.2.2.2.2 = some hh → c.exceptionTable.toList = tableOf hh) ∧ l.stackTraces = false ∧
  d + 10 ≤ R.frames ∧ d * 40 + 200 ≤ R.locals ∧ zK D cA s ∧ zD ad ∧ zF ad (zA ad s.heap.size) s s.heap
/-- from here the method's frame comes to its end, and K holds of how -/
def Wr (M : zMD) (d k pc : Nat) (L : List (Nat × Value)) (st : List Value) (μ : zMem) (K : zRes → zMem → Nat → Prop) : Prop :=
  ∃ (r : zRes) (μ' : zMem) (kf : Nat), k ≤ kf ∧ K r μ' kf ∧ ∀ (D : va_G) (cA : Nat → ClassId) (ad : Nat → Nat) (p : Program) (l : Launch) (e : Env) (R : Room) (s : State) (m : MethodId) (args : Array Value) (below : List Frame) (meth : Method) (c : Code) (c0 s0 : Nat) (H : Heap) (locs : List Loc) (ls : Array Slot),
    zFix M d D cA ad p l R s m args meth c → c0 + kf ≤ R.cells → s0 + kf * 6 ≤ R.slots → zP D cA ad μ H → va_S (zA ad s.heap.size) s.heap H locs → lv_has ls M.2.2.1 (zvl ad L) →
    W p l e R s m args below meth c H locs (c0 + k) (s0 + k * 6) (vx_MQ below (zQ D cA ad s.heap.size μ' r) (zX D cA ad s.heap.size μ' r) args s (c0 + kf) (s0 + kf * 6) (zA ad s.heap.size)) (F0 m pc ls (st.map (zv ad)))
section WrRules
variable {M : zMD} {d k pc : Nat} {L : List (Nat × Value)} {st : List Value} {μ : zMem} {K : zRes → zMem → Nat → Prop}
theorem Wr.imp {K' : zRes → zMem → Nat → Prop} (h : Wr M d k pc L st μ K) (f : ∀ r μ' n, K r μ' n → K' r μ' n) : Wr M d k pc L st μ K' := by
  obtain ⟨r, μ', kf, a1, a2, h⟩ := h
  exact ⟨r, μ', kf, a1, f _ _ _ a2, h⟩
theorem Ex.imp {g : zMD} {as : List Value} {K' : zRes → zMem → Nat → Prop} (h : Ex d g as μ K) (f : ∀ r μ' n, K r μ' n → K' r μ' n) : Ex d g as μ K' := by
  obtain ⟨r, μ', kf, a2, h⟩ := h
  exact ⟨r, μ', kf, f _ _ _ a2, h⟩
/-- an instruction that only moves the frame -/
theorem Wr_st {pc' : Nat} {st' : List Value} (f : ∀ {p : Program} {l : Launch} {e : Env} {R : Room} {s : State} {m : MethodId} {args : Array Value} {below : List Frame} {meth : Method} {c : Code} {H : Heap} {locs : List Loc} {cells slots : Nat} {Q : State → Prop} {ls : Array Slot} (ad : Nat → Nat), p.tables.exec = Jvm.exec → c.code = M.2.1 → lv_has ls M.2.2.1 (zvl ad L) →
      W p l e R s m args below meth c H locs cells slots Q (F0 m pc' ls (st'.map (zv ad))) → W p l e R s m args below meth c H locs cells slots Q (F0 m pc ls (st.map (zv ad))))
    (h : Wr M d k pc' L st' μ K) : Wr M d k pc L st μ K := by
  obtain ⟨r, μ', kf, a1, a2, h⟩ := h
  exact ⟨r, μ', kf, a1, a2, fun D cA ad p l e R s m args below meth c c0 s0 H locs ls F b1 b2 hP hS hl => f ad F.1 F.2.1 hl (h D cA ad p l e R s m args below meth c c0 s0 H locs ls F b1 b2 hP hS hl)⟩
theorem Wr_fx {pc' : Nat} {st' : List Value} (f : ∀ {D : va_G} {cA : Nat → ClassId} {ad : Nat → Nat} {p : Program} {l : Launch} {e : Env} {R : Room} {s : State} {m : MethodId} {args : Array Value} {below : List Frame} {meth : Method} {c : Code} {H : Heap} {locs : List Loc} {cells slots : Nat} {Q : State → Prop} {ls : Array Slot}, zFix M d D cA ad p l R s m args meth c → zP D cA ad μ H → va_S (zA ad s.heap.size) s.heap H locs → lv_has ls M.2.2.1 (zvl ad L) →
      W p l e R s m args below meth c H locs cells slots Q (F0 m pc' ls (st'.map (zv ad))) → W p l e R s m args below meth c H locs cells slots Q (F0 m pc ls (st.map (zv ad))))
    (h : Wr M d k pc' L st' μ K) : Wr M d k pc L st μ K := by
  obtain ⟨r, μ', kf, a1, a2, h⟩ := h
  exact ⟨r, μ', kf, a1, a2, fun D cA ad p l e R s m args below meth c c0 s0 H locs ls F b1 b2 hP hS hl => f F hP hS hl (h D cA ad p l e R s m args below meth c c0 s0 H locs ls F b1 b2 hP hS hl)⟩
/-- an instruction that stores a local -/
theorem Wr_lo {pc' : Nat} {L' : List (Nat × Value)} {st' : List Value} (f : ∀ {p : Program} {l : Launch} {e : Env} {R : Room} {s : State} {m : MethodId} {args : Array Value} {below : List Frame} {meth : Method} {c : Code} {H : Heap} {locs : List Loc} {cells slots : Nat} {Q : State → Prop} {ls : Array Slot} (ad : Nat → Nat), p.tables.exec = Jvm.exec → c.code = M.2.1 → lv_has ls M.2.2.1 (zvl ad L) →
      (∀ ls' : Array Slot, lv_has ls' M.2.2.1 (zvl ad L') → W p l e R s m args below meth c H locs cells slots Q (F0 m pc' ls' (st'.map (zv ad)))) → W p l e R s m args below meth c H locs cells slots Q (F0 m pc ls (st.map (zv ad))))
    (h : Wr M d k pc' L' st' μ K) : Wr M d k pc L st μ K := by
  obtain ⟨r, μ', kf, a1, a2, h⟩ := h
  exact ⟨r, μ', kf, a1, a2, fun D cA ad p l e R s m args below meth c c0 s0 H locs ls F b1 b2 hP hS hl => f ad F.1 F.2.1 hl (fun ls' hl' => h D cA ad p l e R s m args below meth c c0 s0 H locs ls' F b1 b2 hP hS hl')⟩
/-- an instruction that writes the heap -/
theorem Wr_hp {pc' : Nat} {st' : List Value} {μ1 : zMem} (f : ∀ {D : va_G} {cA : Nat → ClassId} {ad : Nat → Nat} {p : Program} {l : Launch} {e : Env} {R : Room} {s : State} {m : MethodId} {args : Array Value} {below : List Frame} {meth : Method} {c : Code} {H : Heap} {locs : List Loc} {cells slots : Nat} {Q : State → Prop} {ls : Array Slot}, zFix M d D cA ad p l R s m args meth c → zP D cA ad μ H → va_S (zA ad s.heap.size) s.heap H locs → lv_has ls M.2.2.1 (zvl ad L) →
      (∀ (H1 : Heap) (locs1 : List Loc), zP D cA ad μ1 H1 → va_S (zA ad s.heap.size) s.heap H1 locs1 → W p l e R s m args below meth c H1 locs1 cells slots Q (F0 m pc' ls (st'.map (zv ad)))) → W p l e R s m args below meth c H locs cells slots Q (F0 m pc ls (st.map (zv ad))))
    (h : Wr M d k pc' L st' μ1 K) : Wr M d k pc L st μ K := by
  obtain ⟨r, μ', kf, a1, a2, h⟩ := h
  exact ⟨r, μ', kf, a1, a2, fun D cA ad p l e R s m args below meth c c0 s0 H locs ls F b1 b2 hP hS hl => f F hP hS hl (fun H1 locs1 hP1 hS1 => h D cA ad p l e R s m args below meth c c0 s0 H1 locs1 ls F b1 b2 hP1 hS1 hl)⟩
/-- a branch -/
theorem Wr_br {c1 : Prop} {pc1 pc2 : Nat} {st' : List Value} (f : ∀ {p : Program} {l : Launch} {e : Env} {R : Room} {s : State} {m : MethodId} {args : Array Value} {below : List Frame} {meth : Method} {c : Code} {H : Heap} {locs : List Loc} {cells slots : Nat} {Q : State → Prop} {ls : Array Slot} (ad : Nat → Nat), p.tables.exec = Jvm.exec → c.code = M.2.1 → (c1 → W p l e R s m args below meth c H locs cells slots Q (F0 m pc1 ls (st'.map (zv ad)))) → (¬ c1 → W p l e R s m args below meth c H locs cells slots Q (F0 m pc2 ls (st'.map (zv ad)))) → W p l e R s m args below meth c H locs cells slots Q (F0 m pc ls (st.map (zv ad))))
    (h1 : c1 → Wr M d k pc1 L st' μ K) (h2 : ¬ c1 → Wr M d k pc2 L st' μ K) : Wr M d k pc L st μ K := by
  by_cases hc : c1
  · obtain ⟨r, μ', kf, a1, a2, h⟩ := h1 hc
    exact ⟨r, μ', kf, a1, a2, fun D cA ad p l e R s m args below meth c c0 s0 H locs ls F b1 b2 hP hS hl => f ad F.1 F.2.1 (fun _ => h D cA ad p l e R s m args below meth c c0 s0 H locs ls F b1 b2 hP hS hl) (fun q => absurd hc q)⟩
  · obtain ⟨r, μ', kf, a1, a2, h⟩ := h2 hc
    exact ⟨r, μ', kf, a1, a2, fun D cA ad p l e R s m args below meth c c0 s0 H locs ls F b1 b2 hP hS hl => f ad F.1 F.2.1 (fun q => absurd q hc) (fun _ => h D cA ad p l e R s m args below meth c c0 s0 H locs ls F b1 b2 hP hS hl)⟩
theorem Wr_iconst {n : Int} (hd : decode M.2.1 pc = .ok (.iconst n, 1)) (h : Wr M d k (pc + 1) L (.int (Int32.ofInt n) :: st) μ K) : Wr M d k pc L (st) μ K := Wr_st (fun ad hx hb hl kk => lv_iconst hx hb hd rfl kk) h
theorem Wr_iconstv {n : Int} {v : Int32} (hd : decode M.2.1 pc = .ok (.iconst n, 1)) (hv : Int32.ofInt n = v) (h : Wr M d k (pc + 1) L (.int v :: st) μ K) : Wr M d k pc L (st) μ K := Wr_st (fun ad hx hb hl kk => lv_iconst hx hb hd hv kk) h
theorem Wr_bipush {n : Int} {v : Int32} (hd : decode M.2.1 pc = .ok (.bipush n, 2)) (hv : (Int8.ofInt n).toInt32 = v) (h : Wr M d k (pc + 2) L (.int v :: st) μ K) : Wr M d k pc L (st) μ K := Wr_st (fun ad hx hb hl kk => lv_bipush hx hb hd hv kk) h
theorem Wr_sipush {n : Int} {v : Int32} (hd : decode M.2.1 pc = .ok (.sipush n, 3)) (hv : (Int16.ofInt n).toInt32 = v) (h : Wr M d k (pc + 3) L (.int v :: st) μ K) : Wr M d k pc L (st) μ K := Wr_st (fun ad hx hb hl kk => lv_sipush hx hb hd hv kk) h
theorem Wr_lconst {n : Fin 2} {v : Int64} (hd : decode M.2.1 pc = .ok (.lconst n, 1)) (hv : Int64.ofNat (n : Nat) = v) (h : Wr M d k (pc + 1) L (.long v :: st) μ K) : Wr M d k pc L (st) μ K := Wr_st (fun ad hx hb hl kk => lv_lconst hx hb hd hv kk) h
theorem Wr_iload_n {j : Fin 4} {i : Nat} {x : Int32} (hd : decode M.2.1 pc = .ok (.iload_n j, 1)) (hi : (j : Nat) = i) (q : Nat) (hq : L[q]? = some (i, .int x)) (h : Wr M d k (pc + 1) L (.int x :: st) μ K) : Wr M d k pc L st μ K := Wr_st (fun ad hx hb hl kk => lv_iload_n hx hb hd hi (lv_at hl q (zvl_at hq)) kk) h
theorem Wr_iload {i : Nat} {x : Int32} (hd : decode M.2.1 pc = .ok (.iload i, 2)) (q : Nat) (hq : L[q]? = some (i, .int x)) (h : Wr M d k (pc + 2) L (.int x :: st) μ K) : Wr M d k pc L st μ K := Wr_st (fun ad hx hb hl kk => lv_iload hx hb hd (lv_at hl q (zvl_at hq)) kk) h
theorem Wr_lload_n {j : Fin 4} {i : Nat} {x : Int64} (hd : decode M.2.1 pc = .ok (.lload_n j, 1)) (hi : (j : Nat) = i) (q : Nat) (hq : L[q]? = some (i, .long x)) (h : Wr M d k (pc + 1) L (.long x :: st) μ K) : Wr M d k pc L st μ K := Wr_st (fun ad hx hb hl kk => lv_lload_n hx hb hd hi (lv_at hl q (zvl_at hq)) kk) h
theorem Wr_lload {i : Nat} {x : Int64} (hd : decode M.2.1 pc = .ok (.lload i, 2)) (q : Nat) (hq : L[q]? = some (i, .long x)) (h : Wr M d k (pc + 2) L (.long x :: st) μ K) : Wr M d k pc L st μ K := Wr_st (fun ad hx hb hl kk => lv_lload hx hb hd (lv_at hl q (zvl_at hq)) kk) h
theorem Wr_aload_n {j : Fin 4} {i : Nat} {x : Nat} (hd : decode M.2.1 pc = .ok (.aload_n j, 1)) (hi : (j : Nat) = i) (q : Nat) (hq : L[q]? = some (i, .ref x)) (h : Wr M d k (pc + 1) L (.ref x :: st) μ K) : Wr M d k pc L st μ K := Wr_st (fun ad hx hb hl kk => lv_aload_n hx hb hd hi (lv_at hl q (zvl_at hq)) kk) h
theorem Wr_aload {i : Nat} {x : Nat} (hd : decode M.2.1 pc = .ok (.aload i, 2)) (q : Nat) (hq : L[q]? = some (i, .ref x)) (h : Wr M d k (pc + 2) L (.ref x :: st) μ K) : Wr M d k pc L st μ K := Wr_st (fun ad hx hb hl kk => lv_aload hx hb hd (lv_at hl q (zvl_at hq)) kk) h
theorem Wr_istore_n {j : Fin 4} {i : Nat} {x : Int32} {L' : List (Nat × Value)} (hd : decode M.2.1 pc = .ok (.istore_n j, 1)) (hi : (j : Nat) = i) (hn : i < M.2.2.1) (hL : zfl1 i (.int x) L = L') (h : Wr M d k (pc + 1) L' st μ K) : Wr M d k pc L (.int x :: st) μ K := Wr_lo (fun ad hx hb hl kk => lv_istore_n hx hb hd hi hl hn (zfl1_eq ad hL) kk) h
theorem Wr_istore {i : Nat} {x : Int32} {L' : List (Nat × Value)} (hd : decode M.2.1 pc = .ok (.istore i, 2)) (hn : i < M.2.2.1) (hL : zfl1 i (.int x) L = L') (h : Wr M d k (pc + 2) L' st μ K) : Wr M d k pc L (.int x :: st) μ K := Wr_lo (fun ad hx hb hl kk => lv_istore hx hb hd hl hn (zfl1_eq ad hL) kk) h
theorem Wr_lstore_n {j : Fin 4} {i : Nat} {x : Int64} {L' : List (Nat × Value)} (hd : decode M.2.1 pc = .ok (.lstore_n j, 1)) (hi : (j : Nat) = i) (hn : i + 1 < M.2.2.1) (hL : zfl2 i (.long x) L = L') (h : Wr M d k (pc + 1) L' st μ K) : Wr M d k pc L (.long x :: st) μ K := Wr_lo (fun ad hx hb hl kk => lv_lstore_n hx hb hd hi hl hn (zfl2_eq ad hL) kk) h
theorem Wr_lstore {i : Nat} {x : Int64} {L' : List (Nat × Value)} (hd : decode M.2.1 pc = .ok (.lstore i, 2)) (hn : i + 1 < M.2.2.1) (hL : zfl2 i (.long x) L = L') (h : Wr M d k (pc + 2) L' st μ K) : Wr M d k pc L (.long x :: st) μ K := Wr_lo (fun ad hx hb hl kk => lv_lstore hx hb hd hl hn (zfl2_eq ad hL) kk) h
theorem Wr_astore_n {j : Fin 4} {i : Nat} {x : Nat} {L' : List (Nat × Value)} (hd : decode M.2.1 pc = .ok (.astore_n j, 1)) (hi : (j : Nat) = i) (hn : i < M.2.2.1) (hL : zfl1 i (.ref x) L = L') (h : Wr M d k (pc + 1) L' st μ K) : Wr M d k pc L (.ref x :: st) μ K := Wr_lo (fun ad hx hb hl kk => lv_astore_n hx hb hd hi hl hn (zfl1_eq ad hL) kk) h
theorem Wr_astore {i : Nat} {x : Nat} {L' : List (Nat × Value)} (hd : decode M.2.1 pc = .ok (.astore i, 2)) (hn : i < M.2.2.1) (hL : zfl1 i (.ref x) L = L') (h : Wr M d k (pc + 2) L' st μ K) : Wr M d k pc L (.ref x :: st) μ K := Wr_lo (fun ad hx hb hl kk => lv_astore hx hb hd hl hn (zfl1_eq ad hL) kk) h
theorem Wr_iinc {i q : Nat} {n : Int} {x v : Int32} {L' : List (Nat × Value)} (hd : decode M.2.1 pc = .ok (.iinc i n, 3)) (hq : L[q]? = some (i, .int x)) (hv : x + Int32.ofInt n = v) (hn : i < M.2.2.1) (hL : zfl1 i (.int v) L = L') (h : Wr M d k (pc + 3) L' st μ K) : Wr M d k pc L st μ K := Wr_lo (fun ad hx hb hl kk => lv_iinc hx hb hd hl (zvl_at hq) hv hn (zfl1_eq ad hL) kk) h
theorem Wr_iadd {x y : Int32} (hd : decode M.2.1 pc = .ok (.iadd, 1)) (h : Wr M d k (pc + 1) L (.int (x + y) :: st) μ K) : Wr M d k pc L (.int y :: .int x :: st) μ K := Wr_st (fun ad hx hb hl kk => lv_iadd hx hb hd kk) h
theorem Wr_isub {x y : Int32} (hd : decode M.2.1 pc = .ok (.isub, 1)) (h : Wr M d k (pc + 1) L (.int (x - y) :: st) μ K) : Wr M d k pc L (.int y :: .int x :: st) μ K := Wr_st (fun ad hx hb hl kk => lv_isub hx hb hd kk) h
theorem Wr_imul {x y : Int32} (hd : decode M.2.1 pc = .ok (.imul, 1)) (h : Wr M d k (pc + 1) L (.int (x * y) :: st) μ K) : Wr M d k pc L (.int y :: .int x :: st) μ K := Wr_st (fun ad hx hb hl kk => lv_imul hx hb hd kk) h
theorem Wr_iand {x y : Int32} (hd : decode M.2.1 pc = .ok (.iand, 1)) (h : Wr M d k (pc + 1) L (.int (x &&& y) :: st) μ K) : Wr M d k pc L (.int y :: .int x :: st) μ K := Wr_st (fun ad hx hb hl kk => lv_iand hx hb hd kk) h
theorem Wr_ior {x y : Int32} (hd : decode M.2.1 pc = .ok (.ior, 1)) (h : Wr M d k (pc + 1) L (.int (x ||| y) :: st) μ K) : Wr M d k pc L (.int y :: .int x :: st) μ K := Wr_st (fun ad hx hb hl kk => lv_ior hx hb hd kk) h
theorem Wr_ixor {x y : Int32} (hd : decode M.2.1 pc = .ok (.ixor, 1)) (h : Wr M d k (pc + 1) L (.int (x ^^^ y) :: st) μ K) : Wr M d k pc L (.int y :: .int x :: st) μ K := Wr_st (fun ad hx hb hl kk => lv_ixor hx hb hd kk) h
theorem Wr_ishl {x y : Int32} (hd : decode M.2.1 pc = .ok (.ishl, 1)) (h : Wr M d k (pc + 1) L (.int (x <<< (y &&& 31)) :: st) μ K) : Wr M d k pc L (.int y :: .int x :: st) μ K := Wr_st (fun ad hx hb hl kk => lv_ishl hx hb hd kk) h
theorem Wr_ishr {x y : Int32} (hd : decode M.2.1 pc = .ok (.ishr, 1)) (h : Wr M d k (pc + 1) L (.int (x >>> (y &&& 31)) :: st) μ K) : Wr M d k pc L (.int y :: .int x :: st) μ K := Wr_st (fun ad hx hb hl kk => lv_ishr hx hb hd kk) h
theorem Wr_iushr {x y : Int32} (hd : decode M.2.1 pc = .ok (.iushr, 1)) (h : Wr M d k (pc + 1) L (.int ((x.toUInt32 >>> (y.toUInt32 &&& Int32.toUInt32 31)).toInt32) :: st) μ K) : Wr M d k pc L (.int y :: .int x :: st) μ K := Wr_st (fun ad hx hb hl kk => lv_iushr hx hb hd rfl kk) h
theorem Wr_idiv {x y : Int32} (hd : decode M.2.1 pc = .ok (.idiv, 1)) (hne : ¬ y = 0) (h : Wr M d k (pc + 1) L (.int (x / y) :: st) μ K) : Wr M d k pc L (.int y :: .int x :: st) μ K := Wr_st (fun ad hx hb hl kk => lv_idiv hx hb hd hne kk) h
theorem Wr_irem {x y : Int32} (hd : decode M.2.1 pc = .ok (.irem, 1)) (hne : ¬ y = 0) (h : Wr M d k (pc + 1) L (.int (x - x / y * y) :: st) μ K) : Wr M d k pc L (.int y :: .int x :: st) μ K := Wr_st (fun ad hx hb hl kk => lv_irem hx hb hd hne kk) h
theorem Wr_ineg {x : Int32} (hd : decode M.2.1 pc = .ok (.ineg, 1)) (h : Wr M d k (pc + 1) L (.int (-x) :: st) μ K) : Wr M d k pc L (.int x :: st) μ K := Wr_st (fun ad hx hb hl kk => lv_ineg hx hb hd kk) h
theorem Wr_ladd {x y : Int64} (hd : decode M.2.1 pc = .ok (.ladd, 1)) (h : Wr M d k (pc + 1) L (.long (x + y) :: st) μ K) : Wr M d k pc L (.long y :: .long x :: st) μ K := Wr_st (fun ad hx hb hl kk => lv_ladd hx hb hd kk) h
theorem Wr_lsub {x y : Int64} (hd : decode M.2.1 pc = .ok (.lsub, 1)) (h : Wr M d k (pc + 1) L (.long (x - y) :: st) μ K) : Wr M d k pc L (.long y :: .long x :: st) μ K := Wr_st (fun ad hx hb hl kk => lv_lsub hx hb hd kk) h
theorem Wr_lmul {x y : Int64} (hd : decode M.2.1 pc = .ok (.lmul, 1)) (h : Wr M d k (pc + 1) L (.long (x * y) :: st) μ K) : Wr M d k pc L (.long y :: .long x :: st) μ K := Wr_st (fun ad hx hb hl kk => lv_lmul hx hb hd kk) h
theorem Wr_ldiv {x y : Int64} (hd : decode M.2.1 pc = .ok (.ldiv, 1)) (hne : ¬ y = 0) (h : Wr M d k (pc + 1) L (.long (x / y) :: st) μ K) : Wr M d k pc L (.long y :: .long x :: st) μ K := Wr_st (fun ad hx hb hl kk => lv_ldiv hx hb hd hne kk) h
theorem Wr_lrem {x y : Int64} (hd : decode M.2.1 pc = .ok (.lrem, 1)) (hne : ¬ y = 0) (h : Wr M d k (pc + 1) L (.long (x - x / y * y) :: st) μ K) : Wr M d k pc L (.long y :: .long x :: st) μ K := Wr_st (fun ad hx hb hl kk => lv_lrem hx hb hd hne kk) h
theorem Wr_i2l {x : Int32} (hd : decode M.2.1 pc = .ok (.i2l, 1)) (h : Wr M d k (pc + 1) L (.long x.toInt64 :: st) μ K) : Wr M d k pc L (.int x :: st) μ K := Wr_st (fun ad hx hb hl kk => lv_i2l hx hb hd rfl kk) h
theorem Wr_l2i {x : Int64} (hd : decode M.2.1 pc = .ok (.l2i, 1)) (h : Wr M d k (pc + 1) L (.int x.toInt32 :: st) μ K) : Wr M d k pc L (.long x :: st) μ K := Wr_st (fun ad hx hb hl kk => lv_l2i hx hb hd rfl kk) h
theorem Wr_i2b {x : Int32} (hd : decode M.2.1 pc = .ok (.i2b, 1)) (h : Wr M d k (pc + 1) L (.int x.toInt8.toInt32 :: st) μ K) : Wr M d k pc L (.int x :: st) μ K := Wr_st (fun ad hx hb hl kk => lv_i2b hx hb hd rfl kk) h
theorem Wr_i2c {x : Int32} (hd : decode M.2.1 pc = .ok (.i2c, 1)) (h : Wr M d k (pc + 1) L (.int (x.toUInt32 % 65536).toInt32 :: st) μ K) : Wr M d k pc L (.int x :: st) μ K := Wr_st (fun ad hx hb hl kk => lv_i2c hx hb hd rfl kk) h
theorem Wr_dup {v : Value} (hd : decode M.2.1 pc = .ok (.dup, 1)) (hv : v.category = 1) (h : Wr M d k (pc + 1) L (v :: v :: st) μ K) : Wr M d k pc L (v :: st) μ K := Wr_st (fun ad hx hb hl kk => lv_dup hx hb hd ((zv_cat ad v).trans hv) kk) h
theorem Wr_pop {v : Value} (hd : decode M.2.1 pc = .ok (.pop, 1)) (hv : v.category = 1) (h : Wr M d k (pc + 1) L (st) μ K) : Wr M d k pc L (v :: st) μ K := Wr_st (fun ad hx hb hl kk => lv_pop hx hb hd ((zv_cat ad v).trans hv) kk) h
theorem Wr_dup2 {v w : Value} (hd : decode M.2.1 pc = .ok (.dup2, 1)) (hv : v.category = 1) (hw : w.category = 1) (h : Wr M d k (pc + 1) L (v :: w :: v :: w :: st) μ K) : Wr M d k pc L (v :: w :: st) μ K := Wr_st (fun ad hx hb hl kk => lv_dup2_11 hx hb hd ((zv_cat ad v).trans hv) ((zv_cat ad w).trans hw) kk) h
theorem Wr_if_eq {x : Int32} {off : Int} (tgt : Nat) (hd : decode M.2.1 pc = .ok (.ifCond .eq off, 3)) (ht : (pc : Int) + off = (tgt : Int)) (h1 : x = 0 → Wr M d k tgt L st μ K) (h2 : ¬ x = 0 → Wr M d k (pc + 3) L st μ K) : Wr M d k pc L (.int x :: st) μ K := Wr_br (fun ad hx hb kt kf => lv_if_eq hx hb hd ht kt kf) h1 h2
theorem Wr_if_lt {x : Int32} {off : Int} (tgt : Nat) (hd : decode M.2.1 pc = .ok (.ifCond .lt off, 3)) (ht : (pc : Int) + off = (tgt : Int)) (h1 : x < 0 → Wr M d k tgt L st μ K) (h2 : ¬ x < 0 → Wr M d k (pc + 3) L st μ K) : Wr M d k pc L (.int x :: st) μ K := Wr_br (fun ad hx hb kt kf => lv_if_lt hx hb hd ht kt kf) h1 h2
theorem Wr_if_ge {x : Int32} {off : Int} (tgt : Nat) (hd : decode M.2.1 pc = .ok (.ifCond .ge off, 3)) (ht : (pc : Int) + off = (tgt : Int)) (h1 : 0 ≤ x → Wr M d k tgt L st μ K) (h2 : ¬ 0 ≤ x → Wr M d k (pc + 3) L st μ K) : Wr M d k pc L (.int x :: st) μ K := Wr_br (fun ad hx hb kt kf => lv_if_ge hx hb hd ht kt kf) h1 h2
theorem Wr_if_gt {x : Int32} {off : Int} (tgt : Nat) (hd : decode M.2.1 pc = .ok (.ifCond .gt off, 3)) (ht : (pc : Int) + off = (tgt : Int)) (h1 : 0 < x → Wr M d k tgt L st μ K) (h2 : ¬ 0 < x → Wr M d k (pc + 3) L st μ K) : Wr M d k pc L (.int x :: st) μ K := Wr_br (fun ad hx hb kt kf => lv_if_gt hx hb hd ht kt kf) h1 h2
theorem Wr_if_le {x : Int32} {off : Int} (tgt : Nat) (hd : decode M.2.1 pc = .ok (.ifCond .le off, 3)) (ht : (pc : Int) + off = (tgt : Int)) (h1 : x ≤ 0 → Wr M d k tgt L st μ K) (h2 : ¬ x ≤ 0 → Wr M d k (pc + 3) L st μ K) : Wr M d k pc L (.int x :: st) μ K := Wr_br (fun ad hx hb kt kf => lv_if_le hx hb hd ht kt kf) h1 h2
theorem Wr_icmp_eq {x y : Int32} {off : Int} (tgt : Nat) (hd : decode M.2.1 pc = .ok (.if_icmp .eq off, 3)) (ht : (pc : Int) + off = (tgt : Int)) (h1 : x = y → Wr M d k tgt L st μ K) (h2 : ¬ x = y → Wr M d k (pc + 3) L st μ K) : Wr M d k pc L (.int y :: .int x :: st) μ K := Wr_br (fun ad hx hb kt kf => lv_icmp_eq hx hb hd ht kt kf) h1 h2
theorem Wr_icmp_lt {x y : Int32} {off : Int} (tgt : Nat) (hd : decode M.2.1 pc = .ok (.if_icmp .lt off, 3)) (ht : (pc : Int) + off = (tgt : Int)) (h1 : x < y → Wr M d k tgt L st μ K) (h2 : ¬ x < y → Wr M d k (pc + 3) L st μ K) : Wr M d k pc L (.int y :: .int x :: st) μ K := Wr_br (fun ad hx hb kt kf => lv_icmp_lt hx hb hd ht kt kf) h1 h2
theorem Wr_icmp_ge {x y : Int32} {off : Int} (tgt : Nat) (hd : decode M.2.1 pc = .ok (.if_icmp .ge off, 3)) (ht : (pc : Int) + off = (tgt : Int)) (h1 : y ≤ x → Wr M d k tgt L st μ K) (h2 : ¬ y ≤ x → Wr M d k (pc + 3) L st μ K) : Wr M d k pc L (.int y :: .int x :: st) μ K := Wr_br (fun ad hx hb kt kf => lv_icmp_ge hx hb hd ht kt kf) h1 h2
theorem Wr_icmp_gt {x y : Int32} {off : Int} (tgt : Nat) (hd : decode M.2.1 pc = .ok (.if_icmp .gt off, 3)) (ht : (pc : Int) + off = (tgt : Int)) (h1 : y < x → Wr M d k tgt L st μ K) (h2 : ¬ y < x → Wr M d k (pc + 3) L st μ K) : Wr M d k pc L (.int y :: .int x :: st) μ K := Wr_br (fun ad hx hb kt kf => lv_icmp_gt hx hb hd ht kt kf) h1 h2
theorem Wr_icmp_le {x y : Int32} {off : Int} (tgt : Nat) (hd : decode M.2.1 pc = .ok (.if_icmp .le off, 3)) (ht : (pc : Int) + off = (tgt : Int)) (h1 : x ≤ y → Wr M d k tgt L st μ K) (h2 : ¬ x ≤ y → Wr M d k (pc + 3) L st μ K) : Wr M d k pc L (.int y :: .int x :: st) μ K := Wr_br (fun ad hx hb kt kf => lv_icmp_le hx hb hd ht kt kf) h1 h2
theorem Wr_if_ne {x : Int32} {off : Int} (tgt : Nat) (hd : decode M.2.1 pc = .ok (.ifCond .ne off, 3)) (ht : (pc : Int) + off = (tgt : Int)) (h1 : ¬ x = 0 → Wr M d k tgt L st μ K) (h2 : x = 0 → Wr M d k (pc + 3) L st μ K) : Wr M d k pc L (.int x :: st) μ K := Wr_br (fun ad hx hb kt kf => lv_if_ne hx hb hd ht kf kt) h2 h1
theorem Wr_icmp_ne {x y : Int32} {off : Int} (tgt : Nat) (hd : decode M.2.1 pc = .ok (.if_icmp .ne off, 3)) (ht : (pc : Int) + off = (tgt : Int)) (h1 : ¬ x = y → Wr M d k tgt L st μ K) (h2 : x = y → Wr M d k (pc + 3) L st μ K) : Wr M d k pc L (.int y :: .int x :: st) μ K := Wr_br (fun ad hx hb kt kf => lv_icmp_ne hx hb hd ht kf kt) h2 h1
theorem Wr_goto {off : Int} (tgt : Nat) (hd : decode M.2.1 pc = .ok (.goto off, 3)) (ht : (pc : Int) + off = (tgt : Int)) (h : Wr M d k tgt L st μ K) : Wr M d k pc L st μ K := Wr_st (fun ad hx hb hl kk => lv_goto hx hb hd ht kk) h
end WrRules
