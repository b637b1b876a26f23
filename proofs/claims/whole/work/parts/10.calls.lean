theorem zA_sub {ad : Nat → Nat} {sz sz' : Nat} (h : sz ≤ sz') : ∀ q, zA ad sz' q → zA ad sz q := fun q hq => hq.elim Or.inl (fun z => Or.inr (Nat.le_trans h z))
theorem zws_addr {D : va_G} {cA : Nat → ClassId} {ad : Nat → Nat} {μ : zMem} {H : Heap} (hP : zP D cA ad μ H) {k : Nat} (hk : k < zN) : ad k < H.size := vx_lt hP (zws_get hk)
theorem zA_sub2 {ad : Nat → Nat} {s0 : Nat} {H : Heap} (h : s0 ≤ H.size) : ∀ q, q < H.size → zA ad H.size q → zA ad s0 q := fun q _ hq => zA_sub h q hq
/-- what holds as a callee begins -/
theorem zPre_of {M : zMD} {d : Nat} {D : va_G} {cA : Nat → ClassId} {ad : Nat → Nat} {p : Program} {l : Launch} {R : Room} {s : State} {m : MethodId} {args : Array Value} {meth : Method} {c : Code} {μ : zMem} {H : Heap} {locs : List Loc} (F : zFix M d D cA ad p l R s m args meth c) (hP : zP D cA ad μ H) (hS : va_S (zA ad s.heap.size) s.heap H locs) {U : State} (hU : U.heap = H) (hW : s.WarmedH U.vm) : zPre D cA ad μ H.size U := by
  obtain ⟨hx, hb, hr, hml, hown, hts, hlk, hh, htr, hfr, hlo, hK, hD, hF⟩ := F
  refine ⟨by rw [hU], by rw [hU]; exact hP, va_K.moved hW.alike hK, hD, ?_⟩
  rw [hU]
  exact hF.go hW hS.2.1 (zA_sub hS.1)
theorem zPre_blind {D : va_G} {cA : Nat → ClassId} {ad : Nat → Nat} {μ : zMem} {sz : Nat} {as : List Value} : FrameBlind (va_Pc as (zPre D cA ad μ sz)) := by
  intro a U g mk ⟨h0, h1, h2, h3, h4, h5⟩
  refine ⟨h0, h1, h2, va_K.moved (u := U) (U := U.calling g mk a) (Vm.Alike.refl U.vm) h3, h4, ?_⟩
  exact h5.go (s := U) (U := U.calling g mk a) (State.WarmedH.refl U) (fun a h _ => rfl) (fun q h => h)
/-- what the tables say of a method that may be called: n parameters -/
def zMG (g : zMD) (n : Nat) : Prop := zcode g ∈ wG ∧ Cond.initialized g.1.cls ∈ wG ∧ (g.1.cls ≠ "java/lang/invoke/MethodHandle" ∧ g.1.cls ≠ "java/lang/invoke/VarHandle") ∧ (parseMethodDescriptor g.1.desc).map (fun d => d.parameters.length) = some n ∧ g.2.2.1 ≤ 20 ∧ plainName g.1.cls = true
def zVirt (g : zMD) : Prop := Cond.instanceMethod g.1 ∈ wG ∧ Cond.selects g.1.cls g.1 g.1 ∈ wG
def zRecv (g : zMD) (b : Nat) : Prop := (∃ c q, zsh b = .inr c ∧ vwCl[c]? = some q ∧ q.1 = g.1.cls) ∨ (∃ i, i < zNS ∧ b = 1000 + i ∧ g.1.cls = "java/lang/String")
def zPlain (g : zMD) : Prop := zcode g = .code g.1 g.2.1 g.2.2.1 g.2.2.2.1
/-- a method's own exceptions leave it -/
def zNoH (M : zMD) : Prop := M.2.2.2.2 = some []
theorem zNoH_out {M : zMD} {c : Code} {pc : Nat} (h : zNoH M) (hh : ∀ hh, M.2.2.2.2 = some hh → c.exceptionTable.toList = tableOf hh) : ∀ x ∈ c.exceptionTable.toList, covers x pc = false := by
  intro x hx
  rw [hh _ h] at hx
  cases hx
section Calls
variable {M : zMD} {d k pc : Nat} {L : List (Nat × Value)} {st : List Value} {μ : zMem} {K : zRes → zMem → Nat → Prop}
theorem zCallB {g : zMD} {n idx kc : Nat} {args : Array Value} {s : State} {R : Room} (hg : zMG g n) (hp : zPlain g) (hl : Cond.methodLink M.1.cls idx g.1 ∈ wG) (hts : ∀ w ∈ wG, w.before args s = true) (hfr : d + 1 + 10 ≤ R.frames) (hlo : (d + 1) * 40 + 200 ≤ R.locals) : CallB R s args M.1.cls idx g.1 g.2.1 g.2.2.1 g.2.2.2.1 (zwd g) (zRm d kc) kc (kc * 6) n := by
  obtain ⟨g1, g2, g3, g4, g5, g6⟩ := hg
  rw [show zcode g = _ from hp] at g1
  refine ⟨rfl, rfl, by show d + 10 + 1 ≤ _; omega, by show 8 + (g.2.2.1 + 11) + (d * 40 + 200) ≤ _; omega, ?_, by rw [zwd, show zcode g = _ from hp]; exact List.mem_cons_self, hts _ g1, hts _ g2, g3, ?_, hts _ hl⟩
  · intro w hw a' U hW
    refine wG_warm hts w ?_ a' U hW
    rcases List.mem_cons.mp hw with h | h
    · rw [h, show zcode g = _ from hp]; exact g1
    · exact h
  · intro sig h
    rw [h] at g4
    exact (Option.some.inj g4).symm
/-- what comes of a call in a frame: the answer on the stack, or the throw that leaves the frame -/
theorem Wr_run {g : zMD} {as : List Value} {K' : zRes → zMem → Nat → Prop} {stk : List Value}
    (hno : (∀ E μ1 k1, K' (.inr E) μ1 k1 → zNoH M))
    (hrun : ∀ {D : va_G} {cA : Nat → ClassId} {ad : Nat → Nat} {p : Program} {l : Launch} {e : Env} {R : Room} {s : State} {m : MethodId} {args : Array Value} {below : List Frame} {meth : Method} {c : Code} {H : Heap} {locs : List Loc} {cells slots k1 : Nat} {ls : Array Slot} {Qc : Array Value → State → Outcome → State → Prop} {XC : String → State → State → Prop}, zFix M (d + 1) D cA ad p l R s m args meth c → zP D cA ad μ H → va_S (zA ad s.heap.size) s.heap H locs → ls.size = M.2.2.1 → cells + k1 ≤ R.cells → slots + k1 * 6 ≤ R.slots →
      vx_Met l g.1 (zwd g) (zRm d k1) (va_Pc (as.map (zv ad)) (zPre D cA ad μ H.size)) Qc XC k1 (k1 * 6) (zA ad H.size) →
      vx_Run p l e R s m args below meth c H locs cells slots k1 (k1 * 6) (F0 m pc ls (stk.map (zv ad))) (st.map (zv ad)) (Qc (as.map (zv ad)).toArray) XC (zA ad H.size))
    (hE : Ex d g as μ K')
    (hn : ∀ v μ1 k1, K' (.inl v) μ1 k1 → Wr M (d + 1) (k + k1) (pc + 3) L (v.toList ++ st) μ1 K)
    (hx : ∀ E μ1 k1, K' (.inr E) μ1 k1 → K (.inr E) μ1 (k + k1)) : Wr M (d + 1) k pc L stk μ K := by
  obtain ⟨r, μ1, k1, hK', hM⟩ := hE
  cases r with
  | inl v =>
    obtain ⟨r2, μ2, kf, a1, a2, h⟩ := hn v μ1 k1 hK'
    refine ⟨r2, μ2, kf, by omega, a2, fun D cA ad p l e R s m args below meth c c0 s0 H locs ls F b1 b2 hP hS hl => ?_⟩
    have hrr := hrun (e := e) (below := below) (cells := c0 + k) (slots := s0 + k * 6) (k1 := k1) F hP hS hl.1 (by omega) (by omega) (hM l D cA ad H.size F.2.2.2.2.2.2.2.2.1)
    intro T hT X
    rcases hrr T hT X with ⟨v9, st₀, t, T', Lc, h0, X', hL, e1, e2, ⟨⟨v8, hv8, hv9⟩, hP1, hF1⟩, go⟩ | ⟨q, st₀, t, T', Lc, E, ce, h0, X', hL, e1, e2, ⟨⟨ee, hee, -⟩, -⟩, -⟩
    · cases hv8
      cases hv9
      obtain ⟨k1', k2', k3'⟩ := vx_keep h0 e1 hS (zA_sub2 hS.1) (zA_sub hS.1) hL hF1
      have hP2 : zP D cA ad μ1 T'.heap := by rw [e1]; exact hP1
      have hg := h D cA ad p l e R s m args below meth c c0 s0 T'.heap (locs ++ Lc) ls F b1 b2 hP2 k3' hl
      have ec : c0 + (k + k1) = c0 + k + k1 := by omega
      have es : s0 + (k + k1) * 6 = s0 + k * 6 + k1 * 6 := by omega
      rw [ec, es] at hg
      obtain ⟨t2, b1', b2'⟩ := hg T' rfl X'
      refine ⟨t2, go t2 ?_, b2'⟩
      have ev : (v.map (zv ad)).toList ++ st.map (zv ad) = (v.toList ++ st).map (zv ad) := by cases v <;> rfl
      rw [← ev] at b1'
      exact b1'
    · cases hee
  | inr E =>
    have hnoh := hno E μ1 k1 hK'
    refine ⟨.inr E, μ1, k + k1, by omega, hx E μ1 k1 hK', fun D cA ad p l e R s m args below meth c c0 s0 H locs ls F b1 b2 hP hS hl => ?_⟩
    have hrr := hrun (e := e) (below := below) (cells := c0 + k) (slots := s0 + k * 6) (k1 := k1) F hP hS hl.1 (by omega) (by omega) (hM l D cA ad H.size F.2.2.2.2.2.2.2.2.1)
    intro T hT X
    rcases hrr T hT X with ⟨v9, st₀, t, T', Lc, h0, X', hL, e1, e2, ⟨⟨v8, hv8, hv9⟩, hP1, hF1⟩, go⟩ | ⟨q, st₀, t, T', Lc, E', ce, h0, X', hL, e1, e2, ⟨⟨ee, hee, hE'⟩, hP1, hF1⟩, hce, hcv, hcl, go⟩
    · cases hv8
    · cases hee
      obtain ⟨k1', k2', k3'⟩ := vx_keep h0 e1 hS (zA_sub2 hS.1) (zA_sub hS.1) hL hF1
      have ec : c0 + (k + k1) = c0 + k + k1 := by omega
      have es : s0 + (k + k1) * 6 = s0 + k * 6 + k1 * 6 := by omega
      obtain ⟨t2, b1', b2'⟩ := vx_out (p := p) (e := e) (R := R) (Qc := zQ D cA ad s.heap.size μ1 (.inr E)) (XC := zX D cA ad s.heap.size μ1 (.inr E)) (below := below) (free := zA ad s.heap.size) (pc := pc) (ls := ls) (rest := st.map (zv ad)) (zNoH_out hnoh F.2.2.2.2.2.2.2.1) F.2.2.2.2.2.2.1 (E := E') (ce := ce) (q := q) (H := T'.heap) (by rw [e1]; exact hce) hcv hcl
        (fun t9 ht9 _ => ⟨⟨E, rfl, hE'⟩, by rw [ht9, e1]; exact hP1, by rw [va_F, ht9]; exact ⟨k3'.1, k3'.2.1⟩⟩) k3'.2.2 (Nat.le_refl (c0 + k + k1)) (Nat.le_refl (s0 + k * 6 + k1 * 6)) T' rfl X'
      rw [ec, es]
      exact ⟨t2, go.trans b1', b2'⟩
end Calls
section Calls2
variable {M : zMD} {d k pc : Nat} {L : List (Nat × Value)} {st : List Value} {μ : zMem} {K : zRes → zMem → Nat → Prop}
theorem zRoomSt (ad : Nat → Nat) {m : MethodId} {ls : Array Slot} {rest : List Value} (h : (st.map fun v => v.category).sum ≤ 8) : 2 * (F0 m pc ls rest).monitorRoom + ((st.map (zv ad)).map fun v => v.category).sum ≤ 8 := by
  rw [zv_sum]
  exact lv_room h
theorem Wr_callV {g : zMD} {n idx b : Nat} {As : List Value} {K' : zRes → zMem → Nat → Prop} {stk : List Value} (hd : decode M.2.1 pc = .ok (.invokevirtual idx, 3)) (hl : Cond.methodLink M.1.cls idx g.1 ∈ wG) (hg : zMG g n) (hp : zPlain g) (hv : zVirt g) (hb : zRecv g b) (hnn : As.length = n) (hstk : stk = As.reverse ++ .ref b :: st) (hroom : (st.map fun v => v.category).sum ≤ 8)
    (hno : (∀ E μ1 k1, K' (.inr E) μ1 k1 → zNoH M)) (hE : Ex d g (.ref b :: As) μ K')
    (hn : ∀ v μ1 k1, K' (.inl v) μ1 k1 → Wr M (d + 1) (k + k1) (pc + 3) L (v.toList ++ st) μ1 K)
    (hx : ∀ E μ1 k1, K' (.inr E) μ1 k1 → K (.inr E) μ1 (k + k1)) : Wr M (d + 1) k pc L stk μ K := by
  subst hstk
  refine Wr_run hno (fun {D cA ad p l e R s m args below meth c H locs cells slots k1 ls Qc XC} F hP hS hsz hc1 hc2 hM => ?_) hE hn hx
  have FF := F
  obtain ⟨hx, hb', hr, hml, hown, hts, hlk, hh, htr, hfr, hlo, hK, hD, hF⟩ := F
  have hrecv : ∃ cell : Cell, H[ad b]? = some cell ∧ cell.vm.isStatics = false ∧ s.vm.findClass g.1.cls = some cell.cls := by
    rcases hb with ⟨c9, q9, h1, h2, h3⟩ | ⟨i, hi, rfl, h3⟩
    · rw [← h3]
      exact va_recv hK hP h2 (zws_obj h1)
    · obtain ⟨cell, a1, a2, a3, -⟩ := (hF.1 i hi).1.kept hS.2.1
      exact ⟨cell, a1, a2, by rw [h3]; exact a3⟩
  exact vx_runV (As := As.map (zv ad)) (b := ad b) (C := g.1.cls) ⟨hx, hb', hml, hown, hts⟩ hM ⟨zCallB hg hp hl hts hfr hlo, hts _ hv.1, hts _ hv.2⟩ ⟨zPre_blind, hrecv, fun U hU hW => ⟨rfl, zPre_of FF hP hS hU hW⟩⟩ rfl (by rw [List.length_map]; exact hnn) hsz
    (by show List.map (zv ad) (As.reverse ++ Value.ref b :: st) = _; rw [List.map_append, List.map_reverse]; rfl) (zRoomSt ad hroom) hd ⟨hc1, hc2⟩
theorem Wr_callS {g : zMD} {n idx : Nat} {As : List Value} {K' : zRes → zMem → Nat → Prop} {stk : List Value} (hd : decode M.2.1 pc = .ok (.invokestatic idx, 3)) (hl : Cond.methodLink M.1.cls idx g.1 ∈ wG) (hg : zMG g n) (hp : zPlain g) (hv : Cond.static g.1 ∈ wG) (hnn : As.length = n) (hstk : stk = As.reverse ++ st) (hroom : (st.map fun v => v.category).sum ≤ 8)
    (hno : (∀ E μ1 k1, K' (.inr E) μ1 k1 → zNoH M)) (hE : Ex d g As μ K')
    (hn : ∀ v μ1 k1, K' (.inl v) μ1 k1 → Wr M (d + 1) (k + k1) (pc + 3) L (v.toList ++ st) μ1 K)
    (hx : ∀ E μ1 k1, K' (.inr E) μ1 k1 → K (.inr E) μ1 (k + k1)) : Wr M (d + 1) k pc L stk μ K := by
  subst hstk
  refine Wr_run hno (fun {D cA ad p l e R s m args below meth c H locs cells slots k1 ls Qc XC} F hP hS hsz hc1 hc2 hM => ?_) hE hn hx
  have FF := F
  obtain ⟨hx, hb', hr, hml, hown, hts, hlk, hh, htr, hfr, hlo, hK, hD, hF⟩ := F
  exact vx_runS (As := As.map (zv ad)) ⟨hx, hb', hml, hown, hts⟩ hM ⟨zCallB hg hp hl hts hfr hlo, hts _ hv⟩ ⟨zPre_blind, fun U hU hW => ⟨rfl, zPre_of FF hP hS hU hW⟩⟩ rfl (by rw [List.length_map]; exact hnn) hsz
    (by show List.map (zv ad) (As.reverse ++ st) = _; rw [List.map_append, List.map_reverse]) (zRoomSt ad hroom) hd ⟨hc1, hc2⟩
theorem Wr_iret {x : Int32} (ty : FieldType) (hd : decode M.2.1 pc = .ok (.ireturn, 1)) (hty : M.2.2.2.1 = some ty) (hn : narrow ty (.int x) = .int x) (h : K (.inl (some (.int x))) μ k) : Wr M d k pc L [.int x] μ K := by
  refine ⟨.inl (some (.int x)), μ, k, Nat.le_refl _, h, fun D cA ad p l e R s m args below meth c c0 s0 H locs ls F b1 b2 hP hS hl => ?_⟩
  obtain ⟨hx, hb, hr, hml, hown, hts, hlk, hh, htr, hfr, hlo, hK, hD, hF⟩ := F
  exact vx_ret (W.zret hx hb (hr.trans hty) hn (fun t ht _ => ⟨⟨_, rfl, rfl⟩, by rw [ht]; exact hP, by rw [va_F, ht]; exact ⟨hS.1, hS.2.1⟩⟩) hS.2.2 hd hlk)
theorem Wr_lret {x : Int64} (hd : decode M.2.1 pc = .ok (.lreturn, 1)) (hty : M.2.2.2.1 = some .long) (h : K (.inl (some (.long x))) μ k) : Wr M d k pc L [.long x] μ K := by
  refine ⟨.inl (some (.long x)), μ, k, Nat.le_refl _, h, fun D cA ad p l e R s m args below meth c c0 s0 H locs ls F b1 b2 hP hS hl => ?_⟩
  obtain ⟨hx, hb, hr, hml, hown, hts, hlk, hh, htr, hfr, hlo, hK, hD, hF⟩ := F
  exact vx_ret (W.lret hx hb (hr.trans hty) (fun t ht _ => ⟨⟨_, rfl, rfl⟩, by rw [ht]; exact hP, by rw [va_F, ht]; exact ⟨hS.1, hS.2.1⟩⟩) hS.2.2 hd hlk)
theorem Wr_vret (hd : decode M.2.1 pc = .ok (.return_, 1)) (hty : M.2.2.2.1 = none) (h : K (.inl none) μ k) : Wr M d k pc L [] μ K := by
  refine ⟨.inl none, μ, k, Nat.le_refl _, h, fun D cA ad p l e R s m args below meth c c0 s0 H locs ls F b1 b2 hP hS hl => ?_⟩
  obtain ⟨hx, hb, hr, hml, hown, hts, hlk, hh, htr, hfr, hlo, hK, hD, hF⟩ := F
  exact vx_ret (W.vret hx hb (hr.trans hty) (fun t ht _ => ⟨⟨_, rfl, rfl⟩, by rw [ht]; exact hP, by rw [va_F, ht]; exact ⟨hS.1, hS.2.1⟩⟩) hS.2.2 hd hlk)
theorem zvl_args (ad : Nat → Nat) : ∀ (vs : List Value) (i : Nat), lv_args i (vs.map (zv ad)) = zvl ad (lv_args i vs)
  | [], i => rfl
  | v :: vs, i => by
    show (i, zv ad v) :: lv_args (if (zv ad v).category = 2 then i + 2 else i + 1) (vs.map (zv ad)) = (i, zv ad v) :: zvl ad (lv_args (if v.category = 2 then i + 2 else i + 1) vs)
    rw [zv_cat, zvl_args ad vs]
theorem lg_len : ∀ vs : List Value, (lg_sl vs).length = (vs.map fun v => v.category).sum
  | [] => rfl
  | v :: vs => by
    have ih := lg_len vs
    unfold lg_sl at ih ⊢
    rw [List.flatMap_cons, List.length_append, ih, List.map_cons, List.sum_cons]
    rcases lv_cat v with h | h <;> simp [h]
theorem Ex_of {g : zMD} {as : List Value} {w : Nat} (hpl : plainName g.1.cls = true) (hc : zPlain g) (hh : zNoH g) (hw : (as.map fun v => v.category).sum = w) (hlen : w ≤ g.2.2.1) (h : Wr g d 0 0 (lv_args 0 as) [] μ K) : Ex d g as μ K := by
  obtain ⟨r, μ', kf, -, a2, h⟩ := h
  refine ⟨r, μ', kf, a2, fun l D cA ad sz htr => ?_⟩
  refine vx_ofW (cc := g.2.1) (maxL := g.2.2.1) (ret := g.2.2.2.1) hpl (by rw [zwd, show zcode g = _ from hc]) ?_
  intro p e s m args below meth c s₁ B hml hex hv
  obtain ⟨rfl, hsz, hP, hK, hD, hF⟩ := hv
  subst hsz
  have hts := atoms_spec (ws := zwd g) B.pre
  have hln : (lg_sl (as.map (zv ad))).length ≤ g.2.2.1 := by
    rw [lg_len, zv_sum, hw]; exact hlen
  have hl := lv_entry (as.map (zv ad)) (n := g.2.2.1) hln
  rw [lg_entry_eq]
  rw [zvl_args] at hl
  have hg := h D cA ad p l e (zRm d kf) s m (as.map (zv ad)).toArray below meth c 0 0 s.heap [] _ ⟨B.exec, B.bytes, B.returns, hml, findClass_of_methodNamed B.named, fun w hw => hts w (List.mem_cons_of_mem _ hw), B.notSynchronized, ?_, htr, Nat.le_refl _, Nat.le_refl _, hK, hD, hF⟩ (by show 0 + kf ≤ kf; omega) (by show 0 + kf * 6 ≤ kf * 6; omega) hP va_S.rf hl
  · simp only [Nat.zero_add, Nat.zero_mul] at hg
    exact hg
  · intro h9 e9
    cases e9.symm.trans hh
    cases hq : c.exceptionTable.toList with
    | nil => rfl
    | cons x xs => exact absurd (by rw [hq]; exact List.mem_cons_self) (hex x)
end Calls2
