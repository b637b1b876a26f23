/-! a call whose throw is caught in the same frame; a method with handlers; the call of such a method -/
def zHn (M : zMD) (pc E hpc : Nat) : Prop := ∃ (hh : List (Nat × Nat × Nat × Nat)) (pre : List ExceptionTableEntry) (x : ExceptionTableEntry) (suf : List ExceptionTableEntry), M.2.2.2.2 = some hh ∧ tableOf hh = pre ++ x :: suf ∧
  (∀ z ∈ pre, covers z pc = false ∨ (E ≠ 0 ∧ z.catchType ≠ 0 ∧ Cond.classLink M.1.cls z.catchType "java/util/NoSuchElementException" ∈ wG)) ∧ covers x pc = true ∧ x.catchType ≠ 0 ∧ Cond.classLink M.1.cls x.catchType (zEn E) ∈ wG ∧ x.handlerPc = hpc
def zSto (M : zMD) (hpc i len : Nat) : Prop := i < M.2.2.1 ∧ ((∃ j : Fin 4, (j : Nat) = i ∧ decode M.2.1 hpc = .ok (.astore_n j, 1) ∧ len = 1) ∨ (decode M.2.1 hpc = .ok (.astore i, 2) ∧ len = 2))
theorem zNw_c {s : State} {args : Array Value} (h : zNw s) : ∀ E : Nat, (Cond.castable (zEn E) (zEn E)).before args s = true
  | 0 => h.2.1.use rfl
  | _ + 1 => h.2.2.1.use rfl
theorem zNw_n {s : State} (h : zNw s) : ∀ E : Nat, E ≠ 0 → va_Nc (zEn E) "java/util/NoSuchElementException" s
  | 0, z => absurd rfl z
  | _ + 1, _ => h.2.2.2
theorem zkeepL {ad : Nat → Nat} {L : List (Nat × Value)} {i : Nat} (h : ∀ q ∈ L, ¬ q.1 = i ∧ ¬ (q.1 + 1 = i ∧ q.2.category = 2)) : (zvl ad L).filter (fun q => !(q.1 == i) && !(q.1 + 1 == i && q.2.category == 2)) = zvl ad L := by
  apply List.filter_eq_self.mpr
  intro a ha
  unfold zvl at ha
  obtain ⟨q, hq, rfl⟩ := List.mem_map.mp ha
  obtain ⟨h1, h2⟩ := h q hq
  have h3 : (zv ad q.2).category = q.2.category := zv_cat ad q.2
  show (!(q.1 == i) && !(q.1 + 1 == i && (zv ad q.2).category == 2)) = true
  rw [h3]
  simp only [Bool.and_eq_true, Bool.not_eq_true', beq_eq_false_iff_ne, Bool.and_eq_false_iff, ne_eq]
  refine ⟨h1, ?_⟩
  by_cases z : q.1 + 1 = i
  · exact Or.inr fun w => h2 ⟨z, w⟩
  · exact Or.inl z
section Hand
variable {M : zMD} {d k pc : Nat} {L : List (Nat × Value)} {st : List Value} {μ : zMem} {K : zRes → zMem → Nat → Prop}
theorem zRunV {g : zMD} {n idx b : Nat} {As : List Value} (hd : decode M.2.1 pc = .ok (.invokevirtual idx, 3)) (hl : Cond.methodLink M.1.cls idx g.1 ∈ wG) (hg : zMG g n) (hp : zPlain g) (hv : zVirt g) (hb : zRecv g b) (hnn : As.length = n) (hroom : (st.map fun v => v.category).sum ≤ 8)
    {D : va_G} {cA : Nat → ClassId} {ad : Nat → Nat} {p : Program} {l : Launch} {e : Env} {R : Room} {s : State} {m : MethodId} {args : Array Value} {below : List Frame} {meth : Method} {c : Code} {H : Heap} {locs : List Loc} {cells slots k1 : Nat} {ls : Array Slot} {Qc : Array Value → State → Outcome → State → Prop} {XC : String → State → State → Prop}
    (F : zFix M (d + 1) D cA ad p l R s m args meth c) (hP : zP D cA ad μ H) (hS : va_S (zA ad s.heap.size) s.heap H locs) (hsz : ls.size = M.2.2.1) (hc1 : cells + k1 ≤ R.cells) (hc2 : slots + k1 * 6 ≤ R.slots)
    (hM : vx_Met l g.1 (zwd g) (zRm d k1) (va_Pc ((Value.ref b :: As).map (zv ad)) (zPre D cA ad μ H.size)) Qc XC k1 (k1 * 6) (zA ad H.size)) :
    vx_Run p l e R s m args below meth c H locs cells slots k1 (k1 * 6) (F0 m pc ls ((As.reverse ++ Value.ref b :: st).map (zv ad))) (st.map (zv ad)) (Qc ((Value.ref b :: As).map (zv ad)).toArray) XC (zA ad H.size) := by
  have FF := F
  obtain ⟨hx, hb', hr, hml, hown, hts, hlk, hh, htr, hfr, hlo, hK, hD, hF⟩ := F
  have hrecv : ∃ cell : Cell, H[ad b]? = some cell ∧ cell.vm.isStatics = false ∧ s.vm.findClass g.1.cls = some cell.cls := by
    rcases hb with ⟨c9, q9, h1, h2, h3⟩ | ⟨i, hi, rfl, h3⟩
    · rw [← h3]
      exact va_recv hK hP h2 (zws_obj h1)
    · obtain ⟨cell, a1, a2, a3, -⟩ := (hF.1 i hi).1.kept hS.2.1
      exact ⟨cell, a1, a2, by rw [h3]; exact a3⟩
  exact vx_runV (As := As.map (zv ad)) (b := ad b) (C := g.1.cls) ⟨hx, hb', hml, hown, hts⟩ hM ⟨zCallB hg hp hl hts hfr hlo, hts _ hv.1, hts _ hv.2⟩ ⟨zPre_blind, hrecv, fun U hU hW => ⟨rfl, zPre_of FF hP hS hU hW⟩⟩ rfl (by rw [List.length_map]; exact hnn) hsz
    (by show List.map (zv ad) (As.reverse ++ Value.ref b :: st) = _; rw [List.map_append, List.map_reverse]; rfl) (zRoomSt ad hroom) hd ⟨hc1, hc2⟩
theorem Wr_cH {g : zMD} {n idx b : Nat} (As : List Value) {K' : zRes → zMem → Nat → Prop} {stk : List Value} (hd : decode M.2.1 pc = .ok (.invokevirtual idx, 3)) (hl : Cond.methodLink M.1.cls idx g.1 ∈ wG) (hg : zMG g n) (hp : zPlain g) (hv : zVirt g) (hb : zRecv g b) (hnn : As.length = n) (hstk : stk = As.reverse ++ .ref b :: st) (hroom : (st.map fun v => v.category).sum ≤ 8)
    (hE : Ex d g (.ref b :: As) μ K')
    (hn : ∀ v μ1 k1, K' (.inl v) μ1 k1 → Wr M (d + 1) (k + k1) (pc + 3) L (v.toList ++ st) μ1 K)
    (hx : ∀ E μ1 k1, K' (.inr E) μ1 k1 → ∃ hpc i len, zHn M pc E hpc ∧ zSto M hpc i len ∧ (∀ q ∈ L, ¬ q.1 = i ∧ ¬ (q.1 + 1 = i ∧ q.2.category = 2)) ∧ Wr M (d + 1) (k + k1) (hpc + len) L [] μ1 K) : Wr M (d + 1) k pc L stk μ K := by
  subst hstk
  obtain ⟨r, μ1, k1, hK', hM⟩ := hE
  cases r with
  | inl v =>
    obtain ⟨r2, μ2, kf, a1, a2, h⟩ := hn v μ1 k1 hK'
    refine ⟨r2, μ2, kf, by omega, a2, fun D cA ad p l e R s m args below meth c c0 s0 H locs ls F b1 b2 hP hS hl9 => ?_⟩
    have hrr := zRunV (e := e) (below := below) (cells := c0 + k) (slots := s0 + k * 6) (k1 := k1) hd hl hg hp hv hb hnn hroom F hP hS hl9.1 (by omega) (by omega) (hM l D cA ad H.size F.2.2.2.2.2.2.2.2.1)
    intro T hT X
    rcases hrr T hT X with ⟨v9, st₀, t, T', Lc, h0, X', hL, e1, e2, ⟨⟨v8, hv8, hv9⟩, hP1, hF1⟩, go⟩ | ⟨q, st₀, t, T', Lc, E, ce, h0, X', hL, e1, e2, ⟨⟨ee, hee, -⟩, -⟩, -⟩
    · cases hv8
      cases hv9
      obtain ⟨k1', k2', k3'⟩ := vx_keep h0 e1 hS (zA_sub2 hS.1) (zA_sub hS.1) hL hF1
      have hP2 : zP D cA ad μ1 T'.heap := by rw [e1]; exact hP1
      have hg9 := h D cA ad p l e R s m args below meth c c0 s0 T'.heap (locs ++ Lc) ls F b1 b2 hP2 k3' hl9
      have ec : c0 + (k + k1) = c0 + k + k1 := by omega
      have es : s0 + (k + k1) * 6 = s0 + k * 6 + k1 * 6 := by omega
      rw [ec, es] at hg9
      obtain ⟨t2, b1', b2'⟩ := hg9 T' rfl X'
      refine ⟨t2, go t2 ?_, b2'⟩
      have ev : (v.map (zv ad)).toList ++ st.map (zv ad) = (v.toList ++ st).map (zv ad) := by cases v <;> rfl
      rw [← ev] at b1'
      exact b1'
    · cases hee
  | inr E =>
    obtain ⟨hpc, i, len, ⟨hh, pre, x, suf, h1, h2, h3, h4, h5, h6, h7⟩, ⟨hi, hsto⟩, hLi, hW⟩ := hx E μ1 k1 hK'
    obtain ⟨r2, μ2, kf, a1, a2, h⟩ := hW
    refine ⟨r2, μ2, kf, by omega, a2, fun D cA ad p l e R s m args below meth c c0 s0 H locs ls F b1 b2 hP hS hl9 => ?_⟩
    have hrr := zRunV (e := e) (below := below) (cells := c0 + k) (slots := s0 + k * 6) (k1 := k1) hd hl hg hp hv hb hnn hroom F hP hS hl9.1 (by omega) (by omega) (hM l D cA ad H.size F.2.2.2.2.2.2.2.2.1)
    intro T hT X
    rcases hrr T hT X with ⟨v9, st₀, t, T', Lc, h0, X', hL, e1, e2, ⟨⟨v8, hv8, hv9⟩, hP1, hF1⟩, go⟩ | ⟨q, st₀, t, T', Lc, E', ce, h0, X', hL, e1, e2, ⟨⟨ee, hee, hE'⟩, hP1, hF1⟩, hce, hcv, hcl, go⟩
    · cases hv8
    · cases hee
      subst hE'
      obtain ⟨k1', k2', k3'⟩ := vx_keep h0 e1 hS (zA_sub2 hS.1) (zA_sub hS.1) hL hF1
      have hP2 : zP D cA ad μ1 T'.heap := by rw [e1]; exact hP1
      have FF := F
      obtain ⟨fx, fb, fr, fml, fown, fts, flk, fhh, ftr, ffr, flo, fK, fD, fF⟩ := F
      have fN : zNw s := fF.2.2.2.2.2.2
      have ec : c0 + (k + k1) = c0 + k + k1 := by omega
      have es : s0 + (k + k1) * 6 = s0 + k * 6 + k1 * 6 := by omega
      have hw : W p l e R s m args below meth c T'.heap (locs ++ Lc) (c0 + k + k1) (s0 + k * 6 + k1 * 6) (vx_MQ below (zQ D cA ad s.heap.size μ2 r2) (zX D cA ad s.heap.size μ2 r2) args s (c0 + kf) (s0 + kf * 6) (zA ad s.heap.size)) (F0 m x.handlerPc ls [.ref q]) := by
        rw [h7]
        have go9 : ∀ ls' : Array Slot, lv_has ls' M.2.2.1 ((i, Value.ref q) :: (zvl ad L).filter (fun q => !(q.1 == i) && !(q.1 + 1 == i && q.2.category == 2))) → W p l e R s m args below meth c T'.heap (locs ++ Lc) (c0 + k + k1) (s0 + k * 6 + k1 * 6) (vx_MQ below (zQ D cA ad s.heap.size μ2 r2) (zX D cA ad s.heap.size μ2 r2) args s (c0 + kf) (s0 + kf * 6) (zA ad s.heap.size)) (F0 m (hpc + len) ls' []) := by
          intro ls' hls
          rw [zkeepL hLi] at hls
          have hg9 := h D cA ad p l e R s m args below meth c c0 s0 T'.heap (locs ++ Lc) ls' FF b1 b2 hP2 k3' ⟨hls.1, hls.2.1, fun q hq => hls.2.2 q (List.mem_cons_of_mem _ hq)⟩
          rw [ec, es] at hg9
          exact hg9
        rcases hsto with ⟨j, hj, hdj, rfl⟩ | ⟨hdj, rfl⟩
        · exact lv_astore_n fx fb hdj hj hl9 hi rfl go9
        · exact lv_astore fx fb hdj hl9 hi rfl go9
      obtain ⟨t2, b1', b2'⟩ := vx_catch (p := p) (e := e) (R := R) (below := below) (pc := pc) (ls := ls) (rest := st.map (zv ad)) (own := M.1.cls) (name := zEn E) (E := zEn E) (ce := ce) (q := q) fown pre x suf (by rw [fhh _ h1]; exact h2)
        (fun z hz => (h3 z hz).imp id fun ⟨w0, w1, w2⟩ => ⟨w1, _, fts _ w2, zNw_n fN E w0⟩) h4 h5 (fts _ h6) (zNw_c fN E) (by rw [e1]; exact hce) hcv hcl hw T' rfl X'
      exact ⟨t2, go.trans b1', b2'⟩
theorem Ex_ofH {g : zMD} {as : List Value} {w : Nat} {hh : List (Nat × Nat × Nat × Nat)} (hpl : plainName g.1.cls = true) (hc : zcode g = .codeWith g.1 g.2.1 g.2.2.1 g.2.2.2.1 hh) (hh9 : g.2.2.2.2 = some hh) (hw : (as.map fun v => v.category).sum = w) (hlen : w ≤ g.2.2.1) (h : Wr g d 0 0 (lv_args 0 as) [] μ K) : Ex d g as μ K := by
  obtain ⟨r, μ', kf, -, a2, h⟩ := h
  refine ⟨r, μ', kf, a2, fun l D cA ad sz htr => ?_⟩
  refine vx_ofWH (cc := g.2.1) (maxL := g.2.2.1) (ret := g.2.2.2.1) (hh := hh) hpl (by rw [zwd, hc]) ?_
  intro p e s m args below meth c s₁ B hml hv
  obtain ⟨rfl, hsz, hP, hK, hD, hF⟩ := hv
  subst hsz
  have hts := atoms_spec (ws := zwd g) B.pre
  have hln : (lg_sl (as.map (zv ad))).length ≤ g.2.2.1 := by
    rw [lg_len, zv_sum, hw]; exact hlen
  have hl := lv_entry (as.map (zv ad)) (n := g.2.2.1) hln
  rw [lg_entry_eq]
  rw [zvl_args] at hl
  have htab : c.exceptionTable.toList = tableOf hh := vx_table (x := g.1) B (hts _ (by rw [zwd, hc]; exact List.mem_cons_self))
  have hg := h D cA ad p l e (zRm d kf) s m (as.map (zv ad)).toArray below meth c 0 0 s.heap [] _ ⟨B.exec, B.bytes, B.returns, hml, findClass_of_methodNamed B.named, fun w hw => hts w (List.mem_cons_of_mem _ hw), B.notSynchronized, ?_, htr, Nat.le_refl _, Nat.le_refl _, hK, hD, hF⟩ (by show 0 + kf ≤ kf; omega) (by show 0 + kf * 6 ≤ kf * 6; omega) hP va_S.rf hl
  · simp only [Nat.zero_add, Nat.zero_mul] at hg
    exact hg
  · intro h9 e9
    cases e9.symm.trans hh9
    exact htab
end Hand
/-- a wrapper's end: out holds the answer -/
def zO (μ : zMem) (x : Int64) : zMem := zw (zw μ 143 0 (zLo x)) 143 1 (zHi x)
theorem zO_z {μ : zMem} {x : Int64} : zJ (zO μ x 143 0) (zO μ x 143 1) = x := by
  unfold zO
  rw [zw_j (by omega), zw_s, zw_s, zJ_of]
theorem zO_f {μ : zMem} {x : Int64} : Fr z143 μ (zO μ x) := (Fr.w (show z143 143 0 from rfl)).tr (Fr.w (show z143 143 1 from rfl))
section HandI
variable {M : zMD} {d k pc : Nat} {L : List (Nat × Value)} {st : List Value} {μ : zMem} {K : zRes → zMem → Nat → Prop}
def zHnd (M : zMD) (d k pc : Nat) (L : List (Nat × Value)) (K : zRes → zMem → Nat → Prop) (E : Nat) (μ1 : zMem) : Prop := ∃ hpc i len, zHn M pc E hpc ∧ zSto M hpc i len ∧ (∀ q ∈ L, ¬ q.1 = i ∧ ¬ (q.1 + 1 = i ∧ q.2.category = 2)) ∧ Wr M d k (hpc + len) L [] μ1 K
theorem Wr_cHi {g : zMD} {n idx b : Nat} (As : List Value) {stk : List Value} (hd : decode M.2.1 pc = .ok (.invokevirtual idx, 3)) (hl : Cond.methodLink M.1.cls idx g.1 ∈ wG) (hg : zMG g n) (hp : zPlain g) (hv : zVirt g) (hb : zRecv g b) (hnn : As.length = n) (hstk : stk = As.reverse ++ .ref b :: st) (hroom : (st.map fun v => v.category).sum ≤ 8)
    (hE : zcI d g (.ref b :: As) μ (fun v μ1 => Wr M (d + 1) k (pc + 3) L (.int v :: st) μ1 K) (zHnd M (d + 1) (k + 1) pc L K)) : Wr M (d + 1) k pc L stk μ K := by
  refine Wr_cH As hd hl hg hp hv hb hnn hstk hroom hE ?_ ?_
  · intro v μ1 k1 h
    rcases v with _ | v
    · exact absurd h id
    · cases v <;> first | exact absurd h id | (obtain ⟨rfl, h⟩ := h; exact h)
  · intro E μ1 k1 h
    obtain ⟨rfl, h⟩ := h
    exact h
theorem Wr_cHl {g : zMD} {n idx b : Nat} (As : List Value) {stk : List Value} (hd : decode M.2.1 pc = .ok (.invokevirtual idx, 3)) (hl : Cond.methodLink M.1.cls idx g.1 ∈ wG) (hg : zMG g n) (hp : zPlain g) (hv : zVirt g) (hb : zRecv g b) (hnn : As.length = n) (hstk : stk = As.reverse ++ .ref b :: st) (hroom : (st.map fun v => v.category).sum ≤ 8)
    (hE : zcL d g (.ref b :: As) μ (fun v μ1 => Wr M (d + 1) k (pc + 3) L (.long v :: st) μ1 K) (zHnd M (d + 1) (k + 1) pc L K)) : Wr M (d + 1) k pc L stk μ K := by
  refine Wr_cH As hd hl hg hp hv hb hnn hstk hroom hE ?_ ?_
  · intro v μ1 k1 h
    rcases v with _ | v
    · exact absurd h id
    · cases v <;> first | exact absurd h id | (obtain ⟨rfl, h⟩ := h; exact h)
  · intro E μ1 k1 h
    obtain ⟨rfl, h⟩ := h
    exact h
end HandI
theorem c10_0 : ∀ {E : Nat}, ¬ c10 E = 0 → E = 0
  | 0, _ => rfl
  | _ + 1, h => absurd rfl h
theorem c11_0 : ∀ {E : Nat}, ¬ c11 E = 0 → ∃ n, E = n + 1
  | 0, h => absurd rfl h
  | n + 1, _ => ⟨n, rfl⟩
/-- what the tables say of a static method with handlers: n parameters -/
def zMW (g : zMD) (n : Nat) (hh : List (Nat × Nat × Nat × Nat)) : Prop := zcode g = .codeWith g.1 g.2.1 g.2.2.1 g.2.2.2.1 hh ∧ Cond.codeWith g.1 g.2.1 g.2.2.1 g.2.2.2.1 hh ∈ wG ∧ Cond.initialized g.1.cls ∈ wG ∧ (g.1.cls ≠ "java/lang/invoke/MethodHandle" ∧ g.1.cls ≠ "java/lang/invoke/VarHandle") ∧ (parseMethodDescriptor g.1.desc).map (fun d => d.parameters.length) = some n ∧ g.2.2.1 ≤ 20 ∧ Cond.static g.1 ∈ wG
theorem zLi_n {i : Nat} : ∀ q ∈ ([] : List (Nat × Value)), ¬ q.1 = i ∧ ¬ (q.1 + 1 = i ∧ q.2.category = 2) := fun _ h => absurd h List.not_mem_nil
theorem zLi_c {i a : Nat} {v : Value} {L : List (Nat × Value)} (h1 : ¬ a = i) (h2 : v.category = 1) (h : ∀ q ∈ L, ¬ q.1 = i ∧ ¬ (q.1 + 1 = i ∧ q.2.category = 2)) : ∀ q ∈ (a, v) :: L, ¬ q.1 = i ∧ ¬ (q.1 + 1 = i ∧ q.2.category = 2) := by
  intro q hq
  rcases List.mem_cons.mp hq with rfl | hq
  · refine ⟨h1, fun z => ?_⟩
    have z2 : v.category = 2 := z.2
    omega
  · exact h q hq
