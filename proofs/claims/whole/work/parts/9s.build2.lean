/-! constructors: contracts, calls, arrays of strings -/
def zRi (d w sl : Nat) : Room := { frames := d + 10, cells := w, slots := sl, locals := d * 40 + 200 }
def zIn (l : Launch) (D : va_G) (cA : Nat → ClassId) (h : Nat) (g : zMD) (c w sl d : Nat) (dflt : List Value) (Z : State → Prop) (E : List va_E) : Prop :=
  Met l g.1 (zwd g) (zRi d w sl) (va_Pc [.ref h] (fun U => zB D h [.inr (c, dflt)] U.heap ∧ zK D cA U ∧ Z U)) (va_Qv (fun _ : Unit => True) (fun _ t => zB D h E t.heap) (fun q => h ≤ q)) w sl (fun q => h ≤ q)
theorem zIn_of {l : Launch} {D : va_G} {cA : Nat → ClassId} {h : Nat} {g : zMD} {c w sl d : Nat} {dflt : List Value} {Z : State → Prop} {E : List va_E} (hpl : plainName g.1.cls = true) (hc : zPlain g) (hname : g.1.name = "<init>") (hml9 : 1 ≤ g.2.2.1)
    (body : ∀ (p : Program) (e : Env) (s : State) (m : MethodId) (below : List Frame) (meth : Method) (c9 : Code) (ls : Array Slot), zFB g d D cA p l (zRi d w sl) s m #[Value.ref h] meth c9 → meth.name = "<init>" → zB D h [.inr (c, dflt)] s.heap → Z s → va_S (fun q => h ≤ q) s.heap s.heap [] → lv_has ls g.2.2.1 [(0, .ref h)] →
      W p l e (zRi d w sl) s m #[Value.ref h] below meth c9 s.heap [] 0 0 (MQ below (va_Qv (fun _ : Unit => True) (fun _ t => zB D h E t.heap) (fun q => h ≤ q)) #[Value.ref h] s w sl (fun q => h ≤ q)) (F0 m 0 ls [])) : zIn l D cA h g c w sl d dflt Z E := by
  refine Met.ofW (cc := g.2.1) (maxL := g.2.2.1) (ret := g.2.2.2.1) hpl (by rw [zwd, show zcode g = _ from hc]) ?_
  intro p e s m args below meth c9 s₁ B hml hv
  obtain ⟨rfl, hB, hK, hZ⟩ := hv
  have hts := atoms_spec (ws := zwd g) B.pre
  have hln : (lg_sl [Value.ref h]).length ≤ g.2.2.1 := hml9
  have hl := lv_entry [Value.ref h] (n := g.2.2.1) hln
  rw [lg_entry_eq]
  have hin : meth.name = g.1.name := (name_of_methodNamed B.named B.method).1
  exact body p e s m below meth c9 _ ⟨B.exec, B.bytes, B.returns, hml, findClass_of_methodNamed B.named, fun w hw => hts w (List.mem_cons_of_mem _ hw), B.notSynchronized, Nat.le_refl _, Nat.le_refl _, hK⟩ (hin.trans hname) hB hZ va_S.rf hl
section Bd2
variable {M : zMD} {d pc h : Nat} {D : va_G} {cA : Nat → ClassId} {p : Program} {l : Launch} {e : Env} {R : Room} {s : State} {m : MethodId} {args : Array Value} {below : List Frame} {meth : Method} {c : Code} {H : Heap} {locs : List Loc} {cells slots : Nat} {Q : State → Prop} {ls : Array Slot} {rest : List Value} {es : List va_E}
theorem bd_obj {idx a : Nat} (F : zFB M d D cA p l R s m args meth c) (hl : Cond.methodLink M.1.cls idx Lib.objectInit ∈ wG) (hi : Cond.instanceMethod Lib.objectInit ∈ wG) (hc : Cond.code Lib.objectInit ⟨#[0xb1]⟩ 1 none ∈ wG) (hsz : ls.size = M.2.2.1) (hroom : (rest.map fun v => v.category).sum ≤ 8) (hdg : decode M.2.1 pc = .ok (.invokespecial idx, 3))
    (kk : W p l e R s m args below meth c H locs cells slots Q (F0 m (pc + 3) ls rest)) : W p l e R s m args below meth c H locs cells slots Q (F0 m pc ls (.ref a :: rest)) := by
  obtain ⟨hx, hb, hr, hml, hown, hts, hlk, hfr, hlo, hK⟩ := F
  refine W.objInit hx hb hown (hts _ hl) (hts _ hi) (hts _ hc) rfl (by rw [hml]; exact hsz) rfl hdg (by omega) (by show 2 * 0 + (rest.map fun v => v.category).sum + 12 ≤ R.locals; omega) ?_
  exact kk
theorem bd_new {g : zMD} {ic ik ci N w sl : Nat} {C : String} {T : u_T} {E : List va_E} {Z : State → Prop} (q : Nat) (dflt : List Value) (F : zFB M (d + 1) D cA p l R s m args meth c) (hB : zB D h es H) (hS : va_S (fun q => h ≤ q) s.heap H locs) (hq : h + es.length = q) (hc : vwCl[ci]? = some (C, T, N)) (ty : Nat → FieldType) (hty : ∀ k, k < N → parseFieldDescriptor (T k).2.2.1 = some (ty k)) (hfs : ∀ j, j < N → defaultValue (ty j) = vp_V dflt j)
    (hcl : Cond.classLink M.1.cls ik C ∈ wG) (hinst : Cond.instantiable C N ∈ wG) (hini : Cond.initialized C ∈ wG) (hg : zMG g 0) (hp : zPlain g) (hgn : g.1.name = "<init>") (hgi : Cond.instanceMethod g.1 ∈ wG) (hret : g.2.2.2.1 = none) (hl : Cond.methodLink M.1.cls ic g.1 ∈ wG) (hI : zIn l D cA q g ci w sl d dflt Z E)
    (hZb : ∀ (a : Array Value) (U : State) (g : JFrame) (mk : MethodId), Z U → Z (U.calling g mk a)) (hZ : ∀ (H1 : Heap) (U : State), va_S (fun q => h ≤ q) s.heap H1 locs → U.heap = H1 → s.WarmedH U.vm → Z U)
    (hd0 : decode M.2.1 pc = .ok (.new ik, 3)) (hd1 : decode M.2.1 (pc + 3) = .ok (.dup, 1)) (hd2 : decode M.2.1 (pc + 3 + 1) = .ok (.invokespecial ic, 3)) (hcells : cells + 1 + w ≤ R.cells) (hslots : slots + N + sl ≤ R.slots) (hroom : (rest.map fun v => v.category).sum ≤ 7) (hsz : ls.size = M.2.2.1)
    (kk : ∀ (H1 : Heap) (locs1 : List Loc), zB D h (es ++ E) H1 → va_S (fun q => h ≤ q) s.heap H1 locs1 → W p l e R s m args below meth c H1 locs1 (cells + 1 + w) (slots + N + sl) Q (F0 m (pc + 3 + 1 + 3) ls (.ref q :: rest))) : W p l e R s m args below meth c H locs cells slots Q (F0 m pc ls rest) := by
  obtain ⟨hx, hb, hr, hml, hown, hts, hlk, hfr, hlo, hK⟩ := F
  subst hq
  have hKn := hK.1 ci _ hc
  have hin := zCW ci _ hc
  refine W.newcK hx hb hown (hts _ hcl) (hts _ hinst) (hts _ hini) rfl hd0 (by omega) (by omega) hKn.2.1 hB.1 fun H1 kC hkC e1 z1 o1 => ?_
  have hB1 : zB D (h + es.length) [.inr (ci, dflt)] H1 := by
    refine ⟨by rw [z1]; rfl, fun k q hq => ?_⟩
    obtain ⟨e9, he9, rfl⟩ := zbw_some hq
    have hk : k = 0 := by have := (List.getElem?_eq_some_iff.mp he9).1; simp at this; omega
    subst hk
    cases he9
    exact ⟨_, hc, (u_born ty hts hin hKn hkC e1 hty).to hfs⟩
  have hS1 := bd_S hB.1 hS (by omega) o1
  refine lv_dup (va := Value.ref (h + es.length)) hx hb hd1 rfl ?_
  have o : ∀ q, q < H.size → H1[q]? = H[q]? := fun q hq => o1 q (by rw [← hB.1]; exact hq)
  obtain ⟨g1, g2, g3, g4, g5, g6⟩ := hg
  rw [show zcode g = _ from hp] at g1
  refine va_callv (va_runI (bytes := g.2.1) (maxL := g.2.2.1) (As := []) (rest := .ref (h + es.length) :: rest) (b := h + es.length) ⟨hx, hb, hml, hown, hts⟩ hI ⟨?_, hgn, hts _ hgi⟩ ⟨?_, fun U hU hW => ⟨rfl, by rw [hU]; exact hB1, va_K.moved hW.alike hK, hZ H1 U hS1 hU hW⟩⟩ rfl rfl hsz rfl (lv_room (by show 1 + (rest.map fun v => v.category).sum ≤ 8; omega)) hd2 ⟨by omega, by omega⟩) hS1 (A1 := fun q => h + es.length ≤ q) (fun q _ hq => Nat.le_trans (Nat.le_add_right _ _) hq) (fun q hq => Nat.le_trans (Nat.le_add_right _ _) hq) (fun u t H2 locs2 ht hvm _ hB2 hz hk2 hS2 => ?_)
  · refine ⟨rfl, rfl, by show d + 10 + 1 ≤ _; omega, by show 8 + (g.2.2.1 + 11) + (d * 40 + 200) ≤ _; omega, ?_, by rw [zwd, show zcode g = _ from hp, hret]; exact List.mem_cons_self, by rw [← hret]; exact hts _ g1, hts _ g2, g3, ?_, hts _ hl⟩
    · intro w hw a' U hW
      refine wG_warm hts w ?_ a' U hW
      rcases List.mem_cons.mp hw with h9 | h9
      · rw [h9, show zcode g = _ from hp]; exact g1
      · exact h9
    · intro sig h9
      rw [h9] at g4
      exact (Option.some.inj g4).symm
  · intro a U g9 mk hq
    exact ⟨hq.1, hq.2.1, va_K.moved (u := U) (U := U.calling g9 mk a) (Vm.Alike.refl U.vm) hq.2.2.1, hZb a U g9 mk hq.2.2.2⟩
  · rw [ht] at hB2
    refine kk H2 locs2 (hB.app (fun q hq => ?_) hB2) hS2
    have hBs := hB.1
    rw [hk2 q (by omega) (by show ¬ (h + es.length ≤ q); omega)]
    exact o q hq
theorem bd_newq {ik : Nat} {n : Int32} (N q : Nat) (F : zFB M d D cA p l R s m args meth c) (hB : zB D h es H) (hS : va_S (fun q => h ≤ q) s.heap H locs) (hcl : Cond.classLink M.1.cls ik "java/lang/String" ∈ wG) (hover : va_AO "java/lang/String" s) (hq : h + es.length = q) (hn : ¬ n < 0) (hN : n.toNatClampNeg = N) (hbytes : N * 4 ≤ 536870912) (hcells : cells + 1 ≤ R.cells) (hslots : slots + N ≤ R.slots) (hdg : decode M.2.1 pc = .ok (.anewarray ik, 3))
    (kk : ∀ H1, zB D h (es ++ [.inl (cA 4, N, .inr (.inr (.inr (.inr (fun _ => none)))))]) H1 → va_S (fun q => h ≤ q) s.heap H1 locs → W p l e R s m args below meth c H1 locs (cells + 1) (slots + N) Q (F0 m (pc + 3) ls (.ref q :: rest))) : W p l e R s m args below meth c H locs cells slots Q (F0 m pc ls (.int n :: rest)) := by
  obtain ⟨hx, hb, hr, hml, hown, hts, hlk, hfr, hlo, hK⟩ := F
  subst hq
  subst hN
  refine W.anew hx hb hown (hts _ hcl) (va_AO.use hover) rfl hdg rfl hn hbytes hcells hslots fun cA' kA comp f1 f2 f3 f4 => ?_
  generalize hH1 : H.push ({ cls := cA', slots := Array.replicate n.toNatClampNeg .null, vm := .none } : Cell) = H1
  have z1 : H1.size = H.size + 1 := by rw [← hH1, Array.size_push]
  have e1 : H1[H.size]? = some (arrV cA' n.toNatClampNeg (fun _ => .null)) := by rw [← hH1, Array.getElem?_push_size, ← arrV_new]
  have o1 : ∀ q : Nat, q < H.size → H1[q]? = H[q]? := fun q hq => by rw [← hH1, Array.getElem?_push, if_neg (Nat.ne_of_lt hq)]
  obtain ⟨kA9, comp9, g1, g2, g3, g4⟩ := (hK.2 4 (cA 4, .object "java/lang/String") rfl).2
  cases Option.some.inj (f1.symm.trans g4)
  rw [show H.size = h + es.length from hB.1]
  refine kk H1 (hB.app o1 ⟨by rw [z1, hB.1]; rfl, fun k q hq => ?_⟩) (bd_S rfl hS (by omega) o1)
  obtain ⟨e9, he9, rfl⟩ := zbw_some hq
  have hk : k = 0 := by have := (List.getElem?_eq_some_iff.mp he9).1; simp at this; omega
  subst hk
  cases he9
  show H1[h + es.length + 0]? = some (vp_cell _ _)
  rw [vp_cell_q]
  rw [show h + es.length + 0 = H.size from hB.1.symm]
  exact e1
theorem bd_aast {n a v : Nat} {f : Nat → Option Nat} {i : Int32} (k0 : Nat) (F : zFB M d D cA p l R s m args meth c) (hB : zB D h es H) (hS : va_S (fun q => h ≤ q) s.heap H locs) (hv : va_O "java/lang/String" v (fun q => h ≤ q) s s.heap) (he : es[k0]? = some (.inl (cA 4, n, .inr (.inr (.inr (.inr f)))))) (ha : a = h + k0) (hin : vp_in i n) (hdg : decode M.2.1 pc = .ok (.aastore, 1))
    (kk : ∀ (H1 : Heap) (locs1 : List Loc), zB D h (es.set k0 (.inl (cA 4, n, .inr (.inr (.inr (.inr (va_up f i.toNatClampNeg (some v)))))))) H1 → va_S (fun q => h ≤ q) s.heap H1 locs1 → W p l e R s m args below meth c H1 locs1 cells slots Q (F0 m (pc + 1) ls rest)) : W p l e R s m args below meth c H locs cells slots Q (F0 m pc ls (.ref v :: .int i :: .ref a :: rest)) := by
  obtain ⟨hx, hb, hr, hml, hown, hts, hlk, hfr, hlo, hK⟩ := F
  subst ha
  have hw : (zbw h es)[k0]? = some (h + k0, .inl (cA 4, n, .inr (.inr (.inr (.inr f))))) := by rw [zbw_get, he]; rfl
  have hk0 := (List.getElem?_eq_some_iff.mp he).1
  have hlt : i.toNatClampNeg < n := Nat.not_le.mp fun q => hin (Or.inr q)
  have h0 : ¬ i < 0 := fun q => hin (Or.inl q)
  obtain ⟨cellV, g1, g3, g2, -⟩ := hv.kept hS.2.1
  obtain ⟨kC, hkC, -⟩ := Vm.findClass_spec g2
  obtain ⟨kA, comp, k1, k2, k3, -⟩ := (hK.2 4 (cA 4, .object "java/lang/String") rfl).2
  obtain ⟨kE, hkE, -⟩ := Vm.findClass_spec k3
  cases Option.some.inj (g2.symm.trans k3)
  refine W.aast hx hb (hB.2 k0 _ hw) (fun q h => by cases h) (fun h => by cases h) k1 k2 rfl hkE ⟨h0, by show _ < (arrV _ _ _).slots.size; rw [arrV_size]; exact hlt⟩ g1 (fun q h => by rw [h] at g3; cases g3) hkC (va_asg _ _) rfl rfl hdg fun H1 e1 z oq => ?_
  refine kk H1 _ ⟨by rw [z, hB.1, List.length_set], ?_⟩ (hS.put z oq (by show h ≤ h + k0; omega))
  rw [← zbw_set hk0]
  refine hB.2.set zbw_D hw ?_ oq
  show H1[h + k0]? = some (vp_cell _ _)
  rw [e1]
  rw [vp_cell_q, vp_cell_q, arrV_store]
  congr 2
  funext q
  by_cases hq : q = i.toNatClampNeg
  · subst hq
    simp [updV, va_up, va_rf]
  · simp [updV, va_up, hq]
theorem bd_end {E : List va_E} (F : zFB M d D cA p l R s m args meth c) (hr0 : M.2.2.2.1 = none) (hB : zB D h E H) (hS : va_S (fun q => h ≤ q) s.heap H locs) (hdg : decode M.2.1 pc = .ok (.return_, 1)) : W p l e R s m args below meth c H locs cells slots (MQ below (va_Qv (fun _ : Unit => True) (fun _ t => zB D h E t.heap) (fun q => h ≤ q)) args s cells slots (fun q => h ≤ q)) (F0 m pc ls []) := by
  obtain ⟨hx, hb, hr, hml, hown, hts, hlk, hfr, hlo, hK⟩ := F
  exact W.vret hx hb (hr.trans hr0) (fun t ht hW => ⟨⟨(), rfl, trivial, by show zB D h E t.heap; rw [ht]; exact hB⟩, hS.F ht⟩) hS.2.2 hdg hlk
end Bd2
