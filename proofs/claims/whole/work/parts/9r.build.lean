/-! building the world: the cells lie side by side from an address on -/
def zbw : Nat → List va_E → va_W
  | _, [] => []
  | h, e :: es => (h, e) :: zbw (h + 1) es
theorem zbw_get : ∀ (es : List va_E) (h k : Nat), (zbw h es)[k]? = (es[k]?).map fun e => (h + k, e)
  | [], _, _ => rfl
  | _ :: _, _, 0 => rfl
  | _ :: es, h, k + 1 => by
    have e1 := zbw_get es (h + 1) k
    show (zbw (h + 1) es)[k]? = (es[k]?).map fun e => (h + (k + 1), e)
    rw [e1]
    congr 1
    funext e
    rw [show h + 1 + k = h + (k + 1) by omega]
theorem zbw_some {h k : Nat} {es : List va_E} {q : Nat × va_E} (hq : (zbw h es)[k]? = some q) : ∃ e, es[k]? = some e ∧ q = (h + k, e) := by
  rw [zbw_get] at hq
  cases he : es[k]? with
  | none => rw [he] at hq; cases hq
  | some e => rw [he] at hq; cases hq; exact ⟨e, rfl, rfl⟩
theorem zbw_app : ∀ (es es' : List va_E) (h : Nat), zbw h (es ++ es') = zbw h es ++ zbw (h + es.length) es'
  | [], es', h => by simp [zbw]
  | e :: es, es', h => by
    show (h, e) :: zbw (h + 1) (es ++ es') = (h, e) :: (zbw (h + 1) es ++ zbw (h + (es.length + 1)) es')
    rw [zbw_app es es' (h + 1), show h + 1 + es.length = h + (es.length + 1) by omega]
theorem zbw_len : ∀ (es : List va_E) (h : Nat), (zbw h es).length = es.length
  | [], _ => rfl
  | _ :: es, h => by show (zbw (h + 1) es).length + 1 = es.length + 1; rw [zbw_len es]
theorem zbw_set {h k : Nat} {es : List va_E} {e : va_E} (hk : k < es.length) : (zbw h es).set k (h + k, e) = zbw h (es.set k e) := by
  apply List.ext_getElem?
  intro i
  rw [zbw_get]
  by_cases hi : k = i
  · subst hi
    rw [List.getElem?_set_self (by rw [zbw_len]; exact hk), List.getElem?_set_self hk]
    rfl
  · rw [List.getElem?_set_ne hi, List.getElem?_set_ne hi, zbw_get]
theorem zbw_D {h : Nat} {es : List va_E} : va_D (fun q => h ≤ q) (zbw h es) := by
  refine ⟨fun i j p q hp hq e => ?_, fun k q hq => ?_⟩
  · obtain ⟨_, _, rfl⟩ := zbw_some hp
    obtain ⟨_, _, rfl⟩ := zbw_some hq
    have e : h + i = h + j := e
    omega
  · obtain ⟨_, _, rfl⟩ := zbw_some hq
    show h ≤ h + k
    omega
def zB (D : va_G) (h : Nat) (es : List va_E) (H : Heap) : Prop := H.size = h + es.length ∧ va_P D vwCl (zbw h es) H
theorem zB.kept {D : va_G} {h : Nat} {es : List va_E} {H H1 : Heap} (hB : zB D h es H) (o : ∀ q, q < H.size → H1[q]? = H[q]?) : va_P D vwCl (zbw h es) H1 :=
  hB.2.kept fun k q hq => o q.1 ((hB.2 k q hq).lt)
theorem zB.app {D : va_G} {h : Nat} {es es' : List va_E} {H H1 : Heap} (hB : zB D h es H) (o : ∀ q, q < H.size → H1[q]? = H[q]?) (hB' : zB D (h + es.length) es' H1) : zB D h (es ++ es') H1 := by
  refine ⟨by rw [hB'.1, List.length_append]; omega, ?_⟩
  rw [zbw_app]
  exact (hB.kept o).app hB'.2
/-- a frame that builds -/
def zFB (M : zMD) (d : Nat) (D : va_G) (cA : Nat → ClassId) (p : Program) (l : Launch) (R : Room) (s : State) (m : MethodId) (args : Array Value) (meth : Method) (c : Code) : Prop :=
  p.tables.exec = Jvm.exec ∧ c.code = M.2.1 ∧ meth.sig.returnType = M.2.2.2.1 ∧ c.maxLocals = M.2.2.1 ∧ s.vm.findClass M.1.cls = some m.cls ∧ (∀ w ∈ wG, w.before args s = true) ∧ meth.locks = false ∧ d + 10 ≤ R.frames ∧ d * 40 + 200 ≤ R.locals ∧ zK D cA s
def zFPF (own : String) (idx c j : Nat) (ty : FieldType) : Prop := ∃ q : vw_C, vwCl[c]? = some q ∧ j < q.2.2 ∧ Cond.fieldLink own idx (q.2.1 j).1 (q.2.1 j).2.1 (q.2.1 j).2.2.1 ∈ wG ∧ (q.2.1 j).2.2.2 = true ∧ (q.2.1 j).1 = own ∧ parseFieldDescriptor (q.2.1 j).2.2.1 = some ty
section Bd
variable {M : zMD} {d pc h : Nat} {D : va_G} {cA : Nat → ClassId} {p : Program} {l : Launch} {e : Env} {R : Room} {s : State} {m : MethodId} {args : Array Value} {below : List Frame} {meth : Method} {c : Code} {H : Heap} {locs : List Loc} {cells slots : Nat} {Q : State → Prop} {ls : Array Slot} {rest : List Value} {es : List va_E}
theorem bd_S {H1 : Heap} {n : Nat} (hB : H.size = n) (hS : va_S (fun q => h ≤ q) s.heap H locs) (z : n ≤ H1.size) (o : ∀ q, q < n → H1[q]? = H[q]?) : va_S (fun q => h ≤ q) s.heap H1 locs := by
  have := hS.1
  exact ⟨by omega, fun x h1 h2 => (o x (by omega)).trans (hS.2.1 x h1 h2), hS.2.2⟩
theorem bd_newa {at9 : ArrayType} {n : Int32} (t N q : Nat) (a0 : vp_A) (F : zFB M d D cA p l R s m args meth c) (hB : zB D h es H) (hS : va_S (fun q => h ≤ q) s.heap H locs) (harr : Cond.arrayClass (newarray.typeOf at9) ∈ wG) (ht : (ztys cA)[t]? = some (cA t, newarray.typeOf at9)) (ha : ∀ k : ClassId, vp_cell k a0 = arrV k N (fun _ => defaultValue (newarray.typeOf at9))) (hq : h + es.length = q)
    (hn : ¬ n < 0) (hN : n.toNatClampNeg = N) (hbytes : N * componentBytes (newarray.typeOf at9) ≤ 536870912) (hcells : cells + 1 ≤ R.cells) (hslots : slots + N ≤ R.slots) (hdg : decode M.2.1 pc = .ok (.newarray at9, 2))
    (kk : ∀ H1, zB D h (es ++ [.inl (cA t, a0)]) H1 → va_S (fun q => h ≤ q) s.heap H1 locs → W p l e R s m args below meth c H1 locs (cells + 1) (slots + N) Q (F0 m (pc + 2) ls (.ref q :: rest))) : W p l e R s m args below meth c H locs cells slots Q (F0 m pc ls (.int n :: rest)) := by
  obtain ⟨hx, hb, hr, hml, hown, hts, hlk, hfr, hlo, hK⟩ := F
  subst hq
  refine va_newaK hx hb (hts _ harr) rfl hdg rfl hn hN hbytes hcells hslots hB.1 fun H1 cA' e1 z1 o1 hAr hNm => ?_
  have h9 : s.vm.findClass ("[" ++ (newarray.typeOf at9).toString) = some (cA t) := by
    have h8 := (hK.2 t _ ht).2
    cases at9 <;> exact h8
  cases Option.some.inj (hNm.symm.trans h9)
  have o : ∀ q, q < H.size → H1[q]? = H[q]? := fun q hq => o1 q (by rw [← hB.1]; exact hq)
  refine kk H1 (hB.app o ⟨by rw [z1]; rfl, fun k q hq => ?_⟩) (bd_S hB.1 hS (by omega) o1)
  obtain ⟨e9, he9, rfl⟩ := zbw_some hq
  have hk : k = 0 := by have := (List.getElem?_eq_some_iff.mp he9).1; simp at this; omega
  subst hk
  cases he9
  show H1[h + es.length + 0]? = some (vp_cell _ _)
  rw [ha]
  exact e1
theorem bd_put {idx ci j a : Nat} {fs : List Value} {v : Value} {ty : FieldType} (k0 : Nat) (F : zFB M d D cA p l R s m args meth c) (hB : zB D h es H) (hS : va_S (fun q => h ≤ q) s.heap H locs) (hf : zFP M.1.cls idx ci j ty) (he : es[k0]? = some (.inr (ci, fs))) (hl : j < fs.length) (ha : a = h + k0) (hn : narrow ty v = v) (hfit : fits ty v = true) (hdg : decode M.2.1 pc = .ok (.putfield idx, 3))
    (kk : ∀ (H1 : Heap) (locs1 : List Loc), zB D h (es.set k0 (.inr (ci, fs.set j v))) H1 → va_S (fun q => h ≤ q) s.heap H1 locs1 → W p l e R s m args below meth c H1 locs1 cells slots Q (F0 m (pc + 3) ls rest)) : W p l e R s m args below meth c H locs cells slots Q (F0 m pc ls (v :: .ref a :: rest)) := by
  obtain ⟨hx, hb, hr, hml, hown, hts, hlk, hfr, hlo, hK⟩ := F
  subst ha
  obtain ⟨⟨C, T, N⟩, hc, hjN, hlink, hfin, hd⟩ := hf
  have hin := zCW ci _ hc
  obtain ⟨⟨ty0, hty⟩, hnm⟩ := zCT ci _ hc
  have hw : (zbw h es)[k0]? = some (h + k0, .inr (ci, fs)) := by rw [zbw_get, he]; rfl
  have hk0 := (List.getElem?_eq_some_iff.mp he).1
  have hap := va_apart (own := M.1.cls) hts hin ty0 hty hnm hK hc
  obtain ⟨r, h1, cell, q1, q2, q3, q4⟩ := hB.2 k0 _ hw
  have hr9 : r = (C, T, N) := Option.some.inj (h1.symm.trans hc)
  subst hr9
  obtain ⟨hSl, hfc, kC, hkC, hkind⟩ := hK.1 ci _ hc
  obtain ⟨cf, kf, fi, f, hi, hsl⟩ := hSl j hjN
  have hlay := hts _ (hin _ (u_in_lay hjN))
  unfold u_lay at hlay
  rw [if_neg (by rw [hfin]; decide)] at hlay
  have hst := (u_facts hfc hkC (u_lays hts hin hjN) hi).1
  have h6 := u_store hfc hkC hkind hlay hi hd hn hfit
  refine W.putK hx hb (f := f) ⟨hown, hts _ hlink, ⟨_, _, _, hi⟩, hst⟩ (by rw [q2]; exact h6) q1 q3 (by rw [hsl]; exact k2_hasslot (q4 j hjN)) rfl rfl hdg fun H' e1 e2 e3 => ?_
  rw [hsl] at e1 ⊢
  refine kk H' _ ⟨by rw [e2, hB.1, List.length_set], ?_⟩ (hS.put e2 e3 (by show h ≤ h + k0; omega))
  rw [← zbw_set hk0]
  exact hB.2.set zbw_D hw ⟨_, hc, t_OB.to (V := updV (vp_V fs) j v) ⟨_, e1, q2, q3, t_set q4 hap hjN v⟩ (fun j9 _ => vp_updV_set hl v j9)⟩ e3
theorem bd_putF {idx ci j a : Nat} {fs : List Value} {v : Value} {ty : FieldType} (k0 : Nat) (F : zFB M d D cA p l R s m args meth c) (hB : zB D h es H) (hS : va_S (fun q => h ≤ q) s.heap H locs) (hf : zFPF M.1.cls idx ci j ty) (hin2 : meth.name = "<init>") (he : es[k0]? = some (.inr (ci, fs))) (hl : j < fs.length) (ha : a = h + k0) (hn : narrow ty v = v) (hfit : fits ty v = true) (hdg : decode M.2.1 pc = .ok (.putfield idx, 3))
    (kk : ∀ (H1 : Heap) (locs1 : List Loc), zB D h (es.set k0 (.inr (ci, fs.set j v))) H1 → va_S (fun q => h ≤ q) s.heap H1 locs1 → W p l e R s m args below meth c H1 locs1 cells slots Q (F0 m (pc + 3) ls rest)) : W p l e R s m args below meth c H locs cells slots Q (F0 m pc ls (v :: .ref a :: rest)) := by
  obtain ⟨hx, hb, hr, hml, hown, hts, hlk, hfr, hlo, hK⟩ := F
  subst ha
  obtain ⟨⟨C, T, N⟩, hc, hjN, hlink, hfin, hdecl, hd⟩ := hf
  have hin := zCW ci _ hc
  obtain ⟨⟨ty0, hty⟩, hnm⟩ := zCT ci _ hc
  have hw : (zbw h es)[k0]? = some (h + k0, .inr (ci, fs)) := by rw [zbw_get, he]; rfl
  have hk0 := (List.getElem?_eq_some_iff.mp he).1
  have hap := va_apart (own := M.1.cls) hts hin ty0 hty hnm hK hc
  obtain ⟨r, h1, cell, q1, q2, q3, q4⟩ := hB.2 k0 _ hw
  have hr9 : r = (C, T, N) := Option.some.inj (h1.symm.trans hc)
  subst hr9
  obtain ⟨hSl, hfc, kC, hkC, hkind⟩ := hK.1 ci _ hc
  obtain ⟨cf, kf, fi, f, hi, hsl⟩ := hSl j hjN
  have hlay := hts _ (hin _ (u_in_lay hjN))
  unfold u_lay at hlay
  rw [if_pos hfin] at hlay
  have hst := (u_facts hfc hkC (u_lays hts hin hjN) hi).1
  have hcf : m.cls = cf := by
    obtain ⟨_, _, c', _, _, _, -, -, hf', -, -, -, hown2, -⟩ := Cond.laysFinal_spec hlay
    have e1 : c' = cf := by have := hi.symm.trans hf'; simp at this; exact this.1.symm
    rw [hdecl] at hown2
    rw [← e1]; exact Option.some.inj (hown.symm.trans hown2)
  have h6 := u_fits hfc hkC hkind (Or.inr hlay) hi hd hn hfit
  refine W.putFinK hx hb hown (hts _ hlink) hi hst hcf hin2 (by rw [q2]; exact h6) q1 q3 (by rw [hsl]; exact k2_hasslot (q4 j hjN)) rfl rfl hdg fun H' e1 e2 e3 => ?_
  rw [hsl] at e1 ⊢
  refine kk H' _ ⟨by rw [e2, hB.1, List.length_set], ?_⟩ (hS.put e2 e3 (by show h ≤ h + k0; omega))
  rw [← zbw_set hk0]
  exact hB.2.set zbw_D hw ⟨_, hc, t_OB.to (V := updV (vp_V fs) j v) ⟨_, e1, q2, q3, t_set q4 hap hjN v⟩ (fun j9 _ => vp_updV_set hl v j9)⟩ e3
theorem bd_iast {n a : Nat} {f : Nat → Int32} {i x : Int32} (k0 : Nat) (F : zFB M d D cA p l R s m args meth c) (hB : zB D h es H) (hS : va_S (fun q => h ≤ q) s.heap H locs) (he : es[k0]? = some (.inl (cA 0, n, .inl f))) (ha : a = h + k0) (hin : vp_in i n) (hdg : decode M.2.1 pc = .ok (.iastore, 1))
    (kk : ∀ (H1 : Heap) (locs1 : List Loc), zB D h (es.set k0 (.inl (cA 0, n, .inl (upd f i.toNatClampNeg x)))) H1 → va_S (fun q => h ≤ q) s.heap H1 locs1 → W p l e R s m args below meth c H1 locs1 cells slots Q (F0 m (pc + 1) ls rest)) : W p l e R s m args below meth c H locs cells slots Q (F0 m pc ls (.int x :: .int i :: .ref a :: rest)) := by
  obtain ⟨hx, hb, hr, hml, hown, hts, hlk, hfr, hlo, hK⟩ := F
  subst ha
  have hw : (zbw h es)[k0]? = some (h + k0, .inl (cA 0, n, .inl f)) := by rw [zbw_get, he]; rfl
  have hk0 := (List.getElem?_eq_some_iff.mp he).1
  have ht : (ztys cA)[0]? = some (cA 0, .int) := rfl
  refine W.iast hx hb (hB.2 k0 _ hw) ((hK.2 0 _ ht).1 n (fun j => .int (f j))) (fun q => by cases q) (by show ¬ (i < 0 ∨ (arrV _ _ _).slots.size ≤ _); rw [arrV_size]; exact hin) rfl rfl hdg fun H1 e1 z oq => ?_
  refine kk H1 _ ⟨by rw [z, hB.1, List.length_set], ?_⟩ (hS.put z oq (by show h ≤ h + k0; omega))
  rw [← zbw_set hk0]
  refine hB.2.set zbw_D hw ?_ oq
  show H1[h + k0]? = some (vp_cell _ _)
  rw [e1]
  rw [vp_cell_i, vp_cell_i, arrV_store]
  congr 2
  funext q
  by_cases hq : q = i.toNatClampNeg
  · subst hq
    simp [updV, upd]
  · simp [updV, upd, hq]
end Bd
