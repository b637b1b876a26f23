/-! a constructor of a nest mate -/
def zNeL : List (String × Nat × MethodName) := [("TetherSky", 19, yX2_init), ("TetherSky$Reader", 11, yX6_init), ("TetherSky$Sky", 11, yX1_init), ("TetherSky$Sky", 46, yX3_init), ("TetherSky", 39, yX5_init), ("TetherSky$State", 11, yX1_init), ("TetherSky", 53, yX1_init), ("TetherSky", 60, yX0_init), ("TetherSky", 67, yX7_init)]
def zNn (U : State) : Prop := ∀ q ∈ zNeL, va_Nw (.methodLinkNest q.1 q.2.1 q.2.2 "TetherSky") U
theorem zNn.warm {s U : State} (hW : s.WarmedH U.vm) (h : zNn s) : zNn U := fun q hq => (h q hq).warmM hW
theorem zNn.call {U : State} {a : Array Value} {g : JFrame} {mk : MethodId} (h : zNn U) : zNn (U.calling g mk a) := fun q hq => (h q hq).same rfl rfl
theorem zNn.at {s : State} (i : Nat) {q : String × Nat × MethodName} (h : zNn s) (hq : zNeL[i]? = some q) : va_Nw (.methodLinkNest q.1 q.2.1 q.2.2 "TetherSky") s := h q (List.mem_of_getElem? hq)
section Bd3
variable {M : zMD} {d pc h : Nat} {D : va_G} {cA : Nat → ClassId} {p : Program} {l : Launch} {e : Env} {R : Room} {s : State} {m : MethodId} {args : Array Value} {below : List Frame} {meth : Method} {c : Code} {H : Heap} {locs : List Loc} {cells slots : Nat} {Q : State → Prop} {ls : Array Slot} {rest : List Value} {es : List va_E}
theorem bd_newN {host : String} {g : zMD} {ic ik ci N w sl : Nat} {C : String} {T : u_T} {E : List va_E} {Z : State → Prop} (q : Nat) (dflt : List Value) (F : zFB M (d + 1) D cA p l R s m args meth c) (hB : zB D h es H) (hS : va_S (fun q => h ≤ q) s.heap H locs) (hq : h + es.length = q) (hc : vwCl[ci]? = some (C, T, N)) (ty : Nat → FieldType) (hty : ∀ k, k < N → parseFieldDescriptor (T k).2.2.1 = some (ty k)) (hfs : ∀ j, j < N → defaultValue (ty j) = vp_V dflt j)
    (hcl : Cond.classLink M.1.cls ik C ∈ wG) (hinst : Cond.instantiable C N ∈ wG) (hini : Cond.initialized C ∈ wG) (hg : zMG g 0) (hp : zPlain g) (hgn : g.1.name = "<init>") (hgi : Cond.instanceMethod g.1 ∈ wG) (hret : g.2.2.2.1 = none) (hl : va_Nw (.methodLinkNest M.1.cls ic g.1 host) s) (hI : zIn l D cA q g ci w sl d dflt Z E)
    (hZb : ∀ (a : Array Value) (U : State) (g : JFrame) (mk : MethodId), Z U → Z (U.calling g mk a)) (hZ : ∀ (H1 : Heap) (U : State), va_S (fun q => h ≤ q) s.heap H1 locs → U.heap = H1 → s.WarmedH U.vm → Z U)
    (hd0 : decode M.2.1 pc = .ok (.new ik, 3)) (hd1 : decode M.2.1 (pc + 3) = .ok (.dup, 1)) (hd2 : decode M.2.1 (pc + 3 + 1) = .ok (.invokespecial ic, 3)) (hcells : cells + 1 + w ≤ R.cells) (hslots : slots + N + sl ≤ R.slots) (hroom : (rest.map fun v => v.category).sum ≤ 7) (hsz : ls.size = M.2.2.1)
    (kk : ∀ (H1 : Heap) (locs1 : List Loc), zB D h (es ++ E) H1 → va_S (fun q => h ≤ q) s.heap H1 locs1 → W p l e R s m args below meth c H1 locs1 (cells + 1 + w) (slots + N + sl) Q (F0 m (pc + 3 + 1 + 3) ls (.ref q :: rest))) : W p l e R s m args below meth c H locs cells slots Q (F0 m pc ls rest) := by
  obtain ⟨hx, hb, hr, hml, hown, hts, hlk, hfr, hlo, hK⟩ := F
  subst hq
  have hKn := hK.1 ci _ hc
  have hin := zCW ci _ hc
  refine W.newcK hx hb hown (hts _ hcl) (hts _ hinst) (hts _ hini) rfl hd0 (by omega) (by omega) hKn.2.1 hB.1 fun H1 kC hkC e1 z1 o1 => ?_
  have hB1 : zB D (h + es.length) [.inr (ci, dflt)] H1 := by
    refine ⟨by rw [z1]; rfl, fun k q hq => ?_⟩
    obtain ⟨e9, he9, rfl⟩ := zbw_some hq
    have hk : k = 0 := by have := (List.getElem?_eq_some_iff.mp he9).1; simp at this; omega
    subst hk
    cases he9
    exact ⟨_, hc, (u_born ty hts hin hKn hkC e1 hty).to hfs⟩
  have hS1 := bd_S hB.1 hS (by omega) o1
  refine lv_dup (va := Value.ref (h + es.length)) hx hb hd1 rfl ?_
  have o : ∀ q, q < H.size → H1[q]? = H[q]? := fun q hq => o1 q (by rw [← hB.1]; exact hq)
  obtain ⟨g1, g2, g3, g4, g5, g6⟩ := hg
  rw [show zcode g = _ from hp] at g1
  refine va_callv (va_runIN (host := host) (bytes := g.2.1) (maxL := g.2.2.1) (As := []) (rest := .ref (h + es.length) :: rest) (b := h + es.length) ⟨hx, hb, hml, hown, hts⟩ hI ⟨?_, hgn, hts _ hgi⟩ ⟨?_, fun U hU hW => ⟨rfl, by rw [hU]; exact hB1, va_K.moved hW.alike hK, hZ H1 U hS1 hU hW⟩⟩ rfl rfl hsz rfl (lv_room (by show 1 + (rest.map fun v => v.category).sum ≤ 8; omega)) hd2 ⟨by omega, by omega⟩) hS1 (A1 := fun q => h + es.length ≤ q) (fun q _ hq => Nat.le_trans (Nat.le_add_right _ _) hq) (fun q hq => Nat.le_trans (Nat.le_add_right _ _) hq) (fun u t H2 locs2 ht hvm _ hB2 hz hk2 hS2 => ?_)
  · refine ⟨⟨rfl, rfl, by show d + 10 + 1 ≤ _; omega, by show 8 + (g.2.2.1 + 11) + (d * 40 + 200) ≤ _; omega, ?_, by rw [zwd, show zcode g = _ from hp, hret]; exact List.mem_cons_self⟩, by rw [← hret]; exact hts _ g1, hts _ g2, g3, ?_, va_Nw.use rfl hl⟩
    · intro w hw a' U hW
      refine wG_warm hts w ?_ a' U hW
      rcases List.mem_cons.mp hw with h9 | h9
      · rw [h9, show zcode g = _ from hp]; exact g1
      · exact h9
    · intro sig h9
      rw [h9] at g4
      exact (Option.some.inj g4).symm
  · intro a U g9 mk hq
    exact ⟨hq.1, hq.2.1, va_K.moved (u := U) (U := U.calling g9 mk a) (Vm.Alike.refl U.vm) hq.2.2.1, hZb a U g9 mk hq.2.2.2⟩
  · rw [ht] at hB2
    refine kk H2 locs2 (hB.app (fun q hq => ?_) hB2) hS2
    have hBs := hB.1
    rw [hk2 q (by omega) (by show ¬ (h + es.length ≤ q); omega)]
    exact o q hq
end Bd3
