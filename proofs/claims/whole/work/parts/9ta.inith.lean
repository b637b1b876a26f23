def zZ9 (sa : Nat → Nat) (h : Nat) (U : State) : Prop := (∀ q ∈ zstrs, vk_R q.1 q.2.1 q.2.2.1 (sa q.2.2.2) U) ∧ (∀ i, i < zNS → va_O "java/lang/String" (sa i) (fun q => h ≤ q) U U.heap) ∧ va_AO "java/lang/String" U
section BdG
variable {M : zMD} {d pc h : Nat} {D : va_G} {cA : Nat → ClassId} {p : Program} {l : Launch} {e : Env} {R : Room} {s : State} {m : MethodId} {args : Array Value} {below : List Frame} {meth : Method} {c : Code} {H : Heap} {locs : List Loc} {cells slots : Nat} {Q : State → Prop} {ls : Array Slot} {rest : List Value} {es : List va_E}
theorem bd_get {idx ci a : Nat} {fs : List Value} {v : Value} (j k0 : Nat) (F : zFB M d D cA p l R s m args meth c) (hB : zB D h es H) (hf : zFL M.1.cls idx ci j) (he : es[k0]? = some (.inr (ci, fs))) (ha : a = h + k0) (hv : fs[j]? = some v) (hdg : decode M.2.1 pc = .ok (.getfield idx, 3)) (kk : W p l e R s m args below meth c H locs cells slots Q (F0 m (pc + 3) ls (v :: rest))) : W p l e R s m args below meth c H locs cells slots Q (F0 m pc ls (.ref a :: rest)) := by
  obtain ⟨hx, hb, hr, hml, hown, hts, hlk, hfr, hlo, hK⟩ := F
  subst ha
  obtain ⟨⟨C, T, N⟩, hc, hjN, hlink⟩ := hf
  have hw : (zbw h es)[k0]? = some (h + k0, .inr (ci, fs)) := by rw [zbw_get, he]; rfl
  exact va_get (D := D) (ci := ci) (C := C) (T := T) (N := N) hx hb hts (zCW ci _ hc) hown hK hB.2 k0 hw hc j hjN (hts _ hlink) (fun _ h9 => h9) (v := v) hv hdg kk
end BdG
theorem wA_int : Cond.arrayClass .int ∈ wG := (wGm 279 (by decide +kernel) rfl)
theorem wA_byte : Cond.arrayClass .byte ∈ wG := (wGm 172 (by decide +kernel) rfl)
theorem wA_boolean : Cond.arrayClass .boolean ∈ wG := (wGm 190 (by decide +kernel) rfl)
theorem wA_long : Cond.arrayClass .long ∈ wG := (wGm 2000 (by decide +kernel) rfl)
theorem wO_i : Cond.instanceMethod Lib.objectInit ∈ wG := (wGm 136 (by decide +kernel) rfl)
theorem wO_c : Cond.code Lib.objectInit ⟨#[0xb1]⟩ 1 none ∈ wG := (wGm 137 (by decide +kernel) rfl)
abbrev zq0 (cA : Nat → ClassId) (t n : Nat) : va_E := .inl (cA t, n, .inl fun _ => 0)
