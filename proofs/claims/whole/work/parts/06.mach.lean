def wG : List Cond := lw_tbl.filter goodWord
theorem wGm {w : Cond} (i : Nat) (h : lw_tbl[i]? = some w) (g : goodWord w = true) : w ∈ wG := List.mem_filter.mpr ⟨List.mem_of_getElem? h, g⟩
theorem wG_good {w : Cond} (h : w ∈ wG) : goodWord w = true := (List.mem_filter.mp h).2
theorem wG_tbl {w : Cond} (h : w ∈ wG) : w ∈ lw_tbl := (List.mem_filter.mp h).1
theorem wG_warm {args : Array Value} {s : State} (hts : ∀ w ∈ wG, w.before args s = true) : ∀ w ∈ wG, ∀ (a' : Array Value) (U : State), s.WarmedH U.vm → w.before a' U = true := fun w hw _ _ hW => word_at hW (good_of_word (wG_good hw)) (hts w hw)
abbrev zRes : Type := Option Value ⊕ Nat
/-- a method: its name, its bytes, its locals, what it returns, its handlers (none: not told) -/
abbrev zMD : Type := MethodName × ByteArray × Nat × Option FieldType × Option (List (Nat × Nat × Nat × Nat))
/-- an abstract value's own: references are numbers of cells -/
def zv (ad : Nat → Nat) : Value → Value
  | .ref k => .ref (ad k)
  | v => v
def zvl (ad : Nat → Nat) (L : List (Nat × Value)) : List (Nat × Value) := L.map fun q => (q.1, zv ad q.2)
theorem zv_cat (ad : Nat → Nat) (v : Value) : (zv ad v).category = v.category := by cases v <;> rfl
theorem zv_sum (ad : Nat → Nat) (l : List Value) : ((l.map (zv ad)).map fun v => v.category).sum = (l.map fun v => v.category).sum := by
  rw [List.map_map]
  congr 1
  exact List.map_congr_left fun v _ => zv_cat ad v
def zJ (lo hi : Int32) : Int64 := Int64.ofBitVec (hi.toBitVec ++ lo.toBitVec)
def zLo (x : Int64) : Int32 := Int32.ofBitVec (x.toBitVec.extractLsb' 0 32)
def zHi (x : Int64) : Int32 := Int32.ofBitVec (x.toBitVec.extractLsb' 32 32)
theorem zJ_of (x : Int64) : zJ (zLo x) (zHi x) = x := by
  unfold zJ zLo zHi
  rw [show x = Int64.ofBitVec x.toBitVec from rfl]
  congr 1
  show (x.toBitVec.extractLsb' 32 32) ++ (x.toBitVec.extractLsb' 0 32) = x.toBitVec
  rw [BitVec.extractLsb'_append_extractLsb'_eq_extractLsb' (by rfl)]
  simp
/-- a field's value -/
def zfv (ad : Nat → Nat) (μ : zMem) (k c j : Nat) : Value :=
  if zfk c j = 0 then .int (μ k j) else if zfk c j = 9998 then .ref (ad (if μ k j = 0 then zSKA else zSKB)) else if zfk c j = 9999 then .ref (ad (if μ k j = 0 then zSKA else zSKB)) else .ref (ad (k + zfk c j - 1))
def zent (cA : Nat → ClassId) (ad : Nat → Nat) (μ : zMem) (k : Nat) : va_E :=
  match zsh k with
  | .inr c => .inr (c, (List.range (zfn c)).map (zfv ad μ k c))
  | .inl (t, n) => if t = 3 then .inl (cA 3, n, .inr (.inl (fun j => zJ (μ k (2 * j)) (μ k (2 * j + 1))))) else if t = 4 then .inl (cA 4, n, .inr (.inr (.inr (.inr (fun j => some (ad (zstr k j))))))) else .inl (cA t, n, .inl (μ k))
def zws (cA : Nat → ClassId) (ad : Nat → Nat) (μ : zMem) : va_W := (List.range zN).map fun k => (ad k, zent cA ad μ k)
theorem zws_get {cA : Nat → ClassId} {ad : Nat → Nat} {μ : zMem} {k : Nat} (h : k < zN) : (zws cA ad μ)[k]? = some (ad k, zent cA ad μ k) := by
  simp [zws, List.getElem?_range h]
theorem zws_len {cA : Nat → ClassId} {ad : Nat → Nat} {μ : zMem} : (zws cA ad μ).length = zN := by simp [zws]
theorem zsh_inr {k c : Nat} (h : zsh k = .inr c) : k < zN := by
  rcases Nat.lt_or_ge k zN with q | q
  · exact q
  · unfold zsh at h
    rw [List.getD_eq_getElem?_getD, List.getElem?_eq_none (by rw [show zshL.length = zN from by decide +kernel]; exact q)] at h
    cases h
theorem zsh_inl {k t n : Nat} (h : zsh k = .inl (t, n)) (ht : t < 9) : k < zN := by
  rcases Nat.lt_or_ge k zN with q | q
  · exact q
  · unfold zsh at h
    rw [List.getD_eq_getElem?_getD, List.getElem?_eq_none (by rw [show zshL.length = zN from by decide +kernel]; exact q)] at h
    cases h
    omega
/-- one cell's place written -/
def zw (μ : zMem) (a i : Nat) (x : Int32) : zMem := fun k j => if k = a ∧ j = i then x else μ k j
theorem zent_ne {cA : Nat → ClassId} {ad : Nat → Nat} {μ : zMem} {a i k : Nat} {x : Int32} (h : k ≠ a) : zent cA ad (zw μ a i x) k = zent cA ad μ k := by
  have e : ∀ j, zw μ a i x k j = μ k j := fun j => by simp [zw, h]
  have e2 : zw μ a i x k = μ k := funext e
  unfold zent
  split
  · congr 2
    exact List.map_congr_left fun j _ => by unfold zfv; rw [e j]
  · rw [e2]
theorem zws_set {cA : Nat → ClassId} {ad : Nat → Nat} {μ : zMem} {a i : Nat} {x : Int32} {en : va_E} (ha : a < zN) (he : zent cA ad (zw μ a i x) a = en) : (zws cA ad μ).set a (ad a, en) = zws cA ad (zw μ a i x) := by
  apply List.ext_getElem?
  intro k
  by_cases hk : k < zN
  · rw [zws_get hk]
    by_cases hka : a = k
    · subst hka
      rw [List.getElem?_set_self (by rw [zws_len]; exact hk), he]
    · rw [List.getElem?_set_ne hka, zws_get hk, zent_ne (fun q => hka q.symm)]
  · rw [List.getElem?_eq_none (by rw [List.length_set, zws_len]; omega), List.getElem?_eq_none (by rw [zws_len]; omega)]
theorem zent_arr {cA : Nat → ClassId} {ad : Nat → Nat} {μ : zMem} {a t n : Nat} (h : zsh a = .inl (t, n)) (h3 : t ≠ 3) (h4 : t ≠ 4) : zent cA ad μ a = .inl (cA t, n, .inl (μ a)) := by
  unfold zent; rw [h]; simp [h3, h4]
theorem zent_obj {cA : Nat → ClassId} {ad : Nat → Nat} {μ : zMem} {o c : Nat} (h : zsh o = .inr c) : zent cA ad μ o = .inr (c, (List.range (zfn c)).map (zfv ad μ o c)) := by
  unfold zent; rw [h]
theorem zw_upd {μ : zMem} {a i : Nat} {x : Int32} : zw μ a i x a = upd (μ a) i x := by
  funext j; simp [zw, upd]
/-- the addresses that are one's own, or new -/
def zA (ad : Nat → Nat) (sz : Nat) : Nat → Prop := fun q => (∃ k, k < zN ∧ q = ad k) ∨ sz ≤ q
def zD (ad : Nat → Nat) : Prop := ∀ i j : Nat, i < zN → j < zN → ad i = ad j → i = j
theorem zws_some {cA : Nat → ClassId} {ad : Nat → Nat} {μ : zMem} {k : Nat} {q : Nat × va_E} (h : (zws cA ad μ)[k]? = some q) : k < zN ∧ q = (ad k, zent cA ad μ k) := by
  have hk : k < zN := by
    have := (List.getElem?_eq_some_iff.mp h).1
    rwa [zws_len] at this
  exact ⟨hk, Option.some.inj (h.symm.trans (zws_get hk))⟩
theorem zD_va {cA : Nat → ClassId} {ad : Nat → Nat} {μ : zMem} {sz : Nat} (h : zD ad) : va_D (zA ad sz) (zws cA ad μ) := by
  refine ⟨fun i j p q hp hq e => ?_, fun k q hq => ?_⟩
  · obtain ⟨h1, rfl⟩ := zws_some hp
    obtain ⟨h2, rfl⟩ := zws_some hq
    exact h i j h1 h2 e
  · obtain ⟨h1, rfl⟩ := zws_some hq
    exact Or.inl ⟨k, h1, rfl⟩
abbrev zP (D : va_G) (cA : Nat → ClassId) (ad : Nat → Nat) (μ : zMem) (H : Heap) : Prop := va_P D vwCl (zws cA ad μ) H
def ztys (cA : Nat → ClassId) : List (ClassId × FieldType) := [(cA 0, .int), (cA 1, .byte), (cA 2, .boolean), (cA 3, .long), (cA 4, .object "java/lang/String")]
abbrev zK (D : va_G) (cA : Nat → ClassId) (U : State) : Prop := va_K D vwCl (ztys cA) U
def zS1 (ad : Nat → Nat) (A : Nat → Prop) (U : State) (H : Heap) (i : Nat) : Prop :=
  va_O "java/lang/String" (ad (1000 + i)) A U H ∧ va_OF "java/lang/String" "coder" "B" (.int 0) (ad (1000 + i)) A U H ∧ va_OF "java/lang/String" "value" "[B" (.ref (ad (2000 + i))) (ad (1000 + i)) A U H ∧ va_T .byte (ad (2000 + i)) (zlen i) (fun j => .int (zbyt i j)) A U H
def zNwL : List Cond := [.declares ⟨"java/lang/RuntimeException", "<init>", "(Ljava/lang/String;)V"⟩, .declares ⟨"java/lang/Exception", "<init>", "(Ljava/lang/String;)V"⟩, .declares ⟨"java/lang/Throwable", "<init>", "(Ljava/lang/String;)V"⟩]
def zNwC : List Cond := [.castable "java/util/NoSuchElementException" "java/util/NoSuchElementException", .castable "java/lang/IllegalArgumentException" "java/lang/IllegalArgumentException"]
def zNw (U : State) : Prop := (va_Nw (.declares ⟨"java/lang/RuntimeException", "<init>", "(Ljava/lang/String;)V"⟩) U ∧ va_Nw (.declares ⟨"java/lang/Exception", "<init>", "(Ljava/lang/String;)V"⟩) U ∧ va_Nw (.declares ⟨"java/lang/Throwable", "<init>", "(Ljava/lang/String;)V"⟩) U) ∧ va_Nw (.castable "java/util/NoSuchElementException" "java/util/NoSuchElementException") U ∧ va_Nw (.castable "java/lang/IllegalArgumentException" "java/lang/IllegalArgumentException") U ∧ va_Nc "java/lang/IllegalArgumentException" "java/util/NoSuchElementException" U
theorem zNw.warm {s U : State} (hW : s.WarmedH U.vm) (h : zNw s) : zNw U := ⟨⟨h.1.1.warmD hW, h.1.2.1.warmD hW, h.1.2.2.warmD hW⟩, h.2.1.warmC hW, h.2.2.1.warmC hW, h.2.2.2.moved hW.alike⟩
/-- what else the start gives: Strings, statics, words -/
def zF (ad : Nat → Nat) (A : Nat → Prop) (U : State) (H : Heap) : Prop :=
  (∀ i, i < zNS → zS1 ad A U H i) ∧ (∀ q ∈ zstrs, vk_R q.1 q.2.1 q.2.2.1 (ad (1000 + q.2.2.2)) U) ∧ vx_Zq Bundle.tN "UNASSIGNED_STACK" Bundle.steD A U H ∧ vx_Zq Bundle.tN "SUPPRESSED_SENTINEL" Bundle.listD A U H ∧
  va_Z "java/lang/String" "COMPACT_STRINGS" "Z" (.int 1) A U H ∧ (va_Z "jdk/internal/util/Preconditions" "SIOOBE_FORMATTER" "Ljava/util/function/BiFunction;" .null A U H ∨ va_Z "jdk/internal/util/Preconditions" "SIOOBE_FORMATTER" "Ljava/util/function/BiFunction;" (.ref (ad 3000)) A U H) ∧ zNw U
theorem zS1.go {ad : Nat → Nat} {A B : Nat → Prop} {s U : State} {H H1 : Heap} {i : Nat} (h : zS1 ad A s H i) (hvm : s.vm.Alike U.vm) (hq : ∀ a : Nat, a < H.size → ¬ A a → H1[a]? = H[a]?) (hAB : ∀ q, B q → A q) : zS1 ad B U H1 i :=
  ⟨((va_O.moved hvm h.1).kept hq).narrow hAB, ((va_OF.moved hvm h.2.1).kept hq).narrow hAB, ((va_OF.moved hvm h.2.2.1).kept hq).narrow hAB, ((va_T.moved hvm h.2.2.2).kept hq).narrow hAB⟩
theorem zF.go {ad : Nat → Nat} {A B : Nat → Prop} {s U : State} {H H1 : Heap} (h : zF ad A s H) (hW : s.WarmedH U.vm) (hq : ∀ a : Nat, a < H.size → ¬ A a → H1[a]? = H[a]?) (hAB : ∀ q, B q → A q) : zF ad B U H1 := by
  obtain ⟨h1, h2, h3, h4, h5, h6, h7⟩ := h
  refine ⟨fun i hi => (h1 i hi).go hW.alike hq hAB, fun q hm => (h2 q hm).warm hW, ((h3.moved hW.alike).kept hq).narrow hAB, ((h4.moved hW.alike).kept hq).narrow hAB, ((h5.moved hW.alike).kept hq).narrow hAB, ?_, h7.warm hW⟩
  rcases h6 with h6 | h6
  · exact Or.inl (((h6.moved hW.alike).kept hq).narrow hAB)
  · exact Or.inr (((h6.moved hW.alike).kept hq).narrow hAB)
