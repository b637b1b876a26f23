/-! the law's body: its instructions, its calls -/
abbrev mL_law : zMD := (yL_law, cL_law, 8, ret, none)
abbrev LG : Type := va_G × (Nat → ClassId) × (Nat → Nat) × Program × Launch × Env × State × MethodId × List Frame × Method × Code × Nat
def gA (G : LG) : Nat → Nat := G.2.2.1
def gB (G : LG) : Nat := G.2.2.2.2.2.2.2.2.2.2.2
def LF (G : LG) (Ls : Nat) (xs : Nat → Int32) : Prop := match G with
  | (D, cA, ad, p, l, _, s, m, _, meth, c, b) => zFix mL_law 100 D cA ad p l room_1 s m #[Value.ref b] meth c ∧ va_X b Ls xs s s.heap ∧ b < s.heap.size ∧ (∀ k, k < zN → s.heap.size ≤ ad k) ∧ Ls ≤ 3072
def LW (G : LG) (kc pc : Nat) (L : List (Nat × Value)) (st : List Value) (μ : zMem) : Prop := match G with
  | (D, cA, ad, p, l, e, s, m, below, meth, c, b) => ∀ (H : Heap) (locs : List Loc) (ls : Array Slot), zP D cA ad μ H → va_S (zA ad s.heap.size) s.heap H locs → lv_has ls 8 L →
    W p l e room_1 s m #[Value.ref b] below meth c H locs kc (100000 + kc * 6) (lw_Z below #[Value.ref b] s) (F0 m pc ls st)
theorem zFix.le {M : zMD} {d d' : Nat} {D : va_G} {cA : Nat → ClassId} {ad : Nat → Nat} {p : Program} {l : Launch} {R : Room} {s : State} {m : MethodId} {args : Array Value} {meth : Method} {c : Code} (h : d ≤ d') (F : zFix M d' D cA ad p l R s m args meth c) : zFix M d D cA ad p l R s m args meth c := by
  obtain ⟨hx, hb, hr, hml, hown, hts, hlk, hh, htr, hfr, hlo, hK, hD, hF⟩ := F
  exact ⟨hx, hb, hr, hml, hown, hts, hlk, hh, htr, by omega, by omega, hK, hD, hF⟩
section LawR
variable {G : LG} {Ls : Nat} {xs : Nat → Int32} {kc pc : Nat} {L L' : List (Nat × Value)} {st : List Value} {μ : zMem}
theorem LW.le {kc' : Nat} (hk : kc ≤ kc') (h : LW G kc' pc L st μ) : LW G kc pc L st μ := by
  obtain ⟨D, cA, ad, p, l, e, s, m, below, meth, c, b⟩ := G
  intro H locs ls hP hS hl
  exact W.widen (k := kc') (n := 100000 + kc' * 6) hk (by omega) (h H locs ls hP hS hl)
theorem LW_al (F : LF G Ls xs) {j : Fin 4} {i v : Nat} (hd : decode cL_law pc = .ok (.aload_n j, 1)) (hi : (j : Nat) = i) (q : Nat) (hq : L[q]? = some (i, .ref v)) (h : LW G kc (pc + 1) L (.ref v :: st) μ) : LW G kc pc L st μ := by
  obtain ⟨D, cA, ad, p, l, e, s, m, below, meth, c, b⟩ := G
  intro H locs ls hP hS hl
  exact lv_aload_n F.1.1 F.1.2.1 hd hi (lv_at hl q hq) (h H locs ls hP hS hl)
theorem LW_il (F : LF G Ls xs) {i : Nat} {v : Int32} (hd : decode cL_law pc = .ok (.iload i, 2)) (q : Nat) (hq : L[q]? = some (i, .int v)) (h : LW G kc (pc + 2) L (.int v :: st) μ) : LW G kc pc L st μ := by
  obtain ⟨D, cA, ad, p, l, e, s, m, below, meth, c, b⟩ := G
  intro H locs ls hP hS hl
  exact lv_iload F.1.1 F.1.2.1 hd (lv_at hl q hq) (h H locs ls hP hS hl)
theorem LW_ll (F : LF G Ls xs) {i : Nat} {v : Int64} (hd : decode cL_law pc = .ok (.lload i, 2)) (q : Nat) (hq : L[q]? = some (i, .long v)) (h : LW G kc (pc + 2) L (.long v :: st) μ) : LW G kc pc L st μ := by
  obtain ⟨D, cA, ad, p, l, e, s, m, below, meth, c, b⟩ := G
  intro H locs ls hP hS hl
  exact lv_lload F.1.1 F.1.2.1 hd (lv_at hl q hq) (h H locs ls hP hS hl)
theorem LW_ic (F : LF G Ls xs) {n : Int} {v : Int32} (hd : decode cL_law pc = .ok (.iconst n, 1)) (hv : Int32.ofInt n = v) (h : LW G kc (pc + 1) L (.int v :: st) μ) : LW G kc pc L st μ := by
  obtain ⟨D, cA, ad, p, l, e, s, m, below, meth, c, b⟩ := G
  intro H locs ls hP hS hl
  exact lv_iconst F.1.1 F.1.2.1 hd hv (h H locs ls hP hS hl)
theorem LW_lc (F : LF G Ls xs) {n : Fin 2} {v : Int64} (hd : decode cL_law pc = .ok (.lconst n, 1)) (hv : Int64.ofNat (n : Nat) = v) (h : LW G kc (pc + 1) L (.long v :: st) μ) : LW G kc pc L st μ := by
  obtain ⟨D, cA, ad, p, l, e, s, m, below, meth, c, b⟩ := G
  intro H locs ls hP hS hl
  exact lv_lconst F.1.1 F.1.2.1 hd hv (h H locs ls hP hS hl)
theorem LW_i2l (F : LF G Ls xs) {x : Int32} (hd : decode cL_law pc = .ok (.i2l, 1)) (h : LW G kc (pc + 1) L (.long x.toInt64 :: st) μ) : LW G kc pc L (.int x :: st) μ := by
  obtain ⟨D, cA, ad, p, l, e, s, m, below, meth, c, b⟩ := G
  intro H locs ls hP hS hl
  exact lv_i2l F.1.1 F.1.2.1 hd rfl (h H locs ls hP hS hl)
theorem LW_is (F : LF G Ls xs) {i : Nat} {x : Int32} (hd : decode cL_law pc = .ok (.istore i, 2)) (hn : i < 8) (hl : (i, Value.int x) :: L.filter (fun q => !(q.1 == i) && !(q.1 + 1 == i && q.2.category == 2)) = L') (h : LW G kc (pc + 2) L' st μ) : LW G kc pc L (.int x :: st) μ := by
  obtain ⟨D, cA, ad, p, l, e, s, m, below, meth, c, b⟩ := G
  intro H locs ls hP hS hl9
  exact lv_istore F.1.1 F.1.2.1 hd hl9 hn hl (fun ls' hls => h H locs ls' hP hS hls)
theorem LW_lst (F : LF G Ls xs) {i : Nat} {x : Int64} (hd : decode cL_law pc = .ok (.lstore i, 2)) (hn : i + 1 < 8) (hl : (i, Value.long x) :: L.filter (fun q => !(q.1 == i) && (!(q.1 == i + 1) && !(q.1 + 1 == i && q.2.category == 2))) = L') (h : LW G kc (pc + 2) L' st μ) : LW G kc pc L (.long x :: st) μ := by
  obtain ⟨D, cA, ad, p, l, e, s, m, below, meth, c, b⟩ := G
  intro H locs ls hP hS hl9
  exact lv_lstore F.1.1 F.1.2.1 hd hl9 hn hl (fun ls' hls => h H locs ls' hP hS hls)
theorem LW_go (F : LF G Ls xs) {off : Int} (tgt : Nat) (hd : decode cL_law pc = .ok (.goto off, 3)) (ht : (pc : Int) + off = (tgt : Int)) (h : LW G kc tgt L st μ) : LW G kc pc L st μ := by
  obtain ⟨D, cA, ad, p, l, e, s, m, below, meth, c, b⟩ := G
  intro H locs ls hP hS hl
  exact lv_goto F.1.1 F.1.2.1 hd ht (h H locs ls hP hS hl)
theorem LW_eq (F : LF G Ls xs) {x y : Int32} {off : Int} (tgt : Nat) (hd : decode cL_law pc = .ok (.if_icmp .eq off, 3)) (ht : (pc : Int) + off = (tgt : Int)) (e0 : x = y) (h : LW G kc tgt L st μ) : LW G kc pc L (.int y :: .int x :: st) μ := by
  obtain ⟨D, cA, ad, p, l, e, s, m, below, meth, c, b⟩ := G
  intro H locs ls hP hS hl
  exact lv_icmp_eq F.1.1 F.1.2.1 hd ht (fun _ => h H locs ls hP hS hl) (fun z => absurd e0 z)
theorem LW_ne0 (F : LF G Ls xs) {x : Int32} {off : Int} (tgt : Nat) (hd : decode cL_law pc = .ok (.ifCond .ne off, 3)) (ht : (pc : Int) + off = (tgt : Int)) (h1 : ¬ x = 0 → LW G kc tgt L st μ) (h2 : x = 0 → LW G kc (pc + 3) L st μ) : LW G kc pc L (.int x :: st) μ := by
  obtain ⟨D, cA, ad, p, l, e, s, m, below, meth, c, b⟩ := G
  intro H locs ls hP hS hl
  exact lv_if_ne F.1.1 F.1.2.1 hd ht (fun z => h1 z H locs ls hP hS hl) (fun z => h2 z H locs ls hP hS hl)
theorem LW_if0 (F : LF G Ls xs) {x : Int32} {off : Int} (tgt : Nat) (hd : decode cL_law pc = .ok (.ifCond .eq off, 3)) (ht : (pc : Int) + off = (tgt : Int)) (h1 : x = 0 → LW G kc tgt L st μ) (h2 : ¬ x = 0 → LW G kc (pc + 3) L st μ) : LW G kc pc L (.int x :: st) μ := by
  obtain ⟨D, cA, ad, p, l, e, s, m, below, meth, c, b⟩ := G
  intro H locs ls hP hS hl
  exact lv_if_eq F.1.1 F.1.2.1 hd ht (fun z => h1 z H locs ls hP hS hl) (fun z => h2 z H locs ls hP hS hl)
/-- two equal longs -/
theorem LW_lq (F : LF G Ls xs) {x y : Int64} {off : Int} (tgt : Nat) (hd : decode cL_law pc = .ok (.lcmp, 1)) (hd2 : decode cL_law (pc + 1) = .ok (.ifCond .eq off, 3)) (ht : ((pc + 1 : Nat) : Int) + off = (tgt : Int)) (e0 : x = y) (h : LW G kc tgt L st μ) : LW G kc pc L (.long y :: .long x :: st) μ := by
  obtain ⟨D, cA, ad, p, l, e, s, m, below, meth, c, b⟩ := G
  intro H locs ls hP hS hl
  refine W.lcmp F.1.1 F.1.2.1 hd ?_
  exact lv_if_eq F.1.1 F.1.2.1 hd2 ht (fun _ => h H locs ls hP hS hl) (fun z => absurd (lgc_eq.mpr e0) z)
/-- .. != 0, as a boolean -/
theorem LW_bool (F : LF G Ls xs) {x : Int32} {off off2 : Int} (tgt : Nat) (hd : decode cL_law pc = .ok (.ifCond .eq off, 3)) (ht : (pc : Int) + off = (tgt : Int)) (hd1 : decode cL_law (pc + 3) = .ok (.iconst 1, 1)) (hd2 : decode cL_law (pc + 3 + 1) = .ok (.goto off2, 3)) (ht2 : ((pc + 3 + 1 : Nat) : Int) + off2 = ((tgt + 1 : Nat) : Int)) (hd3 : decode cL_law tgt = .ok (.iconst 0, 1)) (h : LW G kc (tgt + 1) L (.int (if x = 0 then 0 else 1) :: st) μ) : LW G kc pc L (.int x :: st) μ := by
  refine LW_if0 F tgt hd ht (fun z => LW_ic F (v := 0) hd3 (by decide) ?_) (fun z => LW_ic F (v := 1) hd1 (by decide) (LW_go F (tgt + 1) hd2 ht2 ?_))
  · rw [if_pos z] at h; exact h
  · rw [if_neg z] at h; exact h
theorem LW_boolL (F : LF G Ls xs) {x : Int32} {off off2 : Int} (tgt : Nat) (hd : decode cL_law pc = .ok (.ifCond .eq off, 3)) (ht : (pc : Int) + off = (tgt : Int)) (hd1 : decode cL_law (pc + 3) = .ok (.lconst 1, 1)) (hd2 : decode cL_law (pc + 3 + 1) = .ok (.goto off2, 3)) (ht2 : ((pc + 3 + 1 : Nat) : Int) + off2 = ((tgt + 1 : Nat) : Int)) (hd3 : decode cL_law tgt = .ok (.lconst 0, 1)) (h : LW G kc (tgt + 1) L (.long (if x = 0 then 0 else 1) :: st) μ) : LW G kc pc L (.int x :: st) μ := by
  refine LW_if0 F tgt hd ht (fun z => LW_lc F (v := 0) hd3 (by decide) ?_) (fun z => LW_lc F (v := 1) hd1 (by decide) (LW_go F (tgt + 1) hd2 ht2 ?_))
  · rw [if_pos z] at h; exact h
  · rw [if_neg z] at h; exact h
/-- a place of the script -/
theorem LW_ld (F : LF G Ls xs) {t : Nat} (j : Nat) (q0 q4 : Nat) {n : Int} (ht : t + 6 ≤ Ls) (hj : j < 6) (h0 : decode cL_law pc = .ok (.aload_n 0, 1)) (h1 : decode cL_law (pc + 1) = .ok (.iload 4, 2)) (h3 : decode cL_law (pc + 1 + 2) = .ok (.iconst n, 1)) (hn : Int32.ofInt n = nI j) (h4 : decode cL_law (pc + 1 + 2 + 1) = .ok (.iadd, 1)) (h5 : decode cL_law (pc + 1 + 2 + 1 + 1) = .ok (.iaload, 1)) (hq0 : L[q0]? = some (0, .ref (gB G))) (hq4 : L[q4]? = some (4, .int (nI t))) (h : LW G kc (pc + 1 + 2 + 1 + 1 + 1) L (.int (xs (t + j)) :: st) μ) : LW G kc pc L st μ := by
  obtain ⟨D, cA, ad, p, l, e, s, m, below, meth, c, b⟩ := G
  intro H locs ls hP hS hl
  obtain ⟨F0, hX, hbl, hA, h3072⟩ := F
  have hx := F0.1
  have hb := F0.2.1
  have hnb : ¬ zA ad s.heap.size b := by
    rintro (⟨k, hk, e9⟩ | e9)
    · have := hA k hk
      omega
    · omega
  refine lv_aload_n hx hb h0 rfl (lv_at hl q0 hq0) ?_
  refine lv_iload hx hb h1 (lv_at hl q4 hq4) ?_
  refine lv_iconst (v := nI j) hx hb h3 hn ?_
  refine lv_iadd hx hb h4 ?_
  have e9 : nI t + nI j = nI (t + j) := nI_add t j
  rw [e9]
  refine va_sld hx hb hX hbl hnb hS (vp_in_nI (by omega) (by omega)) h5 ?_
  rw [tN_nI (by omega)]
  exact h H locs ls hP hS hl
/-- out's number -/
theorem LW_lald (F : LF G Ls xs) (hd : decode cL_law pc = .ok (.laload, 1)) (h : LW G kc (pc + 1) L (.long (zJ (μ 143 0) (μ 143 1)) :: st) μ) : LW G kc pc L (.int 0 :: .ref (gA G 143) :: st) μ := by
  obtain ⟨D, cA, ad, p, l, e, s, m, below, meth, c, b⟩ := G
  intro H locs ls hP hS hl
  obtain ⟨hx, hb, hr, hml, hown, hts, hlk, hh, htr, hfr, hlo, hK, hD, hF⟩ := F.1
  exact va_lald hx hb hK hP 143 3 (f := fun j => zJ (μ 143 (2 * j)) (μ 143 (2 * j + 1))) ((zws_get (by decide)).trans (by unfold zent; rw [show zsh 143 = .inl (3, 1) from by decide +kernel]; rfl)) rfl (by unfold vp_in; decide) hd (h H locs ls hP hS hl)
/-- a call: what may throw isn't called so -/
theorem LW_cV (F : LF G Ls xs) {d : Nat} {g : zMD} {n idx bb : Nat} (As : List Value) {K' : zRes → zMem → Nat → Prop} {stk : List Value} {sa : List Value} (hd9 : d ≤ 99) (hd : decode cL_law pc = .ok (.invokevirtual idx, 3)) (hl : Cond.methodLink RL idx g.1 ∈ wG) (hg : zMG g n) (hp : zPlain g) (hv : zVirt g) (hb : zRecv g bb) (hnn : As.length = n)
    (hstk : stk = (As.reverse ++ .ref bb :: sa).map (zv (gA G))) (hroom : (sa.map fun v => v.category).sum ≤ 8) (hc : kc ≤ 2000) (hE : Ex d g (.ref bb :: As) μ K')
    (hk : ∀ r μ1 k1, K' r μ1 k1 → ∃ v, r = .inl v ∧ k1 ≤ 1 ∧ LW G (kc + 1) (pc + 3) L ((v.map (zv (gA G))).toList ++ sa.map (zv (gA G))) μ1) : LW G kc pc L stk μ := by
  subst hstk
  obtain ⟨D, cA, ad, p, l, e, s, m, below, meth, c, b⟩ := G
  intro H locs ls hP hS hl9
  obtain ⟨r, μ1, k1, hK', hM⟩ := hE
  obtain ⟨v, rfl, hk1, hgo⟩ := hk _ _ _ hK'
  have F1 : zFix mL_law (d + 1) D cA ad p l room_1 s m #[Value.ref b] meth c := zFix.le (by omega) F.1
  have hrr := zRunV (M := mL_law) (d := d) (st := sa) (e := e) (below := below) (cells := kc) (slots := 100000 + kc * 6) (k1 := k1) hd hl hg hp hv hb hnn hroom F1 hP hS hl9.1 (by show kc + k1 ≤ 601024; omega) (by show 100000 + kc * 6 + k1 * 6 ≤ 7293033; omega) (hM l D cA ad H.size F.1.2.2.2.2.2.2.2.2.1)
  intro T hT X
  rcases hrr T hT X with ⟨v9, st₀, t, T', Lc, h0, X', hL, e1, e2, ⟨⟨v8, hv8, hv9⟩, hP1, hF1⟩, go⟩ | ⟨q, st₀, t, T', Lc, E, ce, h0, X', hL, e1, e2, ⟨⟨ee, hee, -⟩, -⟩, -⟩
  · cases hv8
    cases hv9
    obtain ⟨k1', k2', k3'⟩ := vx_keep h0 e1 hS (zA_sub2 hS.1) (zA_sub hS.1) hL hF1
    have hP2 : zP D cA ad μ1 T'.heap := by rw [e1]; exact hP1
    have hg9 := W.widen (k := kc + 1) (n := 100000 + (kc + 1) * 6) (show kc + k1 ≤ kc + 1 by omega) (show 100000 + kc * 6 + k1 * 6 ≤ 100000 + (kc + 1) * 6 by omega) (hgo T'.heap (locs ++ Lc) ls hP2 k3' hl9)
    obtain ⟨t2, b1', b2'⟩ := hg9 T' rfl X'
    exact ⟨t2, go t2 b1', b2'⟩
  · cases hee
theorem zCallW {M : zMD} {d : Nat} {g : zMD} {n idx kc : Nat} {args : Array Value} {s : State} {R : Room} {hh : List (Nat × Nat × Nat × Nat)} (hg : zMW g n hh) (hl : Cond.methodLink M.1.cls idx g.1 ∈ wG) (hts : ∀ w ∈ wG, w.before args s = true) (hfr : d + 1 + 10 ≤ R.frames) (hlo : (d + 1) * 40 + 200 ≤ R.locals) : vx_CSW R s args M.1.cls idx g.1 g.2.1 g.2.2.1 g.2.2.2.1 hh (zwd g) (zRm d kc) kc (kc * 6) n := by
  obtain ⟨g0, g1, g2, g3, g4, g5, g6⟩ := hg
  refine ⟨⟨rfl, rfl, by show d + 10 + 1 ≤ _; omega, by show 8 + (g.2.2.1 + 11) + (d * 40 + 200) ≤ _; omega, ?_, by rw [zwd, g0]; exact List.mem_cons_self⟩, hts _ g1, hts _ g2, g3, ?_, hts _ hl, hts _ g6⟩
  · intro w hw a' U hW
    refine wG_warm hts w ?_ a' U hW
    rcases List.mem_cons.mp hw with h | h
    · rw [h, g0]; exact g1
    · exact h
  · intro sig h
    rw [h] at g4
    exact (Option.some.inj g4).symm
theorem LW_cW (F : LF G Ls xs) {d : Nat} {g : zMD} {n idx : Nat} {hh : List (Nat × Nat × Nat × Nat)} (As : List Value) {K' : zRes → zMem → Nat → Prop} {stk : List Value} {sa : List Value} (hd9 : d ≤ 99) (hd : decode cL_law pc = .ok (.invokestatic idx, 3)) (hl : Cond.methodLink RL idx g.1 ∈ wG) (hg : zMW g n hh) (hnn : As.length = n)
    (hstk : stk = (As.reverse ++ sa).map (zv (gA G))) (hroom : (sa.map fun v => v.category).sum ≤ 8) (hc : kc ≤ 2000) (hE : Ex d g As μ K')
    (hk : ∀ r μ1 k1, K' r μ1 k1 → ∃ v, r = .inl v ∧ k1 ≤ 1 ∧ LW G (kc + 1) (pc + 3) L ((v.map (zv (gA G))).toList ++ sa.map (zv (gA G))) μ1) : LW G kc pc L stk μ := by
  subst hstk
  obtain ⟨D, cA, ad, p, l, e, s, m, below, meth, c, b⟩ := G
  intro H locs ls hP hS hl9
  obtain ⟨r, μ1, k1, hK', hM⟩ := hE
  obtain ⟨v, rfl, hk1, hgo⟩ := hk _ _ _ hK'
  have F1 : zFix mL_law (d + 1) D cA ad p l room_1 s m #[Value.ref b] meth c := zFix.le (by omega) F.1
  have FF := F1
  obtain ⟨hx, hb', hr, hml, hown, hts, hlk, hh9, htr, hfr, hlo, hK, hD, hF⟩ := F1
  have hM9 : Met l g.1 (zwd g) (zRm d k1) (va_Pc (As.map (zv ad)) (zPre D cA ad μ H.size)) (zQ D cA ad H.size μ1 (.inl v)) k1 (k1 * 6) (zA ad H.size) := by
    intro p e ha hc hk s m args below hf happ hP hK
    obtain ⟨n9, o, h1, h2, h3, h4⟩ := hM l D cA ad H.size htr p e ha hc hk s m args below hf happ hP hK
    refine ⟨n9, o, h1, h2, h3, ?_⟩
    rcases h4 with h4 | ⟨q, -, E, ce, L9, ⟨⟨ee, hee, -⟩, -⟩, -⟩
    · exact h4
    · cases hee
  have hrr := vx_runSW (As := As.map (zv ad)) (rest := sa.map (zv ad)) (p := p) (e := e) (R := room_1) (below := below) (meth := meth) (cells := kc) (slots := 100000 + kc * 6) (g := F0 m pc ls ((As.reverse ++ sa).map (zv ad))) (locs := locs) (H := H) ⟨hx, hb', hml, hown, hts⟩ hM9 (zCallW (M := mL_law) hg hl hts hfr hlo) ⟨zPre_blind, fun U hU hW => ⟨rfl, zPre_of FF hP hS hU hW⟩⟩ rfl (by rw [List.length_map]; exact hnn) hl9.1
    (by show List.map (zv ad) (As.reverse ++ sa) = _; rw [List.map_append, List.map_reverse]) (zRoomSt ad hroom) hd ⟨by show kc + k1 ≤ 601024; omega, by show 100000 + kc * 6 + k1 * 6 ≤ 7293033; omega⟩
  intro T hT X
  obtain ⟨v9, st₀, t, T', Lc, h0, X', hL, e1, e2, ⟨⟨v8, hv8, hv9⟩, hP1, hF1⟩, go⟩ := hrr T hT X
  cases hv8
  cases hv9
  obtain ⟨k1', k2', k3'⟩ := vx_keep h0 e1 hS (zA_sub2 hS.1) (zA_sub hS.1) hL hF1
  have hP2 : zP D cA ad μ1 T'.heap := by rw [e1]; exact hP1
  have hg9 := W.widen (k := kc + 1) (n := 100000 + (kc + 1) * 6) (show kc + k1 ≤ kc + 1 by omega) (show 100000 + kc * 6 + k1 * 6 ≤ 100000 + (kc + 1) * 6 by omega) (hgo T'.heap (locs ++ Lc) ls hP2 k3' hl9)
  obtain ⟨t2, b1', b2'⟩ := hg9 T' rfl X'
  exact ⟨t2, go t2 b1', b2'⟩
theorem LW_cVi (F : LF G Ls xs) {d : Nat} {g : zMD} {n idx bb : Nat} (As : List Value) {stk : List Value} {sa : List Value} (hd9 : d ≤ 99) (hd : decode cL_law pc = .ok (.invokevirtual idx, 3)) (hl : Cond.methodLink RL idx g.1 ∈ wG) (hg : zMG g n) (hp : zPlain g) (hv : zVirt g) (hb : zRecv g bb) (hnn : As.length = n)
    (hstk : stk = (As.reverse ++ .ref bb :: sa).map (zv (gA G))) (hroom : (sa.map fun v => v.category).sum ≤ 8) (hc : kc ≤ 2000) (hE : zcI d g (.ref bb :: As) μ (fun v μ1 => LW G (kc + 1) (pc + 3) L (.int v :: sa.map (zv (gA G))) μ1) zNo) : LW G kc pc L stk μ := by
  refine LW_cV F As hd9 hd hl hg hp hv hb hnn hstk hroom hc hE ?_
  intro r μ1 k1 h
  rcases r with (_ | v) | E
  · exact absurd h id
  · cases v <;> first | exact absurd h id | (obtain ⟨rfl, h⟩ := h; exact ⟨_, rfl, Nat.zero_le _, h⟩)
  · exact absurd h.2 id
theorem LW_cVl (F : LF G Ls xs) {d : Nat} {g : zMD} {n idx bb : Nat} (As : List Value) {stk : List Value} {sa : List Value} (hd9 : d ≤ 99) (hd : decode cL_law pc = .ok (.invokevirtual idx, 3)) (hl : Cond.methodLink RL idx g.1 ∈ wG) (hg : zMG g n) (hp : zPlain g) (hv : zVirt g) (hb : zRecv g bb) (hnn : As.length = n)
    (hstk : stk = (As.reverse ++ .ref bb :: sa).map (zv (gA G))) (hroom : (sa.map fun v => v.category).sum ≤ 8) (hc : kc ≤ 2000) (hE : zcL d g (.ref bb :: As) μ (fun v μ1 => LW G (kc + 1) (pc + 3) L (.long v :: sa.map (zv (gA G))) μ1) zNo) : LW G kc pc L stk μ := by
  refine LW_cV F As hd9 hd hl hg hp hv hb hnn hstk hroom hc hE ?_
  intro r μ1 k1 h
  rcases r with (_ | v) | E
  · exact absurd h id
  · cases v <;> first | exact absurd h id | (obtain ⟨rfl, h⟩ := h; exact ⟨_, rfl, Nat.zero_le _, h⟩)
  · exact absurd h.2 id
theorem LW_cVv (F : LF G Ls xs) {d : Nat} {g : zMD} {n idx bb : Nat} (As : List Value) {stk : List Value} {sa : List Value} (hd9 : d ≤ 99) (hd : decode cL_law pc = .ok (.invokevirtual idx, 3)) (hl : Cond.methodLink RL idx g.1 ∈ wG) (hg : zMG g n) (hp : zPlain g) (hv : zVirt g) (hb : zRecv g bb) (hnn : As.length = n)
    (hstk : stk = (As.reverse ++ .ref bb :: sa).map (zv (gA G))) (hroom : (sa.map fun v => v.category).sum ≤ 8) (hc : kc ≤ 2000) (hE : zcV d g (.ref bb :: As) μ (fun μ1 => LW G (kc + 1) (pc + 3) L (sa.map (zv (gA G))) μ1) zNo) : LW G kc pc L stk μ := by
  refine LW_cV F As hd9 hd hl hg hp hv hb hnn hstk hroom hc hE ?_
  intro r μ1 k1 h
  rcases r with (_ | v) | E
  · obtain ⟨rfl, h⟩ := h; exact ⟨_, rfl, Nat.zero_le _, h⟩
  · exact absurd h id
  · exact absurd h.2 id
end LawR
/-- a wrapper's answer, and what the reference then answers -/
def wK (d : Nat) (f : Int32 → Int64) (mR : zMD) (aR : List Value) : zRes → zMem → Nat → Prop := fun r m k => ∃ c, r = .inl (some (.int c)) ∧ k ≤ 1 ∧ zcI d mR aR m (fun v m3 => m3 106 3 = c ∧ (c = 0 → zJ (m3 143 0) (m3 143 1) = f v) ∧ QI m3) zNo
def wKl (d : Nat) (mR : zMD) (aR : List Value) : zRes → zMem → Nat → Prop := fun r m k => ∃ c, r = .inl (some (.int c)) ∧ k ≤ 1 ∧ zcL d mR aR m (fun v m3 => m3 106 3 = c ∧ (c = 0 → zJ (m3 143 0) (m3 143 1) = v) ∧ QI m3) zNo
theorem wK_of {d : Nat} {mC mR g : zMD} {aC aR as' : List Value} {code : Nat → Int32} {μ : zMem} (f : Int32 → Int64) (hP : PI d mC mR aC aR code μ) (hW : ∀ K : zRes → zMem → Nat → Prop, zcI d mC aC μ (fun v m1 => K (.inl (some (.int 0))) (zO m1 (f v)) 0) (fun E m1 => ¬ code E = 0 ∧ K (.inl (some (.int (code E)))) m1 1) → Ex (d + 1) g as' μ K) : Ex (d + 1) g as' μ (wK d f mR aR) := by
  refine hW _ (hP _ _ (fun v m1 f1 h2 => ?_) (fun E m1 f1 h2 hE => ⟨hE, ?_⟩))
  · refine ⟨0, rfl, Nat.zero_le _, (h2 (zO m1 (f v)) zO_f).imp (fun v' m3 h => ?_) (fun _ _ h => h)⟩
    obtain ⟨a, b, q, fr⟩ := h
    refine ⟨a, fun _ => ?_, q⟩
    rw [b, fr 143 0 (by unfold zRef; omega), fr 143 1 (by unfold zRef; omega)]
    exact zO_z
  · refine ⟨_, rfl, Nat.le_refl _, (h2 m1 Fr.rf).imp (fun v' m3 h => ?_) (fun _ _ h => h)⟩
    exact ⟨h.1, fun z => absurd z hE, h.2.1⟩
theorem wKl_of {d : Nat} {mC mR g : zMD} {aC aR as' : List Value} {code : Nat → Int32} {μ : zMem} (hP : PL d mC mR aC aR code μ) (hW : ∀ K : zRes → zMem → Nat → Prop, zcL d mC aC μ (fun v m1 => K (.inl (some (.int 0))) (zO m1 v) 0) (fun E m1 => ¬ code E = 0 ∧ K (.inl (some (.int (code E)))) m1 1) → Ex (d + 1) g as' μ K) : Ex (d + 1) g as' μ (wKl d mR aR) := by
  refine hW _ (hP _ _ (fun v m1 f1 h2 => ?_) (fun E m1 f1 h2 hE => ⟨hE, ?_⟩))
  · refine ⟨0, rfl, Nat.zero_le _, (h2 (zO m1 v) zO_f).imp (fun v' m3 h => ?_) (fun _ _ h => h)⟩
    obtain ⟨a, b, q, fr⟩ := h
    refine ⟨a, fun _ => ?_, q⟩
    rw [b, fr 143 0 (by unfold zRef; omega), fr 143 1 (by unfold zRef; omega)]
    exact zO_z
  · refine ⟨_, rfl, Nat.le_refl _, (h2 m1 Fr.rf).imp (fun v' m3 h => ?_) (fun _ _ h => h)⟩
    exact ⟨h.1, fun z => absurd z hE, h.2.1⟩
def LL (G : LG) (t : Nat) : List (Nat × Value) := [(0, .ref (gB G)), (1, .ref (gA G 0)), (2, .ref (gA G 106)), (3, .ref (gA G 143)), (4, .int (nI t))]
