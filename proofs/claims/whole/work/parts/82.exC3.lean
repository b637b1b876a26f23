/-! EXPR: the class, from product up -/
section ExC3
variable {d r : Nat} {μ : zMem} {KI : Int32 → zMem → Prop} {KV : zMem → Prop} {X : Nat → zMem → Prop} {N : Nat} {B : Nat → Nat}
theorem C_prod {ex : zPF} {n e : Nat} {w : Int32} (hr : 5 < r) (h3 : zsh r = .inr 3) (gd : gdF N 0 n (exPart N B ex)) (hb : BC r N B (e + 10) mX2_readPart w X (exPart N B ex)) : BC r N B (e + 11) mX2_readProduct w X (exProd N B ex) := by
  intro μ p k T KI h hk hC
  refine cX2_readProduct_ (by decide +kernel) h3 (hb μ p k T _ h hk (CR.pb hC (fun μ' f' y => ⟨fun _ => y, fun z => absurd rfl z⟩) (fun p1 k1 T1 er m1 f1 e1 c1 => ⟨fun z => absurd z (by decide), fun _ => ⟨700 + 1, ?_⟩⟩)))
  have gg := gd _ _ _ _ _ _ h.2.1.1 er
  exact L_prod hr h3 gd hb 700 0 p1 k1 T1 m1 (by omega) e1 (by have := gg.2.2.2.1; omega) c1
theorem L_sum {ex : zPF} {n e : Nat} {w : Int32} (hr : 5 < r) (h3 : zsh r = .inr 3) (gd : gdF N 0 n (exProd N B ex)) (hb : BC r N B (e + 10) mX2_readProduct w X (exProd N B ex)) : ∀ (m i p k : Nat) (T : Nat → Int32) (μ : zMem), i + m = 700 → EC r μ N B p k T → k ≤ p → CR r μ N B (exLoop N B (cSu N B) (exProd N B ex) m p k T) KI → pX2_readSum_13 (m + 1) (e + 10) 2 r w (nI i) μ KI X := by
  intro m
  induction m with
  | zero =>
    intro i p k T μ hi h hk hC
    exact ⟨fun _ => CR.ri hC Fr.rf h, fun z => absurd ((n_le (a := 700) (by omega) (by omega)).mpr (by omega)) z⟩
  | succ m ih =>
    intro i p k T μ hi h hk hC
    refine ⟨fun z => absurd ((n_le (a := 700) (by omega) (by omega)).mp z) (by omega), fun _ => ?_⟩
    show (μ 3 4 = 43 → _) ∧ (¬ μ 3 4 = 43 → (μ 3 4 = 45 → _) ∧ (¬ μ 3 4 = 45 → _))
    have e34 := h.2.1.2.2.2.1
    have go : ∀ (s : Int32) (x : Int32), cSu N B p = some s → μ 3 4 = x → -x = encC s → pX2_readSum_44 (e + 10) 2 r w (nI i) μ KI X (fun z0 z1 m9 => pX2_readSum_13 (m + 1) (e + 10) 2 r z0 z1 m9 KI X) := by
      intro s x ec em ex
      refine C_round (fin := fun μ' => ∀ v5 : Int32, v5 = nI i + 1 → pX2_readSum_13 (m + 1) (e + 10) 2 r w v5 μ' KI X) hr gd hb ec (cSu_o ec).2 h hk hC (fun m2 p k T E' k7 hf => ?_) (fun μ' p' k' T' E' k2 c2 v5 e5 => ?_)
      · exact E'.sgn (d := e + 8) hr h3 k7 (by show -(μ 3 4) = _; rw [em]; exact ex) hf
      · rw [e5, nI_1]; exact ih (i + 1) p' k' T' μ' (by omega) E' k2 c2
    rw [e34, tkC_s (x := 43) (c := 43) rfl (by omega) (by omega), tkC_s (x := 45) (c := 45) rfl (by omega) (by omega)]
    refine ⟨fun q => ?_, fun q => ⟨fun q2 => ?_, fun q2 => ?_⟩⟩
    · exact go (-20) 43 (by unfold cSu; rw [if_pos q]) (by rw [e34]; exact (tkC_s (x := 43) (c := 43) rfl (by omega) (by omega)).mpr q) (by decide)
    · exact go (-21) 45 (by unfold cSu; rw [if_neg q, if_pos q2]) (by rw [e34]; exact (tkC_s (x := 45) (c := 45) rfl (by omega) (by omega)).mpr q2) (by decide)
    · rw [exLoop_0 (by unfold cSu; rw [if_neg q, if_neg q2])] at hC
      exact CR.ri hC Fr.rf h
theorem C_sum {ex : zPF} {n n2 e : Nat} {w : Int32} (hr : 5 < r) (h3 : zsh r = .inr 3) (gd : gdF N 0 n (exProd N B ex)) (hb : BC r N B (e + 10) mX2_readProduct w X (exProd N B ex)) : BC r N B (e + 11) mX2_readSum w X (exSum N B ex) := by
  intro μ p k T KI h hk hC
  refine cX2_readSum_ (by decide +kernel) h3 (hb μ p k T _ h hk (CR.pb hC (fun μ' f' y => ⟨fun _ => y, fun z => absurd rfl z⟩) (fun p1 k1 T1 er m1 f1 e1 c1 => ⟨fun z => absurd z (by decide), fun _ => ⟨700 + 1, ?_⟩⟩)))
  have gg := gd _ _ _ _ _ _ h.2.1.1 er
  exact L_sum hr h3 gd hb 700 0 p1 k1 T1 m1 (by omega) e1 (by have := gg.2.2.2.1; omega) c1
theorem C_test {ex : zPF} {n e : Nat} {w : Int32} (hr : 5 < r) (h3 : zsh r = .inr 3) (gd : gdF N 0 n (exSum N B ex)) (hb : BC r N B (e + 10) mX2_readSum w X (exSum N B ex)) : BC r N B (e + 11) mX2_readTest w X (exTest N B ex) := by
  intro μ p k T KI h hk hC
  refine cX2_readTest_ (by decide +kernel) h3 (hb μ p k T _ h hk (CR.pb hC (fun μ' f' y => ⟨fun _ => y, fun z => absurd rfl z⟩) (fun p1 k1 T1 er m1 f1 e1 c1 => ⟨fun z => absurd z (by decide), fun _ => ?_⟩)))
  have gg := gd _ _ _ _ _ _ h.2.1.1 er
  have hk1 : k1 ≤ p1 := by have := gg.2.2.2.1; omega
  have e34 := e1.2.1.2.2.2.1
  show (m1 3 4 = 60 → _) ∧ (¬ m1 3 4 = 60 → (m1 3 4 = 61 → _) ∧ (¬ m1 3 4 = 61 → _))
  have go : ∀ (s : Int32) (x : Int32), cTe N B p1 = some s → m1 3 4 = x → -x = encC s → pX2_readTest_33 (e + 10) 2 r w (m1 3 4) m1 KI X := by
    intro s x ec em ex
    rw [em]
    refine C_round (fin := fun μ' => KI 1 μ') hr gd hb ec (cTe_o ec).2 e1 hk1 c1 (fun m2 p k T E' k7 hf => ?_) (fun μ' p' k' T' E' k2 c2 => ?_)
    · exact E'.sgn (d := e + 8) hr h3 k7 ex hf
    · exact CR.ri c2 Fr.rf E'
  refine ⟨fun q => ?_, fun q => ⟨fun q2 => ?_, fun q2 => ?_⟩⟩
  · rw [e34, tkC_s (x := 60) (c := 60) rfl (by omega) (by omega)] at q
    exact go (-24) 60 (by unfold cTe; rw [if_pos q]) (by rw [e34]; exact (tkC_s (x := 60) (c := 60) rfl (by omega) (by omega)).mpr q) (by decide)
  · rw [e34, tkC_s (x := 60) (c := 60) rfl (by omega) (by omega)] at q
    rw [e34, tkC_s (x := 61) (c := 61) rfl (by omega) (by omega)] at q2
    exact go (-25) 61 (by unfold cTe; rw [if_neg q, if_pos q2]) (by rw [e34]; exact (tkC_s (x := 61) (c := 61) rfl (by omega) (by omega)).mpr q2) (by decide)
  · rw [e34, tkC_s (x := 60) (c := 60) rfl (by omega) (by omega)] at q
    rw [e34, tkC_s (x := 61) (c := 61) rfl (by omega) (by omega)] at q2
    rw [exLoop_0 (by unfold cTe; rw [if_neg q, if_neg q2])] at c1
    exact CR.ri c1 Fr.rf e1
/-! words -/
theorem spL_1 {s r0 : Nat} {p : Nat} (hl : spL s = [r0]) : wdF N B p (spL s) 0 = if zdec (wdR N B p r0) = true then 0 else -1 := by
  rw [hl]
  by_cases w : wdR N B p r0
  · rw [wdF_t w, if_pos (zdec_t.mpr w)]; rfl
  · rw [wdF_f w, if_neg (fun z => w (zdec_t.mp z))]; rfl
theorem C_amg {s r0 p : Nat} (hs : s < 6) (hl : spL s = [r0]) (hx : TxC μ N B) (ht : TkC μ N B p) (h0 : ¬ zdec (wdR N B p r0) = true → KI (-1) μ) (h1 : zdec (wdR N B p r0) = true → KI 0 μ) : zcI (d + 6) mX6_among [.ref 3, .ref (1000 + s)] μ KI X := by
  refine C_among hs hx ht ?_
  rw [spL_1 hl]
  by_cases w : zdec (wdR N B p r0) = true
  · rw [if_pos w]; exact h1 w
  · rw [if_neg w]; exact h0 w
theorem L_nots {c : Nat} (hr : 5 < r) (h3 : zsh r = .inr 3) (hc : c ≤ 6) : ∀ (m i p k : Nat) (T : Nat → Int32) (μ : zMem), i + m = c → EC r μ N B p k T → k + m ≤ 700 → CR r μ N B (lyN m p k T) KI → pX2_readNot_73 (m + 1) (d + 1) 2 r (nI c) (nI i) μ KI X := by
  intro m
  induction m with
  | zero =>
    intro i p k T μ hi h hk hC
    exact ⟨fun _ => CR.ri hC Fr.rf h, fun z => absurd ((n_le (by omega) (by omega)).mpr (by omega)) z⟩
  | succ m ih =>
    intro i p k T μ hi h hk hC
    refine ⟨fun z => absurd z (by rw [n_le (by omega) (by omega)]; omega), fun _ => h.add hr h3 (by omega) (s := -28) (by decide) (fun m1 f1 e1 v2 e2 => ?_)⟩
    rw [e2, nI_1]
    exact ih (i + 1) p (k + 1) _ m1 (by omega) e1 (by omega) (CR.tr (R := lyN m p (k + 1) (upd T k (-28))) hC f1)
theorem L_not {ex : zPF} {n e : Nat} {w : Int32} (hr : 5 < r) (h3 : zsh r = .inr 3) (gd : gdF N 0 n (exTest N B ex)) (hb : BC r N B (e + 10) mX2_readTest w X (exTest N B ex)) : ∀ (m j p k : Nat) (T : Nat → Int32) (μ : zMem), j + m = 6 → EC r μ N B p k T → k + j ≤ p → CR r μ N B (exNt N B ex m p k T) KI → pX2_readNot_2 (m + 1) (e + 10) 2 r w (nI j) μ KI X := by
  have tst : ∀ (c p k : Nat) (T : Nat → Int32) (μ : zMem), c ≤ 6 → EC r μ N B p k T → k + c ≤ p → CR r μ N B (pb (exTest N B ex p k T) (lyN c)) KI → pX2_readNot_59 (e + 10) 2 r w (nI c) μ KI X := by
    intro c p k T μ hc h hk hC
    refine hb μ p k T _ h (by omega) (CR.pb hC (fun μ' f' y => ⟨fun _ => y, fun z => absurd rfl z⟩) (fun p1 k1 T1 er m1 f1 e1 c1 => ⟨fun z => absurd z (by decide), fun _ => ⟨c + 1, ?_⟩⟩))
    have gg := gd _ _ _ _ _ _ h.2.1.1 er
    have := e1.1.1
    exact L_nots (d := e + 9) hr h3 hc c 0 p1 k1 T1 m1 (by omega) e1 (by have := gg.2.2.2.1; have := gg.2.1; omega) c1
  intro m
  induction m with
  | zero =>
    intro j p k T μ hj h hk hC
    have : j = 6 := by omega
    subst this
    refine ⟨fun _ => ⟨fun _ => C_amg (s := 4) (r0 := 22) (by omega) rfl h.1 h.2.1 (fun z => ⟨fun _ => ?_, fun y => absurd rfl y⟩) (fun z => ⟨fun y => absurd y (by decide), fun _ => ?_⟩), fun z => absurd rfl z⟩, fun z => absurd (by decide) z⟩
    · unfold exNt at hC
      rw [if_neg z] at hC
      exact tst 6 p k T μ (by omega) h (by omega) hC
    · unfold exNt at hC
      rw [if_pos z] at hC
      exact C_refuse (r := r) (c := 2) rfl (by omega) (by omega) h.1 h.2.1 (fun μ' f x => ⟨Or.inl rfl, CR.le hC f x⟩)
  | succ m ih =>
    intro j p k T μ hj h hk hC
    refine ⟨fun z => absurd ((n_le (a := 6) (by omega) (by omega)).mp z) (by omega), fun _ => C_amg (s := 4) (r0 := 22) (by omega) rfl h.1 h.2.1 (fun z => ⟨fun _ => ⟨fun y => absurd ((n_eq (b := 6) (by omega) (by omega)).mp y) (by omega), fun _ => ?_⟩, fun y => absurd rfl y⟩) (fun z => ⟨fun y => absurd y (by decide), fun _ v3 e3 => ?_⟩)⟩
    · unfold exNt at hC
      rw [if_neg z, show 6 - (m + 1) = j by omega] at hC
      exact tst j p k T μ (by omega) h (by omega) hC
    · unfold exNt at hC
      rw [if_pos z] at hC
      rw [e3, nI_1]
      have lt := tkN_lt (N := N) (B := B) (wdR_lt (zdec_t.mp z))
      exact h.next hr (fun m4 f4 e4 => ih (j + 1) _ k T m4 (by omega) e4 (by omega) (CR.tr hC f4))
theorem C_not {ex : zPF} {n e : Nat} {w : Int32} (hr : 5 < r) (h3 : zsh r = .inr 3) (gd : gdF N 0 n (exTest N B ex)) (hb : BC r N B (e + 10) mX2_readTest w X (exTest N B ex)) : BC r N B (e + 11) mX2_readNot w X (exNot N B ex) := by
  intro μ p k T KI h hk hC
  exact cX2_readNot_ (by decide +kernel) h3 ⟨6 + 1, L_not hr h3 gd hb 6 0 p k T μ (by omega) h (by omega) hC⟩
theorem L_and {ex : zPF} {n e : Nat} {w : Int32} (hr : 5 < r) (h3 : zsh r = .inr 3) (gd : gdF N 0 n (exNot N B ex)) (hb : BC r N B (e + 10) mX2_readNot w X (exNot N B ex)) : ∀ (m i p k : Nat) (T : Nat → Int32) (μ : zMem), i + m = 700 → EC r μ N B p k T → k ≤ p → CR r μ N B (exLoop N B (cWd N B 23 (-26)) (exNot N B ex) m p k T) KI → pX2_readAnd_13 (m + 1) (e + 10) 2 r w (nI i) μ KI X := by
  intro m
  induction m with
  | zero =>
    intro i p k T μ hi h hk hC
    exact ⟨fun _ => CR.ri hC Fr.rf h, fun z => absurd ((n_le (a := 700) (by omega) (by omega)).mpr (by omega)) z⟩
  | succ m ih =>
    intro i p k T μ hi h hk hC
    refine ⟨fun z => absurd ((n_le (a := 700) (by omega) (by omega)).mp z) (by omega), fun _ => C_amg (s := 3) (r0 := 23) (by omega) rfl h.1 h.2.1 (fun z => ⟨fun _ => ?_, fun y => absurd rfl y⟩) (fun z => ⟨fun y => absurd y (by decide), fun _ => ?_⟩)⟩
    · rw [exLoop_0 (by unfold cWd; rw [if_neg z])] at hC
      exact CR.ri hC Fr.rf h
    · have ec : cWd N B 23 (-26) p = some (-26) := by unfold cWd; rw [if_pos z]
      refine C_round (gA := mX3_add) (y := -101) (fin := fun μ' => ∀ v7 : Int32, v7 = nI i + 1 → pX2_readAnd_13 (m + 1) (e + 10) 2 r w v7 μ' KI X) hr gd hb ec (wdR_lt (zdec_t.mp z)) h hk hC (fun m2 p k T E' k7 hf => ?_) (fun μ' p' k' T' E' k2 c2 v5 e5 => ?_)
      · exact E'.add (d := e + 9) hr h3 k7 (by decide) hf
      · rw [e5, nI_1]; exact ih (i + 1) p' k' T' μ' (by omega) E' k2 c2
theorem C_and {ex : zPF} {n e : Nat} {w : Int32} (hr : 5 < r) (h3 : zsh r = .inr 3) (gd : gdF N 0 n (exNot N B ex)) (hb : BC r N B (e + 10) mX2_readNot w X (exNot N B ex)) : BC r N B (e + 11) mX2_readAnd w X (exAnd N B ex) := by
  intro μ p k T KI h hk hC
  refine cX2_readAnd_ (by decide +kernel) h3 (hb μ p k T _ h hk (CR.pb hC (fun μ' f' y => ⟨fun _ => y, fun z => absurd rfl z⟩) (fun p1 k1 T1 er m1 f1 e1 c1 => ⟨fun z => absurd z (by decide), fun _ => ⟨700 + 1, ?_⟩⟩)))
  have gg := gd _ _ _ _ _ _ h.2.1.1 er
  exact L_and hr h3 gd hb 700 0 p1 k1 T1 m1 (by omega) e1 (by have := gg.2.2.2.1; omega) c1
theorem L_or {ex : zPF} {n e : Nat} {w : Int32} (hr : 5 < r) (h3 : zsh r = .inr 3) (gd : gdF N 0 n (exAnd N B ex)) (hb : BC r N B (e + 10) mX2_readAnd w X (exAnd N B ex)) : ∀ (m i p k : Nat) (T : Nat → Int32) (μ : zMem), i + m = 700 → EC r μ N B p k T → k ≤ p → CR r μ N B (exLoop N B (cWd N B 24 (-27)) (exAnd N B ex) m p k T) KI → pX2_readExpr_72 (m + 1) (e + 10) 2 r w (nI i) μ KI X := by
  intro m
  induction m with
  | zero =>
    intro i p k T μ hi h hk hC
    exact ⟨fun _ => CR.ri hC Fr.rf h, fun z => absurd ((n_le (a := 700) (by omega) (by omega)).mpr (by omega)) z⟩
  | succ m ih =>
    intro i p k T μ hi h hk hC
    refine ⟨fun z => absurd ((n_le (a := 700) (by omega) (by omega)).mp z) (by omega), fun _ => C_amg (s := 2) (r0 := 24) (by omega) rfl h.1 h.2.1 (fun z => ⟨fun _ => ?_, fun y => absurd rfl y⟩) (fun z => ⟨fun y => absurd y (by decide), fun _ => ?_⟩)⟩
    · rw [exLoop_0 (by unfold cWd; rw [if_neg z])] at hC
      exact CR.ri hC Fr.rf h
    · have ec : cWd N B 24 (-27) p = some (-27) := by unfold cWd; rw [if_pos z]
      refine C_round (gA := mX3_add) (y := -102) (fin := fun μ' => ∀ v7 : Int32, v7 = nI i + 1 → pX2_readExpr_72 (m + 1) (e + 10) 2 r w v7 μ' KI X) hr gd hb ec (wdR_lt (zdec_t.mp z)) h hk hC (fun m2 p k T E' k7 hf => ?_) (fun μ' p' k' T' E' k2 c2 v5 e5 => ?_)
      · exact E'.add (d := e + 9) hr h3 k7 (by decide) hf
      · rw [e5, nI_1]; exact ih (i + 1) p' k' T' μ' (by omega) E' k2 c2
/-- EXPR within: at most six -/
theorem C_expr {e : Nat} (hr : 5 < r) (h3 : zsh r = .inr 3) : ∀ (l a : Nat), a + l = 6 → BC r N B (e + 10 + 7 * l) mX2_readExpr (nI a) X (exE N B l) := by
  intro l
  induction l with
  | zero =>
    intro a ha μ p k T KI h hk hC
    have : a = 6 := by omega
    subst this
    refine cX2_readExpr_ (by decide +kernel) h3 ⟨fun z => absurd z (by decide), fun _ v3 e3 => ?_⟩
    have e34 := h.2.1.2.2.2.1
    have hC' : CR r μ N B (.inl (if mayE N B p = true then 2 else 1, p)) KI := hC
    have em : (if v3 = 0 then (1 : Int32) else 2) = nI (if mayE N B p = true then 2 else 1) := by
      have e3' : v3 = (if μ 3 4 = 2 then 1 else (if μ 3 4 = 1 then 1 else (if μ 3 4 = 40 then 1 else 0))) := e3
      rw [e34] at e3'
      have q2 := tkC_2 (N := N) (B := B) (p := p)
      have q1 := tkC_1 (N := N) (B := B) (p := p)
      have qs := tkC_s (N := N) (B := B) (p := p) (x := 40) (c := 40) rfl (by omega) (by omega)
      by_cases m : mayE N B p = true
      · rw [if_pos m]
        have mm := of_decide_eq_true m
        have : v3 = 1 := by
          rcases mm with y | y | y
          · rw [e3', if_pos (q2.mpr y)]
          · rw [e3']; split
            · rfl
            · rw [if_pos (q1.mpr y)]
          · rw [e3']; split
            · rfl
            · split
              · rfl
              · rw [if_pos (qs.mpr y)]
        rw [this]; rfl
      · rw [if_neg m]
        have mm : ¬ (tkK N B p = 2 ∨ tkK N B p = 1 ∨ sg N B p 40 = true) := fun y => m (decide_eq_true y)
        have : v3 = 0 := by
          rw [e3', if_neg (fun y => mm (Or.inl (q2.mp y))), if_neg (fun y => mm (Or.inr (Or.inl (q1.mp y)))), if_neg (fun y => mm (Or.inr (Or.inr (qs.mp y))))]
        rw [this]; rfl
    rw [em]
    exact C_refuse (r := r) rfl (by split <;> omega) (by split <;> omega) h.1 h.2.1 (fun μ' f x => ⟨Or.inl rfl, CR.le hC' f x⟩)
  | succ l ih =>
    intro a ha μ p k T KI h hk hC
    obtain ⟨g1, g2, g3, g4, g5, g6⟩ := gd_or (B := B) (gd_E (N := N) (B := B) l) (by omega)
    have gt : gdF N 0 (5 * l + 1 + 3) (exTest N B (exE N B l)) := gd_pb g3 (gd_loop (B := B) (fun p s => cTe_o) g3 1) (by omega) (by omega)
    have iE := ih (a + 1) (by omega)
    rw [← nI_1] at iE
    have h0 : e + 10 + 7 * l = (e + 7 * l) + 10 := by omega
    rw [h0] at iE
    have b1 := C_part hr h3 ⟨_, gd_E (N := N) (B := B) l⟩ iE
    have b2 := C_prod (e := e + 7 * l + 1) hr h3 g1 b1
    have b3 := C_sum (n2 := 0) (e := e + 7 * l + 2) hr h3 g2 b2
    have b4 := C_test (e := e + 7 * l + 3) hr h3 g3 b3
    have b5 := C_not (e := e + 7 * l + 4) hr h3 gt b4
    have b6 := C_and (e := e + 7 * l + 5) hr h3 g4 b5
    rw [show e + 10 + 7 * (l + 1) = (e + 7 * l + 6) + 10 + 1 by omega]
    refine cX2_readExpr_ (by decide +kernel) h3 ⟨fun _ => b6 μ p k T _ h hk (CR.pb hC (fun μ' f' y => ⟨fun _ => y, fun z => absurd rfl z⟩) (fun p1 k1 T1 er m1 f1 e1 c1 => ⟨fun z => absurd z (by decide), fun _ => ⟨700 + 1, ?_⟩⟩)), fun z => absurd ((n_le (b := 5) (by omega) (by omega)).mpr (by omega)) z⟩
    have gg := g5 _ _ _ _ _ _ h.2.1.1 er
    exact L_or (e := e + 7 * l + 6) hr h3 g5 b6 700 0 p1 k1 T1 m1 (by omega) e1 (by have := gg.2.2.2.1; omega) c1
end ExC3
