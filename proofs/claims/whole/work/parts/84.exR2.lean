/-! EXPR: the reference, from part up -/
def RB (N : Nat) (B : Nat → Nat) (D : Nat) (g : zMD) (w : Int32) (X : Nat → zMem → Prop) (f : zPF) : Prop := (∀ (μ : zMem) (p k : Nat) (T : Nat → Int32) (KV : zMem → Prop), ER μ N B p k T → k ≤ p → RR μ N B (f p k T) KV → zcV D g [.ref 106, .int w] μ KV X) ∧
  ∀ (μ : zMem) (KV : zMem → Prop), ¬ μ 106 19 = 0 → KV μ → zcV D g [.ref 106, .int w] μ KV X
section ExR2
variable {d : Nat} {μ : zMem} {KI : Int32 → zMem → Prop} {KV : zMem → Prop} {X : Nat → zMem → Prop} {N : Nat} {B : Nat → Nat}
theorem R_which9 {p k : Nat} {T : Nat → Int32} (h : ER μ N B p k T) (hK : KI (wdF N B p (spL 5) 0) μ) : zcI (d + 6) mX9_which [.ref 106, .ref 109] μ KI X := by
  refine cX9_which_ (n1 := 8) (by decide +kernel) ⟨8 + 1, L_which (by omega) whZ9 h.1 h.2.1 h.2.2.1 8 0 (by omega) rfl ?_⟩
  exact hK
theorem R_part {ex : zPF} {n e : Nat} {w : Int32} (gd : gdF N 0 n ex) (hE : RB N B (e + 10) mX9_readExpression (w + 1) X ex) : RB N B (e + 11) mX9_readPart w X (exPart N B ex) := by
  refine ⟨fun μ p k T KV h hk hC => ?_, fun μ KV b h => cX9_readPart_ ⟨fun z => absurd z b, fun _ => h⟩⟩
  have hN := h.1.1
  have kk := kk_lt (N := N) (B := B) (p := p)
  have nl := tkN_le (N := N) (B := B) h.2.1.1
  unfold exPart at hC
  have ns : tkK N B p ≠ 3 → ¬ sg N B p 40 = true := fun q s => q (sg_t.mp s).1
  refine cX9_readPart_ ⟨fun _ => ⟨fun z => ?_, fun z => ⟨fun z2 => ?_, fun z2 => ?_⟩⟩, fun z => absurd h.2.2.1 z⟩
  · rw [h.2.1.2.2.2.2.1] at z
    have k2 : tkK N B p = 2 := (n_eq (b := 2) (by omega) (by omega)).mp z
    rw [if_neg (ns (by omega)), if_neg (by omega), if_pos k2] at hC
    refine R_read (d := e + 7) (lo := 0) (hi := 9999) rfl rfl (by omega) (by omega) h.1 h.2.1 h.2.2.1 (fun c μ' a f x => ?_) (fun a b m7 f7 t7 => ?_)
    · rw [if_pos k2] at a
      rw [if_neg a.1, ← a.2] at hC
      exact R_layB x.b (RR.le hC f x)
    · rw [if_pos b] at hC
      have lt := tkN_lt (N := N) (B := B) (tkK_lt (B := B) (p := p) (by omega))
      exact R_lay (d := e + 9) (h.st f7 t7) (by omega) (fun m9 f9 e9 => RR.ri hC ((zRs_d f7).tr f9) e9)
  · rw [h.2.1.2.2.2.2.1] at z2
    have k1 : tkK N B p = 1 := (n_eq (b := 1) (by omega) (by omega)).mp z2
    rw [if_neg (ns (by omega)), if_pos k1] at hC
    have lt := tkK_lt (N := N) (B := B) (p := p) (by omega)
    refine R_which9 (d := e + 4) h ⟨fun y => ?_, fun y => ?_⟩
    · rw [if_pos y] at hC
      exact R_wrong (d := e + 9) (c := 3) rfl (by omega) (by omega) h.2.2.1 h.2.1 (fun m6 f6 x6 => R_layB (d := e + 9) x6.b ⟨fun q => absurd q x6.b, fun _ => RR.le hC f6 x6⟩)
    · rw [if_neg y] at hC
      exact R_lay (d := e + 9) h (by omega) (fun m1 f1 e1 => ⟨fun _ => e1.next (d := e + 8) (fun m2 f2 e2 => RR.ri hC (f1.tr f2) e2), fun q => absurd e1.2.2.1 q⟩)
  · rw [h.2.1.2.2.2.2.1] at z z2
    have n1 : ¬ tkK N B p = 1 := fun y => z2 (by rw [y]; rfl)
    have n2 : ¬ tkK N B p = 2 := fun y => z (by rw [y]; rfl)
    refine R_mark (d := e + 7) (c := 40) rfl (by omega) h (fun s m1 f1 x1 => ?_) (fun s m1 f1 e1 => ?_)
    · rw [if_neg s, if_neg n1, if_neg n2] at hC
      exact hE.2 m1 _ x1.b (R_markB x1.b (RR.le hC f1 x1))
    · rw [if_pos s] at hC
      have lt := tkN_lt (N := N) (B := B) (sg_lt s)
      refine hE.1 m1 _ k T _ e1 (by omega) ((RR.tr hC f1).pb (fun μ' f' b y => R_markB b y) (fun p2 k2 T2 er m2 f2 e2 c2 => ?_))
      refine R_mark (d := e + 7) (c := 41) rfl (by omega) e2 (fun s2 m3 f3 x3 => ?_) (fun s2 m3 f3 e3 => ?_)
      · rw [if_neg s2] at c2; exact RR.le c2 f3 x3
      · rw [if_pos s2] at c2; exact RR.ri c2 f3 e3
theorem B_prod {e m : Nat} {w : Int32} (b : ¬ μ 106 19 = 0) (h : KV μ) : pX9_readProduct_5 (m + 1) (e + 10) w μ KV X :=
  R_mkdB b ⟨fun _ => R_mkdB b ⟨fun _ => h, fun z => absurd rfl z⟩, fun z => absurd rfl z⟩
theorem L_prodR {ex : zPF} {n e : Nat} {w : Int32} (gd : gdF N 0 n (exPart N B ex)) (hb : RB N B (e + 10) mX9_readPart w X (exPart N B ex)) : ∀ (m p k : Nat) (T : Nat → Int32) (μ : zMem), 700 ≤ p + m → ER μ N B p k T → k ≤ p → RR μ N B (exLoop N B (cPr N B) (exPart N B ex) m p k T) KV → pX9_readProduct_5 (m + 2) (e + 10) w μ KV X := by
  intro m
  induction m with
  | zero =>
    intro p k T μ hp h hk hC
    have hN := h.1.1
    refine R_mkd (c := 42) rfl (by omega) h.1 h.2.1 h.2.2.1 (fun _ => ⟨fun _ => R_mkd (c := 47) rfl (by omega) h.1 h.2.1 h.2.2.1 (fun _ => ⟨fun _ => RR.ri hC Fr.rf h, fun z => absurd rfl z⟩) (fun s => absurd (sg_lt s) (by omega)), fun z => absurd rfl z⟩) (fun s => absurd (sg_lt s) (by omega))
  | succ m ih =>
    intro p k T μ hp h hk hC
    have hN := h.1.1
    have go : ∀ s : Int32, cPr N B p = some s → (sg N B p 42 = true ∧ s = -22 ∨ ¬ sg N B p 42 = true ∧ s = -23) → pX9_readProduct_23 (e + 10) w μ KV X (fun z0 m9 => pX9_readProduct_5 (m + 2) (e + 10) z0 m9 KV X) := by
      intro s ec hs
      have lt := (cPr_o ec).2
      have n1 := tkN_lt (N := N) (B := B) lt
      rw [exLoop_1 ec] at hC
      have body : zcV (e + 10) mX9_stepOn [.ref 106] μ (fun m4 => zcV (e + 10) mX9_readPart [.ref 106, .int w] m4 (fun m5 => zcV (e + 10) mX9_lay [.ref 106, .int s] m5 (fun m6 => pX9_readProduct_5 (m + 2) (e + 10) w m6 KV X) X) X) X := by
        refine h.next (d := e + 8) (fun m4 f4 e4 => hb.1 m4 _ k T _ e4 (by omega) ((RR.tr hC f4).pb (fun μ' f' b y => R_layB b (B_prod b y)) (fun p1 k1 T1 er m5 f5 e5 c5 => ?_)))
        have gg := gd _ _ _ _ _ _ e4.2.1.1 er
        have g1 := gg.1; have g2 := gg.2.1; have g4 := gg.2.2.2.1
        exact R_lay (d := e + 9) e5 (by omega) (fun m6 f6 e6 => ih p1 (k1 + 1) _ m6 (by omega) e6 (by omega) (RR.tr c5 f6))
      rcases hs with ⟨q, hs⟩ | ⟨q, hs⟩
      · refine R_mkd (c := 42) rfl (by omega) h.1 h.2.1 h.2.2.1 (fun y => absurd q y) (fun _ v3 e3 => ?_)
        rw [show v3 = s by rw [e3, hs]; rfl]; exact body
      · refine R_mkd (c := 42) rfl (by omega) h.1 h.2.1 h.2.2.1 (fun _ v3 e3 => ?_) (fun y => absurd y q)
        rw [show v3 = s by rw [e3, hs]; rfl]; exact body
    refine R_mkd (c := 42) rfl (by omega) h.1 h.2.1 h.2.2.1 (fun q => ⟨fun _ => R_mkd (c := 47) rfl (by omega) h.1 h.2.1 h.2.2.1 (fun q2 => ⟨fun _ => ?_, fun z => absurd rfl z⟩) (fun q2 => ⟨fun z => absurd z (by decide), fun _ => ?_⟩), fun z => absurd rfl z⟩) (fun q => ⟨fun z => absurd z (by decide), fun _ => ?_⟩)
    · rw [exLoop_0 (by unfold cPr; rw [if_neg q, if_neg q2])] at hC
      exact RR.ri hC Fr.rf h
    · exact go (-23) (by unfold cPr; rw [if_neg q, if_pos q2]) (Or.inr ⟨q, rfl⟩)
    · exact go (-22) (by unfold cPr; rw [if_pos q]) (Or.inl ⟨q, rfl⟩)
theorem R_prod {ex : zPF} {n e : Nat} {w : Int32} (gd : gdF N 0 n (exPart N B ex)) (hb : RB N B (e + 10) mX9_readPart w X (exPart N B ex)) : RB N B (e + 11) mX9_readProduct w X (exProd N B ex) := by
  refine ⟨fun μ p k T KV h hk hC => cX9_readProduct_ (hb.1 μ p k T _ h hk (RR.pb hC (fun μ' f' b y => ⟨1, B_prod b y⟩) (fun p1 k1 T1 er m1 f1 e1 c1 => ⟨700 + 2, ?_⟩))), fun μ KV b h => cX9_readProduct_ (hb.2 μ _ b ⟨1, B_prod b h⟩)⟩
  have gg := gd _ _ _ _ _ _ h.2.1.1 er
  exact L_prodR gd hb 700 p1 k1 T1 m1 (by omega) e1 (by have := gg.2.2.2.1; omega) c1
theorem B_sum {e m : Nat} {w : Int32} (b : ¬ μ 106 19 = 0) (h : KV μ) : pX9_readSum_5 (m + 1) (e + 10) w μ KV X :=
  R_mkdB b ⟨fun _ => R_mkdB b ⟨fun _ => h, fun z => absurd rfl z⟩, fun z => absurd rfl z⟩
theorem L_sumR {ex : zPF} {n e : Nat} {w : Int32} (gd : gdF N 0 n (exProd N B ex)) (hb : RB N B (e + 10) mX9_readProduct w X (exProd N B ex)) : ∀ (m p k : Nat) (T : Nat → Int32) (μ : zMem), 700 ≤ p + m → ER μ N B p k T → k ≤ p → RR μ N B (exLoop N B (cSu N B) (exProd N B ex) m p k T) KV → pX9_readSum_5 (m + 2) (e + 10) w μ KV X := by
  intro m
  induction m with
  | zero =>
    intro p k T μ hp h hk hC
    have hN := h.1.1
    refine R_mkd (c := 43) rfl (by omega) h.1 h.2.1 h.2.2.1 (fun _ => ⟨fun _ => R_mkd (c := 45) rfl (by omega) h.1 h.2.1 h.2.2.1 (fun _ => ⟨fun _ => RR.ri hC Fr.rf h, fun z => absurd rfl z⟩) (fun s => absurd (sg_lt s) (by omega)), fun z => absurd rfl z⟩) (fun s => absurd (sg_lt s) (by omega))
  | succ m ih =>
    intro p k T μ hp h hk hC
    have hN := h.1.1
    have go : ∀ s : Int32, cSu N B p = some s → (sg N B p 43 = true ∧ s = -20 ∨ ¬ sg N B p 43 = true ∧ s = -21) → pX9_readSum_23 (e + 10) w μ KV X (fun z0 m9 => pX9_readSum_5 (m + 2) (e + 10) z0 m9 KV X) := by
      intro s ec hs
      have lt := (cSu_o ec).2
      have n1 := tkN_lt (N := N) (B := B) lt
      rw [exLoop_1 ec] at hC
      have body : zcV (e + 10) mX9_stepOn [.ref 106] μ (fun m4 => zcV (e + 10) mX9_readProduct [.ref 106, .int w] m4 (fun m5 => zcV (e + 10) mX9_lay [.ref 106, .int s] m5 (fun m6 => pX9_readSum_5 (m + 2) (e + 10) w m6 KV X) X) X) X := by
        refine h.next (d := e + 8) (fun m4 f4 e4 => hb.1 m4 _ k T _ e4 (by omega) ((RR.tr hC f4).pb (fun μ' f' b y => R_layB b (B_sum b y)) (fun p1 k1 T1 er m5 f5 e5 c5 => ?_)))
        have gg := gd _ _ _ _ _ _ e4.2.1.1 er
        have g1 := gg.1; have g2 := gg.2.1; have g4 := gg.2.2.2.1
        exact R_lay (d := e + 9) e5 (by omega) (fun m6 f6 e6 => ih p1 (k1 + 1) _ m6 (by omega) e6 (by omega) (RR.tr c5 f6))
      rcases hs with ⟨q, hs⟩ | ⟨q, hs⟩
      · refine R_mkd (c := 43) rfl (by omega) h.1 h.2.1 h.2.2.1 (fun y => absurd q y) (fun _ v3 e3 => ?_)
        rw [show v3 = s by rw [e3, hs]; rfl]; exact body
      · refine R_mkd (c := 43) rfl (by omega) h.1 h.2.1 h.2.2.1 (fun _ v3 e3 => ?_) (fun y => absurd y q)
        rw [show v3 = s by rw [e3, hs]; rfl]; exact body
    refine R_mkd (c := 43) rfl (by omega) h.1 h.2.1 h.2.2.1 (fun q => ⟨fun _ => R_mkd (c := 45) rfl (by omega) h.1 h.2.1 h.2.2.1 (fun q2 => ⟨fun _ => ?_, fun z => absurd rfl z⟩) (fun q2 => ⟨fun z => absurd z (by decide), fun _ => ?_⟩), fun z => absurd rfl z⟩) (fun q => ⟨fun z => absurd z (by decide), fun _ => ?_⟩)
    · rw [exLoop_0 (by unfold cSu; rw [if_neg q, if_neg q2])] at hC
      exact RR.ri hC Fr.rf h
    · exact go (-21) (by unfold cSu; rw [if_neg q, if_pos q2]) (Or.inr ⟨q, rfl⟩)
    · exact go (-20) (by unfold cSu; rw [if_pos q]) (Or.inl ⟨q, rfl⟩)
theorem R_sum {ex : zPF} {n e : Nat} {w : Int32} (gd : gdF N 0 n (exProd N B ex)) (hb : RB N B (e + 10) mX9_readProduct w X (exProd N B ex)) : RB N B (e + 11) mX9_readSum w X (exSum N B ex) := by
  refine ⟨fun μ p k T KV h hk hC => cX9_readSum_ (hb.1 μ p k T _ h hk (RR.pb hC (fun μ' f' b y => ⟨1, B_sum b y⟩) (fun p1 k1 T1 er m1 f1 e1 c1 => ⟨700 + 2, ?_⟩))), fun μ KV b h => cX9_readSum_ (hb.2 μ _ b ⟨1, B_sum b h⟩)⟩
  have gg := gd _ _ _ _ _ _ h.2.1.1 er
  exact L_sumR gd hb 700 p1 k1 T1 m1 (by omega) e1 (by have := gg.2.2.2.1; omega) c1
/-! tests and nots -/
theorem B_lays {d c : Nat} (hc : c ≤ 7) (b : ¬ μ 106 19 = 0) (h : KV μ) : ∀ (m i : Nat), i + m = c → pX9_readNot_96 (m + 1) (d + 1) (nI c) (nI i) μ KV X
  | 0, i, e => ⟨fun _ => h, fun z => absurd ((n_le (by omega) (by omega)).mpr (by omega)) z⟩
  | m + 1, i, e => ⟨fun z => absurd z (by rw [n_le (by omega) (by omega)]; omega), fun _ => R_layB b (fun v2 e2 => by rw [e2, nI_1]; exact B_lays hc b h m (i + 1) (by omega))⟩
theorem L_lays {d c : Nat} (hc : c ≤ 6) : ∀ (m i p k : Nat) (T : Nat → Int32) (μ : zMem), i + m = c → ER μ N B p k T → k + m ≤ 700 → RR μ N B (lyN m p k T) KV → pX9_readNot_96 (m + 1) (d + 1) (nI c) (nI i) μ KV X := by
  intro m
  induction m with
  | zero =>
    intro i p k T μ hi h hk hC
    exact ⟨fun _ => RR.ri hC Fr.rf h, fun z => absurd ((n_le (by omega) (by omega)).mpr (by omega)) z⟩
  | succ m ih =>
    intro i p k T μ hi h hk hC
    refine ⟨fun z => absurd z (by rw [n_le (by omega) (by omega)]; omega), fun _ => R_lay h (by omega) (fun m1 f1 e1 v2 e2 => ?_)⟩
    rw [e2, nI_1]
    exact ih (i + 1) p (k + 1) _ m1 (by omega) e1 (by omega) (RR.tr (R := lyN m p (k + 1) (upd T k (-28))) hC f1)
/-- behind the nots: one sum, or two with a sign between them -/
theorem R_tst {ex : zPF} {n e c : Nat} {w : Int32} (hc : c ≤ 6) (gd : gdF N 0 n (exSum N B ex)) (hb : RB N B (e + 10) mX9_readSum w X (exSum N B ex)) {p k : Nat} {T : Nat → Int32} (h : ER μ N B p k T) (hk : k + c ≤ p) (hC : RR μ N B (pb (exTest N B ex p k T) (lyN c)) KV) :
    zcV (e + 10) mX9_readSum [.ref 106, .int w] μ (fun m3 => zcI (e + 10) mX9_isMarked [.ref 106, .int 60] m3 (fun u5 m4 => ((u5 = 0 → zcI (e + 10) mX9_isMarked [.ref 106, .int 61] m4 (fun u7 m6 => ((u7 = 0 → ∃ n2 : Nat, pX9_readNot_96 n2 (e + 10) (nI c) 0 m6 KV X) ∧ (¬ (u7 = 0) → pX9_readNot_63 (e + 10) w (nI c) m6 KV X))) X) ∧ (¬ (u5 = 0) → pX9_readNot_63 (e + 10) w (nI c) m4 KV X))) X) X := by
  have hN := h.1.1
  have ass : ∀ (r : zPE) (f g : zPF), pb (pb r f) g = pb r (fun p k T => pb (f p k T) g) := by
    intro r f g
    cases r <;> rfl
  rw [show exTest N B ex p k T = pb (exSum N B ex p k T) (exLoop N B (cTe N B) (exSum N B ex) 1) from rfl, ass] at hC
  refine hb.1 μ p k T _ h (by omega) (RR.pb hC (fun μ' f' b y => R_mkdB b ⟨fun _ => R_mkdB b ⟨fun _ => ⟨c + 1, B_lays (d := e + 9) (by omega) b y c 0 (by omega)⟩, fun z => absurd rfl z⟩, fun z => absurd rfl z⟩) (fun p1 k1 T1 er m1 f1 e1 c1 => ?_))
  have gg := gd _ _ _ _ _ _ h.2.1.1 er
  have g1 := gg.1; have g2 := gg.2.1; have g4 := gg.2.2.2.1
  have go : ∀ s : Int32, cTe N B p1 = some s → (sg N B p1 60 = true ∧ s = -24 ∨ ¬ sg N B p1 60 = true ∧ s = -25) → pX9_readNot_63 (e + 10) w (nI c) m1 KV X := by
    intro s ec hs
    have lt := (cTe_o ec).2
    have n1 := tkN_lt (N := N) (B := B) lt
    rw [exLoop_1 ec, ass] at c1
    have body : zcV (e + 10) mX9_stepOn [.ref 106] m1 (fun m4 => zcV (e + 10) mX9_readSum [.ref 106, .int w] m4 (fun m5 => zcV (e + 10) mX9_lay [.ref 106, .int s] m5 (fun m6 => ∃ n2 : Nat, pX9_readNot_96 n2 (e + 10) (nI c) 0 m6 KV X) X) X) X := by
      refine e1.next (d := e + 8) (fun m4 f4 e4 => hb.1 m4 _ k1 T1 _ e4 (by omega) ((RR.tr c1 f4).pb (fun μ' f' b y => R_layB b ⟨c + 1, B_lays (d := e + 9) (by omega) b y c 0 (by omega)⟩) (fun p2 k2 T2 er2 m5 f5 e5 c5 => ?_)))
      have hh := gd _ _ _ _ _ _ e4.2.1.1 er2
      have h1 := hh.1; have h2 := hh.2.1; have h4 := hh.2.2.2.1
      exact R_lay (d := e + 9) e5 (by omega) (fun m6 f6 e6 => ⟨c + 1, L_lays (d := e + 9) hc c 0 p2 (k2 + 1) _ m6 (by omega) e6 (by omega) (RR.tr (R := lyN c p2 (k2 + 1) (upd T2 k2 s)) c5 f6)⟩)
    rcases hs with ⟨q, hs⟩ | ⟨q, hs⟩
    · refine R_mkd (c := 60) rfl (by omega) e1.1 e1.2.1 e1.2.2.1 (fun y => absurd q y) (fun _ v3 e3 => ?_)
      rw [show v3 = s by rw [e3, hs]; rfl]; exact body
    · refine R_mkd (c := 60) rfl (by omega) e1.1 e1.2.1 e1.2.2.1 (fun _ v3 e3 => ?_) (fun y => absurd y q)
      rw [show v3 = s by rw [e3, hs]; rfl]; exact body
  refine R_mkd (c := 60) rfl (by omega) e1.1 e1.2.1 e1.2.2.1 (fun q => ⟨fun _ => R_mkd (c := 61) rfl (by omega) e1.1 e1.2.1 e1.2.2.1 (fun q2 => ⟨fun _ => ⟨c + 1, ?_⟩, fun z => absurd rfl z⟩) (fun q2 => ⟨fun z => absurd z (by decide), fun _ => ?_⟩), fun z => absurd rfl z⟩) (fun q => ⟨fun z => absurd z (by decide), fun _ => ?_⟩)
  · rw [exLoop_0 (by unfold cTe; rw [if_neg q, if_neg q2])] at c1
    exact L_lays (d := e + 9) hc c 0 p1 k1 T1 m1 (by omega) e1 (by omega) c1
  · exact go (-25) (by unfold cTe; rw [if_neg q, if_pos q2]) (Or.inr ⟨q, rfl⟩)
  · exact go (-24) (by unfold cTe; rw [if_pos q]) (Or.inl ⟨q, rfl⟩)
theorem B_not {e c m : Nat} {w : Int32} (hb : ∀ (μ : zMem) (KV : zMem → Prop), ¬ μ 106 19 = 0 → KV μ → zcV (e + 10) mX9_readSum [.ref 106, .int w] μ KV X) (hc : c ≤ 7) (b : ¬ μ 106 19 = 0) (h : KV μ) : pX9_readNot_2 (m + 1) (e + 10) w (nI c) μ KV X :=
  R_isB (s := 22) (d := e + 5) (by omega) b ⟨fun _ => hb μ _ b (R_mkdB b ⟨fun _ => R_mkdB b ⟨fun _ => ⟨c + 1, B_lays (d := e + 9) hc b h c 0 (by omega)⟩, fun z => absurd rfl z⟩, fun z => absurd rfl z⟩), fun z => absurd rfl z⟩
theorem L_notR {ex : zPF} {n e : Nat} {w : Int32} (gd : gdF N 0 n (exSum N B ex)) (hb : RB N B (e + 10) mX9_readSum w X (exSum N B ex)) : ∀ (m j p k : Nat) (T : Nat → Int32) (μ : zMem), j + m = 6 → ER μ N B p k T → k + j ≤ p → RR μ N B (exNt N B ex m p k T) KV → pX9_readNot_2 (m + 2) (e + 10) w (nI j) μ KV X := by
  intro m
  induction m with
  | zero =>
    intro j p k T μ hj h hk hC
    have : j = 6 := by omega
    subst this
    unfold exNt at hC
    refine R_is (d := e + 5) (s := 22) (by omega) h.1 h.2.1 h.2.2.1 (fun nw => ⟨fun _ => ?_, fun z => absurd rfl z⟩) (fun iw => ⟨fun z => absurd z (by decide), fun _ => ⟨fun _ => ?_, fun z => absurd rfl z⟩⟩)
    · rw [if_neg (fun y => nw (zdec_t.mp y))] at hC
      exact R_tst (by omega) gd hb h hk hC
    · rw [if_pos (zdec_t.mpr iw)] at hC
      refine R_wrong (d := e + 9) (c := 2) rfl (by omega) (by omega) h.2.2.1 h.2.1 (fun m8 f8 x8 v1 e1 => ⟨fun z => absurd z x8.b, fun _ => ?_⟩)
      rw [e1, nI_1]
      exact B_not hb.2 (by omega) x8.b (RR.le hC f8 x8)
  | succ m ih =>
    intro j p k T μ hj h hk hC
    unfold exNt at hC
    refine R_is (d := e + 5) (s := 22) (by omega) h.1 h.2.1 h.2.2.1 (fun nw => ⟨fun _ => ?_, fun z => absurd rfl z⟩) (fun iw => ⟨fun z => absurd z (by decide), fun _ => ⟨fun z => absurd ((n_eq (b := 6) (by omega) (by omega)).mp z) (by omega), fun _ v1 e1 => ⟨fun _ => ?_, fun z => absurd h.2.2.1 z⟩⟩⟩)
    · rw [if_neg (fun y => nw (zdec_t.mp y)), show 6 - (m + 1) = j by omega] at hC
      exact R_tst (by omega) gd hb h hk hC
    · rw [if_pos (zdec_t.mpr iw)] at hC
      have lt := tkN_lt (N := N) (B := B) (wdR_lt iw)
      refine h.next (d := e + 8) (fun m4 f4 e4 => ?_)
      rw [e1, nI_1]
      exact ih (j + 1) _ k T m4 (by omega) e4 (by omega) (RR.tr hC f4)
theorem R_not {ex : zPF} {n e : Nat} {w : Int32} (gd : gdF N 0 n (exSum N B ex)) (hb : RB N B (e + 10) mX9_readSum w X (exSum N B ex)) : RB N B (e + 11) mX9_readNot w X (exNot N B ex) :=
  ⟨fun μ p k T KV h hk hC => cX9_readNot_ ⟨6 + 2, L_notR gd hb 6 0 p k T μ (by omega) h (by omega) hC⟩, fun μ KV b h => cX9_readNot_ ⟨1, B_not (c := 0) hb.2 (by omega) b h⟩⟩
end ExR2
