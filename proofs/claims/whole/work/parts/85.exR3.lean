/-! EXPR: the reference, and, or, one within another -/
section ExR3
variable {d : Nat} {μ : zMem} {KI : Int32 → zMem → Prop} {KV : zMem → Prop} {X : Nat → zMem → Prop} {N : Nat} {B : Nat → Nat}
theorem B_and {e m : Nat} {w : Int32} (b : ¬ μ 106 19 = 0) (h : KV μ) : pX9_readAnd_5 (m + 1) (e + 10) w μ KV X :=
  R_isB (s := 23) (d := e + 5) (by omega) b ⟨fun _ => h, fun z => absurd rfl z⟩
theorem L_andR {ex : zPF} {n e : Nat} {w : Int32} (gd : gdF N 0 n (exNot N B ex)) (hb : RB N B (e + 10) mX9_readNot w X (exNot N B ex)) : ∀ (m p k : Nat) (T : Nat → Int32) (μ : zMem), 700 ≤ p + m → ER μ N B p k T → k ≤ p → RR μ N B (exLoop N B (cWd N B 23 (-26)) (exNot N B ex) m p k T) KV → pX9_readAnd_5 (m + 2) (e + 10) w μ KV X := by
  intro m
  induction m with
  | zero =>
    intro p k T μ hp h hk hC
    have hN := h.1.1
    exact R_is (d := e + 5) (s := 23) (by omega) h.1 h.2.1 h.2.2.1 (fun _ => ⟨fun _ => RR.ri hC Fr.rf h, fun z => absurd rfl z⟩) (fun iw => absurd (wdR_lt iw) (by omega))
  | succ m ih =>
    intro p k T μ hp h hk hC
    have hN := h.1.1
    refine R_is (d := e + 5) (s := 23) (by omega) h.1 h.2.1 h.2.2.1 (fun nw => ⟨fun _ => ?_, fun z => absurd rfl z⟩) (fun iw => ⟨fun z => absurd z (by decide), fun _ => ?_⟩)
    · rw [exLoop_0 (by unfold cWd; rw [if_neg (fun y => nw (zdec_t.mp y))])] at hC
      exact RR.ri hC Fr.rf h
    · have lt := wdR_lt iw
      have n1 := tkN_lt (N := N) (B := B) lt
      rw [exLoop_1 (s := -26) (by unfold cWd; rw [if_pos (zdec_t.mpr iw)])] at hC
      refine h.next (d := e + 8) (fun m4 f4 e4 => hb.1 m4 _ k T _ e4 (by omega) ((RR.tr hC f4).pb (fun μ' f' b y => R_layB b (B_and b y)) (fun p1 k1 T1 er m5 f5 e5 c5 => ?_)))
      have gg := gd _ _ _ _ _ _ e4.2.1.1 er
      have g1 := gg.1; have g2 := gg.2.1; have g4 := gg.2.2.2.1
      exact R_lay (d := e + 9) e5 (by omega) (fun m6 f6 e6 => ih p1 (k1 + 1) _ m6 (by omega) e6 (by omega) (RR.tr c5 f6))
theorem R_and {ex : zPF} {n e : Nat} {w : Int32} (gd : gdF N 0 n (exNot N B ex)) (hb : RB N B (e + 10) mX9_readNot w X (exNot N B ex)) : RB N B (e + 11) mX9_readAnd w X (exAnd N B ex) := by
  refine ⟨fun μ p k T KV h hk hC => cX9_readAnd_ (hb.1 μ p k T _ h hk (RR.pb hC (fun μ' f' b y => ⟨1, B_and b y⟩) (fun p1 k1 T1 er m1 f1 e1 c1 => ⟨700 + 2, ?_⟩))), fun μ KV b h => cX9_readAnd_ (hb.2 μ _ b ⟨1, B_and b h⟩)⟩
  have gg := gd _ _ _ _ _ _ h.2.1.1 er
  exact L_andR gd hb 700 p1 k1 T1 m1 (by omega) e1 (by have := gg.2.2.2.1; omega) c1
theorem B_or {e m : Nat} {w : Int32} (b : ¬ μ 106 19 = 0) (h : KV μ) : pX9_readExpression_67 (m + 1) (e + 10) w μ KV X :=
  R_isB (s := 24) (d := e + 5) (by omega) b ⟨fun _ => h, fun z => absurd rfl z⟩
theorem L_orR {ex : zPF} {n e : Nat} {w : Int32} (gd : gdF N 0 n (exAnd N B ex)) (hb : RB N B (e + 10) mX9_readAnd w X (exAnd N B ex)) : ∀ (m p k : Nat) (T : Nat → Int32) (μ : zMem), 700 ≤ p + m → ER μ N B p k T → k ≤ p → RR μ N B (exLoop N B (cWd N B 24 (-27)) (exAnd N B ex) m p k T) KV → pX9_readExpression_67 (m + 2) (e + 10) w μ KV X := by
  intro m
  induction m with
  | zero =>
    intro p k T μ hp h hk hC
    have hN := h.1.1
    exact R_is (d := e + 5) (s := 24) (by omega) h.1 h.2.1 h.2.2.1 (fun _ => ⟨fun _ => RR.ri hC Fr.rf h, fun z => absurd rfl z⟩) (fun iw => absurd (wdR_lt iw) (by omega))
  | succ m ih =>
    intro p k T μ hp h hk hC
    have hN := h.1.1
    refine R_is (d := e + 5) (s := 24) (by omega) h.1 h.2.1 h.2.2.1 (fun nw => ⟨fun _ => ?_, fun z => absurd rfl z⟩) (fun iw => ⟨fun z => absurd z (by decide), fun _ => ?_⟩)
    · rw [exLoop_0 (by unfold cWd; rw [if_neg (fun y => nw (zdec_t.mp y))])] at hC
      exact RR.ri hC Fr.rf h
    · have lt := wdR_lt iw
      have n1 := tkN_lt (N := N) (B := B) lt
      rw [exLoop_1 (s := -27) (by unfold cWd; rw [if_pos (zdec_t.mpr iw)])] at hC
      refine h.next (d := e + 8) (fun m4 f4 e4 => hb.1 m4 _ k T _ e4 (by omega) ((RR.tr hC f4).pb (fun μ' f' b y => R_layB b (B_or b y)) (fun p1 k1 T1 er m5 f5 e5 c5 => ?_)))
      have gg := gd _ _ _ _ _ _ e4.2.1.1 er
      have g1 := gg.1; have g2 := gg.2.1; have g4 := gg.2.2.2.1
      exact R_lay (d := e + 9) e5 (by omega) (fun m6 f6 e6 => ih p1 (k1 + 1) _ m6 (by omega) e6 (by omega) (RR.tr c5 f6))
/-- what can't begin an EXPR is a fault of kind 1 there -/
theorem ex_bad {ex : zPF} {p k : Nat} {T : Nat → Int32} (h : ¬ mayE N B p = true) : exOr N B ex p k T = .inl (1, p) := by
  have mm : ¬ (tkK N B p = 2 ∨ tkK N B p = 1 ∨ sg N B p 40 = true) := fun y => h (decide_eq_true y)
  have e1 : exPart N B ex p k T = .inl (1, p) := by
    unfold exPart
    rw [if_neg (fun y => mm (Or.inr (Or.inr y))), if_neg (fun y => mm (Or.inr (Or.inl y))), if_neg (fun y => mm (Or.inl y))]
  have e2 : exTest N B ex p k T = .inl (1, p) := by
    unfold exTest exSum exProd
    rw [e1]; rfl
  have e3 : exNot N B ex p k T = .inl (1, p) := by
    show (if zdec (wdR N B p 22) = true then exNt N B ex 5 (tkN N B p) k T else pb (exTest N B ex p k T) (lyN (6 - (5 + 1)))) = _
    rw [if_neg (fun y => mm (Or.inr (Or.inl (zdec_t.mp y).1))), e2]; rfl
  unfold exOr exAnd
  rw [e3]; rfl
theorem R_ex38 {e : Nat} {w y0 : Int32} {p k : Nat} {T : Nat → Int32} (h : ER μ N B p k T) (hy : ¬ y0 = 0) (hw : ¬ w = 6) (go : zcV (e + 10) mX9_readAnd [.ref 106, .int w] μ (fun m1 => ∃ n2 : Nat, pX9_readExpression_67 n2 (e + 10) w m1 KV X) X) : pX9_readExpression_38 (e + 10) w y0 μ KV X := ⟨fun z => absurd z hy, fun _ => ⟨fun z => absurd z hw, fun _ => go⟩⟩
theorem R_expr {e : Nat} : ∀ (l a : Nat), a + l = 6 → RB N B (e + 17 + 6 * l) mX9_readExpression (nI a) X (exE N B l) := by
  intro l
  induction l with
  | zero =>
    intro a ha
    have : a = 6 := by omega
    subst this
    refine ⟨fun μ p k T KV h hk hC => ?_, fun μ KV b h => cX9_readExpression_ ⟨fun z => absurd z b, fun _ => h⟩⟩
    have hC' : RR μ N B (.inl (if mayE N B p = true then 2 else 1, p)) KV := hC
    have kk := kk_lt (N := N) (B := B) (p := p)
    -- what is called behind a fault does nothing; with no EXPR proved yet, one more is at hand: readAnd of a text with a fault
    have bad : ∀ m1 : zMem, ¬ m1 106 19 = 0 → KV m1 → zcV (e + 10 + 6) mX9_readAnd [.ref 106, .int (nI 6)] m1 (fun m5 => ∃ n2 : Nat, pX9_readExpression_67 n2 (e + 10 + 6) (nI 6) m5 KV X) X := by
      intro m1 b y
      have bp : ∀ (D : Nat) (μ : zMem) (KV : zMem → Prop), ¬ μ 106 19 = 0 → KV μ → zcV (D + 1) mX9_readPart [.ref 106, .int (nI 6)] μ KV X := fun D μ KV b h => cX9_readPart_ ⟨fun z => absurd z b, fun _ => h⟩
      have b2 : ∀ (μ : zMem) (KV : zMem → Prop), ¬ μ 106 19 = 0 → KV μ → zcV (e + 12) mX9_readProduct [.ref 106, .int (nI 6)] μ KV X := fun μ KV b h => cX9_readProduct_ (bp (e + 10) μ _ b ⟨1, B_prod (e := e + 1) b h⟩)
      have b3 : ∀ (μ : zMem) (KV : zMem → Prop), ¬ μ 106 19 = 0 → KV μ → zcV (e + 13) mX9_readSum [.ref 106, .int (nI 6)] μ KV X := fun μ KV b h => cX9_readSum_ (b2 μ _ b ⟨1, B_sum (e := e + 2) b h⟩)
      have b4 : ∀ (μ : zMem) (KV : zMem → Prop), ¬ μ 106 19 = 0 → KV μ → zcV (e + 14) mX9_readNot [.ref 106, .int (nI 6)] μ KV X := fun μ KV b h => cX9_readNot_ ⟨1, B_not (e := e + 3) (c := 0) b3 (by omega) b h⟩
      have b5 : ∀ (μ : zMem) (KV : zMem → Prop), ¬ μ 106 19 = 0 → KV μ → zcV (e + 15) mX9_readAnd [.ref 106, .int (nI 6)] μ KV X := fun μ KV b h => cX9_readAnd_ (b4 μ _ b ⟨1, B_and (e := e + 4) b h⟩)
      have b6 : ∀ (μ : zMem) (KV : zMem → Prop), ¬ μ 106 19 = 0 → KV μ → zcV (e + 16) mX9_readAnd [.ref 106, .int (nI 6)] μ KV X := fun μ KV b h => cX9_readAnd_ (cX9_readNot_ ⟨1, B_not (e := e + 4) (c := 0) (fun μ KV b h => cX9_readSum_ (cX9_readProduct_ (bp (e + 11) μ _ b ⟨1, B_prod (e := e + 2) b ⟨1, B_sum (e := e + 3) b h⟩⟩))) (by omega) b ⟨1, B_and (e := e + 5) b h⟩⟩)
      exact b6 m1 _ b ⟨1, B_or (e := e + 6) b y⟩
    have two : mayE N B p = true → zcV (e + 10 + 6) mX9_wrong [.ref 106, .int 2] μ (fun m2 => zcV (e + 10 + 6) mX9_readAnd [.ref 106, .int (nI 6)] m2 (fun m3 => ∃ n2 : Nat, pX9_readExpression_67 n2 (e + 10 + 6) (nI 6) m3 KV X) X) X := by
      intro m
      rw [if_pos m] at hC'
      exact R_wrong (d := e + 15) (c := 2) rfl (by omega) (by omega) h.2.2.1 h.2.1 (fun m2 f2 x2 => bad m2 x2.b (RR.le hC' f2 x2))
    have eight : mayE N B p = true → pX9_readExpression_38 (e + 10 + 6) (nI 6) 1 μ KV X := fun m => ⟨fun z => absurd z (by decide), fun _ => ⟨fun _ => two m, fun z => absurd rfl z⟩⟩
    refine cX9_readExpression_ ⟨fun _ => ⟨fun z => eight ?_, fun z => ⟨fun z2 => eight ?_, fun z2 => ?_⟩⟩, fun z => absurd h.2.2.1 z⟩
    · rw [h.2.1.2.2.2.2.1] at z
      exact decide_eq_true (Or.inl ((n_eq (b := 2) (by omega) (by omega)).mp z))
    · rw [h.2.1.2.2.2.2.1] at z2
      exact decide_eq_true (Or.inr (Or.inl ((n_eq (b := 1) (by omega) (by omega)).mp z2)))
    · refine R_mkd (d := e + 15) (c := 40) rfl (by omega) h.1 h.2.1 h.2.2.1 (fun s v3 e3 => ?_) (fun s v3 e3 => ?_)
      · have e3' : v3 = 0 := e3
        subst e3'
        have nm : ¬ mayE N B p = true := by
          intro y
          rcases of_decide_eq_true y with y | y | y
          · exact z (by rw [h.2.1.2.2.2.2.1, y]; rfl)
          · exact z2 (by rw [h.2.1.2.2.2.2.1, y]; rfl)
          · exact s y
        rw [if_neg nm] at hC'
        exact ⟨fun _ => R_wrong (d := e + 15) (c := 1) rfl (by omega) (by omega) h.2.2.1 h.2.1 (fun m2 f2 x2 => bad m2 x2.b (RR.le hC' f2 x2)), fun y => absurd rfl y⟩
      · have e3' : v3 = 1 := e3
        subst e3'
        exact ⟨fun y => absurd y (by decide), fun _ => ⟨fun _ => two (decide_eq_true (Or.inr (Or.inr s))), fun y => absurd rfl y⟩⟩
  | succ l ih =>
    intro a ha
    obtain ⟨g1, g2, g3, g4, g5, g6⟩ := gd_or (B := B) (gd_E (N := N) (B := B) l) (by omega)
    have iE := ih (a + 1) (by omega)
    rw [← nI_1] at iE
    have h0 : e + 17 + 6 * l = (e + 6 * l + 7) + 10 := by omega
    rw [h0] at iE
    have b1 := R_part (gd_E (N := N) (B := B) l) iE
    have b2 := R_prod (e := e + 6 * l + 8) g1 b1
    have b3 := R_sum (e := e + 6 * l + 9) g2 b2
    have b4 := R_not (e := e + 6 * l + 10) g3 b3
    have b5 := R_and (e := e + 6 * l + 11) g4 b4
    have hwa : ¬ nI a = 6 := fun z => by have := (n_eq (b := 6) (by omega) (by omega)).mp z; omega
    rw [show e + 17 + 6 * (l + 1) = (e + 6 * l + 12) + 10 + 1 by omega]
    refine ⟨fun μ p k T KV h hk hC => ?_, fun μ KV b h => cX9_readExpression_ ⟨fun z => absurd z b, fun _ => h⟩⟩
    have hC' : RR μ N B (exOr N B (exE N B l) p k T) KV := hC
    have kk := kk_lt (N := N) (B := B) (p := p)
    have go : zcV ((e + 6 * l + 12) + 10) mX9_readAnd [.ref 106, .int (nI a)] μ (fun m1 => ∃ n2 : Nat, pX9_readExpression_67 n2 ((e + 6 * l + 12) + 10) (nI a) m1 KV X) X := by
      refine b5.1 μ p k T _ h hk (RR.pb hC' (fun μ' f' b y => ⟨1, B_or (e := e + 6 * l + 12) b y⟩) (fun p1 k1 T1 er m1 f1 e1 c1 => ⟨700 + 2, ?_⟩))
      have gg := g5 _ _ _ _ _ _ h.2.1.1 er
      exact L_orR (e := e + 6 * l + 12) g5 b5 700 p1 k1 T1 m1 (by omega) e1 (by have := gg.2.2.2.1; omega) c1
    have one : pX9_readExpression_38 ((e + 6 * l + 12) + 10) (nI a) 1 μ KV X := ⟨fun z => absurd z (by decide), fun _ => ⟨fun z => absurd z hwa, fun _ => go⟩⟩
    refine cX9_readExpression_ ⟨fun _ => ⟨fun z => one, fun z => ⟨fun z2 => one, fun z2 => ?_⟩⟩, fun z => absurd h.2.2.1 z⟩
    refine R_mkd (d := e + 6 * l + 21) (c := 40) rfl (by omega) h.1 h.2.1 h.2.2.1 (fun s v3 e3 => ?_) (fun s v3 e3 => ?_)
    · have e3' : v3 = 0 := e3
      subst e3'
      have nm : ¬ mayE N B p = true := by
        intro y
        rcases of_decide_eq_true y with y | y | y
        · exact z (by rw [h.2.1.2.2.2.2.1, y]; rfl)
        · exact z2 (by rw [h.2.1.2.2.2.2.1, y]; rfl)
        · exact s y
      rw [ex_bad nm] at hC'
      exact ⟨fun _ => R_wrong (d := e + 6 * l + 21) (c := 1) rfl (by omega) (by omega) h.2.2.1 h.2.1 (fun m2 f2 x2 => b5.2 m2 _ x2.b ⟨1, B_or (e := e + 6 * l + 12) x2.b (RR.le hC' f2 x2)⟩), fun y => absurd rfl y⟩
    · have e3' : v3 = 1 := e3
      subst e3'
      exact ⟨fun y => absurd y (by decide), fun _ => ⟨fun y => absurd y hwa, fun _ => go⟩⟩
end ExR3
