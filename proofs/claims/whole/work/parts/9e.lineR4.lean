/-! a line, whole, with its sign: the reference -/
def lnSg (N : Nat) (B : Nat → Nat) (r : (Nat × Nat) ⊕ (Nat × zS)) : (Nat × Nat) ⊕ (Nat × zS) := bd r fun r => if sg N B r.1 59 = true then .inr (tkN N B r.1, r.2) else .inl (1, r.1)
theorem fl_or : ∀ f, f < 32 → ∀ i, i < 5 → (nI (2 ^ i) &&& nI f = 0 ↔ ¬ f.testBit i = true) ∧ (¬ f.testBit i = true → nI f ||| nI (2 ^ i) = nI (f + 2 ^ i)) := by decide +kernel
theorem fl_or0 : ∀ f, f < 32 → (0 : Int32) &&& nI f = 0 ∧ nI f ||| 0 = nI f := by decide +kernel
section LineR4
variable {d : Nat} {μ μ0 : zMem} {KI : Int32 → zMem → Prop} {KV : zMem → Prop} {X : Nat → zMem → Prop} {N p : Nat} {B : Nat → Nat}
theorem lnSg_y {p' : Nat} {σ' : zS} (h : sg N B p' 59 = true) : lnSg N B (.inr (p', σ')) = .inr (tkN N B p', σ') := if_pos h
theorem lnSg_n {p' : Nat} {σ' : zS} (h : ¬ sg N B p' 59 = true) : lnSg N B (.inr (p', σ')) = .inl (1, p') := if_neg h
/-- the line's end -/
theorem R_fin {x1 x2 : Int32} {p' : Nat} {σ' : zS} {r : (Nat × Nat) ⊕ (Nat × zS)} (f0 : Fr zRR μ0 μ) (h : LR μ N B p') (u : SuR μ σ'.2) (er : r = .inr (p', σ')) (ex : x1 ||| x2 = nI σ'.1)
    (h0 : ∀ c q, lnSg N B r = .inl (c, q) → ∀ r μ', BF N c q μ0 μ' → KI r μ') (h1 : ∀ p' σ', lnSg N B r = .inr (p', σ') → ∀ μ', Fr zRR μ0 μ' → LR μ' N B p' → SuR μ' σ'.2 → KI (nI σ'.1) μ') : pX9_readLine_263 (d + 3) x1 x2 μ KI X := by
  subst er
  refine h.mark (k := 59) rfl (by omega) (fun ns μ' b => h0 1 p' (lnSg_n ns) _ μ' (b.tr f0)) (fun y μ' f k => ?_)
  rw [ex]
  exact h1 _ _ (lnSg_y y) μ' (f0.tr (zRs_R f)) k (u.go fun c j a b => zRs_n f (by omega))
theorem R_hi {i : Nat} {σ : zS} (hi : i < 5) (hm : SgM σ) (h : LR μ N B p) (u : SuR μ σ.2)
    (h0 : ∀ c q, lnSg N B (lnK N B σ p (4 + i)) = .inl (c, q) → ∀ r μ', BF N c q μ μ' → KI r μ') (h1 : ∀ p' σ', lnSg N B (lnK N B σ p (4 + i)) = .inr (p', σ') → ∀ μ', Fr zRR μ μ' → LR μ' N B p' → SuR μ' σ'.2 → KI (nI σ'.1) μ') : pX9_readLine_73 (d + 53) (nI σ.1) (nI (2 ^ i)) μ KI X := by
  obtain ⟨q1, q2⟩ := fl_or σ.1 hm.1 i hi
  refine h.kind (d := d + 47) ⟨fun z => ?_, fun z => ?_⟩
  · have nb := q1.mp z
    rw [lnK_hi hi, if_neg nb] at h0 h1
    have p2 : ¬ nI (2 ^ i) ≤ 0 := by
      have g : ∀ i, i < 5 → ¬ nI (2 ^ i) ≤ 0 := by decide
      exact g i hi
    refine ⟨fun w => absurd w p2, fun _ => ⟨fun _ => h.next (d := d + 51) (fun m1 f1 k1 => ?_), fun w => absurd h.2.2 w⟩⟩
    have u1 : SuR m1 σ.2 := u.go fun c j a b => zRs_n f1 (by omega)
    refine R_q hi k1 u1 (fun y => hm.2.2.2.2.2.2 (by rw [y] at nb; exact nb)) (fun c q e r μ' b => h0 c q (by rw [bd_l e]; rfl) r μ' (b.tr (zRs_R f1))) (fun p' τ' e μ' f k u' => ?_)
    have er : (bd (lnQ N B σ.2 p (4 + i)) fun r => .inr (r.1, σ.1 + 2 ^ i, r.2) : (Nat × Nat) ⊕ (Nat × zS)) = .inr (p', σ.1 + 2 ^ i, τ') := by rw [e]; rfl
    exact R_fin (d := d + 50) (σ' := (σ.1 + 2 ^ i, τ')) ((zRs_R f1).tr f) k u' er (q2 nb) h0 h1
  · have yb : σ.1.testBit i = true := Classical.byContradiction fun w => z (q1.mpr w)
    rw [lnK_hi hi, if_pos yb] at h0
    exact h.wrong (d := d + 52) (c := 5) rfl (by omega) (by omega) (fun m3 f3 x3 => B_94 hi ⟨f3, x3⟩ (h0 5 p rfl))
theorem R_94i {kd : Nat} {σ : zS} (hk : kd < 3) (hm : SgM σ) (h : LR μ N B p) (u : SuR μ σ.2) (eq : lnQ N B σ.2 p kd = bd (lnIsle N B σ.2.1.1 σ.2.1.2 kd p) fun r => .inr (r.1, iAdd σ.2.1 r.2, σ.2.2))
    (h0 : ∀ c q, lnSg N B (lnK N B σ p kd) = .inl (c, q) → ∀ r μ', BF N c q μ μ' → KI r μ') (h1 : ∀ p' σ', lnSg N B (lnK N B σ p kd) = .inr (p', σ') → ∀ μ', Fr zRR μ μ' → LR μ' N B p' → SuR μ' σ'.2 → KI (nI σ'.1) μ') : pX9_readLine_94 (d + 53) (nI σ.1) 0 (nI kd) μ KI X := by
  rw [lnK_lo (by omega), eq] at h0 h1
  refine ⟨fun _ => ⟨fun z => absurd z (oI_n (by omega)), fun _ => ?_⟩, fun z => absurd (by decide) z⟩
  obtain ⟨⟨a1, a2⟩, ⟨b1, b2⟩, c1, d1, d2⟩ := u
  refine R_isleLn (d := d + 49) (n := σ.2.1.1) (I := σ.2.1.2) hm.2.1.1 a1 (fun i hi => ⟨a2 i hi 1 (by omega), a2 i hi 2 (by omega)⟩) h (fun c q e μ' b => B_263 (d := d + 51) b (h0 c q (by rw [bd_l (bd_l e)]; rfl))) (fun p' R e lt μ' f k n1 t => ?_)
  refine R_fin (d := d + 50) (σ' := (σ.1, iAdd σ.2.1 R, σ.2.2)) (zIr_R f) k ?_ (by rw [e]; rfl) (fl_or0 σ.1 hm.1).2 h0 h1
  refine ⟨⟨n1, fun i hi k hk => ?_⟩, ⟨by rw [f _ _ (by unfold zIr zRs; omega)]; exact b1, fun j hj => ?_⟩, fun j x y => by rw [f _ _ (by unfold zIr zRs; omega)]; exact c1 j x y, by rw [f _ _ (by unfold zIr zRs; omega)]; exact d1, fun j hj => by rw [f _ _ (by unfold zIr zRs; omega)]; exact d2 j hj⟩
  · have hi' : i < σ.2.1.1 + 1 := hi
    by_cases z : i = σ.2.1.1
    · have e : (iAdd σ.2.1 R).2 i = R := if_pos z
      show μ' 111 (14 * (6 + i) + k) = (iAdd σ.2.1 R).2 i k
      rw [e, z]; exact t k hk
    · have e : (iAdd σ.2.1 R).2 i = σ.2.1.2 i := if_neg z
      show μ' 111 (14 * (6 + i) + k) = (iAdd σ.2.1 R).2 i k
      rw [e, f _ _ (by unfold zIr zRs; omega)]; exact a2 i (by omega) k hk
  · show μ' 112 (12 + j) = σ.2.2.1.2.1 j ∧ μ' 113 (12 + j) = σ.2.2.1.2.2.1 j ∧ μ' 114 (12 + j) = σ.2.2.1.2.2.2.1 j
    rw [f _ _ (by unfold zIr zRs; omega), f _ _ (by unfold zIr zRs; omega), f _ _ (by unfold zIr zRs; omega)]
    exact b2 j hj
theorem R_94w {σ : zS} (hm : SgM σ) (h : LR μ N B p) (u : SuR μ σ.2) (hw : wdR N B p 30)
    (h0 : ∀ c q, lnSg N B (lnK N B σ p 3) = .inl (c, q) → ∀ r μ', BF N c q μ μ' → KI r μ') (h1 : ∀ p' σ', lnSg N B (lnK N B σ p 3) = .inr (p', σ') → ∀ μ', Fr zRR μ μ' → LR μ' N B p' → SuR μ' σ'.2 → KI (nI σ'.1) μ') : pX9_readLine_94 (d + 53) (nI σ.1) 0 (-1) μ KI X := by
  rw [lnK_lo (by omega)] at h0 h1
  refine ⟨fun _ => ⟨fun _ => h.is (d := d + 48) (s := 30) (by omega) (fun z => absurd hw z) (fun _ => ⟨fun z => absurd z (by decide), fun _ => ⟨fun _ => ?_, fun z => absurd h.2.2 z⟩⟩), fun z => absurd rfl z⟩, fun z => absurd (by decide) z⟩
  obtain ⟨⟨a1, a2⟩, ⟨b1, b2⟩, c1, d1, d2⟩ := u
  refine R_windLn (d := d + 48) (n := σ.2.2.1.1) (F := σ.2.2.1.2.1) hm.2.2.1.1 b1 (fun i hi => (b2 i hi).1) h (fun c q e μ' b => B_263 (d := d + 51) b (h0 c q (by rw [show lnQ N B σ.2 p 3 = .inl (c, q) from bd_l e]; rfl))) (fun p' hh vx vy e lt μ' f k n1 t1 t2 t3 => ?_)
  refine R_fin (d := d + 50) (σ' := (σ.1, σ.2.1, wAdd σ.2.2.1 (hh, vx, vy), σ.2.2.2)) (zWr_R f) k ?_ (by rw [show lnQ N B σ.2 p 3 = .inr (p', σ.2.1, wAdd σ.2.2.1 (hh, vx, vy), σ.2.2.2) from bd_r e]; rfl) (fl_or0 σ.1 hm.1).2 h0 h1
  refine ⟨⟨by rw [f _ _ (by unfold zWr zRs; omega)]; exact a1, fun i hi k hk => by rw [f _ _ (by unfold zWr zRs; omega)]; exact a2 i hi k hk⟩, ⟨n1, fun j hj => ?_⟩, fun j x y => by rw [f _ _ (by unfold zWr zRs; omega)]; exact c1 j x y, by rw [f _ _ (by unfold zWr zRs; omega)]; exact d1, fun j hj => by rw [f _ _ (by unfold zWr zRs; omega)]; exact d2 j hj⟩
  have hj' : j < σ.2.2.1.1 + 1 := hj
  show μ' 112 (12 + j) = upd σ.2.2.1.2.1 σ.2.2.1.1 (nI hh) j ∧ μ' 113 (12 + j) = upd σ.2.2.1.2.2.1 σ.2.2.1.1 vx j ∧ μ' 114 (12 + j) = upd σ.2.2.1.2.2.2.1 σ.2.2.1.1 vy j
  by_cases z : j = σ.2.2.1.1
  · rw [z, upd_s, upd_s, upd_s]; exact ⟨t1, t2, t3⟩
  · rw [upd_n z, upd_n z, upd_n z, f _ _ (by unfold zWr zRs; omega), f _ _ (by unfold zWr zRs; omega), f _ _ (by unfold zWr zRs; omega)]
    exact b2 j (by omega)
end LineR4
