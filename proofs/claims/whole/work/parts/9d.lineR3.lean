/-! a line: the reference, the words seen once -/
section LineR3
variable {d : Nat} {μ μ0 : zMem} {KI : Int32 → zMem → Prop} {KV : zMem → Prop} {X : Nat → zMem → Prop} {N p : Nat} {B : Nat → Nat}
theorem SuR.head {μ' : zMem} {τ : zU} {D : Nat → Int32} (h : SuR μ τ) (f : Fr zGr μ μ') (hD : ∀ j, 2 ≤ j → j ≤ 8 → μ' 110 (10 + j) = D j) : SuR μ' (τ.1, τ.2.1, D) := by
  obtain ⟨⟨a1, a2⟩, ⟨b1, b2⟩, c1, d1, d2⟩ := h
  refine ⟨⟨by rw [f _ _ (by unfold zGr zRs; omega)]; exact a1, fun i hi k hk => by rw [f _ _ (by unfold zGr zRs; omega)]; exact a2 i hi k hk⟩, ⟨by rw [f _ _ (by unfold zGr zRs; omega)]; exact b1, fun j hj => ?_⟩, hD, by rw [f _ _ (by unfold zGr zRs; omega)]; exact d1, fun j hj => by rw [f _ _ (by unfold zGr zRs; omega)]; exact d2 j hj⟩
  rw [f _ _ (by unfold zGr zRs; omega), f _ _ (by unfold zGr zRs; omega), f _ _ (by unfold zGr zRs; omega)]
  exact b2 j hj
/-- one cell of the head is told -/
theorem SuR.one {m1 m2 : zMem} {τ : zU} {k : Nat} {v : Int32} (h : SuR μ τ) (f : Fr zRs μ m1) (e : m2 = zw m1 110 (10 + k) v) (hk : 2 ≤ k) (h8 : k ≤ 8) : SuR m2 (τ.1, τ.2.1, upd τ.2.2 k v) ∧ Fr zGr μ m2 := by
  have g : Fr zGr μ m2 := (zRs_G f).tr (by rw [e]; exact Fr.w (Or.inr ⟨rfl, by omega, by omega⟩))
  refine ⟨h.head g fun j j2 j8 => ?_, g⟩
  rw [e]
  by_cases z : j = k
  · rw [z, zw_s, upd_s]
  · rw [zw_j (by omega), zRs_n f (by omega), upd_n z]; exact h.2.2.1 j j2 j8
theorem R_q {i : Nat} {x1 : Int32} {τ : zU} (hi : i < 5) (h : LR μ N B (tkN N B p)) (u : SuR μ τ) (hk : i = 4 → τ.2.1.2.2.2.2.1 = 0)
    (h0 : ∀ c q, lnQ N B τ p (4 + i) = .inl (c, q) → ∀ r μ', BF N c q μ μ' → KI r μ')
    (h1 : ∀ p' τ', lnQ N B τ p (4 + i) = .inr (p', τ') → ∀ μ', Fr zRR μ μ' → LR μ' N B p' → SuR μ' τ' → pX9_readLine_263 (d + 53) x1 (nI (2 ^ i)) μ' KI X) : pX9_readLine_109 (d + 53) x1 (nI (2 ^ i)) μ KI X := by
  match i, hi with
  | 0, _ =>
    refine ⟨fun _ => h.church (d := d + 47) (fun m11 e11 => ?_), fun z => absurd rfl z⟩
    have k11 : LR m11 N B (tkN N B p) := by rw [e11]; exact h.w (by omega) (by omega)
    have c11 : m11 110 12 = wdF N B (tkN N B p) (spL 1) 0 := by rw [e11, zw_s]
    obtain ⟨u11, g11⟩ := u.one (m1 := μ) (k := 2) Fr.rf e11 (by omega) (by omega)
    rw [c11]
    refine ⟨fun z => k11.wrong (d := d + 52) (c := 1) rfl (by omega) (by omega) (fun m12 f12 x12 => B_145 (d := d + 51) ⟨(zGr_R g11).tr f12, x12⟩ (h0 1 _ (bd_l (if_pos z)))), fun z => ⟨fun _ => k11.next (d := d + 51) (fun m13 f13 k13 => ?_), fun w => absurd k11.2.2 w⟩⟩
    exact h1 _ _ (bd_r (if_neg z)) m13 ((zGr_R g11).tr (zRs_R f13)) k13 (u11.go fun c j a b => zRs_n f13 (by omega))
  | 1, _ =>
    refine ⟨fun z => absurd z (by decide), fun _ => ⟨fun _ => ?_, fun z => absurd rfl z⟩⟩
    refine R_gusLn (d := d + 50) h (fun c q e μ' b => B_263 (d := d + 51) b (h0 c q (bd_l e))) (fun p' g e μ' f k g1 g2 => h1 _ _ (bd_r e) μ' (zGr_R f) k (u.head f fun j j2 j8 => ?_))
    show μ' 110 (10 + j) = gAdd τ.2.2 g j
    unfold gAdd
    by_cases z : 5 ≤ j
    · rw [if_pos z, ← g1 (j - 5) (by omega), show 15 + (j - 5) = 10 + j by omega]
    · rw [if_neg z, g2 _ (by omega)]; exact u.2.2.1 j j2 j8
  | 2, _ =>
    refine ⟨fun z => absurd z (by decide), fun _ => ⟨fun z => absurd z (by decide), fun _ => ⟨fun _ => ?_, fun z => absurd rfl z⟩⟩⟩
    refine h.read (d := d + 50) (lo := 0) (hi := 20) rfl rfl (by omega) (by omega) (fun c q e m5 f5 x5 m7 e7 => B_263 (d := d + 51) (μ0 := μ) (c := c) (q := q) ?_ (h0 c q (bd_l (bd_l e)))) (fun v e m5 f5 k5 m7 e7 => ?_)
    · have b5 : BF N c q μ m5 := ⟨f5, x5⟩
      rw [e7]; exact b5.w (by omega) (Or.inr (Or.inl ⟨rfl, by omega⟩))
    · obtain ⟨u7, g7⟩ := u.one (k := 3) f5 e7 (by omega) (by omega)
      exact h1 _ _ (bd_r (bd_r e)) m7 (zGr_R g7) (by rw [e7]; exact k5.w (by omega) (by omega)) u7
  | 3, _ =>
    refine ⟨fun z => absurd z (by decide), fun _ => ⟨fun z => absurd z (by decide), fun _ => ⟨fun z => absurd z (by decide), fun _ => ⟨fun _ => ?_, fun z => absurd rfl z⟩⟩⟩⟩
    refine h.read (d := d + 50) (lo := 0) (hi := 24) rfl rfl (by omega) (by omega) (fun c q e m5 f5 x5 m7 e7 => B_263 (d := d + 51) (μ0 := μ) (c := c) (q := q) ?_ (h0 c q (bd_l (bd_l e)))) (fun v e m5 f5 k5 m7 e7 => ?_)
    · have b5 : BF N c q μ m5 := ⟨f5, x5⟩
      rw [e7]; exact b5.w (by omega) (Or.inr (Or.inl ⟨rfl, by omega⟩))
    · obtain ⟨u7, g7⟩ := u.one (k := 4) f5 e7 (by omega) (by omega)
      exact h1 _ _ (bd_r (bd_r e)) m7 (zGr_R g7) (by rw [e7]; exact k5.w (by omega) (by omega)) u7
  | 4, _ =>
    refine ⟨fun z => absurd z (by decide), fun _ => ⟨fun z => absurd z (by decide), fun _ => ⟨fun z => absurd z (by decide), fun _ => ⟨fun z => absurd z (by decide), fun _ => ?_⟩⟩⟩⟩
    have e1 : ER μ N B (tkN N B p) 0 (fun _ => 0) := ⟨h.1, h.2.1, h.2.2, by rw [u.2.2.2.1, hk rfl], fun j hj => by omega⟩
    refine (R_expr (X := X) (N := N) (B := B) (e := d) 6 0 (by omega)).1 μ _ 0 _ _ e1 (by omega) ⟨fun c q e m2 f2 x2 => B_263 (d := d + 51) (μ0 := μ) (c := c) (q := q) ⟨zRdR_R f2, x2⟩ (h0 c q (by show bd (lnPus N B p) _ = _; rw [show lnPus N B p = .inl (c, q) from e]; rfl)), fun p' k T e m2 f2 x2 => h1 p' (τ.1, kAdd τ.2.1 k T, τ.2.2) (by show bd (lnPus N B p) _ = _; rw [show lnPus N B p = .inr (p', k, T) from e]; rfl) m2 (zRdR_R f2) ⟨x2.1, x2.2.1, x2.2.2.1⟩ ?_⟩
    obtain ⟨⟨a1, a2⟩, ⟨b1, b2⟩, c1, d1, d2⟩ := u
    refine ⟨⟨by rw [f2 _ _ (by unfold zRdR; omega)]; exact a1, fun i hi k hk => by rw [f2 _ _ (by unfold zRdR; omega)]; exact a2 i hi k hk⟩, ⟨by rw [f2 _ _ (by unfold zRdR; omega)]; exact b1, fun j hj => ?_⟩, fun j x y => by rw [f2 _ _ (by unfold zRdR; omega)]; exact c1 j x y, x2.2.2.2.1, x2.2.2.2.2⟩
    show m2 112 (12 + j) = τ.2.1.2.1 j ∧ m2 113 (12 + j) = τ.2.1.2.2.1 j ∧ m2 114 (12 + j) = τ.2.1.2.2.2.1 j
    rw [f2 _ _ (by unfold zRdR; omega), f2 _ _ (by unfold zRdR; omega), f2 _ _ (by unfold zRdR; omega)]
    exact b2 j hj
  | i + 5, hi => omega
end LineR3
