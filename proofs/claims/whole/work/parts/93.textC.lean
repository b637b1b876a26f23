/-! a whole text: the class -/
noncomputable def txt (N : Nat) (B : Nat → Nat) : Nat → zS → Nat → (Nat × Nat) ⊕ zS
  | 0, σ, _ => .inr σ
  | m + 1, σ, p => if N ≤ p then .inr σ else bd (lnLine N B σ p) fun r => if sg N B r.1 59 = true then txt N B m r.2 (tkN N B r.1) else .inl (1, r.1)
theorem txt_e {N m p : Nat} {B : Nat → Nat} {σ : zS} (h : N ≤ p) : txt N B (m + 1) σ p = .inr σ := if_pos h
theorem txt_n {N m p : Nat} {B : Nat → Nat} {σ : zS} (h : ¬ N ≤ p) : txt N B (m + 1) σ p = bd (lnLine N B σ p) fun r => if sg N B r.1 59 = true then txt N B m r.2 (tkN N B r.1) else .inl (1, r.1) := if_neg h
def σD : Nat → Int32
  | 3 => 2
  | 4 => 8
  | 5 => 1
  | _ => 0
def σ0 : zS := (0, (0, fun _ _ => 0), (0, fun _ => 0, fun _ => 0, fun _ => 0, 0, fun _ => 0), σD)
theorem σ0_M : SgM σ0 := by
  refine ⟨by decide, ⟨by decide, fun i hi => absurd hi (Nat.not_lt_zero i)⟩, ⟨by decide, ⟨fun i hi => absurd hi (Nat.not_lt_zero i), fun i j hi => absurd hi (Nat.not_lt_zero i)⟩, fun i hi => absurd hi (Nat.not_lt_zero i)⟩, ⟨by decide, by decide, by decide, by decide, ?_, by decide⟩, by decide, Or.inl rfl, fun _ => rfl⟩
  have q : ∀ j, j < 4 → 0 ≤ (σD (5 + j)).toInt ∧ (σD (5 + j)).toInt ≤ 9 := by decide
  exact q
def zBk (s c _j : Nat) : Prop := s ≤ c ∧ c ≤ s + 18
section TextC
variable {d s : Nat} {μ : zMem} {KI : Int32 → zMem → Prop} {KV : zMem → Prop} {X : Nat → zMem → Prop} {N : Nat} {B : Nat → Nat}
theorem tkC_0 {p : Nat} : tkC N B p = 0 ↔ N ≤ p := by
  unfold tkC
  by_cases h : N ≤ p
  · rw [if_pos h]; exact ⟨fun _ => h, fun _ => rfl⟩
  · rw [if_neg h]
    refine ⟨fun z => absurd z ?_, fun z => absurd z h⟩
    split
    · decide
    · split
      · decide
      · split
        · rename_i q
          have := of_decide_eq_true q
          intro w
          have e := (n_eq (b := 0) (by omega) (by omega)).mp w
          omega
        · decide
theorem LK.sign {p : Nat} (h : LK μ N B p) (h0 : ¬ sg N B p 59 = true → ∀ μ', Fr zL2 μ μ' → FC μ' N B 1 p → KI 0 μ') (h1 : sg N B p 59 = true → ∀ μ', Fr zL2 μ μ' → LK μ' N B (tkN N B p) → KI 1 μ') : zcI (d + 6) mX2_takeSign [.ref 2, .int 59] μ KI X := by
  refine cX2_takeSign_ (by decide +kernel) ?_
  show (μ 3 4 = 59 → _) ∧ (¬ μ 3 4 = 59 → _)
  rw [h.2.1.2.2.2.1, tkC_s (x := 59) (c := 59) rfl (by omega) (by omega)]
  exact ⟨fun z => h.next (fun μ' f k => h1 z μ' f k), fun z => C_ref (c := 1) rfl (by omega) (by omega) h (fun μ' f x => ⟨Or.inl rfl, h0 z μ' f x⟩)⟩
theorem L_stop {m c q : Nat} {x2 x4 : Int32} (h : FC μ N B c q) (hK : KI (nI c) μ) : pX2_readText_44 (m + 1) d 2 1 700 s x2 x4 μ KI X := by
  have e : μ 2 2 = nI c := h.2.2.2.2.1
  have nz : ¬ μ 2 2 = 0 := by rw [e]; intro z; have := (n_eq (b := 0) (by have := h.2.2.2.1; omega) (by omega)).mp z; have := h.2.2.1; omega
  exact ⟨fun _ => by rw [e]; exact hK, fun _ => ⟨fun z => absurd z nz, fun _ => by rw [e]; exact hK⟩⟩
theorem L_text (hs : s = 6 ∨ s = 26) : ∀ (m i : Nat) (μ : zMem) (σ : zS) (p : Nat), i + m = N → i ≤ p → LK μ N B p → SuC s μ σ.2 → FlC μ σ.1 → SgM σ →
    (∀ c q, txt N B (m + 1) σ p = .inl (c, q) → ∀ μ', Fr (zTx5 s) μ μ' → FC μ' N B c q → KI (nI c) μ') →
    (∀ σ', txt N B (m + 1) σ p = .inr σ' → SgM σ' → ∀ μ', Fr (zTx5 s) μ μ' → SuC s μ' σ'.2 → KI 0 μ') → pX2_readText_44 (m + 2) (d + 54) 2 1 700 s (nI N) (nI i) μ KI X := by
  intro m
  induction m with
  | zero =>
    intro i μ σ p hi hp h u fl hm h0 h1
    have hN := h.1.1
    have e4 : μ (2 + 1) 4 = tkC N B p := h.2.1.2.2.2.1
    refine ⟨fun z => absurd ((n_lt (by omega) (by omega)).mp z) (by omega), fun _ => ⟨fun _ => ⟨fun _ => ?_, fun z => absurd (by rw [e4]; exact tkC_0.mpr (by omega)) z⟩, fun z => absurd h.2.2 z⟩⟩
    rw [h.2.2]
    exact h1 σ (txt_e (by omega)) hm μ Fr.rf u
  | succ m ih =>
    intro i μ σ p hi hp h u fl hm h0 h1
    have hN := h.1.1
    have e4 : μ (2 + 1) 4 = tkC N B p := h.2.1.2.2.2.1
    refine ⟨fun z => absurd ((n_lt (by omega) (by omega)).mp z) (by omega), fun _ => ⟨fun _ => ?_, fun z => absurd h.2.2 z⟩⟩
    rw [e4, tkC_0, h.2.2]
    refine ⟨fun z => h1 σ (txt_e z) hm μ Fr.rf u, fun z => ?_⟩
    rw [txt_n z] at h0 h1
    have pl := h.2.1.1
    refine C_lineT hs hm h u fl (fun c q e μ' f x => ⟨fun _ v e1 => L_stop x (h0 c q (bd_l e) μ' f x), fun w => absurd rfl w⟩) (fun p' σ' e μ' f k u' g => ⟨fun w => absurd w (by decide), fun _ => ?_⟩)
    have hm' := hm.line hN pl e
    have pp := lnLine_p pl e
    rw [bd_r e] at h0 h1
    refine k.sign (d := d + 48) (fun ns μ2 f2 x2 v e1 => ?_) (fun ys μ2 f2 k2 v e1 => ?_)
    · rw [if_neg ns] at h0
      exact L_stop x2 (h0 1 p' rfl μ2 (f.tr (zTx_5 (zHd_t (zHd_m f2)))) x2)
    · rw [if_pos ys] at h0 h1
      have f3 : Fr (zTx5 s) μ μ2 := f.tr (zTx_5 (zHd_t (zHd_m f2)))
      have lt := tkN_lt (N := N) (B := B) (sg_lt ys)
      rw [e1, nI_1]
      exact ih (i + 1) μ2 σ' (tkN N B p') (by omega) (by omega) k2 (u'.go fun c j a b => zL2_6 f2 (by omega) (by omega)) (fun j hj => by rw [zL2_6 f2 (by omega) (by omega)]; exact g j hj) hm' (fun c q e2 μ3 f4 x3 => h0 c q e2 μ3 (f3.tr f4) x3) (fun τ e2 hm2 μ3 f4 u3 => h1 τ e2 hm2 μ3 (f3.tr f4) u3)
theorem C_clearT (hs : s = 6 ∨ s = 26) (hK : ∀ μ', Fr (zBk s) μ μ' → SuC s μ' σ0.2 → KV μ') : zcV (d + 1) mX4_clear [.ref s] μ KV X := by
  have hz : zsh s = .inr 4 := by rcases hs with rfl | rfl <;> decide +kernel
  refine cX4_clear_ hz (fun m1 e1 m2 e2 m3 e3 m4 e4 m5 e5 m6 e6 => ⟨4, ?_⟩)
  refine ⟨fun z => absurd z (by decide), fun _ => ⟨vin (n := 1) (by omega), fun m7 e7 v7 w7 => ?_⟩⟩
  rw [w7]
  refine ⟨fun z => absurd z (by decide), fun _ => ⟨vin (n := 2) (by omega), fun m8 e8 v8 w8 => ?_⟩⟩
  rw [w8]
  refine ⟨fun z => absurd z (by decide), fun _ => ⟨vin (n := 3) (by omega), fun m9 e9 v9 w9 => ?_⟩⟩
  rw [w9]
  refine ⟨fun _ m10 e10 => ?_, fun z => absurd (by decide) z⟩
  have g7 : m7 = zw m6 (s + 16) 1 0 := e7
  have g8 : m8 = zw m7 (s + 16) 2 0 := e8
  have g9 : m9 = zw m8 (s + 16) 3 0 := e9
  have w : ∀ (m : zMem) (a i : Nat) (v : Int32), s ≤ a → a ≤ s + 18 → Fr (zBk s) m (zw m a i v) := fun m a i v h1 h2 => Fr.w ⟨h1, h2⟩
  have f10 : Fr (zBk s) μ m10 := by
    rw [e10, g9, g8, g7, e6, e5, e4, e3, e2, e1]
    exact (((((((((w _ _ _ _ (by omega) (by omega)).tr (w _ _ _ _ (by omega) (by omega))).tr (w _ _ _ _ (by omega) (by omega))).tr (w _ _ _ _ (by omega) (by omega))).tr (w _ _ _ _ (by omega) (by omega))).tr (w _ _ _ _ (by omega) (by omega))).tr (w _ _ _ _ (by omega) (by omega))).tr (w _ _ _ _ (by omega) (by omega))).tr (w _ _ _ _ (by omega) (by omega))).tr (w _ _ _ _ (by omega) (by omega))
  refine hK m10 f10 ⟨⟨?_, fun i hi => absurd hi (Nat.not_lt_zero i)⟩, ⟨?_, fun i hi => absurd hi (Nat.not_lt_zero i)⟩, ⟨?_, ?_, ?_, fun j hj => ?_⟩, ⟨?_, fun i hi => absurd hi (Nat.not_lt_zero i)⟩⟩
  · show m10 (s + 1) 0 = 0
    rw [e10, zw_c (by omega), g9, zw_c (by omega), g8, zw_c (by omega), g7, zw_c (by omega), e6, zw_c (by omega), e5, zw_c (by omega), e4, zw_c (by omega), e3, zw_c (by omega), e2, zw_c (by omega), e1, zw_s]
  · show m10 s 1 = 0
    rw [e10, zw_c (by omega), g9, zw_c (by omega), g8, zw_c (by omega), g7, zw_c (by omega), e6, zw_c (by omega), e5, zw_j (by omega), e4, zw_j (by omega), e3, zw_j (by omega), e2, zw_s]
  · show m10 s 5 = 0
    rw [e10, zw_c (by omega), g9, zw_c (by omega), g8, zw_c (by omega), g7, zw_c (by omega), e6, zw_c (by omega), e5, zw_j (by omega), e4, zw_j (by omega), e3, zw_s]
  · show m10 s 6 = 2
    rw [e10, zw_c (by omega), g9, zw_c (by omega), g8, zw_c (by omega), g7, zw_c (by omega), e6, zw_c (by omega), e5, zw_j (by omega), e4, zw_s]
  · show m10 s 7 = 8
    rw [e10, zw_c (by omega), g9, zw_c (by omega), g8, zw_c (by omega), g7, zw_c (by omega), e6, zw_c (by omega), e5, zw_s]
  · rw [e10, zw_c (by omega)]
    match j, hj with
    | 0, _ => show m9 (s + 16) 0 = 1; rw [g9, zw_j (by omega), g8, zw_j (by omega), g7, zw_j (by omega), e6, zw_s]
    | 1, _ => show m9 (s + 16) 1 = 0; rw [g9, zw_j (by omega), g8, zw_j (by omega), g7, zw_s]
    | 2, _ => show m9 (s + 16) 2 = 0; rw [g9, zw_j (by omega), g8, zw_s]
    | 3, _ => show m9 (s + 16) 3 = 0; rw [g9, zw_s]
    | j + 4, hj => omega
  · show m10 (s + 17) 1 = 0
    rw [e10, zw_s]
end TextC
