/-! a line: the reference; told already -/
def SuR (μ : zMem) (τ : zU) : Prop := (μ 110 10 = nI τ.1.1 ∧ ∀ i, i < τ.1.1 → ∀ k, k < 14 → μ 111 (14 * (6 + i) + k) = τ.1.2 i k) ∧ (μ 110 11 = nI τ.2.1.1 ∧ ∀ j, j < τ.2.1.1 → μ 112 (12 + j) = τ.2.1.2.1 j ∧ μ 113 (12 + j) = τ.2.1.2.2.1 j ∧ μ 114 (12 + j) = τ.2.1.2.2.2.1 j) ∧
  (∀ j, 2 ≤ j → j ≤ 8 → μ 110 (10 + j) = τ.2.2 j) ∧ (μ 110 19 = nI τ.2.1.2.2.2.2.1 ∧ ∀ j, j < τ.2.1.2.2.2.2.1 → μ 115 (700 + j) = τ.2.1.2.2.2.2.2 j)
theorem SuR.go {μ μ' : zMem} {τ : zU} (h : SuR μ τ) (e : ∀ c j, 110 ≤ c → c ≤ 115 → μ' c j = μ c j) : SuR μ' τ := by
  obtain ⟨⟨a1, a2⟩, ⟨b1, b2⟩, c1, d1, d2⟩ := h
  refine ⟨⟨by rw [e _ _ (by omega) (by omega)]; exact a1, fun i hi k hk => by rw [e _ _ (by omega) (by omega)]; exact a2 i hi k hk⟩, ⟨by rw [e _ _ (by omega) (by omega)]; exact b1, fun j hj => ?_⟩, fun j x y => by rw [e _ _ (by omega) (by omega)]; exact c1 j x y, by rw [e _ _ (by omega) (by omega)]; exact d1, fun j hj => by rw [e _ _ (by omega) (by omega)]; exact d2 j hj⟩
  rw [e _ _ (by omega) (by omega), e _ _ (by omega) (by omega), e _ _ (by omega) (by omega)]
  exact b2 j hj
section LineR2
variable {d n : Nat} {μ μ0 : zMem} {KI : Int32 → zMem → Prop} {KV : zMem → Prop} {X : Nat → zMem → Prop} {N c q p : Nat} {B : Nat → Nat}
theorem LR.mark {k : Nat} {x : Int32} (ex : x = nI k) (hk : k < 256) (h : LR μ N B p) (h0 : ¬ sg N B p k = true → ∀ μ', BF N 1 p μ μ' → KV μ') (h1 : sg N B p k = true → ∀ μ', Fr zRs μ μ' → LR μ' N B (tkN N B p) → KV μ') : zcV (d + 3) mX9_mark [.ref 106, .int x] μ KV X := by
  refine cX9_mark_ ⟨fun _ => h.mkd (d := d + 1) ex hk (fun ns => ⟨fun _ => h.wrong (d := d + 1) (c := 1) rfl (by omega) (by omega) (fun m3 f3 x3 => ⟨fun z => absurd z x3.b, fun _ => h0 ns m3 ⟨f3, x3⟩⟩), fun z => absurd rfl z⟩) (fun s => ⟨fun z => absurd z (by decide), fun _ => ⟨fun _ => h.next (d := d) (fun m1 f1 e1 => h1 s m1 f1 e1), fun z => absurd h.2.2 z⟩⟩), fun z => absurd h.2.2 z⟩
theorem B_263 {x1 x2 : Int32} (h : BF N c q μ0 μ) (hK : ∀ r μ', BF N c q μ0 μ' → KI r μ') : pX9_readLine_263 (d + 2) x1 x2 μ KI X := R_markB h.b (hK _ _ h)
theorem B_145 {x1 x2 : Int32} (h : BF N c q μ0 μ) (hK : ∀ r μ', BF N c q μ0 μ' → KI r μ') : pX9_readLine_145 (d + 2) x1 x2 μ KI X := ⟨fun z => absurd z h.b, fun _ => B_263 h hK⟩
theorem B_252 {x1 x2 : Int32} (h : BF N c q μ0 μ) (hK : ∀ r μ', BF N c q μ0 μ' → KI r μ') : pX9_readLine_252 (d + 2) x1 x2 μ KI X := ⟨fun z => absurd z h.b, fun _ => B_263 h hK⟩
theorem L_chB (b : ¬ μ 106 19 = 0) (h : KI (-1) μ) : ∀ (m k : Nat), k + m = 4 → pX9_which_2 (m + 1) (d + 5) 108 4 (nI k) μ KI X := by
  intro m
  induction m with
  | zero =>
    intro k hk
    have : k = 4 := by omega
    subst this
    exact ⟨fun _ => h, fun z => absurd (by decide) z⟩
  | succ m ih =>
    intro k hk
    obtain ⟨r, r31, e, _⟩ := whZ8 k (by omega)
    refine ⟨fun z => absurd ((n_le (a := 4) (by omega) (by omega)).mp z) (by omega), fun _ => ⟨vin (by omega), ?_⟩⟩
    rw [tN_nI (by omega), e]
    refine R_isB r31 b ⟨fun _ v3 e3 => ?_, fun z => absurd rfl z⟩
    rw [e3, nI_1]
    exact ih (k + 1) (by omega)
theorem B_church (b : ¬ μ 106 19 = 0) (h : KI (-1) μ) : zcI (d + 6) mX9_which [.ref 106, .ref 108] μ KI X := cX9_which_ (n1 := 4) (by decide +kernel) ⟨5, L_chB b h 4 0 (by omega)⟩
theorem B_109 {x1 x2 : Int32} (h : BF N c q μ0 μ) (hK : ∀ r μ', BF N c q μ0 μ' → KI r μ') : pX9_readLine_109 (d + 53) x1 x2 μ KI X := by
  have w : ∀ {m : zMem} {i : Nat} {v : Int32}, BF N c q μ0 m → 10 ≤ i → BF N c q μ0 (zw m 110 i v) := fun b hi => b.w (by omega) (Or.inr (Or.inl ⟨rfl, hi⟩))
  refine ⟨fun _ => B_church (d := d + 47) h.b (fun m11 e11 => ?_), fun _ => ⟨fun _ => ?_, fun _ => ⟨fun _ => R_readB (d := d + 51) h.b (fun m7 e7 => B_263 (d := d + 51) (by rw [e7]; exact w h (by omega)) hK), fun _ => ⟨fun _ => R_readB (d := d + 51) h.b (fun m7 e7 => B_263 (d := d + 51) (by rw [e7]; exact w h (by omega)) hK), fun _ => ?_⟩⟩⟩⟩
  · have b11 : BF N c q μ0 m11 := by rw [e11]; exact w h (by omega)
    exact ⟨fun _ => R_wrongB (d := d + 52) b11.b (B_145 (d := d + 51) b11 hK), fun _ => B_145 (d := d + 51) b11 hK⟩
  · exact cX9_readGusts_ (d := d + 52) ⟨1, fun z => absurd z (by decide), fun _ => ⟨fun z => absurd z h.b, fun _ => B_263 (d := d + 51) h hK⟩⟩
  · exact (R_expr (X := X) (N := N) (B := fun _ => 0) (e := d) 6 0 (by omega)).2 μ _ h.b (B_263 (d := d + 51) h hK)
theorem B_94 {x1 : Int32} {i : Nat} {x3 : Int32} (hi : i < 5) (h : BF N c q μ0 μ) (hK : ∀ r μ', BF N c q μ0 μ' → KI r μ') : pX9_readLine_94 (d + 53) x1 (nI (2 ^ i)) x3 μ KI X := by
  have p2 : ¬ nI (2 ^ i) ≤ 0 := by
    have g : ∀ i, i < 5 → ¬ nI (2 ^ i) ≤ 0 := by decide
    exact g i hi
  exact ⟨fun z => absurd z p2, fun _ => ⟨fun z => absurd z h.b, fun _ => B_109 h hK⟩⟩
end LineR2
