/-! a text begun, read whole: the class -/
def zBg (c _j : Nat) : Prop := c = 3 ∨ c = 4
section TextD
variable {d s : Nat} {μ : zMem} {KI : Int32 → zMem → Prop} {KV : zMem → Prop} {X : Nat → zMem → Prop} {N : Nat} {B : Nat → Nat}
theorem L_bgn {μ0 : zMem} (hN : N ≤ 700) (hb : ∀ j, j < N → B j < 256) (hT : ∀ j, j < N → vp_nar .byte (μ0 1 j) = sB (B j)) (hK : ∀ μ', Fr zBg μ0 μ' → TxC μ' N B → TkC μ' N B (tkS N B 0) → KV μ') : ∀ (m i : Nat) (μ : zMem), i + m = N → Fr zBg μ0 μ → μ 3 1 = nI N → (∀ j, j < i → μ 4 j = sB (B j)) → pX6_begin_17 (m + 1) (d + 5) 3 1 700 (nI i) μ KV X := by
  have fin : ∀ μ, Fr zBg μ0 μ → μ 3 1 = nI N → (∀ j, j < N → μ 4 j = sB (B j)) → pX6_begin_46 (d + 5) 3 1 700 μ KV X := by
    intro μ hf h1 h4 m1 e1
    have tx : TxC m1 N B := ⟨hN, hb, by rw [e1, zw_j (by omega)]; exact h1, fun j hj => by rw [e1, zw_c (by omega)]; exact h4 j hj⟩
    exact C_step (e := 0) tx (by omega) (by rw [e1, zw_s]; rfl) (fun μ' f t => hK μ' ((hf.tr (by rw [e1]; exact Fr.w (Or.inl rfl))).tr (f.mono fun c j z => Or.inl z.1)) (tx.go f) t)
  intro m
  induction m with
  | zero =>
    intro i μ hi hf h1 h4
    have : i = N := by omega
    subst this
    exact ⟨fun _ => fin μ hf h1 h4, fun z => absurd (by rw [h1]; exact (n_le (by omega) (by omega)).mpr (Nat.le_refl _)) z⟩
  | succ m ih =>
    intro i μ hi hf h1 h4
    refine ⟨fun z => absurd z (by rw [h1, n_le (by omega) (by omega)]; omega), fun _ => ⟨fun z => absurd ((n_le (a := 700) (by omega) (by omega)).mp z) (by omega), fun _ => ⟨vin (by omega), vin (by omega), fun m1 e1 v2 e2 => ?_⟩⟩⟩
    rw [tN_nI (by omega), hf 1 i (by unfold zBg; omega), hT i (by omega)] at e1
    have e1' : m1 = zw μ 4 i (sB (B i)) := e1
    rw [e2, nI_1]
    refine ih (i + 1) m1 (by omega) (hf.tr (by rw [e1']; exact Fr.w (Or.inr rfl))) (by rw [e1', zw_c (by omega)]; exact h1) (fun j hj => ?_)
    rw [e1']
    by_cases z : j = i
    · subst z; rw [zw_s]
    · rw [zw_j z]; exact h4 j (by omega)
theorem C_beginT (hN : N ≤ 700) (hb : ∀ j, j < N → B j < 256) (hT : ∀ j, j < N → vp_nar .byte (μ 1 j) = sB (B j)) (hK : ∀ μ', Fr zBg μ μ' → TxC μ' N B → TkC μ' N B (tkS N B 0) → KV μ') : zcV (d + 6) mX6_begin [.ref 3, .ref 1, .int (nI N)] μ KV X := by
  refine cX6_begin_ (d := d + 5) (n1 := 700) (by decide +kernel) (by decide +kernel) (fun m1 e1 => ⟨N + 1, ?_⟩)
  have q : zmax (zmin (nI N) 700) 0 = nI N := by
    have a : (nI N).toInt = N := n_i (by omega)
    rw [i_eq, zmax_i, zmin_i, a, i_0, show (700 : Int32).toInt = 700 from by decide]; omega
  rw [q] at e1
  have f1 : Fr zBg μ m1 := by rw [e1]; exact Fr.w (Or.inl rfl)
  exact L_bgn hN hb (fun j hj => by rw [e1, zw_c (by omega)]; exact hT j hj) (fun μ' f => hK μ' (f1.tr f)) N 0 m1 (by omega) Fr.rf (by rw [e1, zw_s]) (fun j hj => by omega)
theorem L_flg {μ0 : zMem} {x2 : Int32} (hK : ∀ μ', Fr (fun c _ => c = 5) μ0 μ' → (∀ j, j < 5 → μ' 5 j = 0) → zcV d mX6_begin [.ref (2 + 1), .ref 1, .int x2] μ' (fun m1 => ∃ n2 : Nat, pX2_readText_44 n2 d 2 1 700 s x2 0 m1 KI X) X) : ∀ (m i : Nat) (μ : zMem), i + m = 5 → Fr (fun c _ => c = 5) μ0 μ → (∀ j, j < i → μ 5 j = 0) → pX2_readText_12 (m + 1) d 2 1 700 s x2 (nI i) μ KI X := by
  intro m
  induction m with
  | zero =>
    intro i μ hi hf hj
    have : i = 5 := by omega
    subst this
    exact ⟨fun _ => hK μ hf hj, fun z => absurd (by decide) z⟩
  | succ m ih =>
    intro i μ hi hf hj
    refine ⟨fun z => absurd ((n_le (a := 5) (by omega) (by omega)).mp z) (by omega), fun _ => ⟨vin (by omega), fun m2 e2 v3 e3 => ?_⟩⟩
    rw [tN_nI (by omega)] at e2
    have e2' : m2 = zw μ 5 i 0 := e2
    rw [e3, nI_1]
    refine ih (i + 1) m2 (by omega) (hf.tr (by rw [e2']; exact Fr.w rfl)) (fun j hj2 => ?_)
    rw [e2']
    by_cases z : j = i
    · subst z; rw [zw_s]
    · rw [zw_j z]; exact hj j (by omega)
theorem C_readText (hs : s = 6 ∨ s = 26) (hN : N ≤ 700) (hb : ∀ j, j < N → B j < 256) (hT : ∀ j, j < N → vp_nar .byte (μ 1 j) = sB (B j))
    (h0 : ∀ c q, txt N B (N + 1) σ0 (tkS N B 0) = .inl (c, q) → ∀ μ', Fr (zTx5 s) μ μ' → FC μ' N B c q → KI (nI c) μ')
    (h1 : ∀ σ', txt N B (N + 1) σ0 (tkS N B 0) = .inr σ' → SgM σ' → ∀ μ', Fr (zTx5 s) μ μ' → SuC s μ' σ'.2 → KI 0 μ') : zcI (d + 55) mX2_readText [.ref 2, .ref 1, .int (nI N), .ref s] μ KI X := by
  have hz : zsh s = .inr 4 := by rcases hs with rfl | rfl <;> decide +kernel
  refine cX2_readText_ (d := d + 54) (n1 := 700) (by decide +kernel) (by decide +kernel) hz (fun m1 e1 => C_clearT (d := d + 53) hs (fun m2 f2 u2 => ⟨6, ?_⟩))
  have f1 : Fr (zTx5 s) μ m1 := by rw [e1]; exact Fr.w (Or.inl (Or.inl ⟨by omega, by omega⟩))
  have f12 : Fr (zTx5 s) μ m2 := f1.tr (f2.mono fun c j z => Or.inl (Or.inr (Or.inl z)))
  have n5 : ∀ c j, c = 2 ∨ c = 1 → m2 c j = m1 c j := fun c j a => f2 _ _ (by unfold zBk; omega)
  refine L_flg (μ0 := m2) (fun m3 f3 z3 => ?_) 5 0 m2 (by omega) Fr.rf (fun j hj => by omega)
  refine C_beginT (d := d + 48) hN hb (fun j hj => ?_) (fun m4 f4 x4 t4 => ⟨N + 2, ?_⟩)
  · rw [f3 1 j (by omega), n5 1 j (by omega), e1, zw_c (by omega)]; exact hT j hj
  · have f14 : Fr (zTx5 s) μ m4 := (f12.tr (f3.mono fun c j z => Or.inr z)).tr (f4.mono fun c j z => Or.inl (Or.inl (by unfold zBg at z; omega)))
    have k4 : LK m4 N B (tkS N B 0) := ⟨x4, t4, by rw [f4 2 2 (by unfold zBg; omega), f3 2 2 (by omega), n5 2 2 (by omega), e1, zw_s]⟩
    refine L_text hs N 0 m4 σ0 (tkS N B 0) (by omega) (by omega) k4 (u2.go fun c j a b => by rw [f4 c j (by unfold zBg; omega), f3 c j (by omega)]) (fun j hj => ?_) σ0_M (fun c q e μ' f x => h0 c q e μ' (f14.tr f) x) (fun σ' e hm μ' f u => h1 σ' e hm μ' (f14.tr f) u)
    rw [f4 5 j (by unfold zBg; omega), z3 j hj, show σ0.1 = 0 from rfl, Nat.zero_testBit]; rfl
end TextD
