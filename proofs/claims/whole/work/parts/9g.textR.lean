/-! a whole text: the reference -/
section TextR
variable {d : Nat} {μ μ0 : zMem} {KI : Int32 → zMem → Prop} {KV : zMem → Prop} {X : Nat → zMem → Prop} {N : Nat} {B : Nat → Nat}
theorem txt_s {m p : Nat} {σ : zS} (h : ¬ N ≤ p) : txt N B (m + 1) σ p = bd (lnSg N B (lnLine N B σ p)) fun r => txt N B m r.2 r.1 := by
  rw [txt_n h]
  cases e : lnLine N B σ p with
  | inl q => rfl
  | inr r =>
    by_cases z : sg N B r.1 59 = true
    · have e1 : lnSg N B (.inr r) = .inr (tkN N B r.1, r.2) := if_pos z
      rw [e1]; exact if_pos z
    · have e1 : lnSg N B (.inr r) = .inl (1, r.1) := if_neg z
      rw [e1]; exact if_neg z
theorem lnSg_i {p p' : Nat} {σ σ' : zS} (hp : p ≤ N) (h : lnSg N B (lnLine N B σ p) = .inr (p', σ')) : p < p' ∧ ∃ r, lnLine N B σ p = .inr (r, σ') := by
  obtain ⟨r, e1, e2⟩ := bd_i h
  have le := lnLine_p hp (σ' := r.2) (p' := r.1) e1
  by_cases z : sg N B r.1 59 = true
  · have e2' : (if sg N B r.1 59 = true then .inr (tkN N B r.1, r.2) else .inl (1, r.1) : (Nat × Nat) ⊕ (Nat × zS)) = .inr (p', σ') := e2
    rw [if_pos z] at e2'
    have lt := tkN_lt (N := N) (B := B) (sg_lt z)
    cases e2'
    exact ⟨by omega, r.1, e1⟩
  · have e2' : (if sg N B r.1 59 = true then .inr (tkN N B r.1, r.2) else .inl (1, r.1) : (Nat × Nat) ⊕ (Nat × zS)) = .inr (p', σ') := e2
    rw [if_neg z] at e2'
    cases e2'
theorem tkK_0 {p : Nat} : nI (tkK N B p) = 0 ↔ N ≤ p := by
  have kk := kk_lt (N := N) (B := B) (p := p)
  refine ⟨fun z => Classical.byContradiction fun w => tkK_c (N := N) (B := B) (p := p) (by omega) ((n_eq (b := 0) (by omega) (by omega)).mp z), fun z => ?_⟩
  have : tkK N B p = 0 := by unfold tkK; exact if_pos z
  rw [this]; rfl
theorem L_textR : ∀ (m i : Nat) (μ : zMem) (σ : zS) (p : Nat), i + m = N → i ≤ p → LR μ N B p → SuR μ σ.2 → SgM σ →
    (∀ c q, txt N B (m + 1) σ p = .inl (c, q) → ∀ μ', BF N c q μ μ' → pX9_sky_129 (d + 54) μ' KI X) →
    (∀ σ', txt N B (m + 1) σ p = .inr σ' → SgM σ' → ∀ μ', Fr zRR μ μ' → μ' 106 19 = 0 → SuR μ' σ'.2 → pX9_sky_129 (d + 54) μ' KI X) → pX9_sky_106 (m + 2) (d + 54) (nI σ.1) μ KI X := by
  intro m
  induction m with
  | zero =>
    intro i μ σ p hi hp h u hm h0 h1
    refine ⟨fun _ => ⟨fun _ => h1 σ (txt_e (by omega)) hm μ Fr.rf h.2.2 u, fun z => absurd (by rw [h.2.1.2.2.2.2.1]; exact tkK_0.mpr (by omega)) z⟩, fun z => absurd h.2.2 z⟩
  | succ m ih =>
    intro i μ σ p hi hp h u hm h0 h1
    refine ⟨fun _ => ?_, fun z => absurd h.2.2 z⟩
    rw [h.2.1.2.2.2.2.1, tkK_0]
    refine ⟨fun z => h1 σ (txt_e z) hm μ Fr.rf h.2.2 u, fun z => ?_⟩
    rw [txt_s z] at h0 h1
    have pl := h.2.1.1
    have hN := h.1.1
    refine R_lineT hm h u (fun c q e r μ' b => ⟨fun w => absurd w b.b, fun _ => h0 c q (bd_l e) μ' b⟩) (fun p' σ' e μ' f k u' => ?_)
    obtain ⟨lt, r, er⟩ := lnSg_i pl e
    rw [bd_r e] at h0 h1
    exact ih (i + 1) μ' σ' p' (by omega) (by omega) k u' (hm.line hN pl er) (fun c q e2 μ2 b => h0 c q e2 μ2 (b.tr f)) (fun τ e2 hm2 μ2 f2 w2 u2 => h1 τ e2 hm2 μ2 (f.tr f2) w2 u2)
theorem σD_v : ∀ i, i < 10 → (if nI i = 3 then (2 : Int32) else (if nI i = 4 then 8 else (if nI i = 5 then 1 else 0))) = σD i := by decide
theorem L_50 (hK : ∀ μ', Fr (fun c j => c = 110 ∧ 10 ≤ j) μ0 μ' → (∀ j, j < 10 → μ' 110 (10 + j) = σD j) → zcV d mX9_stepOn [.ref 106] μ' (fun m1 => ∃ n2 : Nat, pX9_sky_106 n2 d 0 m1 KI X) X) : ∀ (m i : Nat) (μ : zMem), i + m = 10 → Fr (fun c j => c = 110 ∧ 10 ≤ j) μ0 μ → (∀ j, j < i → μ 110 (10 + j) = σD j) → pX9_sky_50 (m + 1) d (nI i) μ KI X := by
  intro m
  induction m with
  | zero =>
    intro i μ hi f hj
    have : i = 10 := by omega
    subst this
    exact ⟨fun _ => hK μ f hj, fun z => absurd (by decide) z⟩
  | succ m ih =>
    intro i μ hi f hj
    refine ⟨fun z => absurd ((n_le (a := 10) (by omega) (by omega)).mp z) (by omega), fun _ => ?_⟩
    rw [show (10 : Int32) + nI i = nI (10 + i) from nI_add 10 i, tN_nI (by omega), σD_v i (by omega)]
    refine ⟨vin (by omega), fun m2 e2 v3 e3 => ?_⟩
    rw [e3, nI_1]
    refine ih (i + 1) m2 (by omega) (f.tr (by rw [e2]; exact Fr.w ⟨rfl, by omega⟩)) (fun j hj2 => ?_)
    rw [e2]
    by_cases z : j = i
    · subst z; rw [zw_s]
    · rw [zw_j (by omega)]; exact hj j (by omega)
/-- the told half set anew, the text read -/
theorem R_readText (hx : TxR μ N B) (h13 : μ 106 13 = 0) (h19 : μ 106 19 = 0)
    (h0 : ∀ c q, txt N B (N + 1) σ0 (tkS N B 0) = .inl (c, q) → ∀ μ', BF N c q μ μ' → pX9_sky_129 (d + 54) μ' KI X)
    (h1 : ∀ σ', txt N B (N + 1) σ0 (tkS N B 0) = .inr σ' → SgM σ' → ∀ μ', Fr zRR μ μ' → μ' 106 19 = 0 → SuR μ' σ'.2 → pX9_sky_129 (d + 54) μ' KI X) : ∃ n2 : Nat, pX9_sky_50 n2 (d + 54) 0 μ KI X := by
  refine ⟨11, L_50 (μ0 := μ) (fun m1 f1 z1 => ?_) 10 0 μ (by omega) Fr.rf (fun j hj => by omega)⟩
  have g1 : Fr zRR μ m1 := f1.mono fun c j z => Or.inr (Or.inl z)
  have n1 : ∀ c j, c ≠ 110 → m1 c j = μ c j := fun c j h => f1 c j (fun z => h z.1)
  have x1 : TxR m1 N B := ⟨hx.1, hx.2.1, by rw [n1 _ _ (by omega)]; exact hx.2.2.1, fun j hj => by rw [n1 _ _ (by omega)]; exact hx.2.2.2 j hj⟩
  refine R_step (d := d + 52) (e := 0) x1 (by omega) (by rw [n1 _ _ (by omega), h13]; rfl) (fun m2 f2 t2 => ⟨N + 2, ?_⟩)
  have k2 : LR m2 N B (tkS N B 0) := ⟨x1.go f2, t2, by rw [f2 _ _ (by unfold zRs; omega), n1 _ _ (by omega)]; exact h19⟩
  have v : ∀ j, j < 10 → m2 110 (10 + j) = σD j := fun j hj => by rw [zRs_n f2 (by omega)]; exact z1 j hj
  refine L_textR N 0 m2 σ0 (tkS N B 0) (by omega) (by omega) k2 ⟨⟨v 0 (by omega), fun i hi => absurd hi (Nat.not_lt_zero i)⟩, ⟨v 1 (by omega), fun i hi => absurd hi (Nat.not_lt_zero i)⟩, fun j a b => v j (by omega), v 9 (by omega), fun i hi => absurd hi (Nat.not_lt_zero i)⟩ σ0_M (fun c q e μ' b => h0 c q e μ' (b.tr (g1.tr (zRs_R f2)))) (fun σ' e hm μ' f w u => h1 σ' e hm μ' ((g1.tr (zRs_R f2)).tr f) w u)
end TextR
