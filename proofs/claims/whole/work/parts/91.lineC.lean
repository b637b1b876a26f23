/-! a line: the class -/
abbrev zU : Type := (Nat × zI) × zSky × (Nat → Int32)
noncomputable def lnQ (N : Nat) (B : Nat → Nat) (τ : zU) (p : Nat) : Nat → (Nat × Nat) ⊕ (Nat × zU)
  | 3 => bd (lnWind N B τ.2.1.1 τ.2.1.2.1 p) fun r => .inr (r.1, τ.1, wAdd τ.2.1 r.2, τ.2.2)
  | 4 => bd (lnChu N B p) fun r => .inr (r.1, τ.1, τ.2.1, upd τ.2.2 2 r.2)
  | 5 => bd (lnGus N B p) fun r => .inr (r.1, τ.1, τ.2.1, gAdd τ.2.2 r.2)
  | 6 => bd (lnNum N B 20 p) fun r => .inr (r.1, τ.1, τ.2.1, upd τ.2.2 3 (nI r.2))
  | 7 => bd (lnNum N B 24 p) fun r => .inr (r.1, τ.1, τ.2.1, upd τ.2.2 4 (nI r.2))
  | 8 => bd (lnPus N B p) fun r => .inr (r.1, τ.1, kAdd τ.2.1 r.2.1 r.2.2, τ.2.2)
  | kd => bd (lnIsle N B τ.1.1 τ.1.2 kd p) fun r => .inr (r.1, iAdd τ.1 r.2, τ.2)
theorem bd_bd {α β γ : Type} {r : (Nat × Nat) ⊕ α} {f : α → (Nat × Nat) ⊕ β} {g : β → (Nat × Nat) ⊕ γ} : bd (bd r f) g = bd r fun x => bd (f x) g := by cases r <;> rfl
theorem lnK_lo {N p : Nat} {B : Nat → Nat} {σ : zS} {kd : Nat} (h : kd < 4) : lnK N B σ p kd = bd (lnQ N B σ.2 p kd) fun r => .inr (r.1, σ.1, r.2) := by
  match kd, h with
  | 0, _ => rw [show lnQ N B σ.2 p 0 = bd (lnIsle N B σ.2.1.1 σ.2.1.2 0 p) (fun r => .inr (r.1, iAdd σ.2.1 r.2, σ.2.2)) from rfl, bd_bd]; rfl
  | 1, _ => rw [show lnQ N B σ.2 p 1 = bd (lnIsle N B σ.2.1.1 σ.2.1.2 1 p) (fun r => .inr (r.1, iAdd σ.2.1 r.2, σ.2.2)) from rfl, bd_bd]; rfl
  | 2, _ => rw [show lnQ N B σ.2 p 2 = bd (lnIsle N B σ.2.1.1 σ.2.1.2 2 p) (fun r => .inr (r.1, iAdd σ.2.1 r.2, σ.2.2)) from rfl, bd_bd]; rfl
  | 3, _ => rw [show lnQ N B σ.2 p 3 = bd (lnWind N B σ.2.2.1.1 σ.2.2.1.2.1 p) (fun r => .inr (r.1, σ.2.1, wAdd σ.2.2.1 r.2, σ.2.2.2)) from rfl, bd_bd]; rfl
  | k + 4, h => omega
theorem lnK_hi {N p : Nat} {B : Nat → Nat} {σ : zS} {i : Nat} (h : i < 5) : lnK N B σ p (4 + i) = if σ.1.testBit i = true then .inl (5, p) else bd (lnQ N B σ.2 p (4 + i)) fun r => .inr (r.1, σ.1 + 2 ^ i, r.2) := by
  match i, h with
  | 0, _ => rw [show lnQ N B σ.2 p (4 + 0) = bd (lnChu N B p) (fun r => .inr (r.1, σ.2.1, σ.2.2.1, upd σ.2.2.2 2 r.2)) from rfl, bd_bd]; rfl
  | 1, _ => rw [show lnQ N B σ.2 p (4 + 1) = bd (lnGus N B p) (fun r => .inr (r.1, σ.2.1, σ.2.2.1, gAdd σ.2.2.2 r.2)) from rfl, bd_bd]; rfl
  | 2, _ => rw [show lnQ N B σ.2 p (4 + 2) = bd (lnNum N B 20 p) (fun r => .inr (r.1, σ.2.1, σ.2.2.1, upd σ.2.2.2 3 (nI r.2))) from rfl, bd_bd]; rfl
  | 3, _ => rw [show lnQ N B σ.2 p (4 + 3) = bd (lnNum N B 24 p) (fun r => .inr (r.1, σ.2.1, σ.2.2.1, upd σ.2.2.2 4 (nI r.2))) from rfl, bd_bd]; rfl
  | 4, _ => rw [show lnQ N B σ.2 p (4 + 4) = bd (lnPus N B p) (fun r => .inr (r.1, σ.2.1, kAdd σ.2.2.1 r.2.1 r.2.2, σ.2.2.2)) from rfl, bd_bd]; rfl
  | k + 5, h => omega
def WiC (s : Nat) (μ : zMem) (S : zSky) : Prop := μ s 1 = nI S.1 ∧ ∀ j, j < S.1 → μ (s + 13) j = S.2.1 j ∧ μ (s + 14) j = S.2.2.1 j ∧ μ (s + 15) j = S.2.2.2.1 j
def KiC (s : Nat) (μ : zMem) (S : zSky) : Prop := μ (s + 17) 1 = nI S.2.2.2.2.1 ∧ ∀ j, j < S.2.2.2.2.1 → μ (s + 18) j = encC (S.2.2.2.2.2 j)
def SuC (s : Nat) (μ : zMem) (τ : zU) : Prop := IsC μ (s + 1) τ.1.1 τ.1.2 ∧ WiC s μ τ.2.1 ∧ DC μ s τ.2.2 ∧ KiC s μ τ.2.1
def zTx (s c _j : Nat) : Prop := (2 ≤ c ∧ c ≤ 4) ∨ (s ≤ c ∧ c ≤ s + 18) ∨ (104 ≤ c ∧ c ≤ 105)
theorem WiC.go {s : Nat} {μ μ' : zMem} {S : zSky} (h : WiC s μ S) (e : ∀ c j, (c = s ∧ j = 1) ∨ (s + 13 ≤ c ∧ c ≤ s + 15) → μ' c j = μ c j) : WiC s μ' S :=
  ⟨by rw [e _ _ (Or.inl ⟨rfl, rfl⟩)]; exact h.1, fun j hj => by rw [e _ _ (by omega), e _ _ (by omega), e _ _ (by omega)]; exact h.2 j hj⟩
theorem KiC.go {s : Nat} {μ μ' : zMem} {S : zSky} (h : KiC s μ S) (e : ∀ c j, (c = s + 17 ∧ j = 1) ∨ c = s + 18 → μ' c j = μ c j) : KiC s μ' S :=
  ⟨by rw [e _ _ (Or.inl ⟨rfl, rfl⟩)]; exact h.1, fun j hj => by rw [e _ _ (by omega)]; exact h.2 j hj⟩
theorem DC.go2 {s : Nat} {μ μ' : zMem} {D : Nat → Int32} (h : DC μ s D) (e : ∀ c j, (c = s ∧ 5 ≤ j ∧ j ≤ 7) ∨ c = s + 16 → μ' c j = μ c j) : DC μ' s D :=
  ⟨by rw [e _ _ (by omega)]; exact h.1, by rw [e _ _ (by omega)]; exact h.2.1, by rw [e _ _ (by omega)]; exact h.2.2.1, fun j hj => by rw [e _ _ (by omega)]; exact h.2.2.2 j hj⟩
theorem IsC.go2 {s n : Nat} {μ μ' : zMem} {I : zI} (h : IsC μ (s + 1) n I) (e : ∀ c j, s + 1 ≤ c → c ≤ s + 12 → μ' c j = μ c j) : IsC μ' (s + 1) n I := by
  refine ⟨by rw [e _ _ (by omega) (by omega)]; exact h.1, fun i hi k hk => ?_⟩
  have := h.2 i hi k hk
  rw [← this]
  unfold cI
  split
  · exact e _ _ (by omega) (by omega)
  · exact e _ _ (by omega) (by omega)
theorem SuC.go {s : Nat} {μ μ' : zMem} {τ : zU} (h : SuC s μ τ) (e : ∀ c j, s ≤ c → c ≤ s + 18 → μ' c j = μ c j) : SuC s μ' τ :=
  ⟨h.1.go2 fun c j a b => e c j (by omega) (by omega), h.2.1.go fun c j a => e c j (by omega) (by omega), h.2.2.1.go2 fun c j a => e c j (by omega) (by omega), h.2.2.2.go fun c j a => e c j (by omega) (by omega)⟩
theorem IsC.add {s n : Nat} {μ μ' : zMem} {I : zI} {R : Nat → Int32} (h : IsC μ (s + 1) n I) (f : Fr (zIs s n) μ μ') (hs : s = 6 ∨ s = 26) (e0 : μ' (s + 1) 0 = nI (n + 1)) (e1 : ∀ k, k < 10 → μ' (s + 2 + k) n = R k) (e2 : ∀ t, t < 4 → μ' (s + 12) (4 * n + t) = R (10 + t)) : IsC μ' (s + 1) (n + 1) (iAdd (n, I) R).2 := by
  refine ⟨e0, fun i hi k hk => ?_⟩
  by_cases z : i = n
  · have e : (iAdd (n, I) R).2 i = R := if_pos z
    rw [e, z]
    unfold cI
    split
    · have := e1 k (by assumption)
      rw [← this, show s + 1 + 1 + k = s + 2 + k by omega]
    · have := e2 (k - 10) (by omega)
      rw [show 10 + (k - 10) = k by omega] at this
      rw [← this, show s + 1 + 11 = s + 12 by omega]
  · have e : (iAdd (n, I) R).2 i = I i := if_neg z
    rw [e, ← h.2 i (by omega) k hk]
    unfold cI
    split
    · exact f _ _ (by unfold zIs zL2 zRd zStp; omega)
    · exact f _ _ (by unfold zIs zL2 zRd zStp; omega)
section LineC
variable {d s : Nat} {μ : zMem} {KI : Int32 → zMem → Prop} {KV : zMem → Prop} {X : Nat → zMem → Prop} {N : Nat} {B : Nat → Nat}
theorem zIs_t {n : Nat} {m1 m2 : zMem} (f : Fr (zIs s n) m1 m2) : Fr (zTx s) m1 m2 := f.mono fun c j z => by unfold zIs zL2 zRd zStp at z; unfold zTx; omega
theorem zWn_t {n : Nat} {m1 m2 : zMem} (f : Fr (zWn s n) m1 m2) : Fr (zTx s) m1 m2 := f.mono fun c j z => by unfold zWn zL2 zRd zStp at z; unfold zTx; omega
theorem zHd_t {m1 m2 : zMem} (f : Fr (zHd s) m1 m2) : Fr (zTx s) m1 m2 := f.mono fun c j z => by unfold zHd zL2 zRd zStp at z; unfold zTx; omega
theorem zRd_t {m1 m2 : zMem} (f : Fr (zRd (s + 17)) m1 m2) : Fr (zTx s) m1 m2 := f.mono fun c j z => by unfold zRd zStp at z; unfold zTx; omega
theorem SuC.head {μ' : zMem} {τ : zU} (h : SuC s μ τ) (hs : s = 6 ∨ s = 26) (f : Fr (zHd s) μ μ') : IsC μ' (s + 1) τ.1.1 τ.1.2 ∧ WiC s μ' τ.2.1 ∧ KiC s μ' τ.2.1 :=
  ⟨h.1.go2 fun c j a b => f _ _ (by unfold zHd zL2 zRd zStp; omega), h.2.1.go fun c j a => f _ _ (by unfold zHd zL2 zRd zStp; omega), h.2.2.2.go fun c j a => f _ _ (by unfold zHd zL2 zRd zStp; omega)⟩
theorem C_56i {p kd : Nat} {τ : zU} (hs : s = 6 ∨ s = 26) (hkd : kd < 3) (h : LK μ N B p) (u : SuC s μ τ) (n6 : τ.1.1 ≤ 6) (eq : lnQ N B τ p kd = bd (lnIsle N B τ.1.1 τ.1.2 kd p) fun r => .inr (r.1, iAdd τ.1 r.2, τ.2))
    (h0 : ∀ c q, lnQ N B τ p kd = .inl (c, q) → ∀ μ', Fr (zTx s) μ μ' → FC μ' N B c q → KI 0 μ')
    (h1 : ∀ p' τ', lnQ N B τ p kd = .inr (p', τ') → ∀ μ', Fr (zTx s) μ μ' → LK μ' N B p' → SuC s μ' τ' → KI 1 μ') : pX2_readLine_56 (d + 53) 2 s (nI kd) μ KI X := by
  have nk : ∀ k, k < 9 → ¬ k = kd → ¬ nI kd = nI k := fun k hk z w => z ((n_eq (by omega) (by omega)).mp w).symm
  refine ⟨fun z => absurd z (nk 3 (by omega) (by omega)), fun z => absurd z (nk 4 (by omega) (by omega)), fun z => absurd z (nk 5 (by omega) (by omega)), fun z => absurd z (nk 6 (by omega) (by omega)), fun z => absurd z (nk 7 (by omega) (by omega)), fun z => absurd z (nk 8 (by omega) (by omega)), fun _ _ _ _ _ _ => ?_⟩
  rw [eq] at h0 h1
  refine C_isleLn (d := d + 45) (I := τ.1.2) (n := τ.1.1) hs n6 hkd u.1.1 (fun i hi => ?_) h (fun c q e μ' f x => ⟨Or.inl rfl, h0 c q (bd_l e) μ' (zIs_t f) x⟩) (fun p' R e lt μ' f k e0 e1 e2 _ => ⟨Or.inr rfl, h1 _ _ (bd_r e) μ' (zIs_t f) k ⟨u.1.add f hs e0 e1 e2, u.2.1.go fun c j a => f _ _ (by unfold zIs zL2 zRd zStp; omega), u.2.2.1.go2 fun c j a => f _ _ (by unfold zIs zL2 zRd zStp; omega), u.2.2.2.go fun c j a => f _ _ (by unfold zIs zL2 zRd zStp; omega)⟩⟩)
  exact ⟨u.1.2 i hi 1 (by omega), u.1.2 i hi 2 (by omega)⟩
theorem C_56 {p kd : Nat} {τ : zU} (hs : s = 6 ∨ s = 26) (hkd : kd < 9) (h : LK μ N B p) (u : SuC s μ τ) (n6 : τ.1.1 ≤ 6) (w12 : τ.2.1.1 ≤ 12) (hk : kd = 8 → τ.2.1.2.2.2.2.1 = 0)
    (h0 : ∀ c q, lnQ N B τ p kd = .inl (c, q) → ∀ μ', Fr (zTx s) μ μ' → FC μ' N B c q → KI 0 μ')
    (h1 : ∀ p' τ', lnQ N B τ p kd = .inr (p', τ') → ∀ μ', Fr (zTx s) μ μ' → LK μ' N B p' → SuC s μ' τ' → KI 1 μ') : pX2_readLine_56 (d + 53) 2 s (nI kd) μ KI X := by
  match kd, hkd with
  | 0, _ => exact C_56i hs (by omega) h u n6 rfl h0 h1
  | 1, _ => exact C_56i hs (by omega) h u n6 rfl h0 h1
  | 2, _ => exact C_56i hs (by omega) h u n6 rfl h0 h1
  | 3, _ =>
    refine ⟨fun _ => ?_, fun z => absurd z (by decide), fun z => absurd z (by decide), fun z => absurd z (by decide), fun z => absurd z (by decide), fun z => absurd z (by decide), fun z => absurd rfl z⟩
    refine C_windLn (d := d + 45) (n := τ.2.1.1) (F := τ.2.1.2.1) hs w12 u.2.1.1 (fun i hi => (u.2.1.2 i hi).1) h (fun c q e μ' f x => ⟨Or.inl rfl, h0 c q (bd_l e) μ' (zWn_t f) x⟩) (fun p' hh vx vy e lt _ _ _ _ μ' f k e0 e1 e2 e3 => ⟨Or.inr rfl, h1 _ _ (bd_r e) μ' (zWn_t f) k ⟨u.1.go2 fun c j a b => f _ _ (by unfold zWn zL2 zRd zStp; omega), ⟨e0, fun j hj => ?_⟩, u.2.2.1.go2 fun c j a => f _ _ (by unfold zWn zL2 zRd zStp; omega), u.2.2.2.go fun c j a => f _ _ (by unfold zWn zL2 zRd zStp; omega)⟩⟩)
    have hj' : j < τ.2.1.1 + 1 := hj
    show μ' (s + 13) j = upd τ.2.1.2.1 τ.2.1.1 (nI hh) j ∧ μ' (s + 14) j = upd τ.2.1.2.2.1 τ.2.1.1 vx j ∧ μ' (s + 15) j = upd τ.2.1.2.2.2.1 τ.2.1.1 vy j
    by_cases z : j = τ.2.1.1
    · rw [z, upd_s, upd_s, upd_s]; exact ⟨e1, e2, e3⟩
    · rw [upd_n z, upd_n z, upd_n z, f _ _ (by unfold zWn zL2 zRd zStp; omega), f _ _ (by unfold zWn zL2 zRd zStp; omega), f _ _ (by unfold zWn zL2 zRd zStp; omega)]
      exact u.2.1.2 j (by omega)
  | 4, _ =>
    refine ⟨fun z => absurd z (by decide), fun _ => ?_, fun z => absurd z (by decide), fun z => absurd z (by decide), fun z => absurd z (by decide), fun z => absurd z (by decide), fun _ z => absurd rfl z⟩
    refine C_chuLn (d := d + 46) hs h (fun c q e μ' f x => ⟨Or.inl rfl, h0 c q (bd_l e) μ' (zHd_t f) x⟩) (fun p' v e μ' f k e0 e1 e2 => ⟨Or.inr rfl, ?_⟩)
    obtain ⟨g1, g2, g3⟩ := u.head hs f
    obtain ⟨d1, d2, d3, d4⟩ := u.2.2.1
    exact h1 _ _ (bd_r e) μ' (zHd_t f) k ⟨g1, g2, ⟨e0, by rw [e1 _ (by omega)]; exact d2, by rw [e1 _ (by omega)]; exact d3, fun j hj => by rw [e2, d4 j hj]; exact (upd_n (by omega)).symm⟩, g3⟩
  | 5, _ =>
    refine ⟨fun z => absurd z (by decide), fun z => absurd z (by decide), fun _ => ?_, fun z => absurd z (by decide), fun z => absurd z (by decide), fun z => absurd z (by decide), fun _ _ z => absurd rfl z⟩
    refine C_gusLn (d := d + 47) hs h (fun c q e μ' f x => ⟨Or.inl rfl, h0 c q (bd_l e) μ' (zHd_t f) x⟩) (fun p' g e μ' f k e1 e2 => ⟨Or.inr rfl, ?_⟩)
    obtain ⟨g1, g2, g3⟩ := u.head hs f
    obtain ⟨d1, d2, d3, d4⟩ := u.2.2.1
    refine h1 _ _ (bd_r e) μ' (zHd_t f) k ⟨g1, g2, ⟨by rw [e2]; exact d1, by rw [e2]; exact d2, by rw [e2]; exact d3, fun j hj => ?_⟩, g3⟩
    rw [e1 j hj]
    show g j = gAdd τ.2.2 g (5 + j)
    unfold gAdd
    rw [if_pos (by omega), show 5 + j - 5 = j by omega]
  | 6, _ =>
    refine ⟨fun z => absurd z (by decide), fun z => absurd z (by decide), fun z => absurd z (by decide), fun _ => ?_, fun z => absurd z (by decide), fun z => absurd z (by decide), fun _ _ _ z => absurd rfl z⟩
    refine C_reachLn (d := d + 46) hs h (fun c q e μ' f x => ⟨Or.inl rfl, h0 c q (bd_l e) μ' (zHd_t f) x⟩) (fun p' v e _ μ' f k e0 e1 e2 => ⟨Or.inr rfl, ?_⟩)
    obtain ⟨g1, g2, g3⟩ := u.head hs f
    obtain ⟨d1, d2, d3, d4⟩ := u.2.2.1
    exact h1 _ _ (bd_r e) μ' (zHd_t f) k ⟨g1, g2, ⟨by rw [e1 _ (by omega)]; exact d1, e0, by rw [e1 _ (by omega)]; exact d3, fun j hj => by rw [e2, d4 j hj]; exact (upd_n (by omega)).symm⟩, g3⟩
  | 7, _ =>
    refine ⟨fun z => absurd z (by decide), fun z => absurd z (by decide), fun z => absurd z (by decide), fun z => absurd z (by decide), fun _ => ?_, fun z => absurd z (by decide), fun _ _ _ _ z => absurd rfl z⟩
    refine C_lightLn (d := d + 46) hs h (fun c q e μ' f x => ⟨Or.inl rfl, h0 c q (bd_l e) μ' (zHd_t f) x⟩) (fun p' v e _ μ' f k e0 e1 e2 => ⟨Or.inr rfl, ?_⟩)
    obtain ⟨g1, g2, g3⟩ := u.head hs f
    obtain ⟨d1, d2, d3, d4⟩ := u.2.2.1
    exact h1 _ _ (bd_r e) μ' (zHd_t f) k ⟨g1, g2, ⟨by rw [e1 _ (by omega)]; exact d1, by rw [e1 _ (by omega)]; exact d2, e0, fun j hj => by rw [e2, d4 j hj]; exact (upd_n (by omega)).symm⟩, g3⟩
  | 8, _ =>
    refine ⟨fun z => absurd z (by decide), fun z => absurd z (by decide), fun z => absurd z (by decide), fun z => absurd z (by decide), fun z => absurd z (by decide), fun _ => ?_, fun _ _ _ _ _ z => absurd rfl z⟩
    have k0 : μ (s + 17) 1 = 0 := by rw [u.2.2.2.1, hk rfl]; rfl
    refine C_pusLn (d := d) hs k0 h (fun c q e μ' f x => ⟨Or.inl rfl, h0 c q (by show bd (lnPus N B p) _ = _; rw [e]; rfl) μ' (zRd_t f) x⟩) (fun p' k T e μ' f l e1 e2 => ⟨Or.inr rfl, h1 p' (τ.1, kAdd τ.2.1 k T, τ.2.2) (by show bd (lnPus N B p) _ = _; rw [e]; rfl) μ' (zRd_t f) l ⟨u.1.go2 fun c j a b => f _ _ (by unfold zRd zStp; omega), u.2.1.go fun c j a => f _ _ (by unfold zRd zStp; omega), u.2.2.1.go2 fun c j a => f _ _ (by unfold zRd zStp; omega), e1, e2⟩⟩)
  | k + 9, hkd => omega
end LineC
