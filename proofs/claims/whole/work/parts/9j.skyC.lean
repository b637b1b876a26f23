/-! sky: the class -/
def tNew (I : zI) (T : zT) : zT := (I, T.2.1, (0, fun _ => I), (0, fun _ => 0), (0, fun _ => (0, 0, 0)))
theorem zsk_v {μ : zMem} {o j a : Nat} (ha : a = 6 ∨ a = 26) (h : μ o j = if a = zSKA then 0 else 1) : zsk μ o j = a := by
  unfold zsk
  rw [h]
  rcases ha with rfl | rfl <;> decide +kernel
theorem SuC.sky {s : Nat} {μ : zMem} {σ : zS} (h : SuC s μ σ.2) (hm : SgM σ) : SkyC μ s σ.2.2.1 :=
  ⟨hm.2.2.1.1, h.2.1.1, h.2.1.2, hm.2.2.2.2.1, h.2.2.2.1, h.2.2.2.2, hm.2.2.2.2.2.1⟩
abbrev vTx (tn : Nat) (x : Int32) : Prop := ∃ N, x = nI N ∧ N ≤ tn
section SkyC
variable {d : Nat} {μ : zMem} {KI : Int32 → zMem → Prop} {KV : zMem → Prop} {X : Nat → zMem → Prop} {n : Nat} {S : zSky} {D : Nat → Int32} {tn : Nat} {tb : Nat → Int32} {F : Int32} {T : zT} {K : Option (Nat → Int32)} {M : Option zT}
theorem C_begin {s : Nat} (hs : s = 6 ∨ s = 26) (hn : n ≤ 6) {I : zI} (hI : IsC μ (s + 1) n I) (hT : ∀ j, j < 3 → μ 62 j = T.2.1 j) (h : ∀ μ', Fr (zSt 46) μ μ' → TC 46 μ' n (tNew I T) → KV μ') : zcV (d + 2) mX5_begin [.ref 46, .ref (s + 1)] μ KV X := by
  have p2 : zsh (s + 1) = .inr 1 := by rcases hs with q | q <;> subst q <;> decide +kernel
  refine cX5_begin_ (by decide +kernel) p2 (C_copyI (by decide +kernel) p2 (by omega) hn hI (fun m1 f1 I1 m2 e2 m3 e3 m4 e4 => ?_))
  have g4 : ∀ c j, ¬ (c = 46 ∧ (j = 2 ∨ j = 4 ∨ j = 6)) → m4 c j = m1 c j := fun c j z => by rw [e4, zw_n (by omega), e3, zw_n (by omega), e2, zw_n (by omega)]
  refine h m4 (fun c j z => ?_) ⟨I1.go fun c j a b => g4 c j (by omega), fun j hj => ?_, ⟨?_, fun j hj => absurd hj (Nat.not_lt_zero j)⟩, ⟨?_, fun j hj => absurd hj (Nat.not_lt_zero j)⟩, ?_, fun j hj => absurd hj (Nat.not_lt_zero j)⟩
  · unfold zSt at z
    rw [g4 _ _ (by omega)]
    exact f1 _ _ (by unfold zIsl; omega)
  · rw [g4 _ _ (by omega), f1 _ _ (by unfold zIsl; omega)]
    exact hT j hj
  · rw [e4, zw_j (by omega), e3, zw_j (by omega), e2, zw_s]; rfl
  · rw [e4, zw_j (by omega), e3, zw_s]; rfl
  · rw [e4, zw_s]; rfl
theorem QC.tx {μ' : zMem} {F' : Int32} (h : QC μ n S D tn tb F T K M) (e : ∀ c j, ¬ zTx5 (zsk μ 0 5) c j → ¬ (c = 0 ∧ (j = 1 ∨ j = 3)) → μ' c j = μ c j) (e1 : μ' 0 1 = 0) (e3 : μ' 0 3 = F') : QC μ' n S D 0 tb F' T K M := by
  obtain ⟨⟨h1, h2, h3, h4, h5, h6⟩, -, -, h10, h11, h12⟩ := h
  have r4 := sky_rng (zsk_sh μ 0 4)
  have r5 := sky_rng (zsk_sh μ 0 5)
  have z4 : zsk μ' 0 4 = zsk μ 0 4 := by unfold zsk; rw [e 0 4 (by unfold zTx5 zTx; omega) (by omega)]
  have z5 : zsk μ' 0 5 = zsk μ 0 5 := by unfold zsk; rw [e 0 5 (by unfold zTx5 zTx; omega) (by omega)]
  refine ⟨?_, ⟨e1, fun j hj => absurd hj (Nat.not_lt_zero j)⟩, e3, h10.go fun c j q1 q2 => e _ _ (by unfold zTx5 zTx; omega) (by omega), h11.go (e _ _ (by unfold zTx5 zTx; omega) (by omega)) (fun j => e _ _ (by unfold zTx5 zTx; omega) (by omega)), ?_⟩
  · rw [z4, z5]
    refine ⟨h1.go fun c j q => e _ _ (by unfold zTx5 zTx; omega) (by omega), h2, ?_, ?_, ?_, fun j hj => ?_⟩
    · rw [e _ _ (by unfold zTx5 zTx; omega) (by omega)]; exact h3
    · rw [e _ _ (by unfold zTx5 zTx; omega) (by omega)]; exact h4
    · rw [e _ _ (by unfold zTx5 zTx; omega) (by omega)]; exact h5
    · rw [e _ _ (by unfold zTx5 zTx; omega) (by omega)]; exact h6 j hj
  · cases M with
    | none => show μ' 0 8 = 0; rw [e _ _ (by unfold zTx5 zTx; omega) (by omega)]; exact h12
    | some T' => exact ⟨by rw [e _ _ (by unfold zTx5 zTx; omega) (by omega)]; exact h12.1, h12.2.go fun c j q1 q2 => e _ _ (by unfold zTx5 zTx; omega) (by omega)⟩
theorem vTx_g {x1 : Int32} (ht : tn ≤ 700) : vTx tn x1 ↔ ¬ x1 < 0 ∧ x1 ≤ nI tn := by
  refine ⟨fun ⟨N, e, h⟩ => ⟨?_, ?_⟩, fun ⟨h1, h2⟩ => ⟨x1.toInt.toNat, ?_, ?_⟩⟩
  · rw [e, i_lt, n_i (by omega), i_0]; omega
  · rw [e, n_le (by omega) (by omega)]; exact h
  · rw [i_lt, i_0] at h1
    rw [i_le, n_i (by omega)] at h2
    exact i_get (by omega) (by omega)
  · rw [i_lt, i_0] at h1
    rw [i_le, n_i (by omega)] at h2
    omega
theorem C_sky {x1 : Int32} (hW : QW n S D tn T K M) (hC : QC μ n S D tn tb F T K M) (hX : ¬ vTx tn x1 → X 1 μ)
    (hF : ∀ N c q, x1 = nI N → N ≤ tn → txt N (tbB tb) (N + 1) σ0 (tkS N (tbB tb) 0) = .inl (c, q) → ∀ m, Fr zCls μ m → QC m n S D 0 tb (nI q) (tRef T 0) K M → KI (nI c) m)
    (hS : ∀ N σ, x1 = nI N → N ≤ tn → txt N (tbB tb) (N + 1) σ0 (tkS N (tbB tb) 0) = .inr σ → SgM σ → ∀ m, Fr zCls μ m → QC m σ.2.1.1 σ.2.2.1 σ.2.2.2 0 tb (-1) (tNew σ.2.1.2 T) none none → KI 0 m) :
    zcI (d + 56) mX8_sky [.ref 0, .int x1] μ KI X := by
  have ht := hW.2.2.2.2.1
  rw [vTx_g ht] at hX
  have c1 : μ 0 1 = nI tn := hC.2.1.1
  refine cX8_sky_ ⟨fun z => hX fun q => q.1 z, fun z => ⟨fun z2 m1 e1 => ?_, fun z2 => hX fun q => z2 (by rw [c1]; exact q.2)⟩⟩
  rw [c1] at z2
  obtain ⟨N, eN, hN⟩ := (vTx_g ht).mpr ⟨z, z2⟩
  subst eN
  have r4 := sky_rng (zsk_sh μ 0 4)
  have r5 := sky_rng (zsk_sh μ 0 5)
  have n45 : zsk μ 0 4 ≠ zsk μ 0 5 := hC.1.2.1
  have s1 : zsk m1 0 5 = zsk μ 0 5 := by unfold zsk; rw [e1, zw_j (by omega)]
  rw [s1]
  have t62 : ∀ j, j < 3 → μ 62 j = T.2.1 j := hC.2.2.2.1.2.1
  refine C_readText (d := d) (s := zsk μ 0 5) (B := tbB tb) r5 (by omega) (fun j _ => Nat.mod_lt _ (by omega)) (fun j hj => ?_) (fun c q ex m2 f2 x2 => ?_) (fun σ ex hm m2 f2 u2 => ?_)
  · rw [e1, zw_c (by omega)]
    exact by_c (hC.2.1.2 j (by omega))
  · have nz : ¬ nI c = 0 := fun w => by
      have := (n_eq (b := 0) (by have := x2.2.2.2.1; omega) (by omega)).mp w
      have := x2.2.2.1; omega
    refine ⟨fun w => absurd w nz, fun _ m10 e10 m11 e11 => ?_⟩
    have g10 : ∀ c j, ¬ zTx5 (zsk μ 0 5) c j → ¬ (c = 0 ∧ (j = 1 ∨ j = 3)) → m10 c j = μ c j := fun c j a b => by rw [e10, zw_n (by omega), f2 _ _ a, e1, zw_n (by omega)]
    have q10 : QC m10 n S D 0 tb (nI q) T K M := by
      refine hC.tx g10 ?_ ?_
      · rw [e10, zw_j (by omega), f2 _ _ (by unfold zTx5 zTx; omega), e1, zw_s]
      · rw [e10, zw_s]; exact x2.2.2.2.2.2
    rw [e11]
    refine hF N c q rfl hN ex _ (fun c j a => ?_) q10.ref
    unfold zCls at a
    rw [zw_c (by omega)]
    exact g10 c j (by unfold zTx5 zTx; omega) (by omega)
  · refine ⟨fun _ m4 e4 m5 e5 m6 e6 => ?_, fun w => absurd rfl w⟩
    have g2 : ∀ c j, ¬ zTx5 (zsk μ 0 5) c j → ¬ (c = 0 ∧ j = 1) → m2 c j = μ c j := fun c j a b => by rw [f2 _ _ a, e1, zw_n b]
    have s45 : zsk m4 0 5 = zsk μ 0 5 := by unfold zsk; rw [e4, zw_j (by omega), g2 _ _ (by unfold zTx5 zTx; omega) (by omega)]
    have s44 : zsk m4 0 4 = zsk μ 0 4 := by unfold zsk; rw [e4, zw_j (by omega), g2 _ _ (by unfold zTx5 zTx; omega) (by omega)]
    rw [s45] at e5
    rw [s44] at e6
    have g6 : ∀ c j, ¬ (c = 0 ∧ (j = 3 ∨ j = 4 ∨ j = 5)) → m6 c j = m2 c j := fun c j a => by rw [e6, zw_n (by omega), e5, zw_n (by omega), e4, zw_n (by omega)]
    have s64 : zsk m6 0 4 = zsk μ 0 5 := zsk_v r5 (by rw [e6, zw_j (by omega), e5, zw_s])
    have s65 : m6 0 5 = if zsk μ 0 4 = zSKA then 0 else 1 := by rw [e6, zw_s]
    have v64 : m6 0 4 = if zsk μ 0 5 = zSKA then 0 else 1 := by rw [e6, zw_j (by omega), e5, zw_s]
    have v63 : m6 0 3 = -1 := by rw [e6, zw_j (by omega), e5, zw_j (by omega), e4, zw_s]
    rw [s64]
    refine C_begin (d := d + 53) (T := T) r5 hm.2.1.1 (I := σ.2.1.2) (u2.1.go fun c j a b => g6 c j (by omega)) (fun j hj => ?_) (fun m7 f7 t7 m8 e8 => ?_)
    · rw [g6 _ _ (by omega), g2 _ _ (by unfold zTx5 zTx; omega) (by omega)]; exact t62 j hj
    · refine cX7_forget_ (d := d + 54) (by decide +kernel) (fun m9 e9 => ?_)
      have g9 : ∀ c j, ¬ zSt 46 c j → ¬ (c = 0 ∧ j = 8) → ¬ (c = 98 ∧ j = 4) → m9 c j = m6 c j := fun c j a b b2 => by rw [e9, zw_n (by omega), e8, zw_n (by omega), f7 _ _ a]
      have k9 : ∀ c j, ¬ zSt 46 c j → ¬ (c = 0 ∧ j = 8) → ¬ (c = 98 ∧ j = 4) → ¬ (c = 0 ∧ (j = 3 ∨ j = 4 ∨ j = 5)) → m9 c j = m2 c j := fun c j a b b2 b3 => (g9 c j a b b2).trans (g6 c j b3)
      refine hS N σ rfl hN ex hm m9 (fun c j a => ?_) ⟨?_, ⟨?_, fun j hj => absurd hj (Nat.not_lt_zero j)⟩, ?_, ?_, ?_, ?_⟩
      · unfold zCls at a
        rw [k9 _ _ (by unfold zSt; omega) (by omega) (by omega) (by omega)]
        exact g2 c j (by unfold zTx5 zTx; omega) (by omega)
      · have z4 : zsk m9 0 4 = zsk μ 0 5 := zsk_v r5 (by rw [g9 _ _ (by unfold zSt; omega) (by omega) (by omega)]; exact v64)
        have z5 : zsk m9 0 5 = zsk μ 0 4 := zsk_v r4 (by rw [g9 _ _ (by unfold zSt; omega) (by omega) (by omega)]; exact s65)
        rw [z4, z5]
        refine ⟨(u2.sky hm).go fun c j q => k9 c j (by unfold zSt; omega) (by omega) (by omega) (by omega), fun w => n45 w.symm, u2.2.2.1.go2 fun c j q => k9 c j (by unfold zSt; omega) (by omega) (by omega) (by omega)⟩
      · rw [k9 _ _ (by unfold zSt; omega) (by omega) (by omega) (by omega), f2 _ _ (by unfold zTx5 zTx; omega), e1, zw_s]; rfl
      · rw [g9 _ _ (by unfold zSt; omega) (by omega) (by omega)]; exact v63
      · exact t7.go fun c j a b => by rw [e9, zw_n (by omega), e8, zw_n (by omega)]
      · show m9 98 4 = 0
        rw [e9, zw_s]
      · show m9 0 8 = 0
        rw [e9, zw_n (by omega), e8, zw_s]
end SkyC
