/-! an isle's line: the reference -/
def BF (N c q : Nat) (μ0 μ : zMem) : Prop := Fr zRR μ0 μ ∧ FR μ N c q
def zIr (n c j : Nat) : Prop := zRs c j ∨ (c = 110 ∧ j = 10) ∨ (c = 111 ∧ 14 * (6 + n) ≤ j ∧ j < 14 * (6 + n) + 14)
theorem BF.w {N c q a i : Nat} {v : Int32} {μ0 μ : zMem} (h : BF N c q μ0 μ) (h1 : a ≠ 106) (h2 : zRR a i) : BF N c q μ0 (zw μ a i v) := ⟨h.1.tr (Fr.w h2), h.2.w h1⟩
theorem BF.b {N c q : Nat} {μ0 μ : zMem} (h : BF N c q μ0 μ) : ¬ μ 106 19 = 0 := h.2.b
theorem BF.tr {N c q : Nat} {μ0 μ1 μ : zMem} (h : BF N c q μ1 μ) (f : Fr zRR μ0 μ1) : BF N c q μ0 μ := ⟨f.tr h.1, h.2⟩
theorem zIr_R {n : Nat} {m1 m2 : zMem} (f : Fr (zIr n) m1 m2) : Fr zRR m1 m2 := f.mono fun c j z => by unfold zIr zRs at z; unfold zRR; omega
section IsleR
variable {d n : Nat} {μ μ0 : zMem} {KI : Int32 → zMem → Prop} {KV : zMem → Prop} {X : Nat → zMem → Prop} {N c q : Nat} {B : Nat → Nat}
theorem B_276 (hn : n < 6) (hK : ∀ μ', BF N c q μ0 μ' → KV μ') : ∀ (m i : Nat) (μ : zMem), i + m = 4 → BF N c q μ0 μ → pX9_readIsle_276 (m + 1) d (nI (14 * (6 + n))) (nI i) μ KV X := by
  intro m
  induction m with
  | zero =>
    intro i μ hi h
    have : i = 4 := by omega
    subst this
    exact ⟨fun _ m1 e1 => hK m1 (by rw [e1]; exact h.w (by omega) (Or.inr (Or.inl ⟨rfl, by omega⟩))), fun z => absurd (by decide) z⟩
  | succ m ih =>
    intro i μ hi h
    have a6 : nI (14 * (6 + n)) + 6 = nI (14 * (6 + n) + 6) := nI_add _ 6
    have a10 : nI (14 * (6 + n)) + 10 + nI i = nI (14 * (6 + n) + 10 + i) := by rw [show nI (14 * (6 + n)) + 10 = nI (14 * (6 + n) + 10) from nI_add _ 10, nI_add]
    refine ⟨fun z => absurd ((n_le (a := 4) (by omega) (by omega)).mp z) (by omega), fun _ => ?_⟩
    rw [a6, a10, tN_nI (by omega), tN_nI (by omega)]
    refine ⟨vin (by omega), vin (by omega), fun m2 e2 v3 e3 => ?_⟩
    rw [e3, nI_1]
    exact ih (i + 1) m2 (by omega) (by rw [e2]; exact h.w (by omega) (Or.inr (Or.inr (Or.inl ⟨rfl, by omega⟩))))
/-- a number, told already -/
theorem B_rd {x y : Int32} {k : Nat} (hn : n < 6) (hk : k < 14) (h : BF N c q μ0 μ) (hK : ∀ m3, BF N c q μ0 m3 → KV m3) : zcI (d + 3) mX9_readNumber [.ref 106, .int x, .int y] μ (fun u2 m1 => (vp_in (nI (14 * (6 + n) + k)) 168) ∧ ∀ m3 : zMem, m3 = zw m1 111 (nI (14 * (6 + n) + k)).toNatClampNeg u2 → KV m3) X := by
  refine R_readB (d := d + 1) h.b ⟨vin (by omega), fun m3 e3 => hK m3 ?_⟩
  rw [tN_nI (by omega)] at e3
  rw [e3]; exact h.w (by omega) (Or.inr (Or.inr (Or.inl ⟨rfl, by omega⟩)))
theorem B_tail (hn : n < 6) (h : BF N c q μ0 μ) (hK : ∀ μ', BF N c q μ0 μ' → KV μ') : (vp_in (nI (14 * (6 + n)) + 9) 168) ∧ ∀ m19 : zMem, m19 = zw μ 111 (nI (14 * (6 + n)) + 9).toNatClampNeg 0 → ∃ n2 : Nat, pX9_readIsle_276 n2 d (nI (14 * (6 + n))) 0 m19 KV X := by
  rw [show nI (14 * (6 + n)) + 9 = nI (14 * (6 + n) + 9) from nI_add _ 9, tN_nI (by omega)]
  exact ⟨vin (by omega), fun m e => ⟨5, B_276 hn hK 4 0 m (by omega) (by rw [e]; exact h.w (by omega) (Or.inr (Or.inr (Or.inl ⟨rfl, by omega⟩))))⟩⟩
theorem B_171 (hn : n < 6) (h : BF N c q μ0 μ) (hK : ∀ μ', BF N c q μ0 μ' → KV μ') : pX9_readIsle_171 (d + 3) (nI (14 * (6 + n))) μ KV X := by
  have a : ∀ k, nI (14 * (6 + n)) + nI k = nI (14 * (6 + n) + k) := fun k => nI_add _ k
  unfold pX9_readIsle_171
  rw [show nI (14 * (6 + n)) + 3 = nI (14 * (6 + n) + 3) from a 3, show nI (14 * (6 + n)) + 4 = nI (14 * (6 + n) + 4) from a 4, show nI (14 * (6 + n)) + 5 = nI (14 * (6 + n) + 5) from a 5, show nI (14 * (6 + n)) + 6 = nI (14 * (6 + n) + 6) from a 6, show nI (14 * (6 + n)) + 7 = nI (14 * (6 + n) + 7) from a 7, show nI (14 * (6 + n)) + 8 = nI (14 * (6 + n) + 8) from a 8]
  refine B_rd hn (by omega) h (fun m1 h1 => B_rd hn (by omega) h1 (fun m2 h2 => B_rd hn (by omega) h2 (fun m3 h3 => B_rd hn (by omega) h3 (fun m4 h4 => B_rd hn (by omega) h4 (fun m5 h5 => B_rd hn (by omega) h5 (fun m6 h6 => B_tail hn h6 hK))))))
theorem B_160 (hn : n < 6) (h : BF N c q μ0 μ) (hK : ∀ μ', BF N c q μ0 μ' → KV μ') : pX9_readIsle_160 (d + 3) (nI (14 * (6 + n))) μ KV X := ⟨fun z => absurd z h.b, fun _ => B_171 hn h hK⟩
theorem B_82 {m : Nat} {x3 : Int32} (hn : n < 6) (h : BF N c q μ0 μ) (hK : ∀ μ', BF N c q μ0 μ' → KV μ') : pX9_readIsle_82 (m + 1) (d + 3) (nI (14 * (6 + n))) x3 μ KV X := ⟨fun _ => B_160 hn h hK, fun _ => ⟨fun z => absurd z h.b, fun _ => B_160 hn h hK⟩⟩
/-- a number read, laid in the row -/
theorem R_rd {p lo hi k : Nat} {x y : Int32} (ex : x = nI lo) (ey : y = nI hi) (hh : hi ≤ 9999) (hl : lo ≤ 9999) (hn : n < 6) (hk : k < 14) (h : LR μ N B p) (h0 : ∀ c q, nmR N B p lo hi = .inl (c, q) → ∀ μ', BF N c q μ μ' → KV μ')
    (h1 : ∀ v, nmR N B p lo hi = .inr v → ∀ μ', Fr (zIr n) μ μ' → LR μ' N B (tkN N B p) → μ' 111 (14 * (6 + n) + k) = nI v → (∀ j, j ≠ 14 * (6 + n) + k → μ' 111 j = μ 111 j) → (∀ j, μ' 110 j = μ 110 j) → KV μ') :
    zcI (d + 3) mX9_readNumber [.ref 106, .int x, .int y] μ (fun u2 m1 => (vp_in (nI (14 * (6 + n) + k)) 168) ∧ ∀ m3 : zMem, m3 = zw m1 111 (nI (14 * (6 + n) + k)).toNatClampNeg u2 → KV m3) X := by
  refine h.read ex ey hh hl (fun c q e m1 f1 x1 => ⟨vin (by omega), fun m3 e3 => ?_⟩) (fun v e m1 f1 k1 => ⟨vin (by omega), fun m3 e3 => ?_⟩)
  · rw [tN_nI (by omega)] at e3
    have b : BF N c q μ m1 := ⟨f1, x1⟩
    exact h0 c q e m3 (by rw [e3]; exact b.w (by omega) (Or.inr (Or.inr (Or.inl ⟨rfl, by omega⟩))))
  · rw [tN_nI (by omega)] at e3
    refine h1 v e m3 ((f1.mono fun c j z => Or.inl z : Fr (zIr n) μ m1).tr (by rw [e3]; exact Fr.w (Or.inr (Or.inr ⟨rfl, by omega, by omega⟩)))) (by rw [e3]; exact k1.w (by omega) (by omega)) (by rw [e3, zw_s]) (fun j hj => ?_) (fun j => ?_)
    · rw [e3, zw_j hj, zRs_n f1 (by omega)]
    · rw [e3, zw_c (by omega), zRs_n f1 (by omega)]
theorem pe_4 {pe i : Nat} (hp : pe ≤ 20) (hi : i < 4) : (nI pe + 3 - nI i) / 4 = nI ((pe + 3 - i) / 4) := by
  have h : ∀ pe, pe < 21 → ∀ i, i < 4 → (nI pe + 3 - nI i) / 4 = nI ((pe + 3 - i) / 4) := by decide +kernel
  exact h pe (by omega) i hi
theorem L_276 {pe : Nat} (hn : n < 6) (hp : pe ≤ 20) (h6 : μ0 111 (14 * (6 + n) + 6) = nI pe) (hc : μ0 110 10 = nI n)
    (hK : ∀ μ', Fr (zIr n) μ0 μ' → (∀ c, c ≠ 110 → c ≠ 111 → ∀ j, μ' c j = μ0 c j) → μ' 110 10 = nI (n + 1) → (∀ t, t < 4 → μ' 111 (14 * (6 + n) + 10 + t) = nI ((pe + 3 - t) / 4)) → (∀ j, j < 14 * (6 + n) + 10 → μ' 111 j = μ0 111 j) → KV μ') :
    ∀ (m i : Nat) (μ : zMem), i + m = 4 → Fr (fun c j => c = 111 ∧ 14 * (6 + n) + 10 ≤ j ∧ j < 14 * (6 + n) + 14) μ0 μ → (∀ t, t < i → μ 111 (14 * (6 + n) + 10 + t) = nI ((pe + 3 - t) / 4)) → pX9_readIsle_276 (m + 1) d (nI (14 * (6 + n))) (nI i) μ KV X := by
  intro m
  induction m with
  | zero =>
    intro i μ hi f ht
    have : i = 4 := by omega
    subst this
    refine ⟨fun _ m1 e1 => ?_, fun z => absurd (by decide) z⟩
    rw [f 110 10 (by omega), hc, nI_1] at e1
    refine hK m1 ((f.mono fun c j z => Or.inr (Or.inr ⟨z.1, by omega, z.2.2⟩) : Fr (zIr n) μ0 μ).tr (by rw [e1]; exact Fr.w (Or.inr (Or.inl ⟨rfl, rfl⟩)))) (fun c a b j => by rw [e1, zw_c a, f c j (by omega)]) (by rw [e1, zw_s]) (fun t h => by rw [e1, zw_c (by omega)]; exact ht t h) (fun j hj => by rw [e1, zw_c (by omega), f _ _ (by omega)])
  | succ m ih =>
    intro i μ hi f ht
    have a6 : nI (14 * (6 + n)) + 6 = nI (14 * (6 + n) + 6) := nI_add _ 6
    have a10 : nI (14 * (6 + n)) + 10 + nI i = nI (14 * (6 + n) + 10 + i) := by rw [show nI (14 * (6 + n)) + 10 = nI (14 * (6 + n) + 10) from nI_add _ 10, nI_add]
    refine ⟨fun z => absurd ((n_le (a := 4) (by omega) (by omega)).mp z) (by omega), fun _ => ?_⟩
    rw [a6, a10, tN_nI (by omega), tN_nI (by omega), f 111 _ (by omega), h6, pe_4 hp (by omega)]
    refine ⟨vin (by omega), vin (by omega), fun m2 e2 v3 e3 => ?_⟩
    rw [e3, nI_1]
    refine ih (i + 1) m2 (by omega) (f.tr (by rw [e2]; exact Fr.w ⟨rfl, by omega, by omega⟩)) (fun t h => ?_)
    rw [e2]
    by_cases z : t = i
    · subst z; rw [zw_s]
    · rw [zw_j (by omega)]; exact ht t (by omega)
end IsleR
