/-! the reference takes the told half over -/
section OverR
variable {d : Nat} {μ μ0 : zMem} {KI : Int32 → zMem → Prop} {KV : zMem → Prop} {X : Nat → zMem → Prop}
theorem L_half {a0 n0 hf : Nat} (hd : Int32.ofNat n0 / 2 = nI hf) (h2 : 2 * hf = n0) (hb : n0 < 5000) (hK : ∀ μ', Fr (fun c j => c = a0 ∧ j < hf) μ0 μ' → (∀ j, j < hf → μ' a0 j = μ0 a0 (hf + j)) → KV μ') : ∀ (m i : Nat) (μ : zMem), i + m = hf → Fr (fun c j => c = a0 ∧ j < hf) μ0 μ → (∀ j, j < i → μ a0 j = μ0 a0 (hf + j)) → pX9_takeHalf_2 (m + 1) d a0 n0 (nI i) μ KV X := by
  intro m
  induction m with
  | zero =>
    intro i μ hi f hj
    refine ⟨fun _ => hK μ f (fun j h => hj j (by omega)), fun z => absurd ?_ z⟩
    rw [hd]; exact (n_le (by omega) (by omega)).mpr (by omega)
  | succ m ih =>
    intro i μ hi f hj
    refine ⟨fun z => absurd z (by rw [hd, n_le (by omega) (by omega)]; omega), fun _ => ?_⟩
    rw [hd, nI_add, tN_nI (by omega), tN_nI (by omega), f a0 (hf + i) (by omega)]
    refine ⟨vin (hN := by omega) (by omega), vin (hN := by omega) (by omega), fun m1 e1 v2 e2 => ?_⟩
    rw [e2, nI_1]
    refine ih (i + 1) m1 (by omega) (f.tr (by rw [e1]; exact Fr.w ⟨rfl, by omega⟩)) (fun j h => ?_)
    rw [e1]
    by_cases z : j = i
    · subst z; rw [zw_s]
    · rw [zw_j z]; exact hj j (by omega)
theorem R_half {a0 n0 hf : Nat} (hz : zsh a0 = .inl (0, n0)) (hd : Int32.ofNat n0 / 2 = nI hf) (h2 : 2 * hf = n0) (hb : n0 < 5000) (hK : ∀ μ', Fr (fun c j => c = a0 ∧ j < hf) μ μ' → (∀ j, j < hf → μ' a0 j = μ a0 (hf + j)) → KV μ') : zcV (d + 1) mX9_takeHalf [.ref a0] μ KV X :=
  cX9_takeHalf_ hz ⟨hf + 1, L_half hd h2 hb hK hf 0 μ (by omega) Fr.rf (fun j h => by omega)⟩
def zOv (c j : Nat) : Prop := (110 ≤ c ∧ c ≤ 115) ∨ (c = 106 ∧ (j = 27 ∨ j = 28 ∨ j = 29 ∨ j = 36 ∨ j = 53))
theorem R_takeOver (hK : ∀ μ', Fr zOv μ μ' → (∀ j, j < 10 → μ' 110 j = μ 110 (10 + j)) → (∀ j, j < 84 → μ' 111 j = μ 111 (84 + j)) → (∀ j, j < 12 → μ' 112 j = μ 112 (12 + j) ∧ μ' 113 j = μ 113 (12 + j) ∧ μ' 114 j = μ 114 (12 + j)) → (∀ j, j < 700 → μ' 115 j = μ 115 (700 + j)) → μ' 106 27 = 0 ∧ μ' 106 28 = 0 ∧ μ' 106 29 = 0 ∧ μ' 106 36 = 0 ∧ μ' 106 53 = 0 → KV μ') : zcV (d + 2) mX9_takeOver [.ref 106] μ KV X := by
  refine cX9_takeOver_ ?_
  refine R_half (d := d) (a0 := 110) (n0 := 20) (hf := 10) (by decide +kernel) (by decide +kernel) (by omega) (by omega) (fun m1 f1 h1 => ?_)
  refine R_half (d := d) (a0 := 111) (n0 := 168) (hf := 84) (by decide +kernel) (by decide +kernel) (by omega) (by omega) (fun m2 f2 h2 => ?_)
  refine R_half (d := d) (a0 := 112) (n0 := 24) (hf := 12) (by decide +kernel) (by decide +kernel) (by omega) (by omega) (fun m3 f3 h3 => ?_)
  refine R_half (d := d) (a0 := 113) (n0 := 24) (hf := 12) (by decide +kernel) (by decide +kernel) (by omega) (by omega) (fun m4 f4 h4 => ?_)
  refine R_half (d := d) (a0 := 114) (n0 := 24) (hf := 12) (by decide +kernel) (by decide +kernel) (by omega) (by omega) (fun m5 f5 h5 => ?_)
  refine R_half (d := d) (a0 := 115) (n0 := 1400) (hf := 700) (by decide +kernel) (by decide +kernel) (by omega) (by omega) (fun m6 f6 h6 m7 e7 m8 e8 m9 e9 m10 e10 m11 e11 => ?_)
  have g : ∀ c j, c ≠ 106 → m11 c j = m6 c j := fun c j h => by rw [e11, zw_c h, e10, zw_c h, e9, zw_c h, e8, zw_c h, e7, zw_c h]
  refine hK m11 (fun c j z => ?_) (fun j hj => ?_) (fun j hj => ?_) (fun j hj => ⟨?_, ?_, ?_⟩) (fun j hj => ?_) ⟨?_, ?_, ?_, ?_, ?_⟩
  · unfold zOv at z
    rw [e11, zw_n (by omega), e10, zw_n (by omega), e9, zw_n (by omega), e8, zw_n (by omega), e7, zw_n (by omega), f6 _ _ (by omega), f5 _ _ (by omega), f4 _ _ (by omega), f3 _ _ (by omega), f2 _ _ (by omega), f1 _ _ (by omega)]
  · rw [g _ _ (by omega), f6 _ _ (by omega), f5 _ _ (by omega), f4 _ _ (by omega), f3 _ _ (by omega), f2 _ _ (by omega), h1 j hj]
  · rw [g _ _ (by omega), f6 _ _ (by omega), f5 _ _ (by omega), f4 _ _ (by omega), f3 _ _ (by omega), h2 j hj, f1 _ _ (by omega)]
  · rw [g _ _ (by omega), f6 _ _ (by omega), f5 _ _ (by omega), f4 _ _ (by omega), h3 j hj, f2 _ _ (by omega), f1 _ _ (by omega)]
  · rw [g _ _ (by omega), f6 _ _ (by omega), f5 _ _ (by omega), h4 j hj, f3 _ _ (by omega), f2 _ _ (by omega), f1 _ _ (by omega)]
  · rw [g _ _ (by omega), f6 _ _ (by omega), h5 j hj, f4 _ _ (by omega), f3 _ _ (by omega), f2 _ _ (by omega), f1 _ _ (by omega)]
  · rw [g _ _ (by omega), h6 j hj, f5 _ _ (by omega), f4 _ _ (by omega), f3 _ _ (by omega), f2 _ _ (by omega), f1 _ _ (by omega)]
  · rw [e11, zw_j (by omega), e10, zw_j (by omega), e9, zw_j (by omega), e8, zw_j (by omega), e7, zw_s]
  · rw [e11, zw_j (by omega), e10, zw_j (by omega), e9, zw_j (by omega), e8, zw_s]
  · rw [e11, zw_j (by omega), e10, zw_j (by omega), e9, zw_s]
  · rw [e11, zw_j (by omega), e10, zw_s]
  · rw [e11, zw_s]
end OverR
