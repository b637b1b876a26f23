/-! a line's word: one at most -/
def w9 : Nat → Nat
  | 0 => 7
  | 1 => 8
  | 2 => 9
  | 3 => 30
  | 4 => 25
  | 5 => 26
  | 6 => 27
  | 7 => 28
  | _ => 29
abbrev wSm (i j : Nat) : Prop := zlen i = zlen j ∧ ∀ t, t < zlen i → zbyt i t = zbyt j t
section WordR
variable {d : Nat} {μ : zMem} {KI : Int32 → zMem → Prop} {KV : zMem → Prop} {X : Nat → zMem → Prop} {N p : Nat} {B : Nat → Nat}
theorem wdR_u {i j : Nat} (h : wdR N B p i) (h2 : wdR N B p j) : wSm i j := ⟨h.2.1.symm.trans h2.2.1, fun t ht => (h.2.2 t ht).symm.trans (h2.2.2 t (by have := h.2.1; have := h2.2.1; omega))⟩
theorem w9_u : ∀ i, i < 9 → ∀ j, j < 9 → i ≠ j → ¬ wSm (w9 i) (w9 j) := by decide +kernel
theorem w9_1 {i j : Nat} (hi : i < 9) (hj : j < 9) (h : wdR N B p (w9 i)) : wdR N B p (w9 j) ↔ i = j := by
  refine ⟨fun h2 => Classical.byContradiction fun z => w9_u i hi j hj z (wdR_u h h2), fun z => by rw [← z]; exact h⟩
theorem wdF_9 : wdF N B p (spL 0) 0 = -1 ∧ (∀ j, j < 9 → ¬ wdR N B p (w9 j)) ∨ ∃ kd, kd < 9 ∧ wdF N B p (spL 0) 0 = nI kd ∧ ∀ j, j < 9 → (wdR N B p (w9 j) ↔ kd = j) := by
  show wdF N B p [w9 0, w9 1, w9 2, w9 3, w9 4, w9 5, w9 6, w9 7, w9 8] 0 = -1 ∧ _ ∨ ∃ kd, kd < 9 ∧ wdF N B p [w9 0, w9 1, w9 2, w9 3, w9 4, w9 5, w9 6, w9 7, w9 8] 0 = nI kd ∧ _
  by_cases h0 : wdR N B p (w9 0)
  · exact Or.inr ⟨0, by omega, wdF_t h0, fun j hj => w9_1 (by omega) hj h0⟩
  rw [wdF_f h0]
  by_cases h1 : wdR N B p (w9 1)
  · exact Or.inr ⟨1, by omega, wdF_t h1, fun j hj => w9_1 (by omega) hj h1⟩
  rw [wdF_f h1]
  by_cases h2 : wdR N B p (w9 2)
  · exact Or.inr ⟨2, by omega, wdF_t h2, fun j hj => w9_1 (by omega) hj h2⟩
  rw [wdF_f h2]
  by_cases h3 : wdR N B p (w9 3)
  · exact Or.inr ⟨3, by omega, wdF_t h3, fun j hj => w9_1 (by omega) hj h3⟩
  rw [wdF_f h3]
  by_cases h4 : wdR N B p (w9 4)
  · exact Or.inr ⟨4, by omega, wdF_t h4, fun j hj => w9_1 (by omega) hj h4⟩
  rw [wdF_f h4]
  by_cases h5 : wdR N B p (w9 5)
  · exact Or.inr ⟨5, by omega, wdF_t h5, fun j hj => w9_1 (by omega) hj h5⟩
  rw [wdF_f h5]
  by_cases h6 : wdR N B p (w9 6)
  · exact Or.inr ⟨6, by omega, wdF_t h6, fun j hj => w9_1 (by omega) hj h6⟩
  rw [wdF_f h6]
  by_cases h7 : wdR N B p (w9 7)
  · exact Or.inr ⟨7, by omega, wdF_t h7, fun j hj => w9_1 (by omega) hj h7⟩
  rw [wdF_f h7]
  by_cases h8 : wdR N B p (w9 8)
  · exact Or.inr ⟨8, by omega, wdF_t h8, fun j hj => w9_1 (by omega) hj h8⟩
  rw [wdF_f h8]
  refine Or.inl ⟨rfl, fun j hj => ?_⟩
  match j, hj with
  | 0, _ => exact h0
  | 1, _ => exact h1
  | 2, _ => exact h2
  | 3, _ => exact h3
  | 4, _ => exact h4
  | 5, _ => exact h5
  | 6, _ => exact h6
  | 7, _ => exact h7
  | 8, _ => exact h8
  | j + 9, hj => omega
theorem LR.is {s : Nat} (hs : s < 31) (h : LR μ N B p) (h0 : ¬ wdR N B p s → KI 0 μ) (h1 : wdR N B p s → KI 1 μ) : zcI (d + 5) mX9_is [.ref 106, .ref (1000 + s)] μ KI X := R_is hs h.1 h.2.1 h.2.2 h0 h1
/-- which isle: 0, 1, 2; or none -/
theorem LR.kind (h : LR μ N B p) (hK : KI (wdF N B p [7, 8, 9] 0) μ) : zcI (d + 6) mX9_which [.ref 106, .ref 107] μ KI X := by
  exact cX9_which_ (n1 := 3) (by decide +kernel) ⟨3 + 1, L_which (by omega) whZ7 h.1 h.2.1 h.2.2 3 0 (by omega) rfl hK⟩
theorem LR.church (h : LR μ N B p) (hK : KI (wdF N B p (spL 1) 0) μ) : zcI (d + 6) mX9_which [.ref 106, .ref 108] μ KI X := by
  exact cX9_which_ (n1 := 4) (by decide +kernel) ⟨4 + 1, L_which (by omega) whZ8 h.1 h.2.1 h.2.2 4 0 (by omega) rfl hK⟩
theorem wdF_k {kd : Nat} (hk : kd < 9) (hj : ∀ j, j < 9 → (wdR N B p (w9 j) ↔ kd = j)) : wdF N B p [7, 8, 9] 0 = if kd < 3 then nI kd else -1 := by
  show wdF N B p [w9 0, w9 1, w9 2] 0 = _
  by_cases h0 : wdR N B p (w9 0)
  · have := (hj 0 (by omega)).mp h0
    subst this
    exact wdF_t h0
  rw [wdF_f h0]
  by_cases h1 : wdR N B p (w9 1)
  · have := (hj 1 (by omega)).mp h1
    subst this
    exact wdF_t h1
  rw [wdF_f h1]
  by_cases h2 : wdR N B p (w9 2)
  · have := (hj 2 (by omega)).mp h2
    subst this
    exact wdF_t h2
  rw [wdF_f h2, if_neg]
  · rfl
  · intro z
    have z0 : ¬ kd = 0 := fun y => h0 ((hj 0 (by omega)).mpr y)
    have z1 : ¬ kd = 1 := fun y => h1 ((hj 1 (by omega)).mpr y)
    have z2 : ¬ kd = 2 := fun y => h2 ((hj 2 (by omega)).mpr y)
    omega
end WordR
