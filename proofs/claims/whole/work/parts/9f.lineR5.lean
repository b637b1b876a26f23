/-! a line from its word on: the reference -/
section LineR5
variable {d : Nat} {μ μ0 : zMem} {KI : Int32 → zMem → Prop} {KV : zMem → Prop} {X : Nat → zMem → Prop} {N p : Nat} {B : Nat → Nat}
theorem R_94n {x1 : Int32} (h : LR μ N B p) (hw : ¬ wdR N B p 30) (h0 : ∀ r μ', BF N 1 p μ μ' → KI r μ') : pX9_readLine_94 (d + 53) x1 0 (-1) μ KI X :=
  ⟨fun _ => ⟨fun _ => h.is (d := d + 48) (s := 30) (by omega) (fun _ => ⟨fun _ => h.wrong (d := d + 52) (c := 1) rfl (by omega) (by omega) (fun m3 f3 x3 => B_252 (d := d + 51) ⟨f3, x3⟩ h0), fun z => absurd rfl z⟩) (fun z => absurd z hw), fun z => absurd rfl z⟩, fun z => absurd (by decide) z⟩
theorem R_73z {x1 : Int32} {w : Int32} (h : LR μ N B p) (e : wdF N B p [7, 8, 9] 0 = w) (hz : (0 : Int32) &&& x1 = 0) (go : pX9_readLine_94 (d + 53) x1 0 w μ KI X) : pX9_readLine_73 (d + 53) x1 0 μ KI X :=
  h.kind (d := d + 47) ⟨fun _ => by rw [e]; exact go, fun z => absurd hz z⟩
/-- which of the five: none -/
theorem R_z5 {x1 : Int32} (h : LR μ N B p) (n4 : ∀ i, i < 5 → ¬ wdR N B p (w9 (4 + i))) (go : pX9_readLine_73 (d + 53) x1 0 μ KI X) : pX9_readLine (d + 53) x1 μ KI X :=
  h.is (d := d + 48) (s := 25) (by omega) (fun _ => ⟨fun _ => h.is (d := d + 48) (s := 26) (by omega) (fun _ => ⟨fun _ => h.is (d := d + 48) (s := 27) (by omega) (fun _ => ⟨fun _ => h.is (d := d + 48) (s := 28) (by omega) (fun _ => ⟨fun _ => h.is (d := d + 48) (s := 29) (by omega) (fun _ => go) (fun z => absurd z (n4 4 (by omega))), fun z => absurd rfl z⟩) (fun z => absurd z (n4 3 (by omega))), fun z => absurd rfl z⟩) (fun z => absurd z (n4 2 (by omega))), fun z => absurd rfl z⟩) (fun z => absurd z (n4 1 (by omega))), fun z => absurd rfl z⟩) (fun z => absurd z (n4 0 (by omega)))
/-- which of the five: this -/
theorem R_y5 {x1 : Int32} {i : Nat} (hi : i < 5) (h : LR μ N B p) (n4 : ∀ j, j < 5 → (wdR N B p (w9 (4 + j)) ↔ i = j)) (go : pX9_readLine_73 (d + 53) x1 (nI (2 ^ i)) μ KI X) : pX9_readLine (d + 53) x1 μ KI X := by
  have w0 : wdR N B p 25 ↔ i = 0 := n4 0 (by omega)
  have w1 : wdR N B p 26 ↔ i = 1 := n4 1 (by omega)
  have w2 : wdR N B p 27 ↔ i = 2 := n4 2 (by omega)
  have w3 : wdR N B p 28 ↔ i = 3 := n4 3 (by omega)
  have w4 : wdR N B p 29 ↔ i = 4 := n4 4 (by omega)
  refine h.is (d := d + 48) (s := 25) (by omega) (fun a => ⟨fun _ => ?_, fun z => absurd rfl z⟩) (fun a => ⟨fun z => absurd z (by decide), fun _ => ?_⟩)
  · refine h.is (d := d + 48) (s := 26) (by omega) (fun b => ⟨fun _ => ?_, fun z => absurd rfl z⟩) (fun b => ⟨fun z => absurd z (by decide), fun _ => ?_⟩)
    · refine h.is (d := d + 48) (s := 27) (by omega) (fun c => ⟨fun _ => ?_, fun z => absurd rfl z⟩) (fun c => ⟨fun z => absurd z (by decide), fun _ => ?_⟩)
      · refine h.is (d := d + 48) (s := 28) (by omega) (fun e => ⟨fun _ => ?_, fun z => absurd rfl z⟩) (fun e => ⟨fun z => absurd z (by decide), fun _ => ?_⟩)
        · have i4 : i = 4 := by
            rw [w0] at a; rw [w1] at b; rw [w2] at c; rw [w3] at e; omega
          subst i4
          exact h.is (d := d + 48) (s := 29) (by omega) (fun z => absurd (w4.mpr rfl) z) (fun _ => go)
        · have := w3.mp e; subst this; exact go
      · have := w2.mp c; subst this; exact go
    · have := w1.mp b; subst this; exact go
  · have := w0.mp a; subst this; exact go
theorem R_lineT {σ : zS} (hm : SgM σ) (h : LR μ N B p) (u : SuR μ σ.2)
    (h0 : ∀ c q, lnSg N B (lnLine N B σ p) = .inl (c, q) → ∀ r μ', BF N c q μ μ' → KI r μ') (h1 : ∀ p' σ', lnSg N B (lnLine N B σ p) = .inr (p', σ') → ∀ μ', Fr zRR μ μ' → LR μ' N B p' → SuR μ' σ'.2 → KI (nI σ'.1) μ') : zcI (d + 54) mX9_readLine [.ref 106, .int (nI σ.1)] μ KI X := by
  refine cX9_readLine_ ?_
  unfold lnLine at h0 h1
  have fz := (fl_or0 σ.1 hm.1).1
  rcases wdF_9 (N := N) (p := p) (B := B) with ⟨e, n9⟩ | ⟨kd, k9, e, j9⟩
  · rw [if_pos e] at h0
    have e3 : wdF N B p [7, 8, 9] 0 = -1 := by
      show wdF N B p [w9 0, w9 1, w9 2] 0 = -1
      rw [wdF_f (n9 0 (by omega)), wdF_f (n9 1 (by omega)), wdF_f (n9 2 (by omega))]; rfl
    exact R_z5 h (fun i hi => n9 (4 + i) (by omega)) (R_73z h e3 fz (R_94n h (n9 3 (by omega)) (h0 1 p rfl)))
  · rw [e, if_neg (oI_n (by omega)), tN_nI (by omega)] at h0 h1
    have e3 := wdF_k k9 j9
    by_cases lo : kd < 3
    · rw [if_pos lo] at e3
      have n4 : ∀ i, i < 5 → ¬ wdR N B p (w9 (4 + i)) := fun i hi z => by have := (j9 (4 + i) (by omega)).mp z; omega
      refine R_z5 h n4 (R_73z h e3 fz ?_)
      match kd, lo with
      | 0, _ => exact R_94i (kd := 0) (by omega) hm h u rfl h0 h1
      | 1, _ => exact R_94i (kd := 1) (by omega) hm h u rfl h0 h1
      | 2, _ => exact R_94i (kd := 2) (by omega) hm h u rfl h0 h1
      | k + 3, lo => omega
    · rw [if_neg lo] at e3
      by_cases k3 : kd = 3
      · subst k3
        have n4 : ∀ i, i < 5 → ¬ wdR N B p (w9 (4 + i)) := fun i hi z => by have := (j9 (4 + i) (by omega)).mp z; omega
        exact R_z5 h n4 (R_73z h e3 fz (R_94w hm h u ((j9 3 (by omega)).mpr rfl) h0 h1))
      · obtain ⟨i, ei⟩ : ∃ i, kd = 4 + i := ⟨kd - 4, by omega⟩
        subst ei
        refine R_y5 (i := i) (by omega) h (fun j hj => ⟨fun z => by have := (j9 (4 + j) (by omega)).mp z; omega, fun z => (j9 (4 + j) (by omega)).mpr (by omega)⟩) (R_hi (by omega) hm h u h0 h1)
end LineR5
