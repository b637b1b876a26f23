/-! what a text has told so far: words seen, isles, winds and rule, the rest -/
abbrev zS : Type := Nat × (Nat × zI) × zSky × (Nat → Int32)
def wAdd (S : zSky) (r : Nat × Int32 × Int32) : zSky := (S.1 + 1, upd S.2.1 S.1 (nI r.1), upd S.2.2.1 S.1 r.2.1, upd S.2.2.2.1 S.1 r.2.2, S.2.2.2.2)
def kAdd (S : zSky) (k : Nat) (T : Nat → Int32) : zSky := (S.1, S.2.1, S.2.2.1, S.2.2.2.1, k, T)
def iAdd (I : Nat × zI) (R : Nat → Int32) : Nat × zI := (I.1 + 1, fun i => if i = I.1 then R else I.2 i)
def gAdd (D g : Nat → Int32) : Nat → Int32 := fun j => if 5 ≤ j then g (j - 5) else D j
noncomputable def lnK (N : Nat) (B : Nat → Nat) (σ : zS) (p : Nat) : Nat → (Nat × Nat) ⊕ (Nat × zS)
  | 3 => bd (lnWind N B σ.2.2.1.1 σ.2.2.1.2.1 p) fun r => .inr (r.1, σ.1, σ.2.1, wAdd σ.2.2.1 r.2, σ.2.2.2)
  | 4 => if σ.1.testBit 0 = true then .inl (5, p) else bd (lnChu N B p) fun r => .inr (r.1, σ.1 + 1, σ.2.1, σ.2.2.1, upd σ.2.2.2 2 r.2)
  | 5 => if σ.1.testBit 1 = true then .inl (5, p) else bd (lnGus N B p) fun r => .inr (r.1, σ.1 + 2, σ.2.1, σ.2.2.1, gAdd σ.2.2.2 r.2)
  | 6 => if σ.1.testBit 2 = true then .inl (5, p) else bd (lnNum N B 20 p) fun r => .inr (r.1, σ.1 + 4, σ.2.1, σ.2.2.1, upd σ.2.2.2 3 (nI r.2))
  | 7 => if σ.1.testBit 3 = true then .inl (5, p) else bd (lnNum N B 24 p) fun r => .inr (r.1, σ.1 + 8, σ.2.1, σ.2.2.1, upd σ.2.2.2 4 (nI r.2))
  | 8 => if σ.1.testBit 4 = true then .inl (5, p) else bd (lnPus N B p) fun r => .inr (r.1, σ.1 + 16, σ.2.1, kAdd σ.2.2.1 r.2.1 r.2.2, σ.2.2.2)
  | kd => bd (lnIsle N B σ.2.1.1 σ.2.1.2 kd p) fun r => .inr (r.1, σ.1, iAdd σ.2.1 r.2, σ.2.2)
noncomputable def lnLine (N : Nat) (B : Nat → Nat) (σ : zS) (p : Nat) : (Nat × Nat) ⊕ (Nat × zS) := if wdF N B p (spL 0) 0 = -1 then .inl (1, p) else lnK N B σ p (wdF N B p (spL 0) 0).toNatClampNeg
def DM (D : Nat → Int32) : Prop := 0 ≤ (D 3).toInt ∧ (D 3).toInt ≤ 20 ∧ 0 ≤ (D 4).toInt ∧ (D 4).toInt ≤ 24 ∧ (∀ j, j < 4 → 0 ≤ (D (5 + j)).toInt ∧ (D (5 + j)).toInt ≤ 9) ∧ 1 ≤ (D 5).toInt + (D 6).toInt + (D 7).toInt + (D 8).toInt
def SgM (σ : zS) : Prop := σ.1 < 32 ∧ (σ.2.1.1 ≤ 6 ∧ ∀ i, i < σ.2.1.1 → rowK σ.2.1.2 i) ∧ (σ.2.2.1.1 ≤ 12 ∧ SkyG σ.2.2.1 ∧ SkyB σ.2.2.1) ∧ DM σ.2.2.2 ∧ (σ.2.2.1.2.2.2.2.1 ≤ 700 ∧ (σ.2.2.1.2.2.2.2.1 = 0 ∨ wfS σ.2.2.1.2.2.2.2.2 σ.2.2.1.2.2.2.2.1 0 0) ∧ (¬ σ.1.testBit 4 = true → σ.2.2.1.2.2.2.2.1 = 0))
theorem bd_i {α β : Type} {r : (Nat × Nat) ⊕ α} {f : α → (Nat × Nat) ⊕ β} {a : β} (h : bd r f = .inr a) : ∃ b, r = .inr b ∧ f b = .inr a := by
  cases r with
  | inl q => exact absurd h (by show ¬ (Sum.inl q : (Nat × Nat) ⊕ β) = .inr a; intro z; cases z)
  | inr b => exact ⟨b, rfl, h⟩
theorem if_i {α : Type} {c : Prop} [Decidable c] {q : Nat × Nat} {r : (Nat × Nat) ⊕ α} {a : α} (h : (if c then .inl q else r) = .inr a) : ¬ c ∧ r = .inr a := by
  by_cases z : c
  · rw [if_pos z] at h; cases h
  · rw [if_neg z] at h; exact ⟨z, h⟩
section Stt
variable {N : Nat} {B : Nat → Nat}
theorem sgR_i {p : Nat} {a : Nat × Int32} (h : sgR N B p = .inr a) : -9 ≤ a.2.toInt ∧ a.2.toInt ≤ 9 := by
  by_cases z : sg N B p 45 = true
  · rw [sgR_p z] at h
    obtain ⟨v, e, f⟩ := bd_i h
    cases f
    exact (sg_9 v (nmR_rng e).2.1).2
  · rw [sgR_n z] at h
    obtain ⟨v, e, f⟩ := bd_i h
    cases f
    exact (sg_9 v (nmR_rng e).2.1).1
theorem lnWind_i {wn p0 : Nat} {F : Nat → Int32} {r : Nat × Nat × Int32 × Int32} (h : lnWind N B wn F p0 = .inr r) : wn ≠ 12 ∧ r.2.1 ≤ 167 ∧ (∀ i, i < wn → ¬ F i = nI r.2.1) ∧ (-9 ≤ r.2.2.1.toInt ∧ r.2.2.1.toInt ≤ 9) ∧ (-9 ≤ r.2.2.2.toInt ∧ r.2.2.2.toInt ≤ 9) := by
  obtain ⟨h1, h2⟩ := if_i h
  obtain ⟨hh, e1, h3⟩ := bd_i h2
  obtain ⟨h4, h5⟩ := if_i h3
  obtain ⟨a, e2, h6⟩ := bd_i h5
  obtain ⟨b, e3, h7⟩ := bd_i h6
  cases h7
  exact ⟨h1, (nmR_rng e1).2.1, fun i hi z => h4 (zdec_t.mpr ⟨i, hi, z⟩), sgR_i e2, sgR_i e3⟩
theorem lnIsle_i {n kd p0 : Nat} {I : zI} {r : Nat × (Nat → Int32)} (h : lnIsle N B n I kd p0 = .inr r) : n ≠ 6 ∧ rowK (fun _ => r.2) 0 := by
  obtain ⟨h1, h2⟩ := if_i h
  obtain ⟨x, e1, h3⟩ := bd_i h2
  obtain ⟨y, e2, h4⟩ := bd_i h3
  obtain ⟨h5, h6⟩ := if_i h4
  obtain ⟨ro, e3, h7⟩ := bd_i h6
  obtain ⟨li, e4, h8⟩ := bd_i h7
  obtain ⟨si, e5, h9⟩ := bd_i h8
  obtain ⟨pe, e6, h10⟩ := bd_i h9
  obtain ⟨lo, e7, h11⟩ := bd_i h10
  obtain ⟨go, e8, h12⟩ := bd_i h11
  cases h12
  have a := nmR_rng e3
  have b := nmR_rng e8
  refine ⟨h1, ?_⟩
  unfold rowK
  show 1 ≤ (nI ro).toInt ∧ (nI ro).toInt ≤ 60 ∧ 0 ≤ (0 : Int32).toInt ∧ (0 : Int32).toInt ≤ 60 ∧ 0 ≤ (nI go).toInt ∧ (nI go).toInt ≤ 9
  rw [n_i (by omega), n_i (by omega), i_0]; omega
theorem lnGus_i {p0 : Nat} {r : Nat × (Nat → Int32)} (h : lnGus N B p0 = .inr r) : (∀ j, j < 4 → 0 ≤ (r.2 j).toInt ∧ (r.2 j).toInt ≤ 9) ∧ 1 ≤ (r.2 0).toInt + (r.2 1).toInt + (r.2 2).toInt + (r.2 3).toInt := by
  obtain ⟨a, e1, h1⟩ := bd_i h
  obtain ⟨b, e2, h2⟩ := bd_i h1
  obtain ⟨c, e3, h3⟩ := bd_i h2
  obtain ⟨e, e4, h4⟩ := bd_i h3
  obtain ⟨h5, h6⟩ := if_i h4
  cases h6
  have ra := nmR_rng e1
  have rb := nmR_rng e2
  have rc := nmR_rng e3
  have re := nmR_rng e4
  have za : (nI a).toInt = a := n_i (by omega)
  have zb : (nI b).toInt = b := n_i (by omega)
  have zc : (nI c).toInt = c := n_i (by omega)
  have ze : (nI e).toInt = e := n_i (by omega)
  refine ⟨fun j hj => ?_, ?_⟩
  · match j, hj with
    | 0, _ => show 0 ≤ (nI a).toInt ∧ (nI a).toInt ≤ 9; omega
    | 1, _ => show 0 ≤ (nI b).toInt ∧ (nI b).toInt ≤ 9; omega
    | 2, _ => show 0 ≤ (nI c).toInt ∧ (nI c).toInt ≤ 9; omega
    | 3, _ => show 0 ≤ (nI e).toInt ∧ (nI e).toInt ≤ 9; omega
    | j + 4, hj => omega
  · show 1 ≤ (nI a).toInt + (nI b).toInt + (nI c).toInt + (nI e).toInt
    omega
theorem lnPus_i {p0 p' k : Nat} {T : Nat → Int32} (hN : N ≤ 700) (hp : p0 ≤ N) (h : lnPus N B p0 = .inr (p', k, T)) : k ≤ 700 ∧ wfS T k 0 0 := by
  have g := gd_E (N := N) (B := B) 6 _ _ _ _ _ _ (tkN_le hp).2 h
  obtain ⟨g1, g2, g3, g4, g5, g6⟩ := g
  have w := g6 0 (by omega)
  exact ⟨by omega, by have := wfH.S (by omega) _ _ _ w; simpa using this⟩
theorem fl_b : ∀ f, f < 32 → ∀ i, i < 5 → ¬ f.testBit i = true → f + 2 ^ i < 32 ∧ (∀ j, j < 5 → (f + 2 ^ i).testBit j = (decide (j = i) || f.testBit j)) := by decide +kernel
theorem SgM.isle {σ : zS} {R : Nat → Int32} (h : SgM σ) (h1 : σ.2.1.1 ≠ 6) (h2 : rowK (fun _ => R) 0) : SgM (σ.1, iAdd σ.2.1 R, σ.2.2) := by
  obtain ⟨a, ⟨b1, b2⟩, c⟩ := h
  refine ⟨a, ⟨by show σ.2.1.1 + 1 ≤ 6; omega, fun i hi => ?_⟩, c⟩
  have hi' : i < σ.2.1.1 + 1 := hi
  by_cases z : i = σ.2.1.1
  · have e : (iAdd σ.2.1 R).2 i = R := if_pos z
    unfold rowK at *
    rw [e]; exact h2
  · have e : (iAdd σ.2.1 R).2 i = σ.2.1.2 i := if_neg z
    have := b2 i (by omega)
    unfold rowK at *
    rw [e]; exact this
theorem SgM.wind {σ : zS} {r : Nat × Int32 × Int32} (h : SgM σ) (h1 : σ.2.2.1.1 ≠ 12) (h2 : r.1 ≤ 167) (h3 : ∀ i, i < σ.2.2.1.1 → ¬ σ.2.2.1.2.1 i = nI r.1) (h4 : -9 ≤ r.2.1.toInt ∧ r.2.1.toInt ≤ 9) (h5 : -9 ≤ r.2.2.toInt ∧ r.2.2.toInt ≤ 9) : SgM (σ.1, σ.2.1, wAdd σ.2.2.1 r, σ.2.2.2) := by
  obtain ⟨a, b, ⟨c1, ⟨c2, c3⟩, c4⟩, d⟩ := h
  refine ⟨a, b, ⟨by show σ.2.2.1.1 + 1 ≤ 12; omega, ⟨fun j hj => ?_, fun i j hi hj e => ?_⟩, fun j hj => ?_⟩, d⟩
  · have hj' : j < σ.2.2.1.1 + 1 := hj
    show 0 ≤ (upd σ.2.2.1.2.1 σ.2.2.1.1 (nI r.1) j).toInt
    by_cases z : j = σ.2.2.1.1
    · rw [z, upd_s, n_i (by omega)]; omega
    · rw [upd_n z]; exact c2 j (by omega)
  · have hi' : i < σ.2.2.1.1 + 1 := hi
    have hj' : j < σ.2.2.1.1 + 1 := hj
    have e' : upd σ.2.2.1.2.1 σ.2.2.1.1 (nI r.1) i = upd σ.2.2.1.2.1 σ.2.2.1.1 (nI r.1) j := e
    by_cases z : i = σ.2.2.1.1 <;> by_cases y : j = σ.2.2.1.1
    · omega
    · rw [z, upd_s, upd_n y] at e'
      exact absurd e'.symm (h3 j (by omega))
    · rw [y, upd_s, upd_n z] at e'
      exact absurd e' (h3 i (by omega))
    · rw [upd_n z, upd_n y] at e'
      exact c3 i j (by omega) (by omega) e'
  · have hj' : j < σ.2.2.1.1 + 1 := hj
    show (-9 ≤ (upd σ.2.2.1.2.2.1 σ.2.2.1.1 r.2.1 j).toInt ∧ (upd σ.2.2.1.2.2.1 σ.2.2.1.1 r.2.1 j).toInt ≤ 9) ∧ (-9 ≤ (upd σ.2.2.1.2.2.2.1 σ.2.2.1.1 r.2.2 j).toInt ∧ (upd σ.2.2.1.2.2.2.1 σ.2.2.1.1 r.2.2 j).toInt ≤ 9)
    by_cases z : j = σ.2.2.1.1
    · rw [z, upd_s, upd_s]; exact ⟨h4, h5⟩
    · rw [upd_n z, upd_n z]; exact c4 j (by omega)
/-- the other words: seen now -/
theorem SgM.seen {σ : zS} {i : Nat} {D : Nat → Int32} (h : SgM σ) (hi : i < 4) (hb : ¬ σ.1.testBit i = true) (hD : DM D) : SgM (σ.1 + 2 ^ i, σ.2.1, σ.2.2.1, D) := by
  obtain ⟨a, b, c, d, e1, e2, e3⟩ := h
  obtain ⟨f1, f2⟩ := fl_b σ.1 a i (by omega) hb
  refine ⟨f1, b, c, hD, e1, e2, fun z => e3 fun w => z ?_⟩
  show (σ.1 + 2 ^ i).testBit 4 = true
  rw [f2 4 (by omega), w, Bool.or_true]
theorem SgM.K {σ σ' : zS} {p p' kd : Nat} (hN : N ≤ 700) (hp : p ≤ N) (h : SgM σ) (e : lnK N B σ p kd = .inr (p', σ')) : SgM σ' := by
  have gI : ∀ kd, bd (lnIsle N B σ.2.1.1 σ.2.1.2 kd p) (fun r => .inr (r.1, σ.1, iAdd σ.2.1 r.2, σ.2.2)) = (.inr (p', σ') : (Nat × Nat) ⊕ (Nat × zS)) → SgM σ' := by
    intro kd e
    obtain ⟨r, e1, e2⟩ := bd_i e
    cases e2
    have q := lnIsle_i e1
    exact h.isle q.1 q.2
  obtain ⟨d1, d2, d3, d4, d5, d6⟩ := h.2.2.2.1
  match kd, e with
  | 0, e => exact gI 0 e
  | 1, e => exact gI 1 e
  | 2, e => exact gI 2 e
  | 3, e =>
    obtain ⟨r, e1, e2⟩ := bd_i e
    cases e2
    obtain ⟨q1, q2, q3, q4, q5⟩ := lnWind_i e1
    exact h.wind q1 q2 q3 q4 q5
  | 4, e =>
    obtain ⟨hb, e0⟩ := if_i e
    obtain ⟨r, e1, e2⟩ := bd_i e0
    cases e2
    exact h.seen (i := 0) (by omega) hb ⟨d1, d2, d3, d4, fun j hj => by rw [upd_n (by omega)]; exact d5 j hj, d6⟩
  | 5, e =>
    obtain ⟨hb, e0⟩ := if_i e
    obtain ⟨r, e1, e2⟩ := bd_i e0
    cases e2
    obtain ⟨q1, q2⟩ := lnGus_i e1
    refine h.seen (i := 1) (by omega) hb ⟨d1, d2, d3, d4, fun j hj => ?_, q2⟩
    have : gAdd σ.2.2.2 r.2 (5 + j) = r.2 j := by
      unfold gAdd
      rw [if_pos (by omega), show 5 + j - 5 = j by omega]
    rw [this]; exact q1 j hj
  | 6, e =>
    obtain ⟨hb, e0⟩ := if_i e
    obtain ⟨r, e1, e2⟩ := bd_i e0
    cases e2
    obtain ⟨v, e3, e4⟩ := bd_i e1
    cases e4
    have q := nmR_rng e3
    have z : (nI v).toInt = v := n_i (by omega)
    exact h.seen (i := 2) (by omega) hb ⟨by show 0 ≤ (nI v).toInt; omega, by show (nI v).toInt ≤ 20; omega, d3, d4, fun j hj => by rw [upd_n (by omega)]; exact d5 j hj, d6⟩
  | 7, e =>
    obtain ⟨hb, e0⟩ := if_i e
    obtain ⟨r, e1, e2⟩ := bd_i e0
    cases e2
    obtain ⟨v, e3, e4⟩ := bd_i e1
    cases e4
    have q := nmR_rng e3
    have z : (nI v).toInt = v := n_i (by omega)
    exact h.seen (i := 3) (by omega) hb ⟨d1, d2, by show 0 ≤ (nI v).toInt; omega, by show (nI v).toInt ≤ 24; omega, fun j hj => by rw [upd_n (by omega)]; exact d5 j hj, d6⟩
  | 8, e =>
    obtain ⟨hb, e0⟩ := if_i e
    obtain ⟨⟨p1, k, T⟩, e1, e2⟩ := bd_i e0
    cases e2
    have q := lnPus_i hN hp e1
    obtain ⟨f1, f2⟩ := fl_b σ.1 h.1 4 (by omega) hb
    refine ⟨f1, h.2.1, h.2.2.1, h.2.2.2.1, q.1, Or.inr q.2, fun z => absurd ?_ z⟩
    show (σ.1 + 2 ^ 4).testBit 4 = true
    rw [f2 4 (by omega)]; rfl
  | kd + 9, e => exact gI (kd + 9) e
theorem SgM.line {σ σ' : zS} {p p' : Nat} (hN : N ≤ 700) (hp : p ≤ N) (h : SgM σ) (e : lnLine N B σ p = .inr (p', σ')) : SgM σ' := h.K hN hp (if_i e).2
end Stt
