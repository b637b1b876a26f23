/-! TOKENS: a text of N bytes B -/
def sB (b : Nat) : Int32 := (nI b).toInt8.toInt32
def bB (b : Nat) : Bool := decide (b = 32 ∨ b = 10)
def bL (b : Nat) : Bool := decide (97 ≤ b ∧ b ≤ 122)
def bD (b : Nat) : Bool := decide (48 ≤ b ∧ b ≤ 57)
def bM (b : Nat) : Bool := decide (b = 59 ∨ b = 40 ∨ b = 41 ∨ b = 43 ∨ b = 45 ∨ b = 42 ∨ b = 47 ∨ b = 60 ∨ b = 61)
theorem bM_t {b : Nat} : bM b = true ↔ zmkB b := decide_eq_true_iff
theorem sb_f : ∀ b, b < 256 → ((sB b = 32 ∨ sB b = 10) ↔ bB b = true) ∧ ((¬ sB b < 97 ∧ ¬ 122 < sB b) ↔ bL b = true) ∧ ((¬ sB b < 48 ∧ ¬ 57 < sB b) ↔ bD b = true) ∧ ((sB b &&& 255).toUInt32 % 65536).toInt32 = nI b ∧ (b < 128 → sB b = nI b) ∧ (¬ b < 128 → sB b < 0) := by decide +kernel
def zrn (P : Nat → Bool) (B : Nat → Nat) : Nat → Nat → Nat
  | 0, p => p
  | m + 1, p => if P (B p) = true then zrn P B m (p + 1) else p
theorem zrn_le {P : Nat → Bool} {B : Nat → Nat} : ∀ m p, p ≤ zrn P B m p ∧ zrn P B m p ≤ p + m
  | 0, p => ⟨Nat.le_refl _, Nat.le_refl _⟩
  | m + 1, p => by
    unfold zrn
    split
    · have := zrn_le (P := P) (B := B) m (p + 1); omega
    · omega
def tkS (N : Nat) (B : Nat → Nat) (p : Nat) : Nat := zrn bB B (N - p) p
def tkK (N : Nat) (B : Nat → Nat) (p : Nat) : Nat := if N ≤ p then 0 else if bL (B p) = true then 1 else if bD (B p) = true then 2 else if bM (B p) = true then 3 else 4
def tkE (N : Nat) (B : Nat → Nat) (p : Nat) : Nat := if N ≤ p then p else if bL (B p) = true then zrn bL B (N - p) p else if bD (B p) = true then zrn bD B (N - p) p else p + 1
def tkN (N : Nat) (B : Nat → Nat) (p : Nat) : Nat := tkS N B (tkE N B p)
def tkV (B : Nat → Nat) (p : Nat) : Nat → Nat
  | 0 => 0
  | t + 1 => 10 * tkV B p t + (B (p + t) - 48)
def tkC (N : Nat) (B : Nat → Nat) (p : Nat) : Int32 := if N ≤ p then 0 else if bL (B p) = true then 1 else if bD (B p) = true then 2 else if bM (B p) = true then nI (B p) else 3
section Tok
variable {N p e : Nat} {B : Nat → Nat}
theorem tkS_le (h : e ≤ N) : e ≤ tkS N B e ∧ tkS N B e ≤ N := by
  have := zrn_le (P := bB) (B := B) (N - e) e
  unfold tkS; omega
theorem tkE_le (h : p ≤ N) : p ≤ tkE N B p ∧ tkE N B p ≤ N := by
  have h1 := zrn_le (P := bL) (B := B) (N - p) p
  have h2 := zrn_le (P := bD) (B := B) (N - p) p
  unfold tkE
  split
  · omega
  · split
    · omega
    · split <;> omega
theorem zrn_1 {P : Nat → Bool} (h : p < N) (hP : P (B p) = true) : p + 1 ≤ zrn P B (N - p) p := by
  rw [show N - p = (N - p - 1) + 1 by omega]
  unfold zrn
  rw [if_pos hP]
  exact (zrn_le (P := P) (B := B) (N - p - 1) (p + 1)).1
theorem tkE_lt (h : p < N) : p < tkE N B p := by
  unfold tkE
  rw [if_neg (by omega)]
  split
  · rename_i q; exact zrn_1 h q
  · split
    · rename_i q; exact zrn_1 h q
    · omega
theorem tkN_le (h : p ≤ N) : p ≤ tkN N B p ∧ tkN N B p ≤ N := by
  have h1 := tkE_le (N := N) (B := B) h
  have h2 := tkS_le (N := N) (B := B) h1.2
  unfold tkN; omega
theorem tkN_lt (h : p < N) : p < tkN N B p := by
  have h1 := tkE_le (N := N) (B := B) (p := p) (by omega)
  have h2 := tkS_le (N := N) (B := B) h1.2
  have h3 := tkE_lt (N := N) (B := B) h
  unfold tkN; omega
theorem tkK_c (h : p < N) : tkK N B p ≠ 0 := by
  unfold tkK
  rw [if_neg (by omega)]
  split
  · omega
  · split
    · omega
    · split <;> omega
theorem tkK_lt (h : tkK N B p ≠ 0) : p < N := by
  unfold tkK at h
  by_cases q : N ≤ p
  · rw [if_pos q] at h; exact absurd rfl h
  · omega
theorem tkV_lt {t : Nat} (hd : ∀ j, j < t → bD (B (p + j)) = true) : tkV B p t < 10 ^ t := by
  induction t with
  | zero => show (0 : Nat) < 1; omega
  | succ t ih =>
    have h1 := ih (fun j hj => hd j (by omega))
    have h2 := of_decide_eq_true (hd t (by omega))
    show 10 * tkV B p t + (B (p + t) - 48) < 10 ^ (t + 1)
    rw [Nat.pow_succ]; omega
/-- digits as far as they go -/
theorem zrn_all {P : Nat → Bool} : ∀ (m p j : Nat), p ≤ j → j < zrn P B m p → P (B j) = true
  | 0, p, j, h1, h2 => by
    have : zrn P B 0 p = p := rfl
    omega
  | m + 1, p, j, h1, h2 => by
    unfold zrn at h2
    by_cases q : P (B p) = true
    · rw [if_pos q] at h2
      by_cases e : j = p
      · rw [e]; exact q
      · exact zrn_all m (p + 1) j (by omega) h2
    · rw [if_neg q] at h2; omega
theorem zrn_go {P : Nat → Bool} (h : p < N) (q : P (B p) = true) : zrn P B (N - p) p = zrn P B (N - (p + 1)) (p + 1) := by
  rw [show N - p = (N - (p + 1)) + 1 by omega]
  show (if P (B p) = true then zrn P B (N - (p + 1)) (p + 1) else p) = _
  rw [if_pos q]
theorem zrn_st {P : Nat → Bool} (h : p < N) (q : ¬ P (B p) = true) : zrn P B (N - p) p = p := by
  rw [show N - p = (N - (p + 1)) + 1 by omega]
  show (if P (B p) = true then zrn P B (N - (p + 1)) (p + 1) else p) = _
  rw [if_neg q]
theorem zrn_en {P : Nat → Bool} (h : N ≤ p) : zrn P B (N - p) p = p := by
  rw [show N - p = 0 by omega]; rfl
end Tok
/-! the class's tokens: cells 3, 4 -/
def TxC (μ : zMem) (N : Nat) (B : Nat → Nat) : Prop := N ≤ 700 ∧ (∀ j, j < N → B j < 256) ∧ μ 3 1 = nI N ∧ ∀ j, j < N → μ 4 j = sB (B j)
def TkC (μ : zMem) (N : Nat) (B : Nat → Nat) (p : Nat) : Prop := p ≤ N ∧ μ 3 3 = nI p ∧ μ 3 2 = nI (tkE N B p) ∧ μ 3 4 = tkC N B p ∧ (tkK N B p = 2 → μ 3 5 = if tkE N B p - p ≤ 4 then nI (tkV B p (tkE N B p - p)) else 10000)
def zStp (c j : Nat) : Prop := c = 3 ∧ 2 ≤ j
theorem TxC.go {μ μ' : zMem} {N : Nat} {B : Nat → Nat} (h : TxC μ N B) (f : Fr zStp μ μ') : TxC μ' N B :=
  ⟨h.1, h.2.1, by rw [f _ _ (by unfold zStp; omega)]; exact h.2.2.1, fun j hj => by rw [f _ _ (by unfold zStp; omega)]; exact h.2.2.2 j hj⟩
theorem TxC.e {μ μ' : zMem} {N : Nat} {B : Nat → Nat} (h : TxC μ N B) (e1 : μ' 3 1 = μ 3 1) (e2 : ∀ j, μ' 4 j = μ 4 j) : TxC μ' N B :=
  ⟨h.1, h.2.1, by rw [e1]; exact h.2.2.1, fun j hj => by rw [e2]; exact h.2.2.2 j hj⟩
theorem TkC.e {μ μ' : zMem} {N : Nat} {B : Nat → Nat} {p : Nat} (h : TkC μ N B p) (e : ∀ j, μ' 3 j = μ 3 j) : TkC μ' N B p :=
  ⟨h.1, by rw [e]; exact h.2.1, by rw [e]; exact h.2.2.1, by rw [e]; exact h.2.2.2.1, fun z => by rw [e]; exact h.2.2.2.2 z⟩
section TokC
variable {d : Nat} {μ : zMem} {KI : Int32 → zMem → Prop} {KV : zMem → Prop} {X : Nat → zMem → Prop} {N : Nat} {B : Nat → Nat}
theorem L_word {p : Nat} {μ0 : zMem} (hx : TxC μ0 N B) : ∀ (m e : Nat) (μ : zMem), e + m = N → Fr zStp μ0 μ → μ 3 2 = nI e → μ 3 4 = 1 → μ 3 3 = nI p →
    (∀ μ', Fr zStp μ0 μ' → μ' 3 2 = nI (zrn bL B (N - e) e) → μ' 3 4 = 1 → μ' 3 3 = nI p → KV μ') → pX6_takeWord_5 (m + 1) d 3 μ KV X := by
  intro m
  induction m with
  | zero =>
    intro e μ he hf h2 h4 h3 hK
    have := hx.1
    have c := (hx.go hf).2.2.1
    refine ⟨fun _ => hK μ hf ?_ h4 h3, fun z => absurd (by rw [c, h2]; exact (n_le (by omega) (by omega)).mpr (by omega)) z⟩
    rw [h2, zrn_en (by omega)]
  | succ m ih =>
    intro e μ he hf h2 h4 h3 hK
    have hN := hx.1
    obtain ⟨_, hb, c, ht⟩ := hx.go hf
    have ht' : μ (3 + 1) e = sB (B e) := ht e (by omega)
    obtain ⟨_, s2, _⟩ := sb_f (B e) (hb e (by omega))
    refine ⟨fun z => absurd z (by rw [c, h2, n_le (by omega) (by omega)]; omega), fun _ => ?_⟩
    rw [h2, tN_nI (by omega), ht']
    have stop : ¬ bL (B e) = true → KV μ := fun q => hK μ hf (by rw [h2, zrn_st (by omega) q]) h4 h3
    refine ⟨vin (by omega), fun z => stop fun q => (s2.mpr q).1 z, fun z => ⟨vin (by omega), fun z2 => stop fun q => (s2.mpr q).2 z2, fun z2 m1 e1 => ?_⟩⟩
    rw [nI_1] at e1
    have q := s2.mp ⟨z, z2⟩
    refine ih (e + 1) m1 (by omega) (hf.tr (by rw [e1]; exact Fr.w ⟨rfl, by omega⟩)) (by rw [e1, zw_s]) (by rw [e1, zw_j (by omega)]; exact h4) (by rw [e1, zw_j (by omega)]; exact h3) (fun μ' f' k2 k4 k3 => hK μ' f' ?_ k4 k3)
    rw [k2, zrn_go (by omega) q]
theorem L_numC {p : Nat} {μ0 : zMem} (hx : TxC μ0 N B) : ∀ (m e : Nat) (μ : zMem), e + m = N → p ≤ e → (∀ j, p ≤ j → j < e → bD (B j) = true) → Fr zStp μ0 μ → μ 3 2 = nI e → μ 3 4 = 2 → μ 3 3 = nI p → (μ 3 5 = if e - p ≤ 4 then nI (tkV B p (e - p)) else 10000) →
    (∀ μ', Fr zStp μ0 μ' → μ' 3 2 = nI (zrn bD B (N - e) e) → μ' 3 4 = 2 → μ' 3 3 = nI p → (μ' 3 5 = if zrn bD B (N - e) e - p ≤ 4 then nI (tkV B p (zrn bD B (N - e) e - p)) else 10000) → KV μ') → pX6_takeNumber_10 (m + 1) d 3 μ KV X := by
  intro m
  induction m with
  | zero =>
    intro e μ he hp hd hf h2 h4 h3 h5 hK
    have := hx.1
    have c := (hx.go hf).2.2.1
    refine ⟨fun _ => hK μ hf ?_ h4 h3 ?_, fun z => absurd (by rw [c, h2]; exact (n_le (by omega) (by omega)).mpr (by omega)) z⟩
    · rw [h2, zrn_en (by omega)]
    · rw [h5, zrn_en (by omega)]
  | succ m ih =>
    intro e μ he hp hd hf h2 h4 h3 h5 hK
    have hN := hx.1
    obtain ⟨_, hb, c, ht⟩ := hx.go hf
    have ht' : μ (3 + 1) e = sB (B e) := ht e (by omega)
    obtain ⟨_, _, s2, _, s5, _⟩ := sb_f (B e) (hb e (by omega))
    refine ⟨fun z => absurd z (by rw [c, h2, n_le (by omega) (by omega)]; omega), fun _ => ?_⟩
    rw [h2, tN_nI (by omega), ht']
    have stop : ¬ bD (B e) = true → KV μ := fun q => hK μ hf (by rw [h2, zrn_st (by omega) q]) h4 h3 (by rw [h5, zrn_st (by omega) q])
    have go : bD (B e) = true → ∀ y, y = (if e + 1 - p ≤ 4 then nI (tkV B p (e + 1 - p)) else 10000) → pX6_takeNumber_89 d 3 y μ KV X (fun m9 => pX6_takeNumber_10 (m + 1) d 3 m9 KV X) := by
      intro q y ey m1 e1 m2 e2
      have e12 : m1 3 2 = nI e := by rw [e1, zw_j (by omega)]; exact h2
      rw [e12, nI_1] at e2
      refine ih (e + 1) m2 (by omega) (by omega) (fun j h1 h2 => ?_) (hf.tr (Fr.tr (μ1 := m1) (by rw [e1]; exact Fr.w ⟨rfl, by omega⟩) (by rw [e2]; exact Fr.w ⟨rfl, by omega⟩))) (by rw [e2, zw_s]) (by rw [e2, zw_j (by omega), e1, zw_j (by omega)]; exact h4) (by rw [e2, zw_j (by omega), e1, zw_j (by omega)]; exact h3) (by rw [e2, zw_j (by omega), e1, zw_s]; exact ey) (fun μ' f' k2 k4 k3 k5 => hK μ' f' ?_ k4 k3 ?_)
      · by_cases y : j = e
        · rw [y]; exact q
        · exact hd j h1 (by omega)
      · rw [k2, zrn_go (by omega) q]
      · rw [k5, zrn_go (by omega) q]
    refine ⟨vin (by omega), fun z => stop fun q => (s2.mpr q).1 z, fun z => ⟨vin (by omega), fun z2 => stop fun q => (s2.mpr q).2 z2, fun z2 => ?_⟩⟩
    have q := s2.mp ⟨z, z2⟩
    have q' := of_decide_eq_true q
    rw [h3, pk_sub hp, show (4 : Int32) = nI 4 from rfl, n_le (by omega) (by omega)]
    refine ⟨fun z3 => go q _ (by rw [if_neg (by omega)]), fun z3 => ⟨vin (by omega), go q _ ?_⟩⟩
    have lt := tkV_lt (B := B) (p := p) (t := e - p) (fun j hj => hd (p + j) (by omega) (by omega))
    have l4 : 10 ^ (e - p) ≤ 10 ^ 3 := Nat.pow_le_pow_right (by omega) (by omega)
    rw [h5, if_pos (by omega), if_pos (by omega), s5 (by omega), show e + 1 - p = (e - p) + 1 by omega]
    show nI (tkV B p (e - p)) * 10 + nI (B e) - 48 = nI (10 * tkV B p (e - p) + (B (p + (e - p)) - 48))
    rw [show (10 : Int32) = nI 10 from rfl, pk_mul, nI_add, show (48 : Int32) = nI 48 from rfl, pk_sub (by omega), show p + (e - p) = e by omega]
    congr 1; omega
theorem C_stepE {p : Nat} {μ0 : zMem} (hx : TxC μ0 N B) (hp : p ≤ N) (hf : Fr zStp μ0 μ) (h3 : μ 3 3 = nI p) (hK : ∀ μ', Fr zStp μ0 μ' → TkC μ' N B p → KV μ') : pX6_step_60 (d + 4) 3 μ KV X := by
  intro m1 e1
  rw [h3] at e1
  have hN := hx.1
  have f1 : Fr zStp μ0 m1 := hf.tr (by rw [e1]; exact Fr.w ⟨rfl, by omega⟩)
  obtain ⟨_, hb, c, ht⟩ := hx.go f1
  have k3 : m1 3 3 = nI p := by rw [e1, zw_j (by omega)]; exact h3
  have k2 : m1 3 2 = nI p := by rw [e1, zw_s]
  rw [k3, c, n_lt (by omega) (by omega), tN_nI (by omega)]
  refine ⟨fun lt => ?_, fun ge m3 e3 => ?_⟩
  · have ht' : m1 (3 + 1) p = sB (B p) := ht p lt
    obtain ⟨_, sL, sD, sC, s5, s6⟩ := sb_f (B p) (hb p lt)
    rw [ht']
    have v := vin (n := p) (N := 700) (by omega)
    -- a sign, or nothing of the kind
    have oth : ¬ bL (B p) = true → ¬ bD (B p) = true → pX6_step_157 (d + 4) 3 m1 KV X := by
      intro nL nD
      unfold pX6_step_157
      rw [k3, tN_nI (by omega), ht', sC]
      have fin : ∀ y m2, y = tkC N B p → Fr zStp μ0 m2 → m2 3 3 = nI p → pX6_step_193 (d + 4) 3 y m2 KV X := by
        intro y m2 ey f2 k m3 e3 m4 e4
        have e33 : m3 3 3 = nI p := by rw [e3, zw_j (by omega)]; exact k
        rw [e33, nI_1] at e4
        refine hK m4 (f2.tr (Fr.tr (μ1 := m3) (by rw [e3]; exact Fr.w ⟨rfl, by omega⟩) (by rw [e4]; exact Fr.w ⟨rfl, by omega⟩))) ⟨hp, by rw [e4, zw_j (by omega)]; exact e33, ?_, ?_, fun z => ?_⟩
        · rw [e4, zw_s]; unfold tkE; rw [if_neg (by omega), if_neg nL, if_neg nD]
        · rw [e4, zw_j (by omega), e3, zw_s]; exact ey
        · unfold tkK at z
          rw [if_neg (by omega), if_neg nL, if_neg nD] at z
          split at z <;> omega
      refine ⟨v, C_indexOf (hb p lt) (fun nm => ⟨fun _ => fin 3 m1 ?_ f1 k3, fun z => absurd (by decide) z⟩) (fun im j hj => ⟨fun z => absurd z (nI_pos (by omega)), fun _ => ?_⟩)⟩
      · unfold tkC
        rw [if_neg (by omega), if_neg nL, if_neg nD, if_neg (fun z => nm (bM_t.mp z))]
      · rw [k3, tN_nI (by omega), ht']
        refine ⟨v, fin _ m1 ?_ f1 k3⟩
        unfold tkC
        rw [if_neg (by omega), if_neg nL, if_neg nD, if_pos (bM_t.mpr im)]
        exact s5 (by unfold zmkB at im; omega)
    have num : ¬ bL (B p) = true → pX6_step_122 (d + 4) 3 m1 KV X := by
      intro nL
      unfold pX6_step_122
      rw [k3, tN_nI (by omega), ht']
      refine ⟨v, fun z => oth nL fun q => (sD.mpr q).1 z, fun z => ⟨v, fun z2 => oth nL fun q => (sD.mpr q).2 z2, fun z2 => ?_⟩⟩
      have q := sD.mp ⟨z, z2⟩
      refine cX6_takeNumber_ (by decide +kernel) (fun m2 e2 m3 e3 => ⟨N - p + 1, ?_⟩)
      have f3 : Fr zStp μ0 m3 := f1.tr (Fr.tr (μ1 := m2) (by rw [e2]; exact Fr.w ⟨rfl, by omega⟩) (by rw [e3]; exact Fr.w ⟨rfl, by omega⟩))
      refine L_numC hx (N - p) p m3 (by omega) (Nat.le_refl _) (fun j h1 h2 => by omega) f3 (by rw [e3, zw_j (by omega), e2, zw_j (by omega)]; exact k2) (by rw [e3, zw_j (by omega), e2, zw_s]) (by rw [e3, zw_j (by omega), e2, zw_j (by omega)]; exact k3) (by rw [e3, zw_s, Nat.sub_self]; rfl) (fun μ' f' g2 g4 g3 g5 => hK μ' f' ?_)
      have eE : tkE N B p = zrn bD B (N - p) p := by unfold tkE; rw [if_neg (by omega), if_neg nL, if_pos q]
      refine ⟨hp, g3, by rw [g2, eE], ?_, fun _ => by rw [g5, eE]⟩
      rw [g4]; unfold tkC; rw [if_neg (by omega), if_neg nL, if_pos q]
    refine ⟨v, fun z => num fun q => (sL.mpr q).1 z, fun z => ⟨v, fun z2 => num fun q => (sL.mpr q).2 z2, fun z2 => ?_⟩⟩
    have q := sL.mp ⟨z, z2⟩
    refine cX6_takeWord_ (by decide +kernel) (fun m2 e2 => ⟨N - p + 1, ?_⟩)
    have f2 : Fr zStp μ0 m2 := f1.tr (by rw [e2]; exact Fr.w ⟨rfl, by omega⟩)
    refine L_word (p := p) hx (N - p) p m2 (by omega) f2 (by rw [e2, zw_j (by omega)]; exact k2) (by rw [e2, zw_s]) (by rw [e2, zw_j (by omega)]; exact k3) (fun μ' f' g2 g4 g3 => hK μ' f' ?_)
    have eE : tkE N B p = zrn bL B (N - p) p := by unfold tkE; rw [if_neg (by omega), if_pos q]
    refine ⟨hp, g3, by rw [g2, eE], ?_, fun z => ?_⟩
    · rw [g4]; unfold tkC; rw [if_neg (by omega), if_pos q]
    · unfold tkK at z
      rw [if_neg (by omega), if_pos q] at z; omega
  · refine hK m3 (f1.tr (by rw [e3]; exact Fr.w ⟨rfl, by omega⟩)) ⟨hp, by rw [e3, zw_j (by omega)]; exact k3, ?_, ?_, fun z => ?_⟩
    · rw [e3, zw_j (by omega), k2]; unfold tkE; rw [if_pos (by omega)]
    · rw [e3, zw_s]; unfold tkC; rw [if_pos (by omega)]
    · unfold tkK at z
      rw [if_pos (by omega)] at z; omega
theorem L_step8 {μ0 : zMem} (hx : TxC μ0 N B) : ∀ (m p : Nat) (μ : zMem), p + m = N → Fr zStp μ0 μ → μ 3 3 = nI p → (∀ μ', Fr zStp μ0 μ' → TkC μ' N B (zrn bB B (N - p) p) → KV μ') → pX6_step_8 (m + 1) (d + 4) 3 μ KV X := by
  intro m
  induction m with
  | zero =>
    intro p μ hp hf h3 hK
    have hN := hx.1
    have c := (hx.go hf).2.2.1
    refine ⟨fun _ => C_stepE hx (by omega) hf h3 (fun μ' f' t' => hK μ' f' ?_), fun z => absurd (by rw [c, h3]; exact (n_le (by omega) (by omega)).mpr (by omega)) z⟩
    rw [zrn_en (by omega)]; exact t'
  | succ m ih =>
    intro p μ hp hf h3 hK
    have hN := hx.1
    obtain ⟨_, hb, c, ht⟩ := hx.go hf
    have ht' : μ (3 + 1) p = sB (B p) := ht p (by omega)
    obtain ⟨sBl, _⟩ := sb_f (B p) (hb p (by omega))
    have v := vin (n := p) (N := 700) (by omega)
    have go : bB (B p) = true → pX6_step_47 (d + 4) 3 μ KV X (fun m9 => pX6_step_8 (m + 1) (d + 4) 3 m9 KV X) := by
      intro q m1 e1
      rw [h3, nI_1] at e1
      refine ih (p + 1) m1 (by omega) (hf.tr (by rw [e1]; exact Fr.w ⟨rfl, by omega⟩)) (by rw [e1, zw_s]) (fun μ' f' t' => hK μ' f' ?_)
      rw [zrn_go (by omega) q]; exact t'
    refine ⟨fun z => absurd z (by rw [c, h3, n_le (by omega) (by omega)]; omega), fun _ => ?_⟩
    rw [h3, tN_nI (by omega), ht']
    refine ⟨v, fun z => go (sBl.mp (Or.inl z)), fun z => ⟨v, fun z2 => go (sBl.mp (Or.inr z2)), fun z2 => C_stepE hx (by omega) hf h3 (fun μ' f' t' => hK μ' f' ?_)⟩⟩
    rw [zrn_st (by omega) (fun q => (sBl.mpr q).elim z z2)]; exact t'
theorem C_step {e : Nat} (hx : TxC μ N B) (he : e ≤ N) (h2 : μ 3 2 = nI e) (hK : ∀ μ', Fr zStp μ μ' → TkC μ' N B (tkS N B e) → KV μ') : zcV (d + 5) mX6_step [.ref 3] μ KV X := by
  refine cX6_step_ (by decide +kernel) (fun m1 e1 => ⟨N - e + 1, ?_⟩)
  rw [h2] at e1
  exact L_step8 hx (N - e) e m1 (by omega) (by rw [e1]; exact Fr.w ⟨rfl, by omega⟩) (by rw [e1, zw_s]) hK
theorem C_next {p : Nat} (hx : TxC μ N B) (h : TkC μ N B p) (hK : ∀ μ', Fr zStp μ μ' → TkC μ' N B (tkN N B p) → KV μ') : zcV (d + 5) mX6_step [.ref 3] μ KV X :=
  C_step hx (tkE_le h.1).2 h.2.2.1 hK
end TokC
