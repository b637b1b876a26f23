/-! the reference's tokens -/
def TxR (μ : zMem) (N : Nat) (B : Nat → Nat) : Prop := N ≤ 700 ∧ (∀ j, j < N → B j < 256) ∧ μ 106 14 = nI N ∧ ∀ j, j < N → μ 117 j = nI (B j)
def TkR (μ : zMem) (N : Nat) (B : Nat → Nat) (p : Nat) : Prop := p ≤ N ∧ μ 106 17 = nI p ∧ μ 106 13 = nI (tkE N B p) ∧ μ 106 18 = nI (tkE N B p) ∧ μ 106 15 = nI (tkK N B p) ∧ (tkK N B p = 2 → tkE N B p - p ≤ 4 → μ 106 16 = nI (tkV B p (tkE N B p - p)))
def zRs (c j : Nat) : Prop := c = 106 ∧ (j = 13 ∨ (15 ≤ j ∧ j ≤ 18))
theorem TxR.go {μ μ' : zMem} {N : Nat} {B : Nat → Nat} (h : TxR μ N B) (f : Fr zRs μ μ') : TxR μ' N B :=
  ⟨h.1, h.2.1, by rw [f _ _ (by unfold zRs; omega)]; exact h.2.2.1, fun j hj => by rw [f _ _ (by unfold zRs; omega)]; exact h.2.2.2 j hj⟩
section TokR
variable {d : Nat} {μ : zMem} {KI : Int32 → zMem → Prop} {KV : zMem → Prop} {X : Nat → zMem → Prop} {N : Nat} {B : Nat → Nat}
def byA (N : Nat) (B : Nat → Nat) (e : Nat) : Int32 := if e < N then nI (B e) else -1
theorem R_byteAt {e : Nat} {x : Int32} (ex : x = nI e) (hx : TxR μ N B) (he : e ≤ N) (h : KI (byA N B e) μ) : zcI (d + 1) mX9_byteAt [.ref 106, .int x] μ KI X := by
  subst ex
  have := hx.1
  refine cX9_byteAt_ ?_
  unfold pX9_byteAt byA at *
  rw [hx.2.2.1, n_le (by omega) (by omega), tN_nI (by omega)]
  refine ⟨fun z => ?_, fun z => ⟨vin (by omega), ?_⟩⟩
  · rw [if_neg (by omega)] at h; exact h
  · rw [if_pos (by omega)] at h
    rw [hx.2.2.2 e (by omega)]; exact h
theorem by_f (hb : ∀ j, j < N → B j < 256) {e : Nat} : (byA N B e = -1 ↔ N ≤ e) ∧ ((byA N B e = 32 ∨ byA N B e = 10) ↔ e < N ∧ bB (B e) = true) ∧ ((¬ byA N B e < 97 ∧ ¬ 122 < byA N B e) ↔ e < N ∧ bL (B e) = true) ∧ ((¬ byA N B e < 48 ∧ ¬ 57 < byA N B e) ↔ e < N ∧ bD (B e) = true) := by
  unfold byA
  by_cases q : e < N
  · have b := hb e q
    rw [if_pos q]
    have k : ∀ c, c < 256 → ((nI (B e) = nI c ↔ B e = c) ∧ (nI (B e) < nI c ↔ B e < c) ∧ (nI c < nI (B e) ↔ c < B e)) := fun c hc => ⟨n_eq (by omega) (by omega), n_lt (by omega) (by omega), n_lt (by omega) (by omega)⟩
    refine ⟨⟨fun z => absurd z (oI_n (by omega)), fun z => by omega⟩, ?_, ?_, ?_⟩
    · rw [show (32 : Int32) = nI 32 from rfl, show (10 : Int32) = nI 10 from rfl, (k 32 (by omega)).1, (k 10 (by omega)).1]
      exact ⟨fun z => ⟨q, decide_eq_true z⟩, fun z => of_decide_eq_true z.2⟩
    · rw [show (97 : Int32) = nI 97 from rfl, show (122 : Int32) = nI 122 from rfl, (k 97 (by omega)).2.1, (k 122 (by omega)).2.2]
      exact ⟨fun z => ⟨q, decide_eq_true (by omega)⟩, fun z => by have := of_decide_eq_true z.2; omega⟩
    · rw [show (48 : Int32) = nI 48 from rfl, show (57 : Int32) = nI 57 from rfl, (k 48 (by omega)).2.1, (k 57 (by omega)).2.2]
      exact ⟨fun z => ⟨q, decide_eq_true (by omega)⟩, fun z => by have := of_decide_eq_true z.2; omega⟩
  · rw [if_neg q]
    refine ⟨⟨fun _ => by omega, fun _ => rfl⟩, ⟨fun z => ?_, fun z => absurd z.1 q⟩, ⟨fun z => absurd (by decide) z.1, fun z => absurd z.1 q⟩, ⟨fun z => absurd (by decide) z.1, fun z => absurd z.1 q⟩⟩
    rcases z with z | z <;> exact absurd z (by decide)
theorem R_isLet {x : Int32} (h : KI (b2i (¬ x < 97 ∧ ¬ 122 < x)) μ) : zcI (d + 1) mX9_isLetter [.int x] μ KI X := by
  refine cX9_isLetter_ ?_
  unfold pX9_isLetter
  have e : (if x < 97 then (0 : Int32) else (if 122 < x then 0 else 1)) = b2i (¬ x < 97 ∧ ¬ 122 < x) := by
    unfold b2i
    by_cases h1 : x < 97 <;> by_cases h2 : 122 < x <;> simp [h1, h2]
  rw [e]; exact h
theorem R_isDig {x : Int32} (h : KI (b2i (¬ x < 48 ∧ ¬ 57 < x)) μ) : zcI (d + 1) mX9_isDigit [.int x] μ KI X := by
  refine cX9_isDigit_ ?_
  unfold pX9_isDigit
  have e : (if x < 48 then (0 : Int32) else (if 57 < x then 0 else 1)) = b2i (¬ x < 48 ∧ ¬ 57 < x) := by
    unfold b2i
    by_cases h1 : x < 48 <;> by_cases h2 : 57 < x <;> simp [h1, h2]
  rw [e]; exact h
theorem R_isMrk {b : Nat} (hb : b < 256) (h : KI (b2i (bM b = true)) μ) : zcI (d + 1) mX9_isMark [.int (nI b)] μ KI X := by
  refine cX9_isMark_ ?_
  unfold pX9_isMark
  have k : ∀ c, c < 256 → (nI b = nI c ↔ b = c) := fun c hc => n_eq (by omega) (by omega)
  have e : (if nI b = 59 then (1 : Int32) else (if nI b = 40 then 1 else (if nI b = 41 then 1 else (if nI b = 43 then 1 else (if nI b = 45 then 1 else (if nI b = 42 then 1 else (if nI b = 47 then 1 else (if nI b = 60 then 1 else (if nI b = 61 then 1 else 0))))))))) = b2i (bM b = true) := by
    have z : ∀ b, b < 256 → (if nI b = 59 then (1 : Int32) else (if nI b = 40 then 1 else (if nI b = 41 then 1 else (if nI b = 43 then 1 else (if nI b = 45 then 1 else (if nI b = 42 then 1 else (if nI b = 47 then 1 else (if nI b = 60 then 1 else (if nI b = 61 then 1 else 0))))))))) = b2i (bM b = true) := by decide +kernel
    exact z b hb
  rw [e]; exact h
theorem R_end {p e k : Nat} {μ0 : zMem} (hp : p ≤ N) (hf : Fr zRs μ0 μ) (k17 : μ 106 17 = nI p) (k13 : μ 106 13 = nI e) (k15 : μ 106 15 = nI k) (ee : e = tkE N B p) (ek : k = tkK N B p) (k16 : k = 2 → e - p ≤ 4 → μ 106 16 = nI (tkV B p (e - p))) (hK : ∀ μ', Fr zRs μ0 μ' → TkR μ' N B p → KV μ') : pX9_stepOn_212 d μ KV X := by
  intro m1 e1
  rw [k13] at e1
  subst ee ek
  refine hK m1 (hf.tr (by rw [e1]; exact Fr.w ⟨rfl, by omega⟩)) ⟨hp, by rw [e1, zw_j (by omega)]; exact k17, by rw [e1, zw_j (by omega)]; exact k13, by rw [e1, zw_s], by rw [e1, zw_j (by omega)]; exact k15, fun a b => by rw [e1, zw_j (by omega)]; exact k16 a b⟩
theorem L_s76 {p : Nat} {μ0 : zMem} (hx : TxR μ0 N B) (hp : p ≤ N) (eE : tkE N B p = zrn bL B (N - p) p) (eK : tkK N B p = 1) (hK : ∀ μ', Fr zRs μ0 μ' → TkR μ' N B p → KV μ') : ∀ (m e : Nat) (μ : zMem), e + m = N → zrn bL B (N - e) e = zrn bL B (N - p) p → Fr zRs μ0 μ → μ 106 17 = nI p → μ 106 13 = nI e → pX9_stepOn_76 (m + 1) (d + 1) μ KV X := by
  intro m
  induction m with
  | zero =>
    intro e μ he hz hf k17 k13
    have hx1 := hx.go hf
    refine R_byteAt k13 hx1 (by omega) (R_isLet (b2i_go (fun z m5 e5 => ?_) (fun z => absurd ((by_f hx.2.1).2.2.1.mp z).1 (by omega))))
    refine R_end hp (hf.tr (by rw [e5]; exact Fr.w ⟨rfl, by omega⟩)) (by rw [e5, zw_j (by omega)]; exact k17) (by rw [e5, zw_j (by omega)]; exact k13) (k := 1) (by rw [e5, zw_s]; rfl) (by rw [eE, ← hz, zrn_en (by omega)]) eK.symm (fun y => by omega) hK
  | succ m ih =>
    intro e μ he hz hf k17 k13
    have hx1 := hx.go hf
    refine R_byteAt k13 hx1 (by omega) (R_isLet (b2i_go (fun z m5 e5 => ?_) (fun z m6 e6 => ?_)))
    · have nq : ¬ bL (B e) = true := fun q => z ((by_f hx.2.1).2.2.1.mpr ⟨by omega, q⟩)
      refine R_end hp (hf.tr (by rw [e5]; exact Fr.w ⟨rfl, by omega⟩)) (by rw [e5, zw_j (by omega)]; exact k17) (by rw [e5, zw_j (by omega)]; exact k13) (k := 1) (by rw [e5, zw_s]; rfl) (by rw [eE, ← hz, zrn_st (by omega) nq]) eK.symm (fun y => by omega) hK
    · have q := ((by_f hx.2.1).2.2.1.mp z).2
      rw [k13, nI_1] at e6
      exact ih (e + 1) m6 (by omega) (by rw [← hz, zrn_go (by omega) q]) (hf.tr (by rw [e6]; exact Fr.w ⟨rfl, by omega⟩)) (by rw [e6, zw_j (by omega)]; exact k17) (by rw [e6, zw_s])
theorem L_s123 {p : Nat} {μ0 : zMem} (hx : TxR μ0 N B) (hp : p ≤ N) (eE : tkE N B p = zrn bD B (N - p) p) (eK : tkK N B p = 2) (hK : ∀ μ', Fr zRs μ0 μ' → TkR μ' N B p → KV μ') : ∀ (m e : Nat) (μ : zMem), e + m = N → p ≤ e → (∀ j, p ≤ j → j < e → bD (B j) = true) → zrn bD B (N - e) e = zrn bD B (N - p) p → Fr zRs μ0 μ → μ 106 17 = nI p → μ 106 13 = nI e → (e - p ≤ 4 → μ 106 16 = nI (tkV B p (e - p))) → pX9_stepOn_123 (m + 1) (d + 1) μ KV X := by
  intro m
  induction m with
  | zero =>
    intro e μ he hpe hd hz hf k17 k13 k16
    have hx1 := hx.go hf
    refine R_byteAt k13 hx1 (by omega) (R_isDig (b2i_go (fun z m5 e5 => ?_) (fun z => absurd ((by_f hx.2.1).2.2.2.mp z).1 (by omega))))
    refine R_end hp (hf.tr (by rw [e5]; exact Fr.w ⟨rfl, by omega⟩)) (by rw [e5, zw_j (by omega)]; exact k17) (by rw [e5, zw_j (by omega)]; exact k13) (k := 2) (by rw [e5, zw_s]; rfl) (by rw [eE, ← hz, zrn_en (by omega)]) eK.symm (fun _ y => by rw [e5, zw_j (by omega)]; exact k16 y) hK
  | succ m ih =>
    intro e μ he hpe hd hz hf k17 k13 k16
    have hx1 := hx.go hf
    refine R_byteAt k13 hx1 (by omega) (R_isDig (b2i_go (fun z m5 e5 => ?_) (fun z => R_byteAt k13 hx1 (by omega) (fun m8 e8 m9 e9 => ?_))))
    · have nq : ¬ bD (B e) = true := fun q => z ((by_f hx.2.1).2.2.2.mpr ⟨by omega, q⟩)
      refine R_end hp (hf.tr (by rw [e5]; exact Fr.w ⟨rfl, by omega⟩)) (by rw [e5, zw_j (by omega)]; exact k17) (by rw [e5, zw_j (by omega)]; exact k13) (k := 2) (by rw [e5, zw_s]; rfl) (by rw [eE, ← hz, zrn_st (by omega) nq]) eK.symm (fun _ y => by rw [e5, zw_j (by omega)]; exact k16 y) hK
    · have q := ((by_f hx.2.1).2.2.2.mp z).2
      have q' := of_decide_eq_true q
      have k8 : m8 106 13 = nI e := by rw [e8, zw_j (by omega)]; exact k13
      rw [k8, nI_1] at e9
      have hN := hx.1
      refine ih (e + 1) m9 (by omega) (by omega) (fun j h1 h2 => ?_) (by rw [← hz, zrn_go (by omega) q]) (hf.tr (Fr.tr (μ1 := m8) (by rw [e8]; exact Fr.w ⟨rfl, by omega⟩) (by rw [e9]; exact Fr.w ⟨rfl, by omega⟩))) (by rw [e9, zw_j (by omega), e8, zw_j (by omega)]; exact k17) (by rw [e9, zw_s]) (fun y => ?_)
      · by_cases y : j = e
        · rw [y]; exact q
        · exact hd j h1 (by omega)
      · have lt := tkV_lt (B := B) (p := p) (t := e - p) (fun j hj => hd (p + j) (by omega) (by omega))
        have l4 : 10 ^ (e - p) ≤ 10 ^ 3 := Nat.pow_le_pow_right (by omega) (by omega)
        rw [e9, zw_j (by omega), e8, zw_s, k16 (by omega), show e + 1 - p = (e - p) + 1 by omega]
        unfold byA
        rw [if_pos (by omega)]
        show zmin 100000 (10 * nI (tkV B p (e - p)) + nI (B e) - 48) = nI (10 * tkV B p (e - p) + (B (p + (e - p)) - 48))
        rw [show (10 : Int32) = nI 10 from rfl, pk_mul, nI_add, show (48 : Int32) = nI 48 from rfl, pk_sub (by omega), show p + (e - p) = e by omega, i_eq, zmin_i, n_i (by omega), n_i (by omega), show (100000 : Int32).toInt = 100000 from by decide]
        omega
theorem L_sOn {μ0 : zMem} (hx : TxR μ0 N B) : ∀ (m p : Nat) (μ : zMem), p + m = N → Fr zRs μ0 μ → μ 106 13 = nI p → (∀ μ', Fr zRs μ0 μ' → TkR μ' N B (zrn bB B (N - p) p) → KV μ') → pX9_stepOn (m + 1) (d + 1) μ KV X := by
  intro m
  induction m with
  | zero =>
    intro p μ hp hf k13 hK
    have hx1 := hx.go hf
    have b1 := (by_f (e := p) hx.2.1)
    refine R_byteAt k13 hx1 (by omega) ⟨fun z => absurd (b1.2.1.mp (Or.inl z)).1 (by omega), fun _ => R_byteAt k13 hx1 (by omega) ⟨fun z => absurd (b1.2.1.mp (Or.inr z)).1 (by omega), fun _ m5 e5 => ?_⟩⟩
    have k5 : m5 106 13 = nI p := by rw [e5, zw_j (by omega)]; exact k13
    rw [k13] at e5
    have f5 : Fr zRs μ0 m5 := hf.tr (by rw [e5]; exact Fr.w ⟨rfl, by omega⟩)
    refine R_byteAt k5 (hx.go f5) (by omega) ⟨fun _ m17 e17 => ?_, fun z => absurd (b1.1.mpr (by omega)) z⟩
    refine R_end (N := N) (B := B) (p := p) (e := p) (k := 0) (by omega) (f5.tr (by rw [e17]; exact Fr.w ⟨rfl, by omega⟩)) (by rw [e17, zw_j (by omega), e5, zw_s]) (by rw [e17, zw_j (by omega)]; exact k5) (by rw [e17, zw_s]; rfl) (by unfold tkE; rw [if_pos (by omega)]) (by unfold tkK; rw [if_pos (by omega)]) (fun y => by omega) (fun μ' f' t' => hK μ' f' ?_)
    rw [zrn_en (by omega)]; exact t'
  | succ m ih =>
    intro p μ hp hf k13 hK
    have hN := hx.1
    have hx1 := hx.go hf
    have b1 := (by_f (e := p) hx.2.1)
    have hb := hx.2.1 p (by omega)
    have skip : bB (B p) = true → pX9_stepOn_26 (d + 1) μ KV X (fun m9 => pX9_stepOn (m + 1) (d + 1) m9 KV X) := by
      intro q m1 e1
      rw [k13, nI_1] at e1
      refine ih (p + 1) m1 (by omega) (hf.tr (by rw [e1]; exact Fr.w ⟨rfl, by omega⟩)) (by rw [e1, zw_s]) (fun μ' f' t' => hK μ' f' ?_)
      rw [zrn_go (by omega) q]; exact t'
    refine R_byteAt k13 hx1 (by omega) ⟨fun z => skip (b1.2.1.mp (Or.inl z)).2, fun z1 => R_byteAt k13 hx1 (by omega) ⟨fun z => skip (b1.2.1.mp (Or.inr z)).2, fun z2 m5 e5 => ?_⟩⟩
    have nq : ¬ bB (B p) = true := fun q => (b1.2.1.mpr ⟨by omega, q⟩).elim z1 z2
    rw [zrn_st (by omega) nq] at hK
    have k5 : m5 106 13 = nI p := by rw [e5, zw_j (by omega)]; exact k13
    rw [k13] at e5
    have f5 : Fr zRs μ0 m5 := hf.tr (by rw [e5]; exact Fr.w ⟨rfl, by omega⟩)
    have h17 : m5 106 17 = nI p := by rw [e5, zw_s]
    have eby : byA N B p = nI (B p) := by unfold byA; rw [if_pos (by omega)]
    refine R_byteAt k5 (hx.go f5) (by omega) ⟨fun z => absurd (b1.1.mp z) (by omega), fun _ => R_isLet (b2i_go (fun nL => R_isDig (b2i_go (fun nD m12 e12 => ?_) (fun iD m16 e16 => ⟨N - p + 1, ?_⟩))) (fun iL => ⟨N - p + 1, ?_⟩))⟩
    · have nL' : ¬ bL (B p) = true := fun q => nL (b1.2.2.1.mpr ⟨by omega, q⟩)
      have nD' : ¬ bD (B p) = true := fun q => nD (b1.2.2.2.mpr ⟨by omega, q⟩)
      rw [eby]
      rw [k5, nI_1] at e12
      have go : ∀ k : Nat, k = tkK N B p → ∀ m15 : zMem, m15 = zw m12 106 15 (nI k) → pX9_stepOn_212 (d + 1) m15 KV X := by
        intro k ek m15 e15
        refine R_end (N := N) (B := B) (p := p) (e := p + 1) (k := k) (by omega) (f5.tr (Fr.tr (μ1 := m12) (by rw [e12]; exact Fr.w ⟨rfl, by omega⟩) (by rw [e15]; exact Fr.w ⟨rfl, by omega⟩))) (by rw [e15, zw_j (by omega), e12, zw_j (by omega)]; exact h17) (by rw [e15, zw_j (by omega), e12, zw_s]) (by rw [e15, zw_s]) (by unfold tkE; rw [if_neg (by omega), if_neg nL', if_neg nD']) ek (fun y => ?_) hK
        exfalso
        rw [ek] at y
        unfold tkK at y
        rw [if_neg (by omega), if_neg nL', if_neg nD'] at y
        split at y <;> omega
      refine R_isMrk hb (fun m15 e15 => ?_)
      by_cases im : bM (B p) = true
      · rw [b2i_t im] at e15
        exact go 3 (by unfold tkK; rw [if_neg (by omega), if_neg nL', if_neg nD', if_pos im]) m15 e15
      · rw [b2i_f im] at e15
        exact go 4 (by unfold tkK; rw [if_neg (by omega), if_neg nL', if_neg nD', if_neg im]) m15 e15
    · have nL' : ¬ bL (B p) = true := fun q => nL (b1.2.2.1.mpr ⟨by omega, q⟩)
      have q := (b1.2.2.2.mp iD).2
      refine L_s123 hx (by omega) (by unfold tkE; rw [if_neg (by omega), if_neg nL', if_pos q]) (by unfold tkK; rw [if_neg (by omega), if_neg nL', if_pos q]) hK (N - p) p m16 (by omega) (Nat.le_refl _) (fun j h1 h2 => by omega) rfl (f5.tr (by rw [e16]; exact Fr.w ⟨rfl, by omega⟩)) (by rw [e16, zw_j (by omega)]; exact h17) (by rw [e16, zw_j (by omega)]; exact k5) (fun _ => by rw [e16, zw_s, Nat.sub_self]; rfl)
    · have q := (b1.2.2.1.mp iL).2
      exact L_s76 hx (by omega) (by unfold tkE; rw [if_neg (by omega), if_pos q]) (by unfold tkK; rw [if_neg (by omega), if_pos q]) hK (N - p) p m5 (by omega) rfl f5 h17 k5
theorem R_step {e : Nat} (hx : TxR μ N B) (he : e ≤ N) (k13 : μ 106 13 = nI e) (hK : ∀ μ', Fr zRs μ μ' → TkR μ' N B (tkS N B e) → KV μ') : zcV (d + 2) mX9_stepOn [.ref 106] μ KV X :=
  cX9_stepOn_ ⟨N - e + 1, L_sOn hx (N - e) e μ (by omega) Fr.rf k13 hK⟩
theorem R_next {p : Nat} (hx : TxR μ N B) (h : TkR μ N B p) (hK : ∀ μ', Fr zRs μ μ' → TkR μ' N B (tkN N B p) → KV μ') : zcV (d + 2) mX9_stepOn [.ref 106] μ KV X :=
  R_step hx (tkE_le h.1).2 h.2.2.1 hK
end TokR
