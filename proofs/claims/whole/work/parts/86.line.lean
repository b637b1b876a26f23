/-! LINES in mathematics' words -/
def bd {α β : Type} (r : (Nat × Nat) ⊕ α) (f : α → (Nat × Nat) ⊕ β) : (Nat × Nat) ⊕ β := match r with
  | .inl q => .inl q
  | .inr a => f a
def nmR (N : Nat) (B : Nat → Nat) (p lo hi : Nat) : (Nat × Nat) ⊕ Nat := if tkK N B p = 2 then (if nmO N B p lo hi = true then .inr (nmV N B p) else .inl (2, p)) else .inl (1, p)
/-- an isle's row -/
def isRow (kd x y ro li si pe lo go : Nat) : Nat → Int32
  | 0 => nI kd
  | 1 => nI x
  | 2 => nI y
  | 3 => nI ro
  | 4 => nI li
  | 5 => nI si
  | 6 => nI pe
  | 7 => nI lo
  | 8 => nI go
  | 9 => 0
  | s + 10 => nI ((pe + 3 - s) / 4)
noncomputable def lnIsle (N : Nat) (B : Nat → Nat) (n : Nat) (I : zI) (kd p0 : Nat) : (Nat × Nat) ⊕ (Nat × (Nat → Int32)) :=
  if n = 6 then .inl (2, p0) else
  let p1 := tkN N B p0
  let p2 := tkN N B p1
  let p3 := tkN N B p2
  let p4 := tkN N B p3
  let p5 := tkN N B p4
  let p6 := tkN N B p5
  let p7 := tkN N B p6
  let p8 := tkN N B p7
  bd (nmR N B p1 0 60) fun x => bd (nmR N B p2 0 60) fun y =>
  if zdec (∃ i, i < n ∧ I i 1 = nI x ∧ I i 2 = nI y) = true then .inl (4, p2) else
  bd (nmR N B p3 1 60) fun ro => bd (nmR N B p4 1 99) fun li => bd (nmR N B p5 1 6) fun si =>
  bd (nmR N B p6 0 20) fun pe => bd (nmR N B p7 0 60) fun lo => bd (nmR N B p8 0 9) fun go =>
  .inr (tkN N B p8, isRow kd x y ro li si pe lo go)
def LK (μ : zMem) (N : Nat) (B : Nat → Nat) (p : Nat) : Prop := TxC μ N B ∧ TkC μ N B p ∧ μ 2 2 = 0
abbrev zL2 : Nat → Nat → Prop := zRd 104
theorem LK.go {μ μ' : zMem} {N p : Nat} {B : Nat → Nat} (h : LK μ N B p) (e : ∀ c j, 2 ≤ c → c ≤ 4 → μ' c j = μ c j) : LK μ' N B p :=
  ⟨h.1.e (e _ _ (by omega) (by omega)) (fun j => e _ _ (by omega) (by omega)), h.2.1.e (fun j => e _ _ (by omega) (by omega)), by rw [e _ _ (by omega) (by omega)]; exact h.2.2⟩
theorem zL2_6 {m1 m2 : zMem} (f : Fr zL2 m1 m2) {c j : Nat} (h : 5 ≤ c) (h2 : c ≤ 100) : m2 c j = m1 c j := f _ _ (by unfold zL2 zRd zStp; omega)
section Line
variable {d s n : Nat} {μ : zMem} {KI : Int32 → zMem → Prop} {KV : zMem → Prop} {X : Nat → zMem → Prop} {N : Nat} {B : Nat → Nat}
theorem C_ref {p c : Nat} {x : Int32} (ex : x = nI c) (c1 : 1 ≤ c) (c5 : c ≤ 5) (h : LK μ N B p) (hK : ∀ μ', Fr zL2 μ μ' → FC μ' N B c p → KI 0 μ') : zcI (d + 1) mX2_refuse [.ref 2, .int x] μ KI X := C_refuse (r := 104) ex c1 c5 h.1 h.2.1 hK
theorem nmR_i {p lo hi c : Nat} (hc : if tkK N B p = 2 then ¬ nmO N B p lo hi = true ∧ c = 2 else c = 1) : nmR N B p lo hi = .inl (c, p) := by
  unfold nmR
  by_cases q : tkK N B p = 2
  · rw [if_pos q] at hc ⊢
    rw [if_neg hc.1, hc.2]
  · rw [if_neg q] at hc ⊢
    rw [hc]
theorem nmR_o {p lo hi : Nat} (a : tkK N B p = 2) (b : nmO N B p lo hi = true) : nmR N B p lo hi = .inr (nmV N B p) := by
  unfold nmR
  rw [if_pos a, if_pos b]
theorem nmR_rng {p lo hi v : Nat} (h : nmR N B p lo hi = .inr v) : lo ≤ v ∧ v ≤ hi ∧ p < N := by
  unfold nmR at h
  split at h
  · rename_i q
    split at h
    · rename_i o
      have := of_decide_eq_true o
      cases h
      unfold nmV
      exact ⟨by omega, by omega, tkK_lt (B := B) (by omega)⟩
    · cases h
  · cases h
/-- a number looked at; its fault -/
theorem C_isN {p lo hi : Nat} {x y : Int32} (ex : x = nI lo) (ey : y = nI hi) (hh : hi ≤ 9999) (hl : lo ≤ 9999) (h : LK μ N B p) (h0 : ∀ c q, nmR N B p lo hi = .inl (c, q) → ∀ μ', Fr zL2 μ μ' → FC μ' N B c q → KI 0 μ') (h1 : ∀ v, nmR N B p lo hi = .inr v → ∀ m1, Fr zL2 μ m1 → LK m1 N B p → m1 2 3 = nI v → KI 1 m1) : zcI (d + 2) mX2_isNumber [.ref 2, .int x, .int y] μ KI X := by
  refine C_isNumber (r := 104) ex ey hh hl h.1 h.2.1 (fun c μ' a f x => h0 c p (nmR_i a) μ' f x) (fun a b μ' e => h1 _ (nmR_o a b) μ' (by rw [e]; exact Fr.w (Or.inr (Or.inl ⟨rfl, by omega⟩))) ?_ (by rw [e, zw_s]))
  exact ⟨h.1.e (by rw [e, zw_c (by omega)]) (fun j => by rw [e, zw_c (by omega)]), h.2.1.e (fun j => by rw [e, zw_c (by omega)]), by rw [e, zw_j (by omega)]; exact h.2.2⟩
theorem C_tkN {p lo hi : Nat} {x y : Int32} (ex : x = nI lo) (ey : y = nI hi) (hh : hi ≤ 9999) (hl : lo ≤ 9999) (h : LK μ N B p) (h0 : ∀ c q, nmR N B p lo hi = .inl (c, q) → ∀ μ', Fr zL2 μ μ' → FC μ' N B c q → KI 0 μ') (h1 : ∀ v, nmR N B p lo hi = .inr v → ∀ m1, Fr zL2 μ m1 → LK m1 N B (tkN N B p) → m1 2 3 = nI v → KI 1 m1) : zcI (d + 6) mX2_takeNumber [.ref 2, .int x, .int y] μ KI X := by
  refine C_takeNumber (r := 104) ex ey hh hl h.1 h.2.1 (fun c μ' a f x => h0 c p (nmR_i a) μ' f x) (fun a b μ' f x t v => h1 _ (nmR_o a b) μ' (f.mono fun c j z => ?_) ⟨x, t, ?_⟩ v)
  · rcases z with z | z
    · exact Or.inl z
    · exact Or.inr (Or.inl ⟨z.1, by omega⟩)
  · rw [f _ _ (by unfold zStp; omega)]; exact h.2.2
theorem LK.next {p : Nat} (h : LK μ N B p) (hK : ∀ μ', Fr zL2 μ μ' → LK μ' N B (tkN N B p) → KV μ') : zcV (d + 5) mX6_step [.ref 3] μ KV X :=
  C_next h.1 h.2.1 (fun μ' f t => hK μ' (zStp_d f) ⟨h.1.go f, t, by rw [f _ _ (by unfold zStp; omega)]; exact h.2.2⟩)
/-! an isle's line -/
theorem L_isPost {x y : Nat} {I : zI} (hs : s = 6 ∨ s = 26) (hn : n ≤ 6) (hc : μ (s + 1) 0 = nI n) (hI : ∀ i, i < n → μ (s + 3) i = I i 1 ∧ μ (s + 4) i = I i 2) (h0 : ¬ (∃ i, i < n ∧ I i 1 = nI x ∧ I i 2 = nI y) → KI 0 μ) (h1 : (∃ i, i < n ∧ I i 1 = nI x ∧ I i 2 = nI y) → KI 1 μ) : ∀ (m i : Nat), i + m = n → (∀ k, k < i → ¬ (I k 1 = nI x ∧ I k 2 = nI y)) → pX1_isPost_2 (m + 1) d (s + 1) (nI x) (nI y) (nI i) μ KI X := by
  intro m
  induction m with
  | zero =>
    intro i hi hk
    exact ⟨fun _ => h0 fun ⟨k, k1, k2⟩ => hk k (by omega) k2, fun z => absurd (by rw [hc]; exact (n_le (by omega) (by omega)).mpr (by omega)) z⟩
  | succ m ih =>
    intro i hi hk
    obtain ⟨a1, a2⟩ := hI i (by omega)
    have a1' : μ (s + 1 + 2) i = I i 1 := a1
    have a2' : μ (s + 1 + 3) i = I i 2 := a2
    have nx : ¬ (I i 1 = nI x ∧ I i 2 = nI y) → ∀ v, v = nI i + 1 → pX1_isPost_2 (m + 1) d (s + 1) (nI x) (nI y) v μ KI X := by
      intro q v e
      rw [e, nI_1]
      refine ih (i + 1) (by omega) (fun k hk2 => ?_)
      by_cases z : k = i
      · rw [z]; exact q
      · exact hk k (by omega)
    refine ⟨fun z => absurd z (by rw [hc, n_le (by omega) (by omega)]; omega), fun _ => ⟨vin (by omega), ?_⟩⟩
    rw [tN_nI (by omega), a1', a2']
    exact ⟨fun q => ⟨vin (by omega), fun q2 => h1 ⟨i, by omega, q, q2⟩, fun q2 v e => nx (fun z => q2 z.2) v e⟩, fun q v e => nx (fun z => q z.1) v e⟩
theorem C_isPost {x y : Nat} {I : zI} (hs : s = 6 ∨ s = 26) (hn : n ≤ 6) (hc : μ (s + 1) 0 = nI n) (hI : ∀ i, i < n → μ (s + 3) i = I i 1 ∧ μ (s + 4) i = I i 2) (h0 : ¬ (∃ i, i < n ∧ I i 1 = nI x ∧ I i 2 = nI y) → KI 0 μ) (h1 : (∃ i, i < n ∧ I i 1 = nI x ∧ I i 2 = nI y) → KI 1 μ) : zcI (d + 1) mX1_isPost [.ref (s + 1), .int (nI x), .int (nI y)] μ KI X := by
  refine cX1_isPost_ (by rcases hs with rfl | rfl <;> decide +kernel) ⟨n + 1, ?_⟩
  exact L_isPost hs hn hc hI h0 h1 n 0 (by omega) (fun k hk => by omega)
theorem L_settle {pe : Nat} {μ0 : zMem} (hs : s = 6 ∨ s = 26) (hn : n < 6) (hp : pe ≤ 20) (hK : ∀ μ', Fr (fun c j => c = s + 12 ∧ 4 * n ≤ j ∧ j < 4 * n + 4) μ0 μ' → (∀ t, t < 4 → μ' (s + 12) (4 * n + t) = nI ((pe + 3 - t) / 4)) → KV μ') : ∀ (m i : Nat) (μ : zMem), i + m = 4 → Fr (fun c j => c = s + 12 ∧ 4 * n ≤ j ∧ j < 4 * n + 4) μ0 μ → (∀ t, t < i → μ (s + 12) (4 * n + t) = nI ((pe + 3 - t) / 4)) → pX1_settle_9 (m + 1) d (s + 1) (nI n) (nI pe) (nI i) μ KV X := by
  have q : ∀ pe, pe ≤ 20 → ∀ i, i < 4 → (nI pe / 4) + (if nI pe - nI pe / 4 * 4 ≤ nI i then (0 : Int32) else 1) = nI ((pe + 3 - i) / 4) := by
    have h : ∀ pe, pe < 21 → ∀ i, i < 4 → (nI pe / 4) + (if nI pe - nI pe / 4 * 4 ≤ nI i then (0 : Int32) else 1) = nI ((pe + 3 - i) / 4) := by decide +kernel
    exact fun pe hp i hi => h pe (by omega) i hi
  intro m
  induction m with
  | zero =>
    intro i μ hi hf ht
    exact ⟨fun _ => hK μ hf (fun t h => ht t (by omega)), fun z => absurd ((n_le (a := 4) (by omega) (by omega)).mpr (by omega)) z⟩
  | succ m ih =>
    intro i μ hi hf ht
    have e4 : nI n * 4 + nI i = nI (4 * n + i) := n4 n i
    refine ⟨fun z => absurd ((n_le (a := 4) (by omega) (by omega)).mp z) (by omega), fun _ => ?_⟩
    rw [e4, tN_nI (by omega), q pe hp i (by omega)]
    refine ⟨vin (by omega), fun m1 e1 v2 e2 => ?_⟩
    have e1' : m1 = zw μ (s + 12) (4 * n + i) (nI ((pe + 3 - i) / 4)) := e1
    rw [e2, nI_1]
    refine ih (i + 1) m1 (by omega) (hf.tr (by rw [e1']; exact Fr.w ⟨rfl, by omega, by omega⟩)) (fun t h => ?_)
    rw [e1']
    by_cases z : t = i
    · subst z; rw [zw_s]
    · rw [zw_j (by omega)]; exact ht t (by omega)
end Line
