/-! EXPR in mathematics' words: where one is, how many tokens are laid, which; or the fault and its place -/
abbrev zPE : Type := (Nat × Nat) ⊕ (Nat × Nat × (Nat → Int32))
abbrev zPF : Type := Nat → Nat → (Nat → Int32) → zPE
def pb (r : zPE) (f : zPF) : zPE := match r with
  | .inl q => .inl q
  | .inr (p, k, T) => f p k T
def ly (s : Int32) : zPF := fun p k T => .inr (p, k + 1, upd T k s)
def lyN : Nat → zPF
  | 0 => fun p k T => .inr (p, k, T)
  | c + 1 => fun p k T => lyN c p (k + 1) (upd T k (-28))
section Ex
variable {N : Nat} {B : Nat → Nat}
/-- a sign -/
def sg (N : Nat) (B : Nat → Nat) (p c : Nat) : Bool := decide (tkK N B p = 3 ∧ B p = c)
def nmO (N : Nat) (B : Nat → Nat) (p lo hi : Nat) : Bool := decide (tkE N B p - p ≤ 4 ∧ lo ≤ tkV B p (tkE N B p - p) ∧ tkV B p (tkE N B p - p) ≤ hi)
def nmV (N : Nat) (B : Nat → Nat) (p : Nat) : Nat := tkV B p (tkE N B p - p)
noncomputable def exPart (N : Nat) (B : Nat → Nat) (ex : zPF) : zPF := fun p k T =>
  if sg N B p 40 = true then pb (ex (tkN N B p) k T) (fun p' k' T' => if sg N B p' 41 = true then .inr (tkN N B p', k', T') else .inl (1, p'))
  else if tkK N B p = 1 then (if wdF N B p (spL 5) 0 = -1 then .inl (3, p) else .inr (tkN N B p, k + 1, upd T k (-1 - wdF N B p (spL 5) 0)))
  else if tkK N B p = 2 then (if nmO N B p 0 9999 = true then .inr (tkN N B p, k + 1, upd T k (nI (nmV N B p))) else .inl (2, p))
  else .inl (1, p)
noncomputable def exLoop (N : Nat) (B : Nat → Nat) (c : Nat → Option Int32) (body : zPF) : Nat → zPF
  | 0 => fun p k T => .inr (p, k, T)
  | m + 1 => fun p k T => match c p with
    | none => .inr (p, k, T)
    | some s => pb (body (tkN N B p) k T) (fun p' k' T' => exLoop N B c body m p' (k' + 1) (upd T' k' s))
def cPr (N : Nat) (B : Nat → Nat) (p : Nat) : Option Int32 := if sg N B p 42 = true then some (-22) else if sg N B p 47 = true then some (-23) else none
def cSu (N : Nat) (B : Nat → Nat) (p : Nat) : Option Int32 := if sg N B p 43 = true then some (-20) else if sg N B p 45 = true then some (-21) else none
def cTe (N : Nat) (B : Nat → Nat) (p : Nat) : Option Int32 := if sg N B p 60 = true then some (-24) else if sg N B p 61 = true then some (-25) else none
noncomputable def cWd (N : Nat) (B : Nat → Nat) (w : Nat) (s : Int32) (p : Nat) : Option Int32 := if zdec (wdR N B p w) = true then some s else none
noncomputable def exProd (N : Nat) (B : Nat → Nat) (ex : zPF) : zPF := fun p k T => pb (exPart N B ex p k T) (exLoop N B (cPr N B) (exPart N B ex) 700)
noncomputable def exSum (N : Nat) (B : Nat → Nat) (ex : zPF) : zPF := fun p k T => pb (exProd N B ex p k T) (exLoop N B (cSu N B) (exProd N B ex) 700)
noncomputable def exTest (N : Nat) (B : Nat → Nat) (ex : zPF) : zPF := fun p k T => pb (exSum N B ex p k T) (exLoop N B (cTe N B) (exSum N B ex) 1)
noncomputable def exNt (N : Nat) (B : Nat → Nat) (ex : zPF) : Nat → zPF
  | 0 => fun p k T => if zdec (wdR N B p 22) = true then .inl (2, p) else pb (exTest N B ex p k T) (lyN 6)
  | m + 1 => fun p k T => if zdec (wdR N B p 22) = true then exNt N B ex m (tkN N B p) k T else pb (exTest N B ex p k T) (lyN (6 - (m + 1)))
noncomputable def exNot (N : Nat) (B : Nat → Nat) (ex : zPF) : zPF := exNt N B ex 6
noncomputable def exAnd (N : Nat) (B : Nat → Nat) (ex : zPF) : zPF := fun p k T => pb (exNot N B ex p k T) (exLoop N B (cWd N B 23 (-26)) (exNot N B ex) 700)
noncomputable def exOr (N : Nat) (B : Nat → Nat) (ex : zPF) : zPF := fun p k T => pb (exAnd N B ex p k T) (exLoop N B (cWd N B 24 (-27)) (exAnd N B ex) 700)
def mayE (N : Nat) (B : Nat → Nat) (p : Nat) : Bool := decide (tkK N B p = 2 ∨ tkK N B p = 1 ∨ sg N B p 40 = true)
noncomputable def exE (N : Nat) (B : Nat → Nat) : Nat → zPF
  | 0 => fun p _ _ => .inl (if mayE N B p = true then 2 else 1, p)
  | l + 1 => exOr N B (exE N B l)
/-! how high the stack is -/
def wfH (T : Nat → Int32) : Nat → Nat → Nat → Nat → Prop
  | 0, _, h, h' => h = h'
  | m + 1, k, h, h' => (vaT (T k) ∧ h < 40 ∧ wfH T m (k + 1) (h + 1) h') ∨ (T k = -28 ∧ 1 ≤ h ∧ wfH T m (k + 1) h h') ∨ (opT (T k) ∧ 2 ≤ h ∧ wfH T m (k + 1) (h - 1) h')
theorem wfH.tr {T : Nat → Int32} {m2 h1 h2 : Nat} : ∀ (m k h : Nat), wfH T m k h h1 → wfH T m2 (k + m) h1 h2 → wfH T (m + m2) k h h2
  | 0, k, h, a, b => by
    have a' : h = h1 := a
    rw [Nat.zero_add, a']; exact b
  | m + 1, k, h, a, b => by
    rw [show m + 1 + m2 = (m + m2) + 1 by omega]
    rw [show k + (m + 1) = (k + 1) + m by omega] at b
    rcases a with ⟨a1, a2, a3⟩ | ⟨a1, a2, a3⟩ | ⟨a1, a2, a3⟩
    · exact Or.inl ⟨a1, a2, wfH.tr m (k + 1) _ a3 b⟩
    · exact Or.inr (Or.inl ⟨a1, a2, wfH.tr m (k + 1) _ a3 b⟩)
    · exact Or.inr (Or.inr ⟨a1, a2, wfH.tr m (k + 1) _ a3 b⟩)
theorem wfH.c {T T' : Nat → Int32} {h' : Nat} : ∀ (m k h : Nat), (∀ j, k ≤ j → j < k + m → T' j = T j) → wfH T m k h h' → wfH T' m k h h'
  | 0, _, _, _, a => a
  | m + 1, k, h, e, a => by
    have e0 := e k (Nat.le_refl _) (by omega)
    have e1 : ∀ j, k + 1 ≤ j → j < k + 1 + m → T' j = T j := fun j h1 h2 => e j (by omega) (by omega)
    unfold wfH
    rw [e0]
    rcases a with ⟨a1, a2, a3⟩ | ⟨a1, a2, a3⟩ | ⟨a1, a2, a3⟩
    · exact Or.inl ⟨a1, a2, wfH.c m (k + 1) _ e1 a3⟩
    · exact Or.inr (Or.inl ⟨a1, a2, wfH.c m (k + 1) _ e1 a3⟩)
    · exact Or.inr (Or.inr ⟨a1, a2, wfH.c m (k + 1) _ e1 a3⟩)
theorem wfH.S {T : Nat → Int32} {h' : Nat} (hh : 1 ≤ h') : ∀ (m k h : Nat), wfH T m k h h' → wfS T m k h
  | 0, _, h, a => by
    have a' : h = h' := a
    show 1 ≤ h
    omega
  | m + 1, k, h, a => by
    rcases a with ⟨a1, a2, a3⟩ | ⟨a1, a2, a3⟩ | ⟨a1, a2, a3⟩
    · exact Or.inl ⟨a1, a2, wfH.S hh m (k + 1) _ a3⟩
    · exact Or.inr (Or.inl ⟨a1, a2, wfH.S hh m (k + 1) _ a3⟩)
    · exact Or.inr (Or.inr ⟨a1, a2, wfH.S hh m (k + 1) _ a3⟩)
/-- from there one comes here, laying these; what lay there stays; the stack goes from h + a to h + 1 -/
def gdS (N a need : Nat) (p k : Nat) (T : Nat → Int32) (p' k' : Nat) (T' : Nat → Int32) : Prop := p ≤ p' ∧ p' ≤ N ∧ k ≤ k' ∧ k' + p ≤ k + p' ∧ (∀ j, j < k → T' j = T j) ∧ ∀ h, h + need ≤ 40 → wfH T' (k' - k) k (h + a) (h + 1)
def gdF (N a need : Nat) (f : zPF) : Prop := ∀ p k T p' k' T', p ≤ N → f p k T = .inr (p', k', T') → gdS N a need p k T p' k' T'
theorem gdS.tr {a b n1 n2 : Nat} {p k p1 k1 p2 k2 : Nat} {T T1 T2 : Nat → Int32} (x : ∀ h, h + n1 ≤ 40 → wfH T1 (k1 - k) k (h + a) (h + b)) (x1 : p ≤ p1) (x3 : k ≤ k1) (x4 : k1 + p ≤ k + p1) (x5 : ∀ j, j < k → T1 j = T j) (y : gdS N b n2 p1 k1 T1 p2 k2 T2) {n : Nat} (h1 : n1 ≤ n) (h2 : n2 ≤ n) : gdS N a n p k T p2 k2 T2 := by
  obtain ⟨y1, y2, y3, y4, y5, y6⟩ := y
  refine ⟨by omega, y2, by omega, by omega, fun j hj => by rw [y5 j (by omega), x5 j hj], fun h hh => ?_⟩
  have w1 := (x h (by omega)).c (T' := T2) (k1 - k) k (h + a) (fun j _ hj => y5 j (by omega))
  have w2 := y6 h (by omega)
  have := wfH.tr (k1 - k) k (h + a) w1 (m2 := k2 - k1) (h2 := h + 1) (by rw [show k + (k1 - k) = k1 by omega]; exact w2)
  rw [show k1 - k + (k2 - k1) = k2 - k by omega] at this
  exact this
theorem gdS.o {a n : Nat} {p k p1 k1 : Nat} {T T1 : Nat → Int32} (x : gdS N a n p k T p1 k1 T1) : (∀ h, h + n ≤ 40 → wfH T1 (k1 - k) k (h + a) (h + 1)) ∧ p ≤ p1 ∧ k ≤ k1 ∧ k1 + p ≤ k + p1 ∧ (∀ j, j < k → T1 j = T j) := ⟨x.2.2.2.2.2, x.1, x.2.2.1, x.2.2.2.1, x.2.2.2.2.1⟩
theorem gdS.w {a n m : Nat} {p k p1 k1 : Nat} {T T1 : Nat → Int32} (x : gdS N a n p k T p1 k1 T1) (h : n ≤ m) : gdS N a m p k T p1 k1 T1 := ⟨x.1, x.2.1, x.2.2.1, x.2.2.2.1, x.2.2.2.2.1, fun h0 hh => x.2.2.2.2.2 h0 (by omega)⟩
theorem pb_r {r : zPE} {f : zPF} {x : Nat × Nat × (Nat → Int32)} (h : pb r f = .inr x) : ∃ p k T, r = .inr (p, k, T) ∧ f p k T = .inr x := by
  cases r with
  | inl q => cases h
  | inr y => exact ⟨y.1, y.2.1, y.2.2, rfl, h⟩
theorem upd_s {T : Nat → Int32} {k : Nat} {v : Int32} : upd T k v k = v := if_pos rfl
theorem upd_n {T : Nat → Int32} {k j : Nat} {v : Int32} (h : j ≠ k) : upd T k v j = T j := if_neg h
/-- one value laid -/
theorem gd_val {p p' k : Nat} {T : Nat → Int32} {v : Int32} (hv : vaT v) (h1 : p + 1 ≤ p') (h2 : p' ≤ N) : gdS N 0 1 p k T p' (k + 1) (upd T k v) := by
  refine ⟨by omega, h2, by omega, by omega, fun j hj => upd_n (by omega), fun h hh => ?_⟩
  rw [show k + 1 - k = 1 by omega]
  exact Or.inl ⟨by rw [upd_s]; exact hv, by omega, rfl⟩
/-- an operator behind its second operand -/
theorem gd_op {p p0 p1 k k1 n : Nat} {T T1 : Nat → Int32} {s : Int32} (hs : opT s) (hp : p + 1 ≤ p0) (x : gdS N 0 n p0 k T p1 k1 T1) : p ≤ p1 ∧ p1 ≤ N ∧ k ≤ k1 + 1 ∧ (k1 + 1) + p ≤ k + p1 ∧ (∀ j, j < k → upd T1 k1 s j = T j) ∧ ∀ h, h + (n + 1) ≤ 40 → wfH (upd T1 k1 s) (k1 + 1 - k) k (h + 1) (h + 1) := by
  obtain ⟨x1, x2, x3, x4, x5, x6⟩ := x
  refine ⟨by omega, x2, by omega, by omega, fun j hj => by rw [upd_n (by omega)]; exact x5 j hj, fun h hh => ?_⟩
  have w1 := (x6 (h + 1) (by omega)).c (T' := upd T1 k1 s) (k1 - k) k (h + 1 + 0) (fun j _ hj => upd_n (by omega))
  have := wfH.tr (k1 - k) k (h + 1) w1 (m2 := 1) (h2 := h + 1) (by
    rw [show k + (k1 - k) = k1 by omega]
    exact Or.inr (Or.inr ⟨by rw [upd_s]; exact hs, by omega, by show h + 1 + 1 - 1 = h + 1; omega⟩))
  rw [show k1 - k + 1 = k1 + 1 - k by omega] at this
  exact this
theorem gd_loop {c : Nat → Option Int32} {body : zPF} {n : Nat} (hc : ∀ p s, c p = some s → opT s ∧ p < N) (hb : gdF N 0 n body) : ∀ m, gdF N 1 (n + 1) (exLoop N B c body m)
  | 0 => by
    intro p k T p' k' T' hp h
    have h' : (Sum.inr (p, k, T) : zPE) = .inr (p', k', T') := h
    cases h'
    exact ⟨Nat.le_refl _, hp, Nat.le_refl _, Nat.le_refl _, fun _ _ => rfl, fun h hh => by rw [Nat.sub_self]; rfl⟩
  | m + 1 => by
    intro p k T p' k' T' hp h
    cases e : c p with
    | none =>
      have h' : (match c p with | none => (Sum.inr (p, k, T) : zPE) | some s => pb (body (tkN N B p) k T) (fun p' k' T' => exLoop N B c body m p' (k' + 1) (upd T' k' s))) = .inr (p', k', T') := h
      rw [e] at h'
      cases h'
      exact ⟨Nat.le_refl _, hp, Nat.le_refl _, Nat.le_refl _, fun _ _ => rfl, fun h hh => by rw [Nat.sub_self]; rfl⟩
    | some s =>
      have h' : (match c p with | none => (Sum.inr (p, k, T) : zPE) | some s => pb (body (tkN N B p) k T) (fun p' k' T' => exLoop N B c body m p' (k' + 1) (upd T' k' s))) = .inr (p', k', T') := h
      rw [e] at h'
      obtain ⟨p1, k1, T1, r1, r2⟩ := pb_r h'
      obtain ⟨os, lt⟩ := hc p s e
      have nl := tkN_le (N := N) (B := B) hp
      have n1 := tkN_lt (N := N) (B := B) lt
      obtain ⟨g1, g2, g3, g4, g5, g6⟩ := gd_op os n1 (hb _ _ _ _ _ _ nl.2 r1)
      have ih := gd_loop hc hb m p1 (k1 + 1) _ p' k' T' g2 r2
      exact gdS.tr g6 g1 g3 g4 g5 ih (Nat.le_refl _) (Nat.le_refl _)
theorem gd_pb {a n1 n2 n : Nat} {f g : zPF} (hf : gdF N a n1 f) (hg : gdF N 1 n2 g) (h1 : n1 ≤ n) (h2 : n2 ≤ n) : gdF N a n (fun p k T => pb (f p k T) g) := by
  intro p k T p' k' T' hp h
  obtain ⟨p1, k1, T1, r1, r2⟩ := pb_r h
  have x := hf _ _ _ _ _ _ hp r1
  obtain ⟨y6, y1, y3, y4, y5⟩ := x.o
  exact gdS.tr y6 y1 y3 y4 y5 (hg _ _ _ _ _ _ x.2.1 r2) h1 h2
theorem sg_t {p c : Nat} : sg N B p c = true ↔ tkK N B p = 3 ∧ B p = c := decide_eq_true_iff
theorem sg_lt {p c : Nat} (h : sg N B p c = true) : p < N := tkK_lt (B := B) (by have := (sg_t.mp h).1; omega)
theorem wdR_lt {p i : Nat} (h : wdR N B p i) : p < N := tkK_lt (B := B) (by have := h.1; omega)
theorem wdF_rng {p : Nat} : ∀ (l : List Nat) (k : Nat), wdF N B p l k = -1 ∨ ∃ i, k ≤ i ∧ i < k + l.length ∧ wdF N B p l k = nI i
  | [], _ => Or.inl rfl
  | r :: l, k => by
    by_cases w : wdR N B p r
    · exact Or.inr ⟨k, Nat.le_refl _, by show k < k + (l.length + 1); omega, wdF_t w⟩
    · rw [wdF_f w]
      rcases wdF_rng l (k + 1) with e | ⟨i, h1, h2, e⟩
      · exact Or.inl e
      · exact Or.inr ⟨i, by omega, by show i < k + (l.length + 1); omega, e⟩
theorem va_n {m : Nat} (h : m < 2 ^ 31) : vaT (nI m) := by
  unfold vaT
  rw [i_lt, n_i h, show (-9 : Int32).toInt = -9 from by decide]; omega
theorem va_w {p : Nat} (h : ¬ wdF N B p (spL 5) 0 = -1) : vaT (-1 - wdF N B p (spL 5) 0) ∧ ∃ i, i < 8 ∧ wdF N B p (spL 5) 0 = nI i := by
  rcases wdF_rng (N := N) (B := B) (p := p) (spL 5) 0 with e | ⟨i, h1, h2, e⟩
  · exact absurd e h
  · have i8 : i < 8 := by
      have : (spL 5).length = 8 := rfl
      omega
    refine ⟨?_, i, i8, e⟩
    rw [e]
    have z : ∀ i, i < 8 → vaT (-1 - nI i) := by unfold vaT; decide
    exact z i i8
theorem gd_part {ex : zPF} {n : Nat} (hx : gdF N 0 n ex) (hn : 1 ≤ n) : gdF N 0 n (exPart N B ex) := by
  intro p k T p' k' T' hp h
  have nl := tkN_le (N := N) (B := B) hp
  unfold exPart at h
  by_cases s : sg N B p 40 = true
  · rw [if_pos s] at h
    obtain ⟨p1, k1, T1, r1, r2⟩ := pb_r h
    have x := hx _ _ _ _ _ _ nl.2 r1
    have lt := tkN_lt (N := N) (B := B) (sg_lt s)
    by_cases s2 : sg N B p1 41 = true
    · rw [if_pos s2] at r2
      cases r2
      have nl1 := tkN_le (N := N) (B := B) x.2.1
      exact ⟨by have := x.1; omega, nl1.2, x.2.2.1, by have := x.2.2.2.1; omega, x.2.2.2.2.1, x.2.2.2.2.2⟩
    · rw [if_neg s2] at r2; cases r2
  · rw [if_neg s] at h
    by_cases q1 : tkK N B p = 1
    · rw [if_pos q1] at h
      by_cases w : wdF N B p (spL 5) 0 = -1
      · rw [if_pos w] at h; cases h
      · rw [if_neg w] at h
        cases h
        exact (gd_val (va_w w).1 (tkN_lt (tkK_lt (B := B) (by omega))) nl.2).w hn
    · rw [if_neg q1] at h
      by_cases q2 : tkK N B p = 2
      · rw [if_pos q2] at h
        by_cases o : nmO N B p 0 9999 = true
        · rw [if_pos o] at h
          cases h
          have o' := of_decide_eq_true o
          exact (gd_val (va_n (by unfold nmV; omega)) (tkN_lt (tkK_lt (B := B) (by omega))) nl.2).w hn
        · rw [if_neg o] at h; cases h
      · rw [if_neg q2] at h; cases h
theorem cPr_o {p : Nat} {s : Int32} (h : cPr N B p = some s) : opT s ∧ p < N := by
  unfold cPr at h
  split at h
  · rename_i q; cases h; exact ⟨by unfold opT; simp, sg_lt q⟩
  · split at h
    · rename_i q; cases h; exact ⟨by unfold opT; simp, sg_lt q⟩
    · cases h
theorem cSu_o {p : Nat} {s : Int32} (h : cSu N B p = some s) : opT s ∧ p < N := by
  unfold cSu at h
  split at h
  · rename_i q; cases h; exact ⟨by unfold opT; simp, sg_lt q⟩
  · split at h
    · rename_i q; cases h; exact ⟨by unfold opT; simp, sg_lt q⟩
    · cases h
theorem cTe_o {p : Nat} {s : Int32} (h : cTe N B p = some s) : opT s ∧ p < N := by
  unfold cTe at h
  split at h
  · rename_i q; cases h; exact ⟨by unfold opT; simp, sg_lt q⟩
  · split at h
    · rename_i q; cases h; exact ⟨by unfold opT; simp, sg_lt q⟩
    · cases h
theorem cWd_o {w p : Nat} {s0 s : Int32} (ho : opT s0) (h : cWd N B w s0 p = some s) : opT s ∧ p < N := by
  unfold cWd at h
  split at h
  · rename_i q; cases h; exact ⟨ho, wdR_lt (zdec_t.mp q)⟩
  · cases h
theorem gd_lyN : ∀ c p k T p' k' T', p ≤ N → lyN c p k T = .inr (p', k', T') → p' = p ∧ k' = k + c ∧ (∀ j, j < k → T' j = T j) ∧ ∀ h, wfH T' c k (h + 1) (h + 1)
  | 0, p, k, T, p', k', T', _, e => by
    have e' : (Sum.inr (p, k, T) : zPE) = .inr (p', k', T') := e
    cases e'
    exact ⟨rfl, rfl, fun _ _ => rfl, fun _ => rfl⟩
  | c + 1, p, k, T, p', k', T', hp, e => by
    obtain ⟨a1, a2, a3, a4⟩ := gd_lyN c p (k + 1) _ p' k' T' hp e
    refine ⟨a1, by omega, fun j hj => by rw [a3 j (by omega)]; exact upd_n (by omega), fun h => Or.inr (Or.inl ⟨by rw [a3 k (by omega)]; exact upd_s, by omega, a4 h⟩)⟩
/-- nots: as many as tokens were gone over for them -/
theorem gd_nt {ex : zPF} {n : Nat} (ht : gdF N 0 n (exTest N B ex)) : ∀ (m : Nat) p k T p' k' T', m ≤ 6 → p ≤ N → exNt N B ex m p k T = .inr (p', k', T') → p ≤ p' ∧ p' ≤ N ∧ k ≤ k' ∧ k' + p ≤ k + p' + (6 - m) ∧ (∀ j, j < k → T' j = T j) ∧ ∀ h, h + n ≤ 40 → wfH T' (k' - k) k (h + 0) (h + 1) := by
  have fin : ∀ (c p k : Nat) (T : Nat → Int32) (p' k' : Nat) (T' : Nat → Int32), p ≤ N → pb (exTest N B ex p k T) (lyN c) = .inr (p', k', T') → p ≤ p' ∧ p' ≤ N ∧ k ≤ k' ∧ k' + p ≤ k + p' + c ∧ (∀ j, j < k → T' j = T j) ∧ ∀ h, h + n ≤ 40 → wfH T' (k' - k) k (h + 0) (h + 1) := by
    intro c p k T p' k' T' hp h
    obtain ⟨p1, k1, T1, r1, r2⟩ := pb_r h
    obtain ⟨x1, x2, x3, x4, x5, x6⟩ := ht _ _ _ _ _ _ hp r1
    obtain ⟨a1, a2, a3, a4⟩ := gd_lyN c p1 k1 T1 p' k' T' x2 r2
    subst a1
    refine ⟨x1, x2, by omega, by omega, fun j hj => by rw [a3 j (by omega)]; exact x5 j hj, fun h hh => ?_⟩
    have w1 := (x6 h hh).c (T' := T') (k1 - k) k (h + 0) (fun j _ hj => a3 j (by omega))
    have := wfH.tr (k1 - k) k (h + 0) w1 (m2 := c) (h2 := h + 1) (by rw [show k + (k1 - k) = k1 by omega]; exact a4 h)
    rw [show k1 - k + c = k' - k by omega] at this
    exact this
  intro m
  induction m with
  | zero =>
    intro p k T p' k' T' hm hp h
    unfold exNt at h
    split at h
    · cases h
    · exact fin 6 p k T p' k' T' hp h
  | succ m ih =>
    intro p k T p' k' T' hm hp h
    unfold exNt at h
    split at h
    · rename_i q
      have nl := tkN_le (N := N) (B := B) hp
      have lt := tkN_lt (N := N) (B := B) (wdR_lt (zdec_t.mp q))
      obtain ⟨b1, b2, b3, b4, b5, b6⟩ := ih (tkN N B p) k T p' k' T' (by omega) nl.2 h
      exact ⟨by omega, b2, b3, by omega, b5, b6⟩
    · obtain ⟨b1, b2, b3, b4, b5, b6⟩ := fin (6 - (m + 1)) p k T p' k' T' hp h
      exact ⟨b1, b2, b3, b4, b5, b6⟩
theorem gd_not {ex : zPF} {n : Nat} (ht : gdF N 0 n (exTest N B ex)) : gdF N 0 n (exNot N B ex) := by
  intro p k T p' k' T' hp h
  obtain ⟨b1, b2, b3, b4, b5, b6⟩ := gd_nt ht 6 p k T p' k' T' (Nat.le_refl _) hp h
  exact ⟨b1, b2, b3, by omega, b5, b6⟩
theorem gd_or {ex : zPF} {n : Nat} (hx : gdF N 0 n ex) (hn : 1 ≤ n) : gdF N 0 n (exPart N B ex) ∧ gdF N 0 (n + 1) (exProd N B ex) ∧ gdF N 0 (n + 2) (exSum N B ex) ∧ gdF N 0 (n + 3) (exNot N B ex) ∧ gdF N 0 (n + 4) (exAnd N B ex) ∧ gdF N 0 (n + 5) (exOr N B ex) := by
  have h1 := gd_part (B := B) hx hn
  have h2 : gdF N 0 (n + 1) (exProd N B ex) := gd_pb h1 (gd_loop (B := B) (fun p s => cPr_o) h1 700) (by omega) (by omega)
  have h3 : gdF N 0 (n + 2) (exSum N B ex) := gd_pb h2 (gd_loop (B := B) (fun p s => cSu_o) h2 700) (by omega) (by omega)
  have h4 : gdF N 0 (n + 3) (exTest N B ex) := gd_pb h3 (gd_loop (B := B) (fun p s => cTe_o) h3 1) (by omega) (by omega)
  have h5 := gd_not h4
  have h6 : gdF N 0 (n + 4) (exAnd N B ex) := gd_pb h5 (gd_loop (B := B) (fun p s => cWd_o (by unfold opT; simp)) h5 700) (by omega) (by omega)
  have h7 : gdF N 0 (n + 5) (exOr N B ex) := gd_pb h6 (gd_loop (B := B) (fun p s => cWd_o (by unfold opT; simp)) h6 700) (by omega) (by omega)
  exact ⟨h1, h2, h3, h5, h6, h7⟩
theorem gd_E : ∀ l, gdF N 0 (5 * l + 1) (exE N B l)
  | 0 => by intro p k T p' k' T' _ h; cases h
  | l + 1 => (gd_or (B := B) (gd_E l) (by omega)).2.2.2.2.2
end Ex
