/-! words: of the reference's strings -/
def wdR (N : Nat) (B : Nat → Nat) (p i : Nat) : Prop := tkK N B p = 1 ∧ tkE N B p - p = zlen i ∧ ∀ j, j < zlen i → nI (B (p + j)) = zbyt i j
noncomputable def wdF (N : Nat) (B : Nat → Nat) (p : Nat) : List Nat → Nat → Int32
  | [], _ => -1
  | i :: l, k => @ite _ (wdR N B p i) (Classical.propDecidable _) (nI k) (wdF N B p l (k + 1))
theorem wdF_t {N p i k : Nat} {B : Nat → Nat} {l : List Nat} (h : wdR N B p i) : wdF N B p (i :: l) k = nI k := if_pos h
theorem wdF_f {N p i k : Nat} {B : Nat → Nat} {l : List Nat} (h : ¬ wdR N B p i) : wdF N B p (i :: l) k = wdF N B p l (k + 1) := if_neg h
/-- a string of words, each with a blank behind it, from f on -/
def spK (s : Nat) : List Nat → Nat → Prop
  | [], f => f = zlen s
  | r :: l, f => (r < 31 ∧ f + zlen r < zlen s ∧ zbyt s (f + zlen r) = 32 ∧ ∀ j, j < zlen r → zbyt s (f + j) = zbyt r j ∧ ¬ zbyt s (f + j) = 32) ∧ spK s l (f + zlen r + 1)
def spL : Nat → List Nat
  | 0 => [7, 8, 9, 30, 25, 26, 27, 28, 29]
  | 1 => [10, 11, 12, 13]
  | 2 => [24]
  | 3 => [23]
  | 4 => [22]
  | _ => [14, 15, 16, 17, 18, 19, 20, 21]
theorem spL_ok0 : spK 0 (spL 0) 0 := by unfold spK spL; simp only [spK]; exact ⟨by decide +kernel, by decide +kernel, by decide +kernel, by decide +kernel, by decide +kernel, by decide +kernel, by decide +kernel, by decide +kernel, by decide +kernel, by decide +kernel⟩
theorem spL_ok1 : spK 1 (spL 1) 0 := by unfold spK spL; simp only [spK]; decide +kernel
theorem spL_ok2 : spK 2 (spL 2) 0 := by unfold spK spL; simp only [spK]; decide +kernel
theorem spL_ok3 : spK 3 (spL 3) 0 := by unfold spK spL; simp only [spK]; decide +kernel
theorem spL_ok4 : spK 4 (spL 4) 0 := by unfold spK spL; simp only [spK]; decide +kernel
theorem spL_ok5 : spK 5 (spL 5) 0 := by unfold spK spL; simp only [spK]; exact ⟨by decide +kernel, by decide +kernel, by decide +kernel, by decide +kernel, by decide +kernel, by decide +kernel, by decide +kernel, by decide +kernel, by decide +kernel⟩
theorem spL_ok {s : Nat} (hs : s < 6) : spK s (spL s) 0 := by
  match s, hs with
  | 0, _ => exact spL_ok0
  | 1, _ => exact spL_ok1
  | 2, _ => exact spL_ok2
  | 3, _ => exact spL_ok3
  | 4, _ => exact spL_ok4
  | 5, _ => exact spL_ok5
section Word
variable {d : Nat} {μ : zMem} {KI : Int32 → zMem → Prop} {KV : zMem → Prop} {X : Nat → zMem → Prop} {N : Nat} {B : Nat → Nat}
theorem sB_eq {b c : Nat} (hb : b < 256) (hc : c < 128) : nI c = sB b ↔ b = c := by
  obtain ⟨_, _, _, _, s5, s6⟩ := sb_f b hb
  by_cases q : b < 128
  · rw [s5 q]
    exact ⟨fun z => ((n_eq (by omega) (by omega)).mp z).symm, fun z => by rw [z]⟩
  · refine ⟨fun z => absurd (s6 q) ?_, fun z => by omega⟩
    rw [← z]; exact nI_pos (by omega)
/-- a span of the string against the token -/
theorem L_spells {s f r p : Nat} (hs : s < 31) (hr : r < 31) (hx : TxC μ N B) (ht : TkC μ N B p) (hl : tkE N B p - p = zlen r) (hf : f + zlen r < zlen s) (hw : ∀ j, j < zlen r → zbyt s (f + j) = zbyt r j) (h0 : ∀ j, j < zlen r → ¬ nI (B (p + j)) = zbyt r j → KI 0 μ) (h1 : (∀ j, j < zlen r → nI (B (p + j)) = zbyt r j) → KI 1 μ) :
    ∀ (m j : Nat), j + m = zlen r → (∀ k, k < j → nI (B (p + k)) = zbyt r k) → pX6_spells_20 (m + 1) (d + 4) 3 s (nI f) (nI (f + zlen r)) (nI (f + j)) μ KI X := by
  have ls := zlen_b s hs
  have hN := hx.1
  have e2 := tkE_le (N := N) (B := B) ht.1
  intro m
  induction m with
  | zero =>
    intro j hj hk
    have : j = zlen r := by omega
    subst this
    exact ⟨fun _ => h1 hk, fun z => absurd ((n_le (by omega) (by omega)).mpr (Nat.le_refl _)) z⟩
  | succ m ih =>
    intro j hj hk
    refine ⟨fun z => absurd z (by rw [n_le (by omega) (by omega)]; omega), fun _ => C_charAt hs (by omega) ?_⟩
    rw [ht.2.1, nI_add, pk_sub (by omega), show p + (f + j) - f = p + j by omega, tN_nI (by omega), hw j (by omega)]
    have hB := hx.2.1 (p + j) (by omega)
    have hT : μ (3 + 1) (p + j) = sB (B (p + j)) := hx.2.2.2 (p + j) (by omega)
    rw [hT]
    obtain ⟨c, hc, ec⟩ := zbyt_b r hr j (by omega)
    refine ⟨vin (by omega), fun z v3 e3 => ?_, fun z => h0 j (by omega) fun y => z ?_⟩
    · rw [e3, nI_1]
      refine ih (j + 1) (by omega) (fun k hk2 => ?_)
      by_cases y : k = j
      · subst y
        rw [ec] at z ⊢
        rw [(sB_eq hB hc).mp z]
      · exact hk k (by omega)
    · rw [ec] at y ⊢
      exact (sB_eq hB hc).mpr ((n_eq (by omega) (by omega)).mp y)
theorem C_spells {s f r p : Nat} (hs : s < 31) (hr : r < 31) (hx : TxC μ N B) (ht : TkC μ N B p) (h1k : tkK N B p = 1) (hf : f + zlen r < zlen s) (hw : ∀ j, j < zlen r → zbyt s (f + j) = zbyt r j) (h0 : ¬ wdR N B p r → KI 0 μ) (h1 : wdR N B p r → KI 1 μ) : zcI (d + 5) mX6_spells [.ref 3, .ref (1000 + s), .int (nI f), .int (nI (f + zlen r))] μ KI X := by
  have ls := zlen_b s hs
  have hN := hx.1
  have e2 := tkE_le (N := N) (B := B) ht.1
  refine cX6_spells_ (by decide +kernel) hs ?_
  unfold pX6_spells
  rw [ht.2.1, ht.2.2.1, pk_sub e2.1, pk_sub (by omega), show f + zlen r - f = zlen r by omega, n_eq (by omega) (by omega)]
  refine ⟨fun z => ⟨zlen r + 1, ?_⟩, fun z => h0 fun y => z y.2.1.symm⟩
  have := L_spells (d := d) (KI := KI) (X := X) hs hr hx ht z.symm hf hw (fun j hj y => h0 fun w => y (w.2.2 j hj)) (fun y => h1 ⟨h1k, z.symm, y⟩) (zlen r) 0 (by omega) (fun k hk => by omega)
  exact this
theorem L_among {s p : Nat} (hs : s < 31) (hx : TxC μ N B) (ht : TkC μ N B p) (h1k : tkK N B p = 1) : ∀ (l : List Nat) (k f : Nat), k ≤ 100 → l.length + k ≤ 100 → spK s l f → f ≤ zlen s → KI (wdF N B p l k) μ → ∃ n2 : Nat, pX6_among_17 n2 (d + 5) 3 s (nI k) (nI f) (nI f) μ KI X := by
  have ls := zlen_b s hs
  intro l
  induction l with
  | nil =>
    intro k f hk hl hsp hfz hK
    have e : f = zlen s := hsp
    refine ⟨1, C_length hs ⟨fun _ => hK, fun z => absurd ((n_le (by omega) (by omega)).mpr (by omega)) z⟩⟩
  | cons r l ih =>
    intro k f hk hl hsp hfz hK
    obtain ⟨⟨hr, h1, h2, h3⟩, h4⟩ := hsp
    -- as far as the blank
    have run : ∀ (m j : Nat), j + m = zlen r → ∃ n2 : Nat, pX6_among_17 n2 (d + 5) 3 s (nI k) (nI f) (nI (f + j)) μ KI X := by
      intro m
      induction m with
      | zero =>
        intro j hj
        have : j = zlen r := by omega
        subst this
        by_cases w : wdR N B p r
        · refine ⟨1, C_length hs ⟨fun z => absurd z (by rw [n_le (by omega) (by omega)]; omega), fun _ => C_charAt hs h1 ⟨fun _ => C_spells hs hr hx ht h1k h1 (fun j hj => (h3 j hj).1) (fun y => absurd w y) (fun _ => ⟨fun z => absurd z (by decide), fun _ => ?_⟩), fun z => absurd h2 z⟩⟩⟩
          rw [wdF_t w] at hK; exact hK
        · have hl' : l.length + 1 + k ≤ 100 := hl
          rw [wdF_f w] at hK
          obtain ⟨n2, hn2⟩ := ih (k + 1) (f + zlen r + 1) (by omega) (by omega) h4 (by omega) hK
          refine ⟨n2 + 1, C_length hs ⟨fun z => absurd z (by rw [n_le (by omega) (by omega)]; omega), fun _ => C_charAt hs h1 ⟨fun _ => C_spells hs hr hx ht h1k h1 (fun j hj => (h3 j hj).1) (fun _ => ⟨fun _ v8 e8 v9 e9 => ?_, fun z => absurd rfl z⟩) (fun y => absurd y w), fun z => absurd h2 z⟩⟩⟩
          rw [e8, e9, nI_1, nI_1]; exact hn2
      | succ m ihm =>
        intro j hj
        obtain ⟨n2, hn2⟩ := ihm (j + 1) (by omega)
        refine ⟨n2 + 1, C_length hs ⟨fun z => absurd z (by rw [n_le (by omega) (by omega)]; omega), fun _ => C_charAt hs (by omega) ⟨fun z => absurd z (h3 j (by omega)).2, fun _ v5 e5 => ?_⟩⟩⟩
        rw [e5, nI_1]; exact hn2
    exact run (zlen r) 0 (by omega)
theorem spL_len : ∀ s, (spL s).length ≤ 9
  | 0 | 1 | 2 | 3 | 4 => by decide
  | s + 5 => by show [14, 15, 16, 17, 18, 19, 20, 21].length ≤ 9; decide
theorem wdF_none {p : Nat} (h : ¬ tkK N B p = 1) : ∀ (l : List Nat) (k : Nat), wdF N B p l k = -1
  | [], _ => rfl
  | r :: l, k => by rw [wdF_f (fun z => h z.1)]; exact wdF_none h l (k + 1)
theorem tkC_1 {p : Nat} : tkC N B p = 1 ↔ tkK N B p = 1 := by
  unfold tkC tkK
  split
  · exact ⟨fun z => absurd z (by decide), fun z => by omega⟩
  · split
    · exact ⟨fun _ => rfl, fun _ => rfl⟩
    · split
      · exact ⟨fun z => absurd z (by decide), fun z => by omega⟩
      · split
        · rename_i q
          have q' := of_decide_eq_true q
          refine ⟨fun z => ?_, fun z => by omega⟩
          have := (n_eq (b := 1) (by omega) (by omega)).mp z
          omega
        · exact ⟨fun z => absurd z (by decide), fun z => by omega⟩
theorem C_among {s p : Nat} (hs : s < 6) (hx : TxC μ N B) (ht : TkC μ N B p) (h : KI (wdF N B p (spL s) 0) μ) : zcI (d + 6) mX6_among [.ref 3, .ref (1000 + s)] μ KI X := by
  refine cX6_among_ (by decide +kernel) (show s < 31 by omega) ?_
  unfold pX6_among
  rw [ht.2.2.2.1, tkC_1]
  refine ⟨fun z => ?_, fun z => ?_⟩
  · have l9 := spL_len s
    exact L_among (by omega) hx ht z (spL s) 0 0 (by omega) (by omega) (spL_ok hs) (Nat.zero_le _) h
  · rw [wdF_none z] at h; exact h
/-! the reference's -/
theorem R_is0 {s : Nat} (h : KI 0 μ) : ∃ n2 : Nat, pX9_is_39 n2 d s 0 0 μ KI X := ⟨1, fun _ => ⟨Or.inl rfl, h⟩, fun z => absurd rfl z⟩
theorem L_is {s p : Nat} (hs : s < 31) (hx : TxR μ N B) (ht : TkR μ N B p) (hl : tkE N B p - p = zlen s) (h0 : ∀ j, j < zlen s → ¬ nI (B (p + j)) = zbyt s j → KI 0 μ) (h1 : (∀ j, j < zlen s → nI (B (p + j)) = zbyt s j) → KI 1 μ) : ∀ (m j : Nat), j + m = zlen s → (∀ k, k < j → nI (B (p + k)) = zbyt s k) → pX9_is_39 (m + 2) (d + 4) s 1 (nI j) μ KI X := by
  have ls := zlen_b s hs
  have hN := hx.1
  have e2 := tkE_le (N := N) (B := B) ht.1
  intro m
  induction m with
  | zero =>
    intro j hj hk
    exact ⟨fun z => absurd z (by decide), fun _ => C_length hs ⟨fun _ => ⟨Or.inr rfl, h1 (fun k hk2 => hk k (by omega))⟩, fun z => absurd ((n_le (by omega) (by omega)).mpr (by omega)) z⟩⟩
  | succ m ih =>
    intro j hj hk
    refine ⟨fun z => absurd z (by decide), fun _ => C_length hs ⟨fun z => absurd z (by rw [n_le (by omega) (by omega)]; omega), fun _ => C_charAt hs (by omega) ?_⟩⟩
    rw [ht.2.1, nI_add, tN_nI (by omega), hx.2.2.2 (p + j) (by omega)]
    refine ⟨vin (by omega), fun v5 e5 v6 e6 => ?_⟩
    rw [e6, nI_1]
    by_cases y : zbyt s j = nI (B (p + j))
    · rw [if_pos y] at e5
      subst e5
      refine ih (j + 1) (by omega) (fun k hk2 => ?_)
      by_cases z : k = j
      · subst z; exact y.symm
      · exact hk k (by omega)
    · rw [if_neg y] at e5
      subst e5
      exact ⟨fun _ => ⟨Or.inl rfl, h0 j (by omega) fun z => y z.symm⟩, fun z => absurd rfl z⟩
theorem R_is {s p : Nat} (hs : s < 31) (hx : TxR μ N B) (ht : TkR μ N B p) (h19 : μ 106 19 = 0) (h0 : ¬ wdR N B p s → KI 0 μ) (h1 : wdR N B p s → KI 1 μ) : zcI (d + 5) mX9_is [.ref 106, .ref (1000 + s)] μ KI X := by
  have ls := zlen_b s hs
  have hN := hx.1
  have e2 := tkE_le (N := N) (B := B) ht.1
  have kk : tkK N B p < 100 := by unfold tkK; split; omega; split; omega; split; omega; split <;> omega
  refine cX9_is_ hs ?_
  unfold pX9_is
  rw [h19, ht.2.2.2.2.1]
  refine ⟨fun _ => ⟨fun z => C_length hs (fun v3 e3 => ?_), fun z => R_is0 (h0 fun y => z (by rw [y.1]; rfl))⟩, fun z => absurd rfl z⟩
  have k1 : tkK N B p = 1 := (n_eq (b := 1) (by omega) (by omega)).mp z
  rw [ht.2.2.2.1, ht.2.1, pk_sub e2.1] at e3
  by_cases q : zlen s = tkE N B p - p
  · rw [if_pos (by rw [q])] at e3
    subst e3
    exact ⟨zlen s + 2, L_is hs hx ht q.symm (fun j hj y => h0 fun w => y (w.2.2 j hj)) (fun y => h1 ⟨k1, q.symm, y⟩) (zlen s) 0 (by omega) (fun k hk => by omega)⟩
  · rw [if_neg (fun y => q ((n_eq (by omega) (by omega)).mp y))] at e3
    subst e3
    exact R_is0 (h0 fun y => q y.2.1.symm)
theorem R_isB {s : Nat} (hs : s < 31) (h19 : ¬ μ 106 19 = 0) (h : KI 0 μ) : zcI (d + 5) mX9_is [.ref 106, .ref (1000 + s)] μ KI X :=
  cX9_is_ hs ⟨fun z => absurd z h19, fun _ => R_is0 h⟩
def whL : Nat → List Nat
  | 107 => [7, 8, 9]
  | 108 => [10, 11, 12, 13]
  | _ => [14, 15, 16, 17, 18, 19, 20, 21]
theorem L_which {a1 n1 p : Nat} (hn : n1 ≤ 8) (hz : ∀ k, k < n1 → ∃ r, r < 31 ∧ zstr a1 k = 1000 + r ∧ (whL a1)[k]? = some r) (hx : TxR μ N B) (ht : TkR μ N B p) (h19 : μ 106 19 = 0) : ∀ (m k : Nat), k + m = n1 → (whL a1).length = n1 → KI (wdF N B p ((whL a1).drop k) k) μ → pX9_which_2 (m + 1) (d + 5) a1 n1 (nI k) μ KI X := by
  intro m
  induction m with
  | zero =>
    intro k hk hl h
    refine ⟨fun _ => ?_, fun z => absurd ((n_le (by omega) (by omega)).mpr (by omega)) z⟩
    rw [List.drop_of_length_le (by omega)] at h; exact h
  | succ m ih =>
    intro k hk hl h
    obtain ⟨r, r31, er, el⟩ := hz k (by omega)
    have ed : (whL a1).drop k = r :: (whL a1).drop (k + 1) := by
      rw [List.drop_eq_getElem_cons (by omega)]
      congr 1
      exact List.getElem_of_getElem? el |>.2
    rw [ed] at h
    refine ⟨fun z => absurd ((n_le (by omega) (by omega)).mp z) (by omega), fun _ => ⟨vin (by omega) (by omega), ?_⟩⟩
    rw [tN_nI (by omega), er]
    refine R_is r31 hx ht h19 (fun w => ⟨fun _ v3 e3 => ?_, fun z => absurd rfl z⟩) (fun w => ⟨fun z => absurd z (by decide), fun _ => ?_⟩)
    · rw [wdF_f w] at h
      rw [e3, nI_1]; exact ih (k + 1) (by omega) hl h
    · rw [wdF_t w] at h; exact h
theorem whZ7 : ∀ k, k < 3 → ∃ r, r < 31 ∧ zstr 107 k = 1000 + r ∧ (whL 107)[k]? = some r
  | 0, _ => ⟨7, by decide⟩
  | 1, _ => ⟨8, by decide⟩
  | 2, _ => ⟨9, by decide⟩
  | k + 3, h => by omega
theorem whZ8 : ∀ k, k < 4 → ∃ r, r < 31 ∧ zstr 108 k = 1000 + r ∧ (whL 108)[k]? = some r
  | 0, _ => ⟨10, by decide⟩
  | 1, _ => ⟨11, by decide⟩
  | 2, _ => ⟨12, by decide⟩
  | 3, _ => ⟨13, by decide⟩
  | k + 4, h => by omega
theorem whZ9 : ∀ k, k < 8 → ∃ r, r < 31 ∧ zstr 109 k = 1000 + r ∧ (whL 109)[k]? = some r
  | 0, _ => ⟨14, by decide⟩
  | 1, _ => ⟨15, by decide⟩
  | 2, _ => ⟨16, by decide⟩
  | 3, _ => ⟨17, by decide⟩
  | 4, _ => ⟨18, by decide⟩
  | 5, _ => ⟨19, by decide⟩
  | 6, _ => ⟨20, by decide⟩
  | 7, _ => ⟨21, by decide⟩
  | k + 8, h => by omega
end Word
