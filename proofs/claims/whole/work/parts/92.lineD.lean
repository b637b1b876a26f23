/-! a whole line: the class; one never goes back -/
def FlC (μ : zMem) (f : Nat) : Prop := ∀ j, j < 5 → μ 5 j = if f.testBit j = true then 1 else 0
def zTx5 (s c j : Nat) : Prop := zTx s c j ∨ c = 5
theorem kd_4 : ∀ k, k < 9 → ((nI k - 4 < 0 ↔ k < 4) ∧ ¬ 5 ≤ nI k - 4 ∧ ¬ nI k = -1) ∧ (4 ≤ k → nI k - 4 = nI (k - 4)) := by decide +kernel
section LineD
variable {d s : Nat} {μ : zMem} {KI : Int32 → zMem → Prop} {KV : zMem → Prop} {X : Nat → zMem → Prop} {N : Nat} {B : Nat → Nat}
theorem zTx_5 {m1 m2 : zMem} (f : Fr (zTx s) m1 m2) : Fr (zTx5 s) m1 m2 := f.mono fun _ _ z => Or.inl z
theorem FlC.go {μ' : zMem} {f : Nat} (h : FlC μ f) (hs : s = 6 ∨ s = 26) (fr : Fr (zTx s) μ μ') : FlC μ' f := fun j hj => by rw [fr _ _ (by unfold zTx; omega)]; exact h j hj
theorem C_lineT {p : Nat} {σ : zS} (hs : s = 6 ∨ s = 26) (hm : SgM σ) (h : LK μ N B p) (u : SuC s μ σ.2) (fl : FlC μ σ.1)
    (h0 : ∀ c q, lnLine N B σ p = .inl (c, q) → ∀ μ', Fr (zTx5 s) μ μ' → FC μ' N B c q → KI 0 μ')
    (h1 : ∀ p' σ', lnLine N B σ p = .inr (p', σ') → ∀ μ', Fr (zTx5 s) μ μ' → LK μ' N B p' → SuC s μ' σ'.2 → FlC μ' σ'.1 → KI 1 μ') : zcI (d + 54) mX2_readLine [.ref 2, .ref s] μ KI X := by
  have hz : zsh s = .inr 4 := by rcases hs with rfl | rfl <;> decide +kernel
  unfold lnLine at h0 h1
  refine cX2_readLine_ (by decide +kernel) hz (h.among (d := d + 47) (t := 0) (by omega) ⟨fun z => ?_, fun z => ?_⟩)
  · rw [if_pos z] at h0
    exact C_ref (c := 1) rfl (by omega) (by omega) h (fun μ' f' x' => ⟨Or.inl rfl, h0 1 _ rfl μ' (zTx_5 (zHd_t (zHd_m f'))) x'⟩)
  · rw [if_neg z] at h0 h1
    rcases wdF_rng (N := N) (B := B) (p := p) (spL 0) 0 with e | ⟨kd, k1, k2, e⟩
    · exact absurd e z
    · have k9 : kd < 9 := by
        have : (spL 0).length = 9 := rfl
        omega
      rw [e, tN_nI (by omega)] at h0 h1
      rw [e]
      obtain ⟨⟨q1, q2, q3⟩, q4⟩ := kd_4 kd k9
      by_cases lo : kd < 4
      · rw [lnK_lo lo] at h0 h1
        refine ⟨fun _ => C_56 hs k9 h u hm.2.1.1 hm.2.2.1.1 (fun w => by omega) (fun c q e1 μ' f x => h0 c q (bd_l e1) μ' (zTx_5 f) x) (fun p' τ' e1 μ' f k u' => h1 _ _ (bd_r e1) μ' (zTx_5 f) k u' (fl.go hs f)), fun w => absurd (q1.mpr lo) w⟩
      · obtain ⟨i, ei⟩ : ∃ i, kd = 4 + i := ⟨kd - 4, by omega⟩
        subst ei
        have hi : i < 5 := by omega
        have e4 : nI (4 + i) - 4 = nI i := by rw [q4 (by omega), show 4 + i - 4 = i by omega]
        rw [lnK_hi hi] at h0 h1
        refine ⟨fun w => absurd (q1.mp w) lo, fun _ => ⟨fun w => absurd w q2, fun _ => ?_⟩⟩
        rw [e4, tN_nI (by omega)]
        have fi : μ (2 + 3) i = if σ.1.testBit i = true then 1 else 0 := fl i hi
        rw [fi]
        refine ⟨vin (by omega), fun w => ⟨vin (by omega), fun m3 e3 => ?_⟩, fun w => ?_⟩
        · have nb : ¬ σ.1.testBit i = true := fun y => by rw [if_pos y] at w; exact absurd w (by decide)
          rw [if_neg nb] at h0 h1
          have e3' : m3 = zw μ 5 i 1 := e3
          have f3 : Fr (zTx5 s) μ m3 := by rw [e3']; exact Fr.w (Or.inr rfl)
          have k3 : LK m3 N B p := by rw [e3']; exact h.w (by omega)
          have u3 : SuC s m3 σ.2 := u.go fun c j a b => by rw [e3', zw_c (by omega)]
          have b2 := (fl_b σ.1 hm.1 i hi nb).2
          have g3 : FlC m3 (σ.1 + 2 ^ i) := by
            intro j hj
            rw [b2 j hj, e3']
            by_cases y : j = i
            · subst y
              rw [zw_s, decide_eq_true rfl, Bool.true_or]; rfl
            · rw [zw_j y, decide_eq_false y, Bool.false_or]; exact fl j hj
          have i4 : 4 + i = 8 → σ.2.2.1.2.2.2.2.1 = 0 := fun y => hm.2.2.2.2.2.2 (by rw [show i = 4 by omega] at nb; exact nb)
          exact C_56 hs k9 k3 u3 hm.2.1.1 hm.2.2.1.1 i4 (fun c q e1 μ' f x => h0 c q (bd_l e1) μ' (f3.tr (zTx_5 f)) x) (fun p' τ' e1 μ' f k u' => h1 _ _ (bd_r e1) μ' (f3.tr (zTx_5 f)) k u' (g3.go hs f))
        · have yb : σ.1.testBit i = true := by
            by_cases y : σ.1.testBit i = true
            · exact y
            · rw [if_neg y] at w; exact absurd rfl w
          rw [if_pos yb] at h0
          exact C_ref (c := 5) rfl (by omega) (by omega) h (fun μ' f' x' => ⟨Or.inl rfl, h0 5 _ rfl μ' (zTx_5 (zHd_t (zHd_m f'))) x'⟩)
theorem sgR_p2 {p : Nat} {a : Nat × Int32} (hp : p ≤ N) (h : sgR N B p = .inr a) : p ≤ a.1 ∧ a.1 ≤ N := by
  have t1 := tkN_le (B := B) hp
  have t2 := tkN_le (B := B) t1.2
  by_cases z : sg N B p 45 = true
  · rw [sgR_p z] at h
    obtain ⟨v, e, f⟩ := bd_i h
    cases f
    exact ⟨Nat.le_trans t1.1 t2.1, t2.2⟩
  · rw [sgR_n z] at h
    obtain ⟨v, e, f⟩ := bd_i h
    cases f
    exact t1
theorem lnQ_p {p p' kd : Nat} {τ τ' : zU} (hp : p ≤ N) (h : lnQ N B τ p kd = .inr (p', τ')) : p ≤ p' := by
  have t1 := tkN_le (B := B) hp
  have t2 := tkN_le (B := B) t1.2
  have t3 := tkN_le (B := B) t2.2
  have t4 := tkN_le (B := B) t3.2
  have t5 := tkN_le (B := B) t4.2
  have t6 := tkN_le (B := B) t5.2
  have t7 := tkN_le (B := B) t6.2
  have t8 := tkN_le (B := B) t7.2
  have t9 := tkN_le (B := B) t8.2
  have gI : ∀ kd, bd (lnIsle N B τ.1.1 τ.1.2 kd p) (fun r => .inr (r.1, iAdd τ.1 r.2, τ.2)) = (.inr (p', τ') : (Nat × Nat) ⊕ (Nat × zU)) → p ≤ p' := by
    intro kd h
    obtain ⟨r, e1, e2⟩ := bd_i h
    cases e2
    obtain ⟨_, h2⟩ := if_i e1
    obtain ⟨_, _, h3⟩ := bd_i h2
    obtain ⟨_, _, h4⟩ := bd_i h3
    obtain ⟨_, h6⟩ := if_i h4
    obtain ⟨_, _, h7⟩ := bd_i h6
    obtain ⟨_, _, h8⟩ := bd_i h7
    obtain ⟨_, _, h9⟩ := bd_i h8
    obtain ⟨_, _, h10⟩ := bd_i h9
    obtain ⟨_, _, h11⟩ := bd_i h10
    obtain ⟨_, _, h12⟩ := bd_i h11
    cases h12
    have a1 := Nat.le_trans (Nat.le_trans t1.1 t2.1) t3.1
    have a2 := Nat.le_trans (Nat.le_trans t4.1 t5.1) t6.1
    exact Nat.le_trans a1 (Nat.le_trans a2 (Nat.le_trans (Nat.le_trans t7.1 t8.1) t9.1))
  match kd, h with
  | 0, h => exact gI 0 h
  | 1, h => exact gI 1 h
  | 2, h => exact gI 2 h
  | 3, h =>
    obtain ⟨r, e1, e2⟩ := bd_i h
    cases e2
    obtain ⟨_, h2⟩ := if_i e1
    obtain ⟨_, _, h3⟩ := bd_i h2
    obtain ⟨_, h5⟩ := if_i h3
    obtain ⟨a, ea, h6⟩ := bd_i h5
    obtain ⟨b, eb, h7⟩ := bd_i h6
    cases h7
    have ga := sgR_p2 t2.2 ea
    have gb := sgR_p2 ga.2 eb
    exact Nat.le_trans (Nat.le_trans t1.1 t2.1) (Nat.le_trans ga.1 gb.1)
  | 4, h =>
    obtain ⟨r, e1, e2⟩ := bd_i h
    cases e2
    obtain ⟨_, h2⟩ := if_i e1
    cases h2
    exact Nat.le_trans t1.1 t2.1
  | 5, h =>
    obtain ⟨r, e1, e2⟩ := bd_i h
    cases e2
    obtain ⟨_, _, h2⟩ := bd_i e1
    obtain ⟨_, _, h3⟩ := bd_i h2
    obtain ⟨_, _, h4⟩ := bd_i h3
    obtain ⟨_, _, h5⟩ := bd_i h4
    obtain ⟨_, h6⟩ := if_i h5
    cases h6
    exact Nat.le_trans (Nat.le_trans t1.1 t2.1) (Nat.le_trans (Nat.le_trans t3.1 t4.1) t5.1)
  | 6, h =>
    obtain ⟨r, e1, e2⟩ := bd_i h
    cases e2
    obtain ⟨_, _, h2⟩ := bd_i e1
    cases h2
    exact Nat.le_trans t1.1 t2.1
  | 7, h =>
    obtain ⟨r, e1, e2⟩ := bd_i h
    cases e2
    obtain ⟨_, _, h2⟩ := bd_i e1
    cases h2
    exact Nat.le_trans t1.1 t2.1
  | 8, h =>
    obtain ⟨⟨p1, k, T⟩, e1, e2⟩ := bd_i h
    cases e2
    have g := gd_E (N := N) (B := B) 6 _ _ _ _ _ _ t1.2 e1
    exact Nat.le_trans t1.1 g.1
  | kd + 9, h => exact gI (kd + 9) h
theorem lnLine_p {p p' : Nat} {σ σ' : zS} (hp : p ≤ N) (h : lnLine N B σ p = .inr (p', σ')) : p ≤ p' := by
  obtain ⟨z, h2⟩ := if_i h
  rcases wdF_rng (N := N) (B := B) (p := p) (spL 0) 0 with e | ⟨kd, k1, k2, e⟩
  · exact absurd e z
  · have k9 : kd < 9 := by
      have : (spL 0).length = 9 := rfl
      omega
    rw [e, tN_nI (by omega)] at h2
    by_cases lo : kd < 4
    · rw [lnK_lo lo] at h2
      obtain ⟨r, e1, e2⟩ := bd_i h2
      cases e2
      exact lnQ_p hp e1
    · obtain ⟨i, ei⟩ : ∃ i, kd = 4 + i := ⟨kd - 4, by omega⟩
      subst ei
      rw [lnK_hi (by omega)] at h2
      obtain ⟨_, h3⟩ := if_i h2
      obtain ⟨r, e1, e2⟩ := bd_i h3
      cases e2
      exact lnQ_p hp e1
end LineD
