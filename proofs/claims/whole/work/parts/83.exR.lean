/-! EXPR: the reference -/
def zRdR (c j : Nat) : Prop := (c = 106 ∧ (j = 13 ∨ (15 ≤ j ∧ j ≤ 20))) ∨ (c = 110 ∧ j = 19) ∨ (c = 115 ∧ 700 ≤ j)
def ER (μ : zMem) (N : Nat) (B : Nat → Nat) (p k : Nat) (T : Nat → Int32) : Prop := TxR μ N B ∧ TkR μ N B p ∧ μ 106 19 = 0 ∧ μ 110 19 = nI k ∧ ∀ j, j < k → μ 115 (700 + j) = T j
def FR (μ : zMem) (N c q : Nat) : Prop := 1 ≤ c ∧ c ≤ 5 ∧ q ≤ N ∧ μ 106 19 = nI c ∧ μ 106 20 = nI q
def RR (μ : zMem) (N : Nat) (B : Nat → Nat) (R : zPE) (KV : zMem → Prop) : Prop :=
  (∀ c q, R = .inl (c, q) → ∀ μ', Fr zRdR μ μ' → FR μ' N c q → KV μ') ∧ ∀ p k T, R = .inr (p, k, T) → ∀ μ', Fr zRdR μ μ' → ER μ' N B p k T → KV μ'
theorem zRs_d {m1 m2 : zMem} (f : Fr zRs m1 m2) : Fr zRdR m1 m2 := f.mono fun c j q => by unfold zRs at q; unfold zRdR; omega
theorem FR.b {μ : zMem} {N c q : Nat} (h : FR μ N c q) : ¬ μ 106 19 = 0 := by
  rw [h.2.2.2.1]
  have := h.1; have := h.2.1
  exact fun z => by have := (n_eq (b := 0) (by omega) (by omega)).mp z; omega
section ExR
variable {d : Nat} {μ : zMem} {KI : Int32 → zMem → Prop} {KV : zMem → Prop} {X : Nat → zMem → Prop} {N : Nat} {B : Nat → Nat}
theorem RR.tr {μ1 : zMem} {R : zPE} (h : RR μ N B R KV) (f : Fr zRdR μ μ1) : RR μ1 N B R KV :=
  ⟨fun c q e μ' f' x => h.1 c q e μ' (f.tr f') x, fun p k T e μ' f' x => h.2 p k T e μ' (f.tr f') x⟩
theorem RR.le {c q : Nat} (h : RR μ N B (.inl (c, q)) KV) {μ' : zMem} (f : Fr zRdR μ μ') (x : FR μ' N c q) : KV μ' := h.1 c q rfl μ' f x
theorem RR.ri {p k : Nat} {T : Nat → Int32} (h : RR μ N B (.inr (p, k, T)) KV) {μ' : zMem} (f : Fr zRdR μ μ') (x : ER μ' N B p k T) : KV μ' := h.2 p k T rfl μ' f x
theorem RR.pb {R : zPE} {f : zPF} {KV' : zMem → Prop} (h : RR μ N B (pb R f) KV) (h0 : ∀ μ', Fr zRdR μ μ' → ¬ μ' 106 19 = 0 → KV μ' → KV' μ') (h1 : ∀ p k T, R = .inr (p, k, T) → ∀ μ', Fr zRdR μ μ' → ER μ' N B p k T → RR μ' N B (f p k T) KV → KV' μ') : RR μ N B R KV' := by
  refine ⟨fun c q e μ' f' x => h0 μ' f' x.b ?_, fun p k T e μ' f' x => h1 p k T e μ' f' x ?_⟩
  · subst e; exact h.1 c q rfl μ' f' x
  · subst e; exact RR.tr h f'
theorem ER.st {p k : Nat} {T : Nat → Int32} {μ' : zMem} {p' : Nat} (h : ER μ N B p k T) (f : Fr zRs μ μ') (t : TkR μ' N B p') : ER μ' N B p' k T := by
  obtain ⟨h1, h2, h3, h4, h5⟩ := h
  refine ⟨h1.go f, t, ?_, ?_, fun j hj => ?_⟩
  · rw [f _ _ (by unfold zRs; omega)]; exact h3
  · rw [f _ _ (by unfold zRs; omega)]; exact h4
  · rw [f _ _ (by unfold zRs; omega)]; exact h5 j hj
theorem ER.next {p k : Nat} {T : Nat → Int32} (h : ER μ N B p k T) (hK : ∀ μ', Fr zRdR μ μ' → ER μ' N B (tkN N B p) k T → KV μ') : zcV (d + 2) mX9_stepOn [.ref 106] μ KV X :=
  R_next h.1 h.2.1 (fun μ' f t => hK μ' (zRs_d f) (h.st f t))
theorem R_lay {p k : Nat} {T : Nat → Int32} {x : Int32} (h : ER μ N B p k T) (hk : k < 700) (hK : ∀ μ', Fr zRdR μ μ' → ER μ' N B p (k + 1) (upd T k x) → KV μ') : zcV (d + 1) mX9_lay [.ref 106, .int x] μ KV X := by
  obtain ⟨g1, g2, g3, g4, g5⟩ := h
  have e7 : (700 : Int32) + nI k = nI (700 + k) := nI_add 700 k
  refine cX9_lay_ ⟨fun _ => ?_, fun z => absurd g3 z⟩
  rw [g4, e7, tN_nI (by omega)]
  refine ⟨vin (by omega), fun m1 e1 m2 e2 => ?_⟩
  have e12 : m1 110 19 = nI k := by rw [e1, zw_c (by omega)]; exact g4
  rw [e12, nI_1] at e2
  have e : ∀ c j, c ≠ 115 → ¬ (c = 110 ∧ j = 19) → m2 c j = μ c j := fun c j a b => by rw [e2, zw_n b, e1, zw_c a]
  refine hK m2 (Fr.tr (μ1 := m1) (by rw [e1]; exact Fr.w (Or.inr (Or.inr ⟨rfl, by omega⟩))) (by rw [e2]; exact Fr.w (Or.inr (Or.inl ⟨rfl, rfl⟩)))) ⟨⟨g1.1, g1.2.1, ?_, fun j hj => ?_⟩, ⟨g2.1, ?_, ?_, ?_, ?_, fun a b => ?_⟩, ?_, by rw [e2, zw_s], fun j hj => ?_⟩
  · rw [e _ _ (by omega) (by omega)]; exact g1.2.2.1
  · rw [e _ _ (by omega) (by omega)]; exact g1.2.2.2 j hj
  · rw [e _ _ (by omega) (by omega)]; exact g2.2.1
  · rw [e _ _ (by omega) (by omega)]; exact g2.2.2.1
  · rw [e _ _ (by omega) (by omega)]; exact g2.2.2.2.1
  · rw [e _ _ (by omega) (by omega)]; exact g2.2.2.2.2.1
  · rw [e _ _ (by omega) (by omega)]; exact g2.2.2.2.2.2 a b
  · rw [e _ _ (by omega) (by omega)]; exact g3
  · rw [e2, zw_c (by omega), e1]
    by_cases y : j = k
    · subst y; rw [zw_s, upd_s]
    · rw [zw_j (by omega), upd_n y]; exact g5 j (by omega)
theorem R_layB {x : Int32} (b : ¬ μ 106 19 = 0) (h : KV μ) : zcV (d + 1) mX9_lay [.ref 106, .int x] μ KV X := cX9_lay_ ⟨fun z => absurd z b, fun _ => h⟩
theorem R_wrong {p c : Nat} {x : Int32} (ex : x = nI c) (c1 : 1 ≤ c) (c5 : c ≤ 5) (h3 : μ 106 19 = 0) (ht : TkR μ N B p) (hK : ∀ μ', Fr zRdR μ μ' → FR μ' N c p → KV μ') : zcV (d + 1) mX9_wrong [.ref 106, .int x] μ KV X := by
  subst ex
  refine cX9_wrong_ ⟨fun _ m1 e1 m2 e2 => ?_, fun z => absurd h3 z⟩
  have e17 : m1 106 17 = nI p := by rw [e1, zw_j (by omega)]; exact ht.2.1
  rw [e17] at e2
  exact hK m2 (Fr.tr (μ1 := m1) (by rw [e1]; exact Fr.w (Or.inl ⟨rfl, by omega⟩)) (by rw [e2]; exact Fr.w (Or.inl ⟨rfl, by omega⟩))) ⟨c1, c5, ht.1, by rw [e2, zw_j (by omega), e1, zw_s], by rw [e2, zw_s]⟩
theorem R_wrongB {x : Int32} (b : ¬ μ 106 19 = 0) (h : KV μ) : zcV (d + 1) mX9_wrong [.ref 106, .int x] μ KV X := cX9_wrong_ ⟨fun z => absurd z b, fun _ => h⟩
theorem kk_lt {p : Nat} : tkK N B p < 5 := by unfold tkK; split; omega; split; omega; split; omega; split <;> omega
theorem R_mkd {p c : Nat} {x : Int32} (ex : x = nI c) (hc : c < 256) (hx : TxR μ N B) (ht : TkR μ N B p) (h3 : μ 106 19 = 0) (h0 : ¬ sg N B p c = true → KI 0 μ) (h1 : sg N B p c = true → KI 1 μ) : zcI (d + 1) mX9_isMarked [.ref 106, .int x] μ KI X := by
  subst ex
  have kk := kk_lt (N := N) (B := B) (p := p)
  refine cX9_isMarked_ ⟨fun _ => ⟨fun z => ?_, fun z => h0 fun y => z ?_⟩, fun z => absurd h3 z⟩
  · rw [ht.2.2.2.2.1] at z
    have k3 : tkK N B p = 3 := (n_eq (b := 3) (by omega) (by omega)).mp z
    have lt := tkK_lt (N := N) (B := B) (p := p) (by omega)
    have hN := hx.1
    have hb := hx.2.1 p lt
    rw [ht.2.1, tN_nI (by omega), hx.2.2.2 p lt]
    refine ⟨vin (by omega), ?_⟩
    by_cases y : B p = c
    · rw [if_pos (by rw [y])]; exact h1 (sg_t.mpr ⟨k3, y⟩)
    · rw [if_neg (fun w => y ((n_eq (by omega) (by omega)).mp w))]; exact h0 fun w => y (sg_t.mp w).2
  · rw [ht.2.2.2.2.1, (sg_t.mp y).1]; rfl
theorem R_mkdB {x : Int32} (b : ¬ μ 106 19 = 0) (h : KI 0 μ) : zcI (d + 1) mX9_isMarked [.ref 106, .int x] μ KI X := cX9_isMarked_ ⟨fun z => absurd z b, fun _ => h⟩
theorem R_markB {x : Int32} (b : ¬ μ 106 19 = 0) (h : KV μ) : zcV (d + 2) mX9_mark [.ref 106, .int x] μ KV X := cX9_mark_ ⟨fun z => absurd z b, fun _ => ⟨fun z => absurd z b, fun _ => h⟩⟩
theorem R_mark {p k c : Nat} {T : Nat → Int32} {x : Int32} (ex : x = nI c) (hc : c < 256) (h : ER μ N B p k T) (h0 : ¬ sg N B p c = true → ∀ μ', Fr zRdR μ μ' → FR μ' N 1 p → KV μ') (h1 : sg N B p c = true → ∀ μ', Fr zRdR μ μ' → ER μ' N B (tkN N B p) k T → KV μ') : zcV (d + 3) mX9_mark [.ref 106, .int x] μ KV X := by
  refine cX9_mark_ ⟨fun _ => R_mkd (d := d + 1) ex hc h.1 h.2.1 h.2.2.1 (fun ns => ⟨fun _ => R_wrong (d := d + 1) (c := 1) rfl (by omega) (by omega) h.2.2.1 h.2.1 (fun m3 f3 x3 => ⟨fun z => absurd z x3.b, fun _ => h0 ns m3 f3 x3⟩), fun z => absurd rfl z⟩) (fun s => ⟨fun z => absurd z (by decide), fun _ => ⟨fun _ => h.next (d := d) (fun m1 f1 e1 => h1 s m1 f1 e1), fun z => absurd h.2.2.1 z⟩⟩), fun z => absurd h.2.2.1 z⟩
/-! numbers -/
theorem R_numB {x y : Int32} (b : ¬ μ 106 19 = 0) (h : KI 0 μ) : zcI (d + 1) mX9_numberNow [.ref 106, .int x, .int y] μ KI X := cX9_numberNow_ ⟨fun z => absurd z b, fun _ => h⟩
theorem R_readB {x y : Int32} (b : ¬ μ 106 19 = 0) (h : KI 0 μ) : zcI (d + 2) mX9_readNumber [.ref 106, .int x, .int y] μ KI X := cX9_readNumber_ (R_numB b ⟨fun z => absurd z b, fun _ => h⟩)
theorem R_num {p lo hi : Nat} {x y : Int32} (ex : x = nI lo) (ey : y = nI hi) (hh : hi ≤ 9999) (hl : lo ≤ 9999) (hx : TxR μ N B) (ht : TkR μ N B p) (h3 : μ 106 19 = 0) (h0 : ∀ c μ', (if tkK N B p = 2 then ¬ nmO N B p lo hi = true ∧ c = 2 else c = 1) → Fr zRdR μ μ' → FR μ' N c p → KI 0 μ') (h1 : tkK N B p = 2 → nmO N B p lo hi = true → KI (nI (nmV N B p)) μ) : zcI (d + 2) mX9_numberNow [.ref 106, .int x, .int y] μ KI X := by
  subst ex ey
  have kk := kk_lt (N := N) (B := B) (p := p)
  have hN := hx.1
  have e2 := tkE_le (N := N) (B := B) ht.1
  have wr : ∀ c : Nat, (if tkK N B p = 2 then ¬ nmO N B p lo hi = true ∧ c = 2 else c = 1) → zcV (d + 1) mX9_wrong [.ref 106, .int (nI c)] μ (fun m1 => pX9_numberNow_59 (d + 1) m1 KI X) X := by
    intro c hc
    refine R_wrong (c := c) rfl (by split at hc <;> omega) (by split at hc <;> omega) h3 ht (fun μ' f x => ?_)
    show KI (if μ' 106 19 = 0 then μ' 106 16 else 0) μ'
    rw [if_neg x.b]; exact h0 c μ' hc f x
  refine cX9_numberNow_ ⟨fun _ => ⟨fun z => ?_, fun z => wr 1 ?_⟩, fun z => absurd h3 z⟩
  · rw [ht.2.2.2.2.1] at z
    have k2 : tkK N B p = 2 := (n_eq (b := 2) (by omega) (by omega)).mp z
    have r2 : ¬ nmO N B p lo hi = true → zcV (d + 1) mX9_wrong [.ref 106, .int 2] μ (fun m1 => pX9_numberNow_59 (d + 1) m1 KI X) X := fun y => wr 2 (by rw [if_pos k2]; exact ⟨y, rfl⟩)
    rw [ht.2.2.2.1, ht.2.1, pk_sub e2.1]
    refine ⟨fun l => r2 fun y => ?_, fun l => ?_⟩
    · have := of_decide_eq_true y
      have := (n_lt (a := 4) (by omega) (by omega)).mp l; omega
    · have l4 : tkE N B p - p ≤ 4 := Classical.byContradiction fun y => l ((n_lt (a := 4) (by omega) (by omega)).mpr (by omega))
      have q0 := tkK_lt (N := N) (B := B) (p := p) (by omega)
      have dd : ∀ j, j < tkE N B p - p → bD (B (p + j)) = true := by
        intro j hj
        have nl : ¬ bL (B p) = true := by
          intro z; unfold tkK at k2; rw [if_neg (by omega), if_pos z] at k2; omega
        have nd : bD (B p) = true := by
          unfold tkK at k2
          rw [if_neg (by omega), if_neg nl] at k2
          split at k2
          · assumption
          · split at k2 <;> omega
        have eE : tkE N B p = zrn bD B (N - p) p := by unfold tkE; rw [if_neg (by omega), if_neg nl, if_pos nd]
        exact zrn_all (N - p) p (p + j) (by omega) (by omega)
      have lt := tkV_lt (B := B) (p := p) (t := tkE N B p - p) dd
      have p4 : 10 ^ (tkE N B p - p) ≤ 10 ^ 4 := Nat.pow_le_pow_right (by omega) l4
      rw [ht.2.2.2.2.2 k2 l4, n_lt (by omega) (by omega), n_le (by omega) (by omega)]
      refine ⟨fun y => r2 fun w => by have := of_decide_eq_true w; omega, fun y => ⟨fun y2 => ?_, fun y2 => r2 fun w => by have := of_decide_eq_true w; omega⟩⟩
      show KI (if μ 106 19 = 0 then μ 106 16 else 0) μ
      rw [if_pos h3, ht.2.2.2.2.2 k2 l4]
      exact h1 k2 (decide_eq_true ⟨l4, by omega, y2⟩)
  · rw [if_neg]
    intro y
    rw [ht.2.2.2.2.1, y] at z
    exact z rfl
theorem R_read {p lo hi : Nat} {x y : Int32} (ex : x = nI lo) (ey : y = nI hi) (hh : hi ≤ 9999) (hl : lo ≤ 9999) (hx : TxR μ N B) (ht : TkR μ N B p) (h3 : μ 106 19 = 0) (h0 : ∀ c μ', (if tkK N B p = 2 then ¬ nmO N B p lo hi = true ∧ c = 2 else c = 1) → Fr zRdR μ μ' → FR μ' N c p → KI 0 μ') (h1 : tkK N B p = 2 → nmO N B p lo hi = true → ∀ μ', Fr zRs μ μ' → TkR μ' N B (tkN N B p) → KI (nI (nmV N B p)) μ') : zcI (d + 3) mX9_readNumber [.ref 106, .int x, .int y] μ KI X := by
  refine cX9_readNumber_ (R_num (d := d) ex ey hh hl hx ht h3 (fun c μ' a f x => ⟨fun z => absurd z x.b, fun _ => h0 c μ' a f x⟩) (fun a b => ⟨fun _ => R_next hx ht (fun m3 f3 t3 => h1 a b m3 f3 t3), fun z => absurd h3 z⟩))
end ExR
