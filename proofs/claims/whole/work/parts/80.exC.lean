/-! EXPR: the class -/
def zRd (r c j : Nat) : Prop := zStp c j ∨ (c = 2 ∧ 2 ≤ j) ∨ (c = r ∧ j = 1) ∨ c = r + 1
def EC (r : Nat) (μ : zMem) (N : Nat) (B : Nat → Nat) (p k : Nat) (T : Nat → Int32) : Prop := TxC μ N B ∧ TkC μ N B p ∧ μ 2 2 = 0 ∧ μ r 1 = nI k ∧ ∀ j, j < k → μ (r + 1) j = encC (T j)
/-- the fault told -/
def FC (μ : zMem) (N : Nat) (B : Nat → Nat) (c q : Nat) : Prop := TxC μ N B ∧ q ≤ N ∧ 1 ≤ c ∧ c ≤ 5 ∧ μ 2 2 = nI c ∧ μ 2 4 = nI q
def CR (r : Nat) (μ : zMem) (N : Nat) (B : Nat → Nat) (R : zPE) (KI : Int32 → zMem → Prop) : Prop :=
  (∀ c q, R = .inl (c, q) → ∀ μ', Fr (zRd r) μ μ' → FC μ' N B c q → KI 0 μ') ∧ ∀ p k T, R = .inr (p, k, T) → ∀ μ', Fr (zRd r) μ μ' → EC r μ' N B p k T → KI 1 μ'
theorem zStp_d {r : Nat} {m1 m2 : zMem} (f : Fr zStp m1 m2) : Fr (zRd r) m1 m2 := f.mono fun c j q => Or.inl q
section ExC
variable {d r : Nat} {μ : zMem} {KI : Int32 → zMem → Prop} {KV : zMem → Prop} {X : Nat → zMem → Prop} {N : Nat} {B : Nat → Nat}
theorem CR.tr {μ1 : zMem} {R : zPE} (h : CR r μ N B R KI) (f : Fr (zRd r) μ μ1) : CR r μ1 N B R KI :=
  ⟨fun c q e μ' f' x => h.1 c q e μ' (f.tr f') x, fun p k T e μ' f' x => h.2 p k T e μ' (f.tr f') x⟩
theorem CR.le {c q : Nat} (h : CR r μ N B (.inl (c, q)) KI) {μ' : zMem} (f : Fr (zRd r) μ μ') (x : FC μ' N B c q) : KI 0 μ' := h.1 c q rfl μ' f x
theorem CR.ri {p k : Nat} {T : Nat → Int32} (h : CR r μ N B (.inr (p, k, T)) KI) {μ' : zMem} (f : Fr (zRd r) μ μ') (x : EC r μ' N B p k T) : KI 1 μ' := h.2 p k T rfl μ' f x
/-- first one, then behind it -/
theorem CR.pb {R : zPE} {f : zPF} {KI' : Int32 → zMem → Prop} (h : CR r μ N B (pb R f) KI) (h0 : ∀ μ', Fr (zRd r) μ μ' → KI 0 μ' → KI' 0 μ') (h1 : ∀ p k T, R = .inr (p, k, T) → ∀ μ', Fr (zRd r) μ μ' → EC r μ' N B p k T → CR r μ' N B (f p k T) KI → KI' 1 μ') : CR r μ N B R KI' := by
  refine ⟨fun c q e μ' f' x => h0 μ' f' ?_, fun p k T e μ' f' x => h1 p k T e μ' f' x ?_⟩
  · subst e; exact h.1 c q rfl μ' f' x
  · subst e; exact CR.tr h f'
theorem EC.st {p k : Nat} {T : Nat → Int32} {μ' : zMem} {p' : Nat} (h : EC r μ N B p k T) (hr : 5 < r) (f : Fr zStp μ μ') (t : TkC μ' N B p') : EC r μ' N B p' k T := by
  obtain ⟨h1, h2, h3, h4, h5⟩ := h
  refine ⟨h1.go f, t, ?_, ?_, fun j hj => ?_⟩
  · rw [f _ _ (by unfold zStp; omega)]; exact h3
  · rw [f _ _ (by unfold zStp; omega)]; exact h4
  · rw [f _ _ (by unfold zStp; omega)]; exact h5 j hj
theorem EC.next {p k : Nat} {T : Nat → Int32} (h : EC r μ N B p k T) (hr : 5 < r) (hK : ∀ μ', Fr (zRd r) μ μ' → EC r μ' N B (tkN N B p) k T → KV μ') : zcV (d + 5) mX6_step [.ref 3] μ KV X :=
  C_next h.1 h.2.1 (fun μ' f t => hK μ' (zStp_d f) (h.st hr f t))
theorem EC.add {p k : Nat} {T : Nat → Int32} {x s : Int32} (h : EC r μ N B p k T) (hr : 5 < r) (h3 : zsh r = .inr 3) (hk : k < 700) (ex : x = encC s) (hK : ∀ μ', Fr (zRd r) μ μ' → EC r μ' N B p (k + 1) (upd T k s) → KV μ') : zcV (d + 1) mX3_add [.ref r, .int x] μ KV X := by
  obtain ⟨g1, g2, g3, g4, g5⟩ := h
  refine cX3_add_ h3 ?_
  unfold pX3_add
  rw [g4, show (700 : Int32) = nI 700 from rfl, n_le (by omega) (by omega), tN_nI (by omega)]
  refine ⟨fun z => by omega, fun _ => ⟨vin (by omega), fun m1 e1 m2 e2 => ?_⟩⟩
  have e12 : m1 r 1 = nI k := by rw [e1, zw_c (by omega)]; exact g4
  rw [e12, nI_1] at e2
  refine hK m2 (Fr.tr (μ1 := m1) (by rw [e1]; exact Fr.w (Or.inr (Or.inr (Or.inr rfl)))) (by rw [e2]; exact Fr.w (Or.inr (Or.inr (Or.inl ⟨rfl, rfl⟩))))) ⟨g1.e ?_ (fun j => ?_), g2.e (fun j => ?_), ?_, by rw [e2, zw_s], fun j hj => ?_⟩
  · rw [e2, zw_c (by omega), e1, zw_c (by omega)]
  · rw [e2, zw_c (by omega), e1, zw_c (by omega)]
  · rw [e2, zw_c (by omega), e1, zw_c (by omega)]
  · rw [e2, zw_c (by omega), e1, zw_c (by omega)]; exact g3
  · rw [e2, zw_c (by omega), e1]
    by_cases y : j = k
    · subst y; rw [zw_s, upd_s, ex]
    · rw [zw_j y, upd_n y]; exact g5 j (by omega)
theorem C_refuse {p c : Nat} {x : Int32} (ex : x = nI c) (c1 : 1 ≤ c) (c5 : c ≤ 5) (hx : TxC μ N B) (ht : TkC μ N B p) (hK : ∀ μ', Fr (zRd r) μ μ' → FC μ' N B c p → KI 0 μ') : zcI (d + 1) mX2_refuse [.ref 2, .int x] μ KI X := by
  subst ex
  refine cX2_refuse_ (by decide +kernel) (fun m1 e1 m2 e2 => ?_)
  have e3 : m1 (2 + 1) 3 = nI p := by rw [e1, zw_c (by omega)]; exact ht.2.1
  rw [e3] at e2
  refine hK m2 (Fr.tr (μ1 := m1) (by rw [e1]; exact Fr.w (Or.inr (Or.inl ⟨rfl, by omega⟩))) (by rw [e2]; exact Fr.w (Or.inr (Or.inl ⟨rfl, by omega⟩)))) ⟨hx.e ?_ (fun j => ?_), ht.1, c1, c5, by rw [e2, zw_j (by omega), e1, zw_s], by rw [e2, zw_s]⟩
  · rw [e2, zw_c (by omega), e1, zw_c (by omega)]
  · rw [e2, zw_c (by omega), e1, zw_c (by omega)]
/-! kinds -/
theorem tkC_2 {p : Nat} : tkC N B p = 2 ↔ tkK N B p = 2 := by
  unfold tkC tkK
  split
  · exact ⟨fun z => absurd z (by decide), fun z => by omega⟩
  · split
    · exact ⟨fun z => absurd z (by decide), fun z => by omega⟩
    · split
      · exact ⟨fun _ => rfl, fun _ => rfl⟩
      · split
        · rename_i q
          have q' := of_decide_eq_true q
          refine ⟨fun z => ?_, fun z => by omega⟩
          have := (n_eq (b := 2) (by omega) (by omega)).mp z
          omega
        · exact ⟨fun z => absurd z (by decide), fun z => by omega⟩
theorem tkC_s {p c : Nat} {x : Int32} (ex : x = nI c) (h1 : 10 < c) (h2 : c < 128) : tkC N B p = x ↔ sg N B p c = true := by
  subst ex
  rw [sg_t]
  have lit : ∀ l, l < 10 → ¬ nI l = nI c := fun l hl z => by
    have := (n_eq (by omega) (by omega)).mp z; omega
  unfold tkC tkK
  split
  · exact ⟨fun z => absurd z (lit 0 (by omega)), fun z => by omega⟩
  · split
    · exact ⟨fun z => absurd z (lit 1 (by omega)), fun z => by omega⟩
    · split
      · exact ⟨fun z => absurd z (lit 2 (by omega)), fun z => by omega⟩
      · split
        · rename_i q
          have q' := of_decide_eq_true q
          exact ⟨fun z => ⟨rfl, (n_eq (by omega) (by omega)).mp z⟩, fun z => by rw [z.2]⟩
        · exact ⟨fun z => absurd z (lit 3 (by omega)), fun z => by omega⟩
/-! numbers -/
theorem C_isNumber {p lo hi : Nat} {x y : Int32} (ex : x = nI lo) (ey : y = nI hi) (hh : hi ≤ 9999) (hl : lo ≤ 9999) (hx : TxC μ N B) (ht : TkC μ N B p) (h0 : ∀ c μ', (if tkK N B p = 2 then ¬ nmO N B p lo hi = true ∧ c = 2 else c = 1) → Fr (zRd r) μ μ' → FC μ' N B c p → KI 0 μ') (h1 : tkK N B p = 2 → nmO N B p lo hi = true → ∀ μ', μ' = zw μ 2 3 (nI (nmV N B p)) → KI 1 μ') : zcI (d + 2) mX2_isNumber [.ref 2, .int x, .int y] μ KI X := by
  subst ex ey
  refine cX2_isNumber_ (by decide +kernel) ?_
  have ref2 : tkK N B p = 2 → ¬ nmO N B p lo hi = true → pX2_isNumber_39 (d + 1) 2 μ KI X := fun q z => C_refuse (r := r) (c := 2) rfl (by omega) (by omega) hx ht (fun μ' f x => ⟨Or.inl rfl, h0 2 μ' (by rw [if_pos q]; exact ⟨z, rfl⟩) f x⟩)
  show (μ 3 4 = 2 → _) ∧ (¬ μ 3 4 = 2 → _)
  rw [ht.2.2.2.1, tkC_2]
  refine ⟨fun q => ?_, fun q => C_refuse (r := r) (c := 1) rfl (by omega) (by omega) hx ht (fun μ' f x => ⟨Or.inl rfl, h0 1 μ' (by rw [if_neg q]) f x⟩)⟩
  have hv := ht.2.2.2.2 q
  have hv' : μ (2 + 1) 5 = if tkE N B p - p ≤ 4 then nI (tkV B p (tkE N B p - p)) else 10000 := hv
  rw [hv']
  by_cases l4 : tkE N B p - p ≤ 4
  · rw [if_pos l4]
    have q0 := tkK_lt (N := N) (B := B) (p := p) (by omega)
    have dd : ∀ j, j < tkE N B p - p → bD (B (p + j)) = true := by
      intro j hj
      have nl : ¬ bL (B p) = true := by
        intro z; unfold tkK at q; rw [if_neg (by omega), if_pos z] at q; omega
      have nd : bD (B p) = true := by
        unfold tkK at q
        rw [if_neg (by omega), if_neg nl] at q
        split at q
        · assumption
        · split at q <;> omega
      have eE : tkE N B p = zrn bD B (N - p) p := by unfold tkE; rw [if_neg (by omega), if_neg nl, if_pos nd]
      exact zrn_all (N - p) p (p + j) (by omega) (by omega)
    have lt := tkV_lt (B := B) (p := p) (t := tkE N B p - p) dd
    have p4 : 10 ^ (tkE N B p - p) ≤ 10 ^ 4 := Nat.pow_le_pow_right (by omega) l4
    rw [n_lt (by omega) (by omega), n_le (by omega) (by omega)]
    refine ⟨fun z => ref2 q fun y => by have := of_decide_eq_true y; omega, fun z => ⟨fun z2 m1 e1 => h1 q (decide_eq_true ⟨l4, by omega, z2⟩) m1 ?_, fun z2 => ref2 q fun y => by have := of_decide_eq_true y; omega⟩⟩
    rw [e1]; rfl
  · rw [if_neg l4]
    have no : ¬ nmO N B p lo hi = true := fun y => by have := of_decide_eq_true y; omega
    rw [show (10000 : Int32) = nI 10000 from rfl, n_lt (by omega) (by omega), n_le (by omega) (by omega)]
    exact ⟨fun _ => ref2 q no, fun _ => ⟨fun z => by omega, fun _ => ref2 q no⟩⟩
theorem C_takeNumber {p lo hi : Nat} {x y : Int32} (ex : x = nI lo) (ey : y = nI hi) (hh : hi ≤ 9999) (hl : lo ≤ 9999) (hx : TxC μ N B) (ht : TkC μ N B p) (h0 : ∀ c μ', (if tkK N B p = 2 then ¬ nmO N B p lo hi = true ∧ c = 2 else c = 1) → Fr (zRd r) μ μ' → FC μ' N B c p → KI 0 μ') (h1 : tkK N B p = 2 → nmO N B p lo hi = true → ∀ μ', Fr (fun c j => zStp c j ∨ (c = 2 ∧ j = 3)) μ μ' → TxC μ' N B → TkC μ' N B (tkN N B p) → μ' 2 3 = nI (nmV N B p) → KI 1 μ') : zcI (d + 6) mX2_takeNumber [.ref 2, .int x, .int y] μ KI X := by
  refine cX2_takeNumber_ (by decide +kernel) (C_isNumber (r := r) (d := d + 3) ex ey hh hl hx ht (fun c μ' a b e => ⟨fun _ => h0 c μ' a b e, fun z => absurd rfl z⟩) (fun a b μ' e => ⟨fun z => absurd z (by decide), fun _ => ?_⟩))
  have hx' : TxC μ' N B := hx.e (by rw [e, zw_c (by omega)]) (fun j => by rw [e, zw_c (by omega)])
  have ht' : TkC μ' N B p := ht.e (fun j => by rw [e, zw_c (by omega)])
  refine C_next hx' ht' (fun m f t => h1 a b m (Fr.tr (μ1 := μ') (by rw [e]; exact Fr.w (Or.inr ⟨rfl, rfl⟩)) (f.mono fun c j q => Or.inl q)) (hx'.go f) t ?_)
  rw [f _ _ (by unfold zStp; omega), e, zw_s]
/-! the calls -/
def BC (r : Nat) (N : Nat) (B : Nat → Nat) (D : Nat) (g : zMD) (w : Int32) (X : Nat → zMem → Prop) (f : zPF) : Prop := ∀ (μ : zMem) (p k : Nat) (T : Nat → Int32) (KI : Int32 → zMem → Prop), EC r μ N B p k T → k ≤ p → CR r μ N B (f p k T) KI → zcI D g [.ref 2, .ref r, .int w] μ KI X
theorem C_takeSign {p k c : Nat} {T : Nat → Int32} {x : Int32} (ex : x = nI c) (h1 : 10 < c) (h2 : c < 128) (hr : 5 < r) (h : EC r μ N B p k T) (hK0 : ¬ sg N B p c = true → ∀ μ', Fr (zRd r) μ μ' → FC μ' N B 1 p → KI 0 μ') (hK1 : sg N B p c = true → ∀ μ', Fr (zRd r) μ μ' → EC r μ' N B (tkN N B p) k T → KI 1 μ') : zcI (d + 6) mX2_takeSign [.ref 2, .int x] μ KI X := by
  refine cX2_takeSign_ (by decide +kernel) ?_
  show (μ 3 4 = x → _) ∧ (¬ μ 3 4 = x → _)
  rw [h.2.1.2.2.2.1, tkC_s ex h1 h2]
  refine ⟨fun z => h.next hr (fun μ' f e => hK1 z μ' f e), fun z => C_refuse (r := r) (c := 1) rfl (by omega) (by omega) h.1 h.2.1 (fun μ' f e => ⟨Or.inl rfl, hK0 z μ' f e⟩)⟩
theorem enc_va {v : Int32} (h : vaT v) : v = encC v := by unfold encC; exact (if_pos (show (-9 : Int32) < v from h)).symm
theorem C_part {ex : zPF} {e : Nat} {w : Int32} (hr : 5 < r) (h3 : zsh r = .inr 3) (gd : ∃ n, gdF N 0 n ex) (hE : BC r N B (e + 10) mX2_readExpr (w + 1) X ex) : BC r N B (e + 11) mX2_readPart w X (exPart N B ex) := by
  intro μ p k T KI h hk hC
  have hN := h.1.1
  have pl := h.2.1.1
  have nl := tkN_le (N := N) (B := B) pl
  refine cX2_readPart_ (by decide +kernel) h3 ?_
  show (μ 3 4 = 40 → _) ∧ (¬ μ 3 4 = 40 → (μ 3 4 = 1 → _) ∧ (¬ μ 3 4 = 1 → _))
  unfold exPart at hC
  rw [h.2.1.2.2.2.1, tkC_s (x := 40) (c := 40) rfl (by omega) (by omega), tkC_1]
  refine ⟨fun s => ?_, fun s => ⟨fun q => ?_, fun q => ?_⟩⟩
  · rw [if_pos s] at hC
    have lt := tkN_lt (N := N) (B := B) (sg_lt s)
    refine h.next hr (fun m6 f6 e6 => hE m6 _ k T _ e6 (by omega) ((CR.tr hC f6).pb (fun μ' f' y => ⟨fun _ => y, fun z => absurd rfl z⟩) (fun p1 k1 T1 er m7 f7 e7 c7 => ⟨fun z => absurd z (by decide), fun _ => ?_⟩)))
    refine C_takeSign (c := 41) rfl (by omega) (by omega) hr e7 (fun ns μ' f' x' => ?_) (fun s2 μ' f' x' => ?_)
    · rw [if_neg ns] at c7
      rw [if_pos rfl]; exact c7.le f' x'
    · rw [if_pos s2] at c7
      rw [if_neg (by decide)]; exact c7.ri f' x'
  · rw [if_neg s, if_pos q] at hC
    refine cX2_readValue_ (by decide +kernel) h3 (C_among (s := 5) (by omega) h.1 h.2.1 ⟨fun z => ?_, fun z => ?_⟩)
    · rw [if_pos z] at hC
      exact C_refuse (r := r) (c := 3) rfl (by omega) (by omega) h.1 h.2.1 (fun μ' f x => ⟨Or.inl rfl, ⟨Or.inl rfl, hC.le f x⟩⟩)
    · rw [if_neg z] at hC
      have lt := tkK_lt (N := N) (B := B) (p := p) (by omega)
      refine cX3_addValue_ h3 (h.add hr h3 (by omega) (enc_va (va_w z).1) (fun m3 f3 e3 => e3.next hr (fun m4 f4 e4 => ⟨Or.inr rfl, hC.ri (f3.tr f4) e4⟩)))
  · rw [if_neg s, if_neg q] at hC
    refine C_takeNumber (r := r) (lo := 0) (hi := 9999) rfl rfl (by omega) (by omega) h.1 h.2.1 (fun c μ' a f x => ⟨fun _ => ?_, fun z => absurd rfl z⟩) (fun a b m1 f1 x1 t1 v1 => ⟨fun z => absurd z (by decide), fun _ => ?_⟩)
    · by_cases y : tkK N B p = 2
      · rw [if_pos y] at a hC
        rw [if_neg a.1, ← a.2] at hC
        exact hC.le f x
      · rw [if_neg y] at a hC
        rw [← a] at hC
        exact hC.le f x
    · rw [if_pos a, if_pos b] at hC
      have lt := tkN_lt (N := N) (B := B) (tkK_lt (B := B) (p := p) (by omega))
      rw [v1]
      have b' := of_decide_eq_true b
      have g1 : Fr (zRd r) μ m1 := f1.mono fun c j z => by
        rcases z with z | z
        · exact Or.inl z
        · exact Or.inr (Or.inl ⟨z.1, by omega⟩)
      have e1 : EC r m1 N B (tkN N B p) k T := ⟨x1, t1, by rw [f1 _ _ (by unfold zStp; omega)]; exact h.2.2.1, by rw [f1 _ _ (by unfold zStp; omega)]; exact h.2.2.2.1, fun j hj => by rw [f1 _ _ (by unfold zStp; omega)]; exact h.2.2.2.2 j hj⟩
      exact e1.add hr h3 (by omega) (enc_va (va_n (by unfold nmV; omega))) (fun m3 f3 e3 => hC.ri (g1.tr f3) e3)
end ExC
