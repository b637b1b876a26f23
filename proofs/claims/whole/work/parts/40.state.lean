/-! THE STATE in mathematics' words. What an image keeps: the isles, the refused, the acts (how many, the isles before each), the crossings (twice the place and 1 if over), what was seen -/
abbrev zT : Type := zI × (Nat → Int32) × (Nat × (Nat → zI)) × (Nat × (Nat → Nat)) × (Nat × (Nat → Nat × Int32 × Int32))
/-- the isles before act j; behind the last act: now -/
def tV (T : zT) (j : Nat) : zI := if j < T.2.2.1.1 then T.2.2.1.2 j else T.1
def eqI (n : Nat) (V W : zI) : Prop := ∀ i, i < n → rowE V W i
theorem eqI.rf {n : Nat} {V : zI} : eqI n V V := fun _ _ _ _ => rfl
theorem eqI.sy {n : Nat} {V W : zI} (h : eqI n V W) : eqI n W V := fun i hi k hk => (h i hi k hk).symm
theorem eqI.tr {n : Nat} {V W U : zI} (h : eqI n V W) (h2 : eqI n W U) : eqI n V U := fun i hi k hk => (h i hi k hk).trans (h2 i hi k hk)
def zset (V : zI) (i k : Nat) (v : Int32) : zI := fun a b => if a = i ∧ b = k then v else V a b
theorem zset_s {V : zI} {i k : Nat} {v : Int32} : zset V i k v i k = v := by simp [zset]
theorem zset_n {V : zI} {i k a b : Nat} {v : Int32} (h : ¬ (a = i ∧ b = k)) : zset V i k v a b = V a b := if_neg h
theorem zset_eq {n : Nat} {V W : zI} (h : eqI n V W) (i k : Nat) (v : Int32) : eqI n (zset V i k v) (zset W i k v) := by
  intro a ha b hb
  unfold zset
  split
  · rfl
  · exact h a ha b hb
/-- what a record of the class's log takes back: V is W before the act -/
def ActR (n : Nat) (A : Nat → Int32) (V W : zI) : Prop := ∃ i, i < n ∧ A 1 = nI i ∧ (
  (A 0 = 0 ∧ eqI n V (zset W i 3 (A 2))) ∨ (A 0 = 1 ∧ eqI n V (zset W i 9 (A 2))) ∨ (A 0 = 2 ∧ eqI n V (zset W i 7 (A 2))) ∨
  (A 0 = 3 ∧ ∃ a, a < n ∧ A 2 = nI a ∧ eqI n V (zset (zset W i 8 (W i 8 + 1)) a 8 (zset W i 8 (W i 8 + 1) a 8 - 1))) ∨
  (A 0 = 4 ∧ ∃ f t, f < 4 ∧ t < 4 ∧ A 2 = nI f ∧ A 3 = nI t ∧ eqI n V (zset (zset W i (10 + f) (W i (10 + f) + A 4)) i (10 + t) (zset W i (10 + f) (W i (10 + f) + A 4) i (10 + t) - A 4))))
theorem ActR.co {n : Nat} {A : Nat → Int32} {V W V' W' : zI} (h : ActR n A V W) (hV : eqI n V' V) (hW : eqI n W W') : ActR n A V' W' := by
  obtain ⟨i, hi, h1, h⟩ := h
  refine ⟨i, hi, h1, ?_⟩
  rcases h with ⟨h0, h2⟩ | ⟨h0, h2⟩ | ⟨h0, h2⟩ | ⟨h0, a, ha, h3, h2⟩ | ⟨h0, f, t, hf, ht, h3, h4, h2⟩
  · exact Or.inl ⟨h0, hV.tr (h2.tr (zset_eq hW _ _ _))⟩
  · exact Or.inr (Or.inl ⟨h0, hV.tr (h2.tr (zset_eq hW _ _ _))⟩)
  · exact Or.inr (Or.inr (Or.inl ⟨h0, hV.tr (h2.tr (zset_eq hW _ _ _))⟩))
  · refine Or.inr (Or.inr (Or.inr (Or.inl ⟨h0, a, ha, h3, hV.tr (h2.tr ?_)⟩)))
    have e : W i 8 = W' i 8 := hW i hi 8 (by omega)
    have e2 := zset_eq hW i 8 (W i 8 + 1)
    have e3 : zset W i 8 (W i 8 + 1) a 8 = zset W' i 8 (W i 8 + 1) a 8 := e2 a ha 8 (by omega)
    rw [e3, e]
    rw [e] at e2
    exact zset_eq e2 _ _ _
  · refine Or.inr (Or.inr (Or.inr (Or.inr ⟨h0, f, t, hf, ht, h3, h4, hV.tr (h2.tr ?_)⟩)))
    have e : W i (10 + f) = W' i (10 + f) := hW i hi (10 + f) (by omega)
    have e2 := zset_eq hW i (10 + f) (W i (10 + f) + A 4)
    have e3 : zset W i (10 + f) (W i (10 + f) + A 4) i (10 + t) = zset W' i (10 + f) (W i (10 + f) + A 4) i (10 + t) := e2 i hi (10 + t) (by omega)
    rw [e3, e]
    rw [e] at e2
    exact zset_eq e2 _ _ _
def rowK (I : zI) (i : Nat) : Prop := 1 ≤ (I i 3).toInt ∧ (I i 3).toInt ≤ 60 ∧ 0 ≤ (I i 9).toInt ∧ (I i 9).toInt ≤ 60 ∧ 0 ≤ (I i 8).toInt ∧ (I i 8).toInt ≤ 9
theorem rowK.b {I : zI} {i : Nat} (h : rowK I i) : rowB I i := by
  unfold rowK at h; unfold rowB; omega
/-- how it must be -/
def TW (n : Nat) (T : zT) : Prop := T.2.2.1.1 ≤ 40 ∧ T.2.2.2.1.1 ≤ 40 ∧ T.2.2.2.2.1 ≤ 12 ∧ (∀ i, i < n → rowK T.1 i) ∧ (∀ j, j < T.2.2.1.1 → ∀ i, i < n → rowK (T.2.2.1.2 j) i) ∧
  (∀ j, j < T.2.2.2.1.1 → T.2.2.2.1.2 j < 10 ∧ T.2.2.2.1.2 j / 2 + 1 < n) ∧ ∀ j, j < T.2.2.2.2.1 → (T.2.2.2.2.2 j).1 < n
theorem TW.v {n : Nat} {T : zT} (h : TW n T) (j : Nat) : ∀ i, i < n → rowK (tV T j) i := by
  intro i hi
  unfold tV
  split
  · exact h.2.2.2.2.1 j (by assumption) i hi
  · exact h.2.2.2.1 i hi
def QW (n : Nat) (S : zSky) (D : Nat → Int32) (tn : Nat) (T : zT) (K : Option (Nat → Int32)) (M : Option zT) : Prop :=
  n ≤ 6 ∧ SkyG S ∧ SkyB S ∧ (0 ≤ (D 3).toInt ∧ (D 3).toInt ≤ 20 ∧ 0 ≤ (D 4).toInt ∧ (D 4).toInt ≤ 24 ∧ (∀ j, j < 4 → 0 ≤ (D (5 + j)).toInt ∧ (D (5 + j)).toInt ≤ 9) ∧ 1 ≤ (D 5).toInt + (D 6).toInt + (D 7).toInt + (D 8).toInt) ∧
  tn ≤ 700 ∧ TW n T ∧ (K ≠ none → n ≤ 4) ∧ ∀ T', M = some T' → TW n T'
/-! the class's cells -/
def zby (v : Int32) : Int32 := vp_nar .byte (v.toInt8.toInt32)
def TC (b : Nat) (μ : zMem) (n : Nat) (T : zT) : Prop := IsC μ (b + 1) n T.1 ∧ (∀ j, j < 3 → μ (b + 16) j = T.2.1 j) ∧
  (μ b 2 = nI T.2.2.1.1 ∧ ∀ j, j < T.2.2.1.1 → ActR n (fun k => μ (b + 13) (5 * j + k)) (tV T j) (tV T (j + 1))) ∧
  (μ b 4 = nI T.2.2.2.1.1 ∧ ∀ j, j < T.2.2.2.1.1 → μ (b + 14) j = nI (T.2.2.2.1.2 j / 2 + 10 * (T.2.2.2.1.2 j % 2))) ∧
  (μ b 6 = nI T.2.2.2.2.1 ∧ ∀ j, j < T.2.2.2.2.1 → μ (b + 15) (3 * j) = nI (T.2.2.2.2.2 j).1 ∧ μ (b + 15) (3 * j + 1) = (T.2.2.2.2.2 j).2.1 ∧ μ (b + 15) (3 * j + 2) = (T.2.2.2.2.2 j).2.2)
theorem TC.go {b : Nat} {μ μ' : zMem} {n : Nat} {T : zT} (h : TC b μ n T) (e : ∀ c j, b ≤ c → c ≤ b + 16 → μ' c j = μ c j) : TC b μ' n T := by
  obtain ⟨h1, h2, ⟨h3, h4⟩, ⟨h5, h6⟩, h7, h8⟩ := h
  refine ⟨h1.go fun c j q1 q2 => e c j (by omega) (by omega), fun j hj => by rw [e _ _ (by omega) (by omega)]; exact h2 j hj, ⟨by rw [e _ _ (by omega) (by omega)]; exact h3, fun j hj => ?_⟩, ⟨by rw [e _ _ (by omega) (by omega)]; exact h5, fun j hj => by rw [e _ _ (by omega) (by omega)]; exact h6 j hj⟩, by rw [e _ _ (by omega) (by omega)]; exact h7, fun j hj => ?_⟩
  · have : (fun k => μ' (b + 13) (5 * j + k)) = (fun k => μ (b + 13) (5 * j + k)) := by funext k; exact e _ _ (by omega) (by omega)
    rw [this]; exact h4 j hj
  · rw [e _ _ (by omega) (by omega), e _ _ (by omega) (by omega), e _ _ (by omega) (by omega)]
    exact h8 j hj
def DC (μ : zMem) (k : Nat) (D : Nat → Int32) : Prop := μ k 5 = D 2 ∧ μ k 6 = D 3 ∧ μ k 7 = D 4 ∧ ∀ j, j < 4 → μ (k + 16) j = D (5 + j)
def KC (μ : zMem) (n : Nat) : Option (Nat → Int32) → Prop
  | none => μ 98 4 = 0
  | some ρ => μ 98 4 = 1 ∧ ∀ i, i < n → μ 102 i = ρ i
def MC (μ : zMem) (n : Nat) : Option zT → Prop
  | none => μ 0 8 = 0
  | some T => μ 0 8 = 1 ∧ TC 63 μ n T
def QC (μ : zMem) (n : Nat) (S : zSky) (D : Nat → Int32) (tn : Nat) (tb : Nat → Int32) (F : Int32) (T : zT) (K : Option (Nat → Int32)) (M : Option zT) : Prop :=
  (SkyC μ (zsk μ 0 4) S ∧ zsk μ 0 4 ≠ zsk μ 0 5 ∧ DC μ (zsk μ 0 4) D) ∧ (μ 0 1 = nI tn ∧ ∀ j, j < tn → μ 1 j = zby (tb j)) ∧ μ 0 3 = F ∧ TC 46 μ n T ∧ KC μ n K ∧ MC μ n M
/-- where the class writes but tells nothing -/
def zScC (c _j : Nat) : Prop := c = 25 ∨ c = 45 ∨ (80 ≤ c ∧ c ≤ 97) ∨ (99 ≤ c ∧ c ≤ 101) ∨ (103 ≤ c ∧ c ≤ 105) ∨ (2 ≤ c ∧ c ≤ 5)
def zCls (c _j : Nat) : Prop := c ≤ 105
def zRef (c _j : Nat) : Prop := 106 ≤ c ∧ c ≤ 142
theorem zScC_c {μ μ' : zMem} (h : Fr zScC μ μ') : Fr zCls μ μ' := h.mono fun c j q => by unfold zScC at q; unfold zCls; omega
theorem QC.go {μ μ' : zMem} {n : Nat} {S : zSky} {D : Nat → Int32} {tn : Nat} {tb : Nat → Int32} {F : Int32} {T : zT} {K : Option (Nat → Int32)} {M : Option zT} (h : QC μ n S D tn tb F T K M)
    (e : ∀ c j, c ≤ 105 → ¬ zScC c j → μ' c j = μ c j) : QC μ' n S D tn tb F T K M := by
  obtain ⟨⟨h1, h2, h3, h4, h5, h6⟩, ⟨h7, h8⟩, h9, h10, h11, h12⟩ := h
  have z4 : zsk μ' 0 4 = zsk μ 0 4 := by unfold zsk; rw [e 0 4 (by omega) (by unfold zScC; omega)]
  have z5 : zsk μ' 0 5 = zsk μ 0 5 := by unfold zsk; rw [e 0 5 (by omega) (by unfold zScC; omega)]
  have sr := sky_rng (zsk_sh μ 0 4)
  refine ⟨?_, ⟨by rw [e _ _ (by omega) (by unfold zScC; omega)]; exact h7, fun j hj => by rw [e _ _ (by omega) (by unfold zScC; omega)]; exact h8 j hj⟩, by rw [e _ _ (by omega) (by unfold zScC; omega)]; exact h9, h10.go fun c j q1 q2 => e _ _ (by omega) (by unfold zScC; omega), ?_, ?_⟩
  · rw [z4, z5]
    refine ⟨h1.go fun c j q => e _ _ (by omega) (by unfold zScC; omega), h2, ?_, ?_, ?_, fun j hj => ?_⟩
    · rw [e _ _ (by omega) (by unfold zScC; omega)]; exact h3
    · rw [e _ _ (by omega) (by unfold zScC; omega)]; exact h4
    · rw [e _ _ (by omega) (by unfold zScC; omega)]; exact h5
    · rw [e _ _ (by omega) (by unfold zScC; omega)]; exact h6 j hj
  · cases K with
    | none => show μ' 98 4 = 0; rw [e _ _ (by omega) (by unfold zScC; omega)]; exact h11
    | some ρ =>
      refine ⟨by rw [e _ _ (by omega) (by unfold zScC; omega)]; exact h11.1, fun i hi => by rw [e _ _ (by omega) (by unfold zScC; omega)]; exact h11.2 i hi⟩
  · cases M with
    | none => show μ' 0 8 = 0; rw [e _ _ (by omega) (by unfold zScC; omega)]; exact h12
    | some T' =>
      exact ⟨by rw [e _ _ (by omega) (by unfold zScC; omega)]; exact h12.1, h12.2.go fun c j q1 q2 => e _ _ (by omega) (by unfold zScC; omega)⟩
/-! the reference's cells -/
def TR (aI aP aX aS aH aZ aR fA fX fS : Nat) (μ : zMem) (n : Nat) (T : zT) : Prop := (∀ i, i < n → ∀ k, k < 14 → μ aI (14 * i + k) = T.1 i k) ∧ (∀ j, j < 3 → μ aR j = T.2.1 j) ∧
  (μ 106 fA = nI T.2.2.1.1 ∧ ∀ j, j < T.2.2.1.1 → ∀ i, i < n → ∀ k, k < 14 → μ aP (84 * j + (14 * i + k)) = T.2.2.1.2 j i k) ∧
  (μ 106 fX = nI T.2.2.2.1.1 ∧ ∀ j, j < T.2.2.2.1.1 → μ aX j = nI (T.2.2.2.1.2 j)) ∧
  (μ 106 fS = nI T.2.2.2.2.1 ∧ ∀ j, j < T.2.2.2.2.1 → μ aS j = nI (T.2.2.2.2.2 j).1 ∧ μ aH j = (T.2.2.2.2.2 j).2.1 ∧ μ aZ j = (T.2.2.2.2.2 j).2.2)
theorem TR.go {aI aP aX aS aH aZ aR fA fX fS : Nat} {μ μ' : zMem} {n : Nat} {T : zT} (h : TR aI aP aX aS aH aZ aR fA fX fS μ n T)
    (e : ∀ c j, c = aI ∨ c = aP ∨ c = aX ∨ c = aS ∨ c = aH ∨ c = aZ ∨ c = aR ∨ (c = 106 ∧ (j = fA ∨ j = fX ∨ j = fS)) → μ' c j = μ c j) : TR aI aP aX aS aH aZ aR fA fX fS μ' n T := by
  obtain ⟨h1, h2, ⟨h3, h4⟩, ⟨h5, h6⟩, h7, h8⟩ := h
  refine ⟨fun i hi k hk => by rw [e _ _ (by omega)]; exact h1 i hi k hk, fun j hj => by rw [e _ _ (by omega)]; exact h2 j hj, ⟨by rw [e _ _ (by omega)]; exact h3, fun j hj i hi k hk => by rw [e _ _ (by omega)]; exact h4 j hj i hi k hk⟩, ⟨by rw [e _ _ (by omega)]; exact h5, fun j hj => by rw [e _ _ (by omega)]; exact h6 j hj⟩, by rw [e _ _ (by omega)]; exact h7, fun j hj => ?_⟩
  rw [e _ _ (by omega), e _ _ (by omega), e _ _ (by omega)]
  exact h8 j hj
abbrev TRn (μ : zMem) (n : Nat) (T : zT) : Prop := TR 111 123 129 132 133 134 116 27 28 29 μ n T
abbrev TRk (μ : zMem) (n : Nat) (T : zT) : Prop := TR 136 137 138 139 140 141 142 54 55 56 μ n T
def DR (μ : zMem) (D : Nat → Int32) : Prop := ∀ j, 2 ≤ j → j ≤ 8 → μ 110 j = D j
def KR (μ : zMem) (n : Nat) : Option (Nat → Int32) → Prop
  | none => μ 106 36 = 0
  | some ρ => μ 106 36 = 1 ∧ ∀ i, i < n → μ 125 i = ρ i
def MR (μ : zMem) (n : Nat) : Option zT → Prop
  | none => μ 106 53 = 0
  | some T => μ 106 53 = 1 ∧ TRk μ n T
def QR (μ : zMem) (n : Nat) (S : zSky) (D : Nat → Int32) (tn : Nat) (tb : Nat → Int32) (F : Int32) (T : zT) (K : Option (Nat → Int32)) (M : Option zT) : Prop :=
  (μ 110 0 = nI n ∧ SkyR μ S ∧ DR μ D) ∧ (μ 106 12 = nI tn ∧ ∀ j, j < tn → μ 117 j = tb j &&& 255) ∧ μ 106 21 = F ∧ TRn μ n T ∧ KR μ n K ∧ MR μ n M
def zScR (c j : Nat) : Prop := (c = 106 ∧ (j = 3 ∨ (13 ≤ j ∧ j ≤ 20) ∨ j = 30 ∨ j = 31 ∨ (37 ≤ j ∧ j ≤ 42) ∨ j = 52)) ∨ (118 ≤ c ∧ c ≤ 122) ∨ c = 124 ∨ (126 ≤ c ∧ c ≤ 128) ∨ c = 130 ∨ c = 131 ∨ c = 135
theorem zScR_r {μ μ' : zMem} (h : Fr zScR μ μ') : Fr zRef μ μ' := h.mono fun c j q => by unfold zScR at q; unfold zRef; omega
theorem QR.go {μ μ' : zMem} {n : Nat} {S : zSky} {D : Nat → Int32} {tn : Nat} {tb : Nat → Int32} {F : Int32} {T : zT} {K : Option (Nat → Int32)} {M : Option zT} (h : QR μ n S D tn tb F T K M)
    (e : ∀ c j, 106 ≤ c → c ≤ 142 → ¬ zScR c j → μ' c j = μ c j) : QR μ' n S D tn tb F T K M := by
  obtain ⟨⟨h1, h2, h3⟩, ⟨h7, h8⟩, h9, h10, h11, h12⟩ := h
  refine ⟨⟨?_, ?_, ?_⟩, ⟨by rw [e _ _ (by omega) (by omega) (by unfold zScR; omega)]; exact h7, fun j hj => by rw [e _ _ (by omega) (by omega) (by unfold zScR; omega)]; exact h8 j hj⟩, by rw [e _ _ (by omega) (by omega) (by unfold zScR; omega)]; exact h9, h10.go fun c j q => e _ _ (by omega) (by omega) (by unfold zScR; omega), ?_, ?_⟩
  · rw [e _ _ (by omega) (by omega) (by unfold zScR; omega)]; exact h1
  · exact h2.go fun c j q1 q2 _ => e _ _ (by omega) (by omega) (by unfold zScR; omega)
  · intro j hj1 hj2
    rw [e _ _ (by omega) (by omega) (by unfold zScR; omega)]; exact h3 j hj1 hj2
  · cases K with
    | none => show μ' 106 36 = 0; rw [e _ _ (by omega) (by omega) (by unfold zScR; omega)]; exact h11
    | some ρ =>
      refine ⟨by rw [e _ _ (by omega) (by omega) (by unfold zScR; omega)]; exact h11.1, fun i hi => by rw [e _ _ (by omega) (by omega) (by unfold zScR; omega)]; exact h11.2 i hi⟩
  · cases M with
    | none => show μ' 106 53 = 0; rw [e _ _ (by omega) (by omega) (by unfold zScR; omega)]; exact h12
    | some T' =>
      exact ⟨by rw [e _ _ (by omega) (by omega) (by unfold zScR; omega)]; exact h12.1, h12.2.go fun c j q => e _ _ (by omega) (by omega) (by unfold zScR; omega)⟩
/-- both hold one state -/
def QS (μ : zMem) (n : Nat) (S : zSky) (D : Nat → Int32) (tn : Nat) (tb : Nat → Int32) (F : Int32) (T : zT) (K : Option (Nat → Int32)) (M : Option zT) : Prop := QW n S D tn T K M ∧ QC μ n S D tn tb F T K M ∧ QR μ n S D tn tb F T K M
def QI (μ : zMem) : Prop := ∃ n S D tn tb F T K M, QS μ n S D tn tb F T K M
