section LeastP
variable {d : Nat} {μ : zMem} {KI : Int32 → zMem → Prop} {KV : zMem → Prop} {X : Nat → zMem → Prop} {n : Nat} {S : zSky} {D : Nat → Int32} {tn : Nat} {tb : Nat → Int32} {F : Int32} {T T' : zT} {K K' : Option (Nat → Int32)} {M : Option zT}
def zLk (c j : Nat) : Prop := zTry c j ∨ c = 125 ∨ (c = 106 ∧ j = 36)
theorem zLk_r {m1 m2 : zMem} (f : Fr zLk m1 m2) : Fr zRef m1 m2 := f.mono fun c j q => by unfold zLk zTry zScR at q; unfold zRef; omega
theorem zLw_k {m1 m2 : zMem} (f : Fr zLw m1 m2) : Fr zLk m1 m2 := f.mono fun c j q => by
  unfold zLw zTell at q
  unfold zLk zTry zScR
  omega
theorem QR.k {μ' : zMem} (h : QR μ n S D tn tb F T K M) (f : Fr zLk μ μ') (i : isl μ' n T.1) (k : KR μ' n K') : QR μ' n S D tn tb F T K' M := by
  obtain ⟨⟨h1, h2, h3⟩, ⟨h7, h8⟩, h9, ⟨t1, t2, ⟨t3, t4⟩, ⟨t5, t6⟩, t7, t8⟩, h11, h12⟩ := h
  have e : ∀ c j, ¬ (zScR c j ∨ c = 111 ∨ c = 125 ∨ (c = 106 ∧ j = 36)) → μ' c j = μ c j := fun c j z => f _ _ (by unfold zLk zTry; intro y; exact z (by rcases y with (y | y) | y | y; exact Or.inl y; exact Or.inr (Or.inl y); exact Or.inr (Or.inr (Or.inl y)); exact Or.inr (Or.inr (Or.inr y))))
  refine ⟨⟨?_, h2.go fun c j q1 q2 q3 => e _ _ (by unfold zScR; omega), fun j hj1 hj2 => ?_⟩, ⟨?_, fun j hj => ?_⟩, ?_, ⟨i, fun j hj => ?_, ⟨?_, fun j hj a ha b hb => ?_⟩, ⟨?_, fun j hj => ?_⟩, ?_, fun j hj => ?_⟩, k, ?_⟩
  · rw [e _ _ (by unfold zScR; omega)]; exact h1
  · rw [e _ _ (by unfold zScR; omega)]; exact h3 j hj1 hj2
  · rw [e _ _ (by unfold zScR; omega)]; exact h7
  · rw [e _ _ (by unfold zScR; omega)]; exact h8 j hj
  · rw [e _ _ (by unfold zScR; omega)]; exact h9
  · rw [e _ _ (by unfold zScR; omega)]; exact t2 j hj
  · rw [e _ _ (by unfold zScR; omega)]; exact t3
  · rw [e _ _ (by unfold zScR; omega)]; exact t4 j hj a ha b hb
  · rw [e _ _ (by unfold zScR; omega)]; exact t5
  · rw [e _ _ (by unfold zScR; omega)]; exact t6 j hj
  · rw [e _ _ (by unfold zScR; omega)]; exact t7
  · rw [e _ _ (by unfold zScR; omega), e _ _ (by unfold zScR; omega), e _ _ (by unfold zScR; omega)]; exact t8 j hj
  · cases M with
    | none => show μ' 106 53 = 0; rw [e _ _ (by unfold zScR; omega)]; exact h12
    | some T' =>
      exact ⟨by rw [e _ _ (by unfold zScR; omega)]; exact h12.1, h12.2.go fun c j q => e _ _ (by unfold zScR; omega)⟩
theorem QW.k (h : QW n S D tn T K M) (k : K' ≠ none → n ≤ 4) : QW n S D tn T K' M := ⟨h.1, h.2.1, h.2.2.1, h.2.2.2.1, h.2.2.2.2.1, h.2.2.2.2.2.1, k, h.2.2.2.2.2.2.2⟩
theorem L_143 {μ0 : zMem} (hn : n ≤ 6) (hc : μ0 110 0 = nI n) (h : ∀ μ', Fr (fun c _ => c = 125) μ0 μ' → (∀ i, i < n → μ' 125 i = μ0 127 i) → KI (-1) μ') : ∀ (m i : Nat) (μ : zMem), i + m = n → Fr (fun c _ => c = 125) μ0 μ → (∀ k, k < i → μ 125 k = μ0 127 k) → pX9_least_143 (m + 1) d (nI i) μ KI X := by
  intro m
  induction m with
  | zero =>
    intro i μ hi hf hs
    exact ⟨fun _ => h μ hf (fun k hk => hs k (by omega)), fun z => absurd (by rw [hf _ _ (by omega), hc]; exact (n_le (by omega) (by omega)).mpr (by omega)) z⟩
  | succ m ih =>
    intro i μ hi hf hs
    refine ⟨fun z => absurd z (by rw [hf _ _ (by omega), hc, n_le (by omega) (by omega)]; omega), fun _ => ⟨vin (by omega), vin (by omega), fun m1 e1 v2 e2 => ?_⟩⟩
    rw [tN_nI (by omega), hf _ _ (by omega)] at e1
    rw [e2, nI_1]
    refine ih (i + 1) m1 (by omega) (hf.tr (by rw [e1]; exact Fr.w rfl)) (fun k hk => ?_)
    rw [e1]
    by_cases y : k = i
    · subst y; rw [zw_s]
    · rw [zw_j y]; exact hs k (by omega)
def z81 (c _j : Nat) : Prop := c = 124 ∨ c = 127
theorem L_81 {μ0 : zMem} (hn : n ≤ 6) (hc : μ0 110 0 = nI n) (hI : isl μ0 n T.1) (h : ∀ μ', Fr z81 μ0 μ' → (∀ i, i < n → μ' 124 i = T.1 i 3 ∧ μ' 127 i = μ0 125 i) → zcV (d + 1) mX9_winchOn [.ref 106, .int 0, .int 0] μ' (fun m1 => ((m1 106 38 = (-1) → ∃ n2 : Nat, pX9_least_143 n2 (d + 1) 0 m1 KI X) ∧ (¬ (m1 106 38 = (-1)) → ∀ m2 : zMem, m2 = zw m1 106 36 1 → KI (m2 106 38) m2))) X) : ∀ (m i : Nat) (μ : zMem), i + m = n → Fr z81 μ0 μ → (∀ k, k < i → μ 124 k = T.1 k 3 ∧ μ 127 k = μ0 125 k) → pX9_least_81 (m + 1) (d + 1) (nI i) μ KI X := by
  intro m
  induction m with
  | zero =>
    intro i μ hi hf hs
    exact ⟨fun _ => h μ hf (fun k hk => hs k (by omega)), fun z => absurd (by rw [hf _ _ (by unfold z81; omega), hc]; exact (n_le (by omega) (by omega)).mpr (by omega)) z⟩
  | succ m ih =>
    intro i μ hi hf hs
    refine ⟨fun z => absurd z (by rw [hf _ _ (by unfold z81; omega), hc, n_le (by omega) (by omega)]; omega), fun _ => R_of rfl rfl (by omega) (k := 3) (by omega) ⟨vin (by omega), fun m5 e5 => ⟨vin (by omega), vin (by omega), fun m6 e6 v7 e7 => ?_⟩⟩⟩
    have er : rI μ i 3 = T.1 i 3 := by
      have : μ 111 (14 * i + 3) = T.1 i 3 := by rw [hf _ _ (by unfold z81; omega)]; exact hI i (by omega) 3 (by omega)
      exact this
    rw [tN_nI (by omega), er] at e5
    rw [tN_nI (by omega)] at e6
    have e125 : m5 125 i = μ0 125 i := by rw [e5, zw_c (by omega), hf _ _ (by unfold z81; omega)]
    rw [e125] at e6
    rw [e7, nI_1]
    refine ih (i + 1) m6 (by omega) (hf.tr (Fr.tr (μ1 := m5) (by rw [e5]; exact Fr.w (Or.inl rfl)) (by rw [e6]; exact Fr.w (Or.inr rfl)))) (fun k hk => ?_)
    by_cases y : k = i
    · subst y
      exact ⟨by rw [e6, zw_c (by omega), e5, zw_s], by rw [e6, zw_s]⟩
    · obtain ⟨s1, s2⟩ := hs k (by omega)
      exact ⟨by rw [e6, zw_c (by omega), e5, zw_j y]; exact s1, by rw [e6, zw_j y, e5, zw_c (by omega)]; exact s2⟩
theorem R_least {x1 x2 x3 x4 : Int32} (hb : x4 = 0 ∨ x4 = 1) (hW : QW n S D tn T K M) (hR : QR μ n S D tn tb F T K M) (h0 : ¬ vLs x1 x2 x3 → ∀ m, Fr zScR μ m → m 106 3 = 1 → KI 0 m) (h2 : vLs x1 x2 x3 → ¬ n ≤ 4 → ∀ m, Fr zScR μ m → m 106 3 = 0 → KI (-2) m)
    (h1 : vLs x1 x2 x3 → n ≤ 4 → ∀ m, Fr zRef μ m → QR m n S D tn tb F T (lsK (asA x3) (2 * asA x3 + 1) n T.1 K (sLs S D T.1 n x1 x2 x3 x4)) M → m 106 3 = 0 → KI (enS (2 * asA x3 + 1) (asA x3) n (sLs S D T.1 n x1 x2 x3 x4)) m) : zcI (d + n + 9) mX9_least [.ref 106, .int x1, .int x2, .int x3, .int x4] μ KI X := by
  have n6 := hW.1
  refine cX9_least_ (fun m1 e1 => ?_)
  have f1 : Fr zScR μ m1 := by rw [e1]; exact code_q
  have k1 : m1 106 3 = 0 := by rw [e1, zw_s]
  have hR1 := hR.q f1
  have bad : ¬ vLs x1 x2 x3 → pX9_least_33 (d + n + 8) m1 KI X := fun q => R_fail (fun m e => h0 q m (f1.tr (by rw [e]; exact code_q)) (by rw [e, zw_s]))
  refine R_isSpan (b2i_go (fun q => bad fun z => q z.1) (fun q1 => ⟨fun z => bad fun y => ?_, fun z => R_isIn (A := 0) (B := 4) (by decide) (by decide) (b2i_go (fun q => bad fun y => q ⟨y.2.2.1, y.2.2.2⟩) (fun q2 => ?_))⟩))
  · have ra := i_rng x1
    have rb := i_rng x2
    have := y.2.1
    have y1 := y.1
    unfold vSp at y1
    rw [i_le, i_sub (by omega) (by omega), show (24 : Int32).toInt = 24 from by decide] at z; omega
  · have hv : vLs x1 x2 x3 := ⟨q1, by
      unfold vSp at q1
      rw [i_le, i_sub (by omega) (by omega), show (24 : Int32).toInt = 24 from by decide] at z; omega, q2.1, q2.2⟩
    obtain ⟨g1, g2, g3, g4, g5, g6, g7⟩ := hv.g
    obtain ⟨l1, l2, l3, l4⟩ := asM_e hW hb
    rw [hR1.cn, show (4 : Int32) = nI 4 from rfl, n_le (by omega) (by omega)]
    refine ⟨fun n4 m6 e6 m7 e7 m8 e8 => ⟨hb, fun m9 e9 m10 e10 => ⟨n + 1, ?_⟩⟩, fun n4 => h2 hv n4 m1 f1 k1⟩
    have hh := h1 hv n4
    unfold sLs at hh
    have e10c : ∀ c j, ¬ (c = 106 ∧ 38 ≤ j ∧ j ≤ 42) → m10 c j = m1 c j := fun c j z => by
      rw [e10, zw_n (by omega), e9, zw_n (by omega), e8, zw_n (by omega), e7, zw_n (by omega), e6, zw_n (by omega)]
    have c39 : m10 106 39 = x1 := by rw [e10, zw_j (by omega), e9, zw_j (by omega), e8, zw_j (by omega), e7, zw_j (by omega), e6, zw_s]
    have c40 : m10 106 40 = x2 := by rw [e10, zw_j (by omega), e9, zw_j (by omega), e8, zw_j (by omega), e7, zw_s]
    have c41 : m10 106 41 = x3 := by rw [e10, zw_j (by omega), e9, zw_j (by omega), e8, zw_s]
    have c42 : m10 106 42 = x4 := by rw [e10, zw_j (by omega), e9, zw_s]
    have c38 : m10 106 38 = -1 := by rw [e10, zw_s]
    have f10 : Fr zScR m1 m10 := fun c j z => e10c c j (by unfold zScR at z; omega)
    have hR10 := hR1.q f10
    have k10 : m10 106 3 = 0 := by rw [e10c _ _ (by omega)]; exact k1
    refine L_81 (T := T) n6 hR10.cn hR10.il (fun m11 f11 s11 => ?_) n 0 m10 (by omega) Fr.rf (fun k hk => by omega)
    have hR11 : QR m11 n S D tn tb F T K M := hR10.q (f11.mono fun c j z => by unfold z81 at z; unfold zScR; omega)
    have hX : lsX m11 S n (asA x1) (asH x1 x2) (asA x3) (asL x4) (asM D x4) T.1 := by
      refine ⟨hR11.1.2.1, hR11.cn, fun z => ?_, ?_, ?_, ?_, ?_, fun i hi => (s11 i hi).1, ?_⟩
      · rw [hR11.1.2.2 4 (by omega) (by omega)]; exact l3 z
      · rw [f11 _ _ (by unfold z81; omega), c39]; exact g1
      · rw [f11 _ _ (by unfold z81; omega), c40]; exact g2
      · rw [f11 _ _ (by unfold z81; omega), c41]; exact g3
      · rw [f11 _ _ (by unfold z81; omega), c42]; exact b1_as hb
      · rw [f11 _ _ (by unfold z81; omega)]; exact k10
    have ep : preI (asA x3) (2 * asA x3 + 1) 0 T.1 0 = T.1 := by
      funext k c
      unfold preI
      rw [if_neg (fun y => by have := y.2; omega)]
    have rK : ∀ i, i < n → 1 ≤ (T.1 i 3).toInt ∧ (T.1 i 3).toInt ≤ 60 := fun i hi => by have := hW.rK hi; unfold rowK at this; omega
    have go := L_winch (d := d) (X := X) (S := S) (n := n) (a := asA x1) (H := asH x1 x2) (q := asA x3) (L := asL x4) (lim := asM D x4) (I0 := T.1) (w := 2 * asA x3 + 1) (μb := m11) rfl g4 n4 hW.2.1 l1 l2 g5 g7 rK hX n 0 0 none m11
      (fun m1 => ((m1 106 38 = (-1) → ∃ n2 : Nat, pX9_least_143 n2 (d + n + 8) 0 m1 KI X) ∧ (¬ (m1 106 38 = (-1)) → ∀ m2 : zMem, m2 = zw m1 106 36 1 → KI (m2 106 38) m2))) (by omega) (fun k hk => by omega) Fr.rf (by rw [ep]; exact hR11.il) ⟨by rw [f11 _ _ (by unfold z81; omega)]; exact c38, fun b e => by cases e⟩ (fun m12 f12 i12 b12 => ?_)
    · exact go
    · rw [ep] at i12
      rw [Nat.zero_mul] at b12
      have fw : Fr zLk m11 m12 := zLw_k f12
      have fall : Fr zRef μ m12 := ((zScR_r f1).tr (zScR_r f10)).tr ((f11.mono fun c j z => by unfold z81 at z; unfold zRef; omega).tr (zLk_r fw))
      have k12 : m12 106 3 = 0 := (hX.go f12).2.2.2.2.2.2.2.2
      have bz : lsB m12 (2 * asA x3 + 1) (asA x3) n T.1 (lsZ S T.1 (asL x4) (asM D x4) (asA x3) n (asA x1) (asH x1 x2)) := b12
      cases ez : lsZ S T.1 (asL x4) (asM D x4) (asA x3) n (asA x1) (asH x1 x2) with
      | none =>
        rw [ez] at bz hh
        have c : m12 106 38 = -1 := bz.1
        refine ⟨fun _ => ⟨n + 1, L_143 n6 (hX.go f12).2.1 (fun m13 f13 s13 => ?_) n 0 m12 (by omega) Fr.rf (fun k hk => by omega)⟩, fun y => absurd c y⟩
        refine hh m13 (fall.tr (f13.mono fun c j z => by unfold zRef; omega)) (hR11.k (fw.tr (f13.mono fun c j z => Or.inr (Or.inl z))) (i12.go fun j => f13 _ _ (by omega)) ?_) (by rw [f13 _ _ (by omega)]; exact k12)
        show KR m13 n K
        have hk := hR11.2.2.2.2.1
        have e36 : m13 106 36 = m11 106 36 := by rw [f13 _ _ (by omega), f12 _ _ (by unfold zLw zTell; omega)]
        cases K with
        | none => show m13 106 36 = 0; rw [e36]; exact hk
        | some ρ =>
          refine ⟨by rw [e36]; exact hk.1, fun i hi => ?_⟩
          rw [s13 i hi, f12 _ _ (by unfold zLw zTell; omega), (s11 i hi).2, ← f11 125 i (by unfold z81; omega)]
          exact hk.2 i hi
      | some b =>
        rw [ez] at bz hh
        have c : m12 106 38 = nI (smN (2 * asA x3 + 1) (asA x3) n b n) := bz.1
        have sle2 := smN_le (q := asA x3) (n := n) (r := b) (w := 2 * asA x3 + 1) rfl n
        have sb2 : asA x3 * n ≤ 16 := Nat.mul_le_mul g4 n4
        refine ⟨fun y => absurd (c.symm.trans y) (oI_n (by omega)), fun _ m13 e13 => ?_⟩
        have e38 : m13 106 38 = nI (smN (2 * asA x3 + 1) (asA x3) n b n) := by rw [e13, zw_j (by omega)]; exact c
        rw [e38]
        have f13 : Fr zLk m12 m13 := by rw [e13]; exact Fr.w (Or.inr (Or.inr ⟨rfl, rfl⟩))
        refine hh m13 (fall.tr (zLk_r f13)) (hR11.k (fw.tr f13) (i12.go fun j => by rw [e13, zw_c (by omega)]) ⟨by rw [e13, zw_s], fun i hi => ?_⟩) (by rw [e13, zw_j (by omega)]; exact k12)
        rw [e13, zw_c (by omega)]
        exact bz.2 b rfl i hi
theorem P_least {x1 x2 x3 x4 : Int32} (hb : x4 = 0 ∨ x4 = 1) (h : QS μ n S D tn tb F T K M) : PI (d + n + 9) mX8_least mX9_least [.ref 0, .int x1, .int x2, .int x3, .int x4] [.ref 106, .int x1, .int x2, .int x3, .int x4] c11 μ := by
  intro KI X hK hX
  have n6 := h.1.1
  have wk : n ≤ 4 → QW n S D tn T (lsK (asA x3) (2 * asA x3 + 1) n T.1 K (sLs S D T.1 n x1 x2 x3 x4)) M := fun n4 => h.1.k fun _ => n4
  rw [show d + n + 9 = (d + n + 2) + 7 by omega]
  refine C_least hb h.1 h.2.1 (fun q => hX _ _ Fr.rf (fun m2 g => ?_) (by decide)) (fun v n4 => hK _ _ Fr.rf (fun m2 g => ?_)) (fun v n4 m1 f1 c1 => hK _ _ f1 (fun m2 g => ?_))
  · exact R_least hb h.1 (h.2.2.r (Fr.rf (P := zCls)) g) (fun _ m f e => ⟨e, h.q Fr.rf g f⟩) (fun v => absurd v q) (fun v => absurd v q)
  · exact R_least hb h.1 (h.2.2.r (Fr.rf (P := zCls)) g) (fun q => absurd v q) (fun _ _ m f e => ⟨e, rfl, h.q Fr.rf g f⟩) (fun _ y => absurd y n4)
  · exact R_least hb h.1 (h.2.2.r f1 g) (fun q => absurd v q) (fun _ y => absurd n4 y) (fun _ _ m f q e => ⟨e, rfl, QS.t (wk n4) c1 g f q⟩)
end LeastP
