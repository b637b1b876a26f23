/-! the least winching: the reference's -/
def zLw (c j : Nat) : Prop := c = 111 ∨ zTell c j ∨ c = 126 ∨ c = 125 ∨ (c = 106 ∧ j = 38)
def b1 (L : Bool) : Int32 := if L = true then 1 else 0
/-- what stays while it is sought -/
def lsX (μ : zMem) (S : zSky) (n a H q : Nat) (L : Bool) (lim : Nat) (I : zI) : Prop := SkyR μ S ∧ μ 110 0 = nI n ∧ (L = true → μ 110 4 = nI lim) ∧ μ 106 39 = nI a ∧ μ 106 40 = nI (a + H - 1) ∧ μ 106 41 = nI q ∧ μ 106 42 = b1 L ∧ (∀ i, i < n → μ 124 i = I i 3) ∧ μ 106 3 = 0
theorem lsX.go {μ μ' : zMem} {S : zSky} {n a H q : Nat} {L : Bool} {lim : Nat} {I : zI} (h : lsX μ S n a H q L lim I) (f : Fr zLw μ μ') : lsX μ' S n a H q L lim I := by
  obtain ⟨h1, h2, h3, h4, h5, h6, h7, h8, h9⟩ := h
  have e : ∀ c j, ¬ zLw c j → μ' c j = μ c j := f
  refine ⟨h1.go fun c j q1 q2 q3 => e _ _ (by unfold zLw zTell; omega), ?_, fun z => ?_, ?_, ?_, ?_, ?_, fun i hi => ?_, ?_⟩
  · rw [e _ _ (by unfold zLw zTell; omega)]; exact h2
  · rw [e _ _ (by unfold zLw zTell; omega)]; exact h3 z
  · rw [e _ _ (by unfold zLw zTell; omega)]; exact h4
  · rw [e _ _ (by unfold zLw zTell; omega)]; exact h5
  · rw [e _ _ (by unfold zLw zTell; omega)]; exact h6
  · rw [e _ _ (by unfold zLw zTell; omega)]; exact h7
  · rw [e _ _ (by unfold zLw zTell; omega)]; exact h8 i hi
  · rw [e _ _ (by unfold zLw zTell; omega)]; exact h9
def zFin (c j : Nat) : Prop := zTell c j ∨ c = 126
theorem zFin_l {m1 m2 : zMem} (f : Fr zFin m1 m2) : Fr zLw m1 m2 := f.mono fun c j q => by unfold zFin at q; unfold zLw; rcases q with q | q; exact Or.inr (Or.inl q); exact Or.inr (Or.inr (Or.inl q))
theorem zTell_f {m1 m2 : zMem} (f : Fr zTell m1 m2) : Fr zFin m1 m2 := f.mono fun c j q => Or.inl q
section LeastR
variable {d : Nat} {μ : zMem} {KI : Int32 → zMem → Prop} {KV : zMem → Prop} {X : Nat → zMem → Prop} {n : Nat} {S : zSky} {a H q : Nat} {L : Bool} {lim : Nat} {I0 I : zI}
theorem gAr.fn {μ' : zMem} {G : zG} {i : Nat} (h : gAr μ G i) (e : ∀ c j, c ≠ 126 → μ' c j = μ c j) : gAr μ' G i := by
  obtain ⟨a1, a2, a3, a4⟩ := h
  refine ⟨by rw [e _ _ (by omega)]; exact a1, by rw [e _ _ (by omega)]; exact a2, by rw [e _ _ (by omega)]; exact a3, ?_⟩
  show μ' 111 (14 * i + 5) = _
  rw [e _ _ (by omega)]; exact a4
theorem L_fin63 {x1 : Int32} {j : Nat} {C : Int32 → zMem → Prop} {μ0 : zMem} (hn : n ≤ 6) (hX : lsX μ0 S n a H q true lim I0) (hl : lim < 1000) (hj : j < 1000) (hg : ∀ i, i < n → gAr μ0 (sG S I (nI (a + j)) 0) i)
    (h0 : ∀ i, i < n → ¬ cfN S I true n a i (j + 1) ≤ lim → ∀ μ', Fr zFin μ0 μ' → KI 0 μ') : ∀ (m i : Nat) (μ : zMem), i + m = n → Fr zFin μ0 μ → (∀ c k, c ≠ 126 → μ c k = μ0 c k) → (∀ k, k < n → μ 126 k = nI (cfN S I true n a k (if k < i then j + 1 else j))) →
    (∀ μ', Fr zFin μ0 μ' → (∀ k, k < n → μ' 126 k = nI (cfN S I true n a k (j + 1))) → (∀ k, k < n → cfN S I true n a k (j + 1) ≤ lim) → C (x1 + 1) μ') → (∀ k, k < i → cfN S I true n a k (j + 1) ≤ lim) → pX9_isFine_63 (m + 1) (d + 4) x1 (nI i) μ KI X C := by
  intro m
  induction m with
  | zero =>
    intro i μ hi hf he hs hK hle
    have c : μ 110 0 = nI n := (hX.go (zFin_l hf)).2.1
    refine ⟨fun _ v1 e1 => by rw [e1]; exact hK μ hf (fun k hk => by rw [hs k hk, if_pos (by omega)]) (fun k hk => hle k (by omega)), fun z => absurd (by rw [c]; exact (n_le (by omega) (by omega)).mpr (by omega)) z⟩
  | succ m ih =>
    intro i μ hi hf he hs hK hle
    have hX1 := hX.go (zFin_l hf)
    have c : μ 110 0 = nI n := hX1.2.1
    have c42 : μ 106 42 = 1 := hX1.2.2.2.2.2.2.1
    have b : cfN S I true n a i j ≤ j := cntB_le j
    have sq : cfN S I true n a i (j + 1) = cfN S I true n a i j + (if oI (rn (sG S I (nI (a + j)) 0) i n) = -1 then 0 else 1) := by
      rw [cfN_s]
      congr 1
      by_cases z : oI (rn (sG S I (nI (a + j)) 0) i n) = -1
      · rw [if_pos z, if_neg (fun y => (dsP_L hn).mp (zdec_t.mp y) z)]
      · rw [if_neg z, if_pos (zdec_t.mpr ((dsP_L hn).mpr z))]
    refine ⟨fun z => absurd z (by rw [c, n_le (by omega) (by omega)]; omega), fun _ => ⟨fun z => absurd z (by rw [c42]; decide), fun _ => ⟨vin (by omega), R_rainOf rfl hn c (by omega) (fun k hk => (hg k hk).fn he) ⟨vin (by omega), fun m5 e5 => ⟨vin (by omega), ?_⟩⟩⟩⟩⟩
    rw [tN_nI (by omega), hs i (by omega), if_neg (by omega)] at e5
    rw [tN_nI (by omega)]
    have e5' : m5 = zw μ 126 i (nI (cfN S I true n a i (j + 1))) := by
      rw [e5, sq]
      congr 1
      split
      · rw [Int32.add_zero]; rfl
      · exact nI_1 _
    have f5 : Fr zFin μ0 m5 := hf.tr (by rw [e5]; exact Fr.w (Or.inr rfl))
    have s5 : m5 126 i = nI (cfN S I true n a i (j + 1)) := by rw [e5', zw_s]
    have l5 : m5 110 4 = nI lim := (hX.go (zFin_l f5)).2.2.1 rfl
    have bl : cfN S I true n a i (j + 1) ≤ j + 1 := cntB_le (j + 1)
    rw [s5, l5, n_le (by omega) (by omega)]
    refine ⟨fun z v6 e6 => ?_, fun z => h0 i (by omega) z m5 f5⟩
    rw [e6, nI_1]
    refine ih (i + 1) m5 (by omega) f5 (fun c' k hc => by rw [e5, zw_c hc]; exact he c' k hc) (fun k hk => ?_) hK (fun k hk => ?_)
    · by_cases y : k = i
      · subst y; rw [s5, if_pos (by omega)]
      · rw [e5, zw_j y, hs k hk]
        by_cases y2 : k < i
        · rw [if_pos y2, if_pos (by omega)]
        · rw [if_neg y2, if_neg (by omega)]
    · by_cases y : k = i
      · rw [y]; exact z
      · exact hle k (by omega)
theorem L_fin30 {μ0 : zMem} (hn : n ≤ 6) (hG : SkyG S) (hX : lsX μ0 S n a H q L lim I0) (hl : lim < 1000) (hl0 : L = false → lim = 0) (hH : 1 ≤ H) (ha : a + H ≤ 168) (hI : isl μ0 n I) (h0 : ¬ qtP S I L lim n a H → ∀ μ', Fr zFin μ0 μ' → KI 0 μ') (h1 : qtP S I L lim n a H → ∀ μ', Fr zFin μ0 μ' → KI 1 μ') :
    ∀ (m j : Nat) (μ : zMem), j + m = H → Fr zFin μ0 μ → (L = true → ∀ k, k < n → μ 126 k = nI (cfN S I L n a k j)) → (∀ k, k < n → cfN S I L n a k j ≤ lim) → pX9_isFine_30 (m + 1) (d + 6) (nI (a + j)) μ KI X := by
  intro m
  induction m with
  | zero =>
    intro j μ hj hf hs hle
    have c : μ 106 40 = nI (a + H - 1) := (hX.go (zFin_l hf)).2.2.2.2.1
    refine ⟨fun _ => h1 (fun i hi => by have := hle i hi; rw [show H = j by omega]; exact this) μ hf, fun z => absurd ?_ z⟩
    rw [c]; exact (n_lt (by omega) (by omega)).mpr (by omega)
  | succ m ih =>
    intro j μ hj hf hs hle
    have hX1 := hX.go (zFin_l hf)
    have c : μ 106 40 = nI (a + H - 1) := hX1.2.2.2.2.1
    have hI1 : isl μ n I := hI.go fun k => hf _ _ (by unfold zFin zTell; omega)
    refine ⟨fun z => absurd z (by rw [c, n_lt (by omega) (by omega)]; omega), fun _ => R_hour hX1.1 hG hn ⟨hX1.2.1, fun i hi k hk => hI1 i hi k hk⟩ (fun m1 f1 g1 => ?_)⟩
    have hf1 := hf.tr (zTell_f f1)
    have hX2 := hX.go (zFin_l hf1)
    have c42 : m1 106 42 = b1 L := hX2.2.2.2.2.2.2.1
    have s1 : L = true → ∀ k, k < n → m1 126 k = nI (cfN S I L n a k j) := fun z k hk => by rw [f1 _ _ (by unfold zTell; omega)]; exact hs z k hk
    rw [c42]
    cases L with
    | false =>
      have l0 := hl0 rfl
      refine ⟨fun _ => R_knocked hn hX2.2.1 g1 ⟨fun z => ⟨n + 1, ?_⟩, fun z => ?_⟩, fun z => absurd rfl z⟩
      · have nk := (dsP_K hn).mp z
        have go : ∀ x, x = nI (a + j) + 1 → pX9_isFine_30 (m + 1) (d + 6) x m1 KI X := by
          intro x e
          rw [e, nI_1]
          refine ih (j + 1) m1 (by omega) hf1 (fun y => by cases y) (fun k hk => ?_)
          rw [cfN_s, if_neg (fun y => nk k hk (zdec_t.mp y))]
          exact hle k hk
        refine ⟨fun _ v e => go v e, fun _ => ⟨fun _ v e => go v e, fun y => absurd c42 y⟩⟩
      · refine h0 (fun qt => z ((dsP_K hn).mpr fun i hi ds => ?_)) m1 hf1
        have h2 := qt i hi
        have h3 : cfN S I false n a i (j + 1) ≤ cfN S I false n a i H := cfN_mono (by omega)
        rw [cfN_s, if_pos (zdec_t.mpr ds)] at h3
        omega
    | true =>
      refine ⟨fun z => absurd z (by decide), fun _ => ⟨n + 1, ?_⟩⟩
      refine L_fin63 hn hX2 hl (by omega) g1 (fun i hi nle μ' f' => h0 (fun qt => ?_) μ' (hf1.tr f')) n 0 m1 (by omega) Fr.rf (fun _ _ _ => rfl) (fun k hk => by rw [if_neg (by omega)]; exact s1 rfl k hk) (fun μ' f' s' l' => ?_) (fun k hk => by omega)
      · exact nle (Nat.le_trans (cfN_mono (by omega)) (qt i hi))
      · rw [nI_1]
        exact ih (j + 1) μ' (by omega) (hf1.tr f') (fun _ => s') l'
theorem L_fin2 {μ0 : zMem} (hX : lsX μ0 S n a H q L lim I0) (hn : n ≤ 6) (h : ∀ μ', Fr zFin μ0 μ' → (∀ k, k < n → μ' 126 k = 0) → ∃ n2 : Nat, pX9_isFine_30 n2 d (nI a) μ' KI X) : ∀ (m i : Nat) (μ : zMem), i + m = n → Fr zFin μ0 μ → (∀ k, k < i → μ 126 k = 0) → pX9_isFine_2 (m + 1) d (nI i) μ KI X := by
  intro m
  induction m with
  | zero =>
    intro i μ hi hf hs
    have c := (hX.go (zFin_l hf)).2.1
    have c39 : μ 106 39 = nI a := (hX.go (zFin_l hf)).2.2.2.1
    exact ⟨fun _ => by rw [c39]; exact h μ hf (fun k hk => hs k (by omega)), fun z => absurd (by rw [c]; exact (n_le (by omega) (by omega)).mpr (by omega)) z⟩
  | succ m ih =>
    intro i μ hi hf hs
    have c := (hX.go (zFin_l hf)).2.1
    refine ⟨fun z => absurd z (by rw [c, n_le (by omega) (by omega)]; omega), fun _ => ⟨vin (by omega), fun m1 e1 v2 e2 => ?_⟩⟩
    rw [tN_nI (by omega)] at e1
    rw [e2, nI_1]
    refine ih (i + 1) m1 (by omega) (hf.tr (by rw [e1]; exact Fr.w (Or.inr rfl))) (fun k hk => ?_)
    rw [e1]
    by_cases y : k = i
    · subst y; rw [zw_s]
    · rw [zw_j y]; exact hs k (by omega)
end LeastR
section LeastR2
variable {d : Nat} {μ : zMem} {KI : Int32 → zMem → Prop} {KV : zMem → Prop} {X : Nat → zMem → Prop} {n : Nat} {S : zSky} {a H q : Nat} {L : Bool} {lim : Nat} {I0 I : zI}
theorem R_isFine (hn : n ≤ 6) (hG : SkyG S) (hX : lsX μ S n a H q L lim I0) (hl : lim < 1000) (hl0 : L = false → lim = 0) (hH : 1 ≤ H) (ha : a + H ≤ 168) (hI : isl μ n I) (h0 : ¬ qtP S I L lim n a H → ∀ μ', Fr zFin μ μ' → KI 0 μ') (h1 : qtP S I L lim n a H → ∀ μ', Fr zFin μ μ' → KI 1 μ') : zcI (d + 7) mX9_isFine [.ref 106] μ KI X := by
  refine cX9_isFine_ ⟨n + 1, L_fin2 hX hn (fun m1 f1 s1 => ⟨H + 1, ?_⟩) n 0 μ (by omega) Fr.rf (fun k hk => by omega)⟩
  have hX1 := hX.go (zFin_l f1)
  have hI1 : isl m1 n I := hI.go fun k => f1 _ _ (by unfold zFin zTell; omega)
  have := L_fin30 (KI := KI) (X := X) (d := d) hn hG hX1 hl hl0 hH ha hI1 (fun nq μ' f' => h0 nq μ' (f1.tr f')) (fun qt μ' f' => h1 qt μ' (f1.tr f')) H 0 m1 (by omega) Fr.rf (fun _ k hk => s1 k hk) (fun k hk => Nat.zero_le _)
  exact this
/-- the isles of a beginning of a row: the rest as they were -/
def preI (q w i : Nat) (I : zI) (r : Nat) : zI := fun k c => if c = 3 ∧ k < i then I k 3 + yd q (dg w i r k) else I k c
theorem preI_all {w r : Nat} : eqI n (preI q w n I0 r) (rwI q w n I0 r) := by
  intro k hk c _
  unfold preI rwI
  by_cases z : c = 3
  · rw [if_pos ⟨z, hk⟩, if_pos z]
  · rw [if_neg (fun y => z y.1), if_neg z]
theorem preI_s {w i r y : Nat} (hw : 0 < w) (hy : y < w) : eqI n (zset (preI q w i I0 r) i 3 (I0 i 3 + yd q y)) (preI q w (i + 1) I0 (r * w + y)) := by
  intro k hk c _
  unfold zset preI
  by_cases z : c = 3
  · by_cases z2 : k = i
    · subst z2
      rw [if_pos ⟨rfl, z⟩, if_pos ⟨z, by omega⟩, dg_last hy]
    · rw [if_neg (fun y => z2 y.1)]
      by_cases z3 : k < i
      · rw [if_pos ⟨z, z3⟩, if_pos ⟨z, by omega⟩, dg_up hw hy z3]
      · rw [if_neg (fun y => z3 y.2), if_neg (fun y => by have := y.2; omega)]
  · rw [if_neg (fun y => z y.2), if_neg (fun y => z y.1), if_neg (fun y => z y.1)]
theorem preI_b {w i r : Nat} {v : Int32} : zset (preI q w i I0 r) i 3 v = zset (zset (preI q w i I0 r) i 3 v) i 3 v := zset2.symm
theorem preI_i {w i r : Nat} : zset (preI q w i I0 r) i 3 (I0 i 3) = preI q w i I0 r := by
  have e : preI q w i I0 r i 3 = I0 i 3 := by
    unfold preI
    rw [if_neg (fun y => by have := y.2; omega)]
  rw [← e, zset_id]
/-- what was found -/
def lsB (μ : zMem) (w q n : Nat) (I0 : zI) (s : Option Nat) : Prop := μ 106 38 = enS w q n s ∧ ∀ b, s = some b → ∀ k, k < n → μ 125 k = I0 k 3 + yd q (dg w n b k)
theorem lsB.go {μ' : zMem} {w : Nat} {s : Option Nat} (h : lsB μ w q n I0 s) (f : ∀ c j, (c = 106 ∧ j = 38) ∨ c = 125 → μ' c j = μ c j) : lsB μ' w q n I0 s :=
  ⟨by rw [f _ _ (Or.inl ⟨rfl, rfl⟩)]; exact h.1, fun b e k hk => by rw [f _ _ (Or.inr rfl)]; exact h.2 b e k hk⟩
theorem L_w124 {I1 : zI} {w r : Nat} {μ0 : zMem} (hn : n ≤ 6) (hX : lsX μ0 S n a H q L lim I0) (hI : isl μ0 n I1) (he : ∀ k, k < n → I1 k 3 = I0 k 3 + yd q (dg w n r k)) (h38 : μ0 106 38 = enS w q n (some r)) (h : ∀ μ', Fr zLw μ0 μ' → isl μ' n I1 → lsB μ' w q n I0 (some r) → KV μ') : ∀ (m i : Nat) (μ : zMem), i + m = n → Fr zLw μ0 μ → isl μ n I1 → μ 106 38 = enS w q n (some r) → (∀ k, k < i → μ 125 k = I0 k 3 + yd q (dg w n r k)) → pX9_winchOn_124 (m + 1) (d + 1) (nI i) μ KV X := by
  intro m
  induction m with
  | zero =>
    intro i μ hi hf hI1 h3 hs
    have c := (hX.go hf).2.1
    exact ⟨fun _ => h μ hf hI1 ⟨h3, fun b e k hk => by cases e; exact hs k (by omega)⟩, fun z => absurd (by rw [c]; exact (n_le (by omega) (by omega)).mpr (by omega)) z⟩
  | succ m ih =>
    intro i μ hi hf hI1 h3 hs
    have c := (hX.go hf).2.1
    refine ⟨fun z => absurd z (by rw [c, n_le (by omega) (by omega)]; omega), fun _ => R_of rfl rfl (by omega) (k := 3) (by omega) ⟨vin (by omega), fun m3 e3 v4 e4 => ?_⟩⟩
    have er : rI μ i 3 = I0 i 3 + yd q (dg w n r i) := by rw [← he i (by omega)]; exact hI1 i (by omega) 3 (by omega)
    rw [tN_nI (by omega), er] at e3
    rw [e4, nI_1]
    refine ih (i + 1) m3 (by omega) (hf.tr (by rw [e3]; exact Fr.w (Or.inr (Or.inr (Or.inr (Or.inl rfl)))))) (hI1.go fun k => by rw [e3, zw_c (by omega)]) (by rw [e3, zw_c (by omega)]; exact h3) (fun k hk => ?_)
    rw [e3]
    by_cases y : k = i
    · subst y; rw [zw_s]
    · rw [zw_j y]; exact hs k (by omega)
theorem L_winch {w : Nat} {μb : zMem} (hw : w = 2 * q + 1) (hq : q ≤ 4) (hn : n ≤ 4) (hG : SkyG S) (hl : lim < 1000) (hl0 : L = false → lim = 0) (hH : 1 ≤ H) (ha : a + H ≤ 168) (hR : ∀ i, i < n → 1 ≤ (I0 i 3).toInt ∧ (I0 i 3).toInt ≤ 60) (hX : lsX μb S n a H q L lim I0) :
    ∀ (m i r : Nat) (s : Option Nat) (μ : zMem) (KV : zMem → Prop), i + m = n → (∀ k, k < i → okD q (dg w i r k) (rpN I0 k)) → Fr zLw μb μ → isl μ n (preI q w i I0 r) → lsB μ w q n I0 s →
      (∀ μ', Fr zLw μb μ' → isl μ' n (preI q w i I0 r) → lsB μ' w q n I0 (zscan (lsF w q n (rpN I0) (lsQ S I0 L lim q w n a H)) (w ^ m) (r * w ^ m) s) → KV μ') → zcV (d + m + 8) mX9_winchOn [.ref 106, .int (nI i), .int (nI (smN w q i r i))] μ KV X := by
  have w0 : 0 < w := by omega
  intro m
  induction m with
  | zero =>
    intro i r s μ KV hi hok hf hI hB hK
    have e : i = n := by omega
    subst e
    rw [Nat.pow_zero, Nat.mul_one] at hK
    have hK' : ∀ μ', Fr zLw μb μ' → isl μ' i (preI q w i I0 r) → lsB μ' w q i I0 (lsF w q i (rpN I0) (lsQ S I0 L lim q w i a H) r s) → KV μ' := hK
    have sle := smN_le (q := q) (n := i) (r := r) hw i
    have sb : q * i ≤ 16 := Nat.mul_le_mul hq hn
    have leaf : (∀ b, s = some b → smN w q i r i < smN w q i b i) → pX9_winchOn_17 (d + 7) (nI i) (nI (smN w q i r i)) μ KV X := by
      intro lt
      have hX1 := hX.go hf
      refine ⟨fun _ => R_isFine (by omega) hG hX1 hl hl0 hH ha hI (fun nq m1 f1 => ⟨fun _ => ?_, fun z => absurd rfl z⟩) (fun qt m1 f1 => ⟨fun z => absurd z (by decide), fun _ m3 e3 => ⟨i + 1, ?_⟩⟩), fun z => absurd (by rw [hX1.2.1]; exact (n_le (by omega) (by omega)).mpr (by omega)) z⟩
      · refine hK' m1 (hf.tr (zFin_l f1)) (hI.go fun k => f1 _ _ (by unfold zFin zTell; omega)) ?_
        rw [lsF_q]
        · exact hB.go fun c j y => f1 _ _ (by unfold zFin zTell; omega)
        · intro y
          exact nq fun k hk => by
            rw [cfN_c hk preI_all]
            exact zdec_t.mp y k hk
      · have f3 : Fr zLw μb m3 := (hf.tr (zFin_l f1)).tr (by rw [e3]; exact Fr.w (Or.inr (Or.inr (Or.inr (Or.inr ⟨rfl, rfl⟩)))))
        have I3 : isl m3 i (preI q w i I0 r) := (hI.go fun k => f1 _ _ (by unfold zFin zTell; omega)).go fun k => by rw [e3, zw_c (by omega)]
        have q3 : m3 106 38 = enS w q i (some r) := by rw [e3, zw_s]; rfl
        refine L_w124 (I1 := preI q w i I0 r) (w := w) (r := r) (by omega) (hX.go f3) I3 (fun k hk => ?_) q3 (fun μ' f' i' b' => hK' μ' (f3.tr f') i' ?_) i 0 m3 (by omega) Fr.rf I3 q3 (fun k hk => by omega)
        · unfold preI; rw [if_pos ⟨rfl, hk⟩]
        · rw [lsF_t hok lt]
          · exact b'
          · exact zdec_t.mpr fun k hk => by
              have := qt k hk
              rw [cfN_c hk preI_all] at this; exact this
    refine cX9_winchOn_ ?_
    unfold pX9_winchOn
    rw [hB.1]
    cases s with
    | none => exact ⟨fun _ => leaf (fun b e => by cases e), fun z => absurd rfl z⟩
    | some b =>
      have sle2 := smN_le (q := q) (n := i) (r := b) hw i
      refine ⟨fun z => absurd z (oI_n (by omega)), fun _ => ?_⟩
      show (nI (smN w q i r i) < nI (smN w q i b i) → _) ∧ (¬ nI (smN w q i r i) < nI (smN w q i b i) → _)
      rw [n_lt (by omega) (by omega)]
      refine ⟨fun z => leaf (fun c e => by cases e; exact z), fun z => hK' μ hf hI ?_⟩
      rw [lsF_s (by omega)]; exact hB
  | succ m ih =>
    intro i r s μ KV hi hok hf hI hB hK
    have hX1 := hX.go hf
    have sle := smN_le (q := q) (n := i) (r := r) hw i
    have sb : q * i ≤ 4 * 4 := Nat.mul_le_mul hq (show i ≤ 4 by omega)
    have hRi := hR i (by omega)
    have eR : I0 i 3 = nI (rpN I0 i) := by
      unfold rpN
      rw [i_eq, n_i (by omega)]; omega
    have rR : rpN I0 i ≤ 60 := by unfold rpN; omega
    -- the ropes of isle i, one after another
    have loop : ∀ (t y : Nat) (s : Option Nat) (μ : zMem) (I1 : zI), y + t = w → Fr zLw μb μ → isl μ n I1 → zset I1 i 3 0 = zset (preI q w i I0 r) i 3 0 → lsB μ w q n I0 s →
        (∀ μ', Fr zLw μb μ' → isl μ' n (preI q w i I0 r) → lsB μ' w q n I0 (zscan (lsF w q n (rpN I0) (lsQ S I0 L lim q w n a H)) ((w - y) * w ^ m) ((r * w + y) * w ^ m) s) → KV μ') → pX9_winchOn_33 (t + 1) (d + m + 8) (nI i) (nI (smN w q i r i)) (yd q y) μ KV X := by
      intro t
      induction t with
      | zero =>
        intro y s μ I1 hy hf hI hz hB hK
        have hX1 := hX.go hf
        have y9 := yd_i (q := q) (y := y) (by omega) (by omega)
        refine ⟨fun _ => ⟨vin (by omega), R_set rfl rfl (by omega) (k := 3) (by omega) (fun m1 e1 => ?_)⟩, fun z => absurd ?_ z⟩
        · rw [tN_nI (by omega), hX1.2.2.2.2.2.2.2.1 i (by omega)] at e1
          refine hK m1 (hf.tr (by rw [e1]; exact Fr.w (Or.inl rfl))) ?_ ?_
          · have := hI.set (i := i) (v := I0 i 3) (k := 3) (by omega)
            rw [zset_z hz, preI_i] at this
            rw [e1]; exact this
          · rw [show w - y = 0 by omega, Nat.zero_mul]
            show lsB m1 w q n I0 s
            exact hB.go fun c j y => by rw [e1, zw_c (by omega)]
        · rw [hX1.2.2.2.2.2.1, i_lt, n_i (by omega), y9]; omega
      | succ t iht =>
        intro y s μ I1 hy hf hI hz hB hK
        have hX1 := hX.go hf
        have y9 := yd_i (q := q) (y := y) (by omega) (by omega)
        have c124 := hX1.2.2.2.2.2.2.2.1 i (by omega)
        have next : ∀ (s' : Option Nat) (μ' : zMem) (I1' : zI), zscan (lsF w q n (rpN I0) (lsQ S I0 L lim q w n a H)) (w ^ m) ((r * w + y) * w ^ m) s = s' → Fr zLw μb μ' → isl μ' n I1' → zset I1' i 3 0 = zset (preI q w i I0 r) i 3 0 → lsB μ' w q n I0 s' → ∀ x, x = yd q y + 1 → pX9_winchOn_33 (t + 1) (d + m + 8) (nI i) (nI (smN w q i r i)) x μ' KV X := by
          intro s' μ' I1' es f' i' z' b' x ex
          rw [ex, yd_1 (by omega) (by omega)]
          refine iht (y + 1) s' μ' I1' (by omega) f' i' z' b' (fun μ2 f2 i2 b2 => hK μ2 f2 i2 ?_)
          rw [sub_split (by omega), es]; exact b2
        refine ⟨fun z => absurd z (by rw [hX1.2.2.2.2.2.1, i_lt, n_i (by omega), y9]; omega), fun _ => ⟨vin (by omega), ?_⟩⟩
        rw [tN_nI (by omega), c124]
        have ok := rp_ok (q := q) (y := y) (R := rpN I0 i) (x := I0 i 3) hq (by omega) eR rR
        have smz : smN w q (i + 1) (r * w + y) (i + 1) = smN w q i r i + az q y := by
          show smN w q (i + 1) (r * w + y) i + az q (dg w (i + 1) (r * w + y) i) = _
          rw [dg_last (by omega), smN_c i (fun k hk => dg_up w0 (by omega) hk)]
        refine R_isIn (A := 1) (B := 60) (by decide) (by decide) (b2i_go (fun z x ex => ?_) (fun z => ⟨vin (by omega), R_set rfl rfl (by omega) (k := 3) (by omega) (fun m4 e4 => ?_)⟩))
        · have nok : ¬ okD q (dg w (i + 1) (r * w + y) i) (rpN I0 i) := by rw [dg_last (by omega)]; exact fun y => z (ok.mpr y)
          exact next s μ I1 (sub_o w0 (k := i + 1) (by omega) (by omega) nok) hf hI hz hB x ex
        · rw [c124] at e4
          have f4 : Fr zLw μb m4 := hf.tr (by rw [e4]; exact Fr.w (Or.inl rfl))
          have I4 : isl m4 n (preI q w (i + 1) I0 (r * w + y)) := by
            have := hI.set (i := i) (v := I0 i 3 + yd q y) (k := 3) (by omega)
            rw [zset_z hz] at this
            rw [e4]; exact this.c (preI_s w0 (by omega))
          have B4 : lsB m4 w q n I0 s := hB.go fun c j y => by rw [e4, zw_c (by omega)]
          rw [nI_1, yd_abs (by omega) (by omega), nI_add, ← smz]
          have ih' := ih (i + 1) (r * w + y) s m4 (fun m5 => ∀ v6 : Int32, v6 = yd q y + 1 → pX9_winchOn_33 (t + 1) (d + m + 8) (nI i) (nI (smN w q i r i)) v6 m5 KV X) (by omega) (fun k hk => ?_) f4 I4 B4 (fun m5 f5 i5 b5 v6 e6 => ?_)
          · exact ih'
          · by_cases ke : k = i
            · subst ke; rw [dg_last (by omega)]; exact ok.mp z
            · rw [dg_up w0 (by omega) (by omega)]; exact hok k (by omega)
          · refine next _ m5 (preI q w (i + 1) I0 (r * w + y)) rfl f5 i5 ?_ b5 v6 e6
            funext k c
            unfold zset preI
            by_cases z1 : k = i ∧ c = 3
            · rw [if_pos z1, if_pos z1]
            · rw [if_neg z1, if_neg z1]
              by_cases z2 : c = 3 ∧ k < i
              · rw [if_pos z2, if_pos ⟨z2.1, by omega⟩, dg_up w0 (by omega) z2.2]
              · rw [if_neg z2, if_neg (fun y => z2 ⟨y.1, by have := y.2; have : ¬ k = i := fun e => z1 ⟨e, y.1⟩; omega⟩)]
    have go : pX9_winchOn_17 (d + m + 8) (nI i) (nI (smN w q i r i)) μ KV X := by
      refine ⟨fun z => absurd z (by rw [hX1.2.1, n_le (by omega) (by omega)]; omega), fun _ => ⟨w + 1, ?_⟩⟩
      rw [hX1.2.2.2.2.2.1, yd_0 (by omega)]
      refine loop w 0 s μ _ (by omega) hf hI rfl hB (fun μ' f' i' b' => hK μ' f' i' ?_)
      rw [Nat.sub_zero, Nat.add_zero] at b'
      rw [Nat.pow_succ, Nat.mul_comm (w ^ m) w, ← Nat.mul_assoc]; exact b'
    show zcV (d + m + 8 + 1) mX9_winchOn _ μ KV X
    refine cX9_winchOn_ ?_
    unfold pX9_winchOn
    rw [hB.1]
    cases s with
    | none => exact ⟨fun _ => go, fun z => absurd rfl z⟩
    | some b =>
      have sle2 := smN_le (q := q) (n := n) (r := b) hw n
      have sb2 : q * n ≤ 16 := Nat.mul_le_mul hq hn
      refine ⟨fun z => absurd z (oI_n (by omega)), fun _ => ?_⟩
      show (nI (smN w q i r i) < nI (smN w q n b n) → _) ∧ (¬ nI (smN w q i r i) < nI (smN w q n b n) → _)
      rw [n_lt (by omega) (by omega)]
      refine ⟨fun _ => go, fun z => hK μ hf hI ?_⟩
      rw [sub_s w0 (k := i) (by omega) (by omega)]; exact hB
end LeastR2
