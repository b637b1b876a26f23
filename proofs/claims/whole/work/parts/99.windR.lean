/-! a wind's line: the reference -/
def zWr (n c j : Nat) : Prop := zRs c j ∨ (c = 110 ∧ j = 11) ∨ ((c = 112 ∨ c = 113 ∨ c = 114) ∧ j = 12 + n)
section WindR
variable {d n : Nat} {μ μ0 : zMem} {KI : Int32 → zMem → Prop} {KV : zMem → Prop} {X : Nat → zMem → Prop} {N c q : Nat} {B : Nat → Nat}
theorem zWr_R {m1 m2 : zMem} (f : Fr (zWr n) m1 m2) : Fr zRR m1 m2 := f.mono fun c j z => by unfold zWr zRs at z; unfold zRR; omega
theorem zRs_W {m1 m2 : zMem} (f : Fr zRs m1 m2) : Fr (zWr n) m1 m2 := f.mono fun c j z => Or.inl z
theorem B_106 (hn : n < 12) (h : BF N c q μ0 μ) (hK : ∀ μ', BF N c q μ0 μ' → KV μ') : pX9_readWind_106 (d + 4) (nI (12 + n)) μ KV X := by
  refine R_sgB (d := d + 1) h.b ⟨vin (by omega), fun m3 e3 => ?_⟩
  rw [tN_nI (by omega)] at e3
  have b3 : BF N c q μ0 m3 := by rw [e3]; exact h.w (by omega) (Or.inr (Or.inr (Or.inr (Or.inl ⟨by omega, by omega⟩))))
  refine R_sgB (d := d + 1) b3.b ⟨vin (by omega), fun m6 e6 m7 e7 => ?_⟩
  rw [tN_nI (by omega)] at e6
  have b6 : BF N c q μ0 m6 := by rw [e6]; exact b3.w (by omega) (Or.inr (Or.inr (Or.inr (Or.inl ⟨by omega, by omega⟩))))
  exact hK m7 (by rw [e7]; exact b6.w (by omega) (Or.inr (Or.inl ⟨rfl, by omega⟩)))
theorem B_95 (hn : n < 12) (h : BF N c q μ0 μ) (hK : ∀ μ', BF N c q μ0 μ' → KV μ') : pX9_readWind_95 (d + 4) (nI (12 + n)) μ KV X := ⟨fun z => absurd z h.b, fun _ => B_106 hn h hK⟩
theorem B_57 {m : Nat} {x2 : Int32} (hn : n < 12) (h : BF N c q μ0 μ) (hK : ∀ μ', BF N c q μ0 μ' → KV μ') : pX9_readWind_57 (m + 1) (d + 4) (nI (12 + n)) x2 μ KV X := ⟨fun _ => B_95 hn h hK, fun _ => ⟨fun z => absurd z h.b, fun _ => B_95 hn h hK⟩⟩
theorem L_57 {x p : Nat} {F : Nat → Int32} (hn : n < 12) (h : LR μ N B p) (hF : ∀ i, i < n → μ 112 (12 + i) = F i) (hx : μ 112 (12 + n) = nI x)
    (h0 : (∃ i, i < n ∧ F i = nI x) → ∀ μ', BF N 4 p μ μ' → KV μ') (h1 : ¬ (∃ i, i < n ∧ F i = nI x) → pX9_readWind_95 (d + 4) (nI (12 + n)) μ KV X) :
    ∀ (m i : Nat), i + m = n → (∀ k, k < i → ¬ F k = nI x) → pX9_readWind_57 (m + 2) (d + 4) (nI (12 + n)) (nI (12 + i)) μ KV X := by
  intro m
  induction m with
  | zero =>
    intro i hi hk
    exact ⟨fun _ => h1 fun ⟨k, k1, k2⟩ => hk k (by omega) k2, fun z => absurd ((n_le (by omega) (by omega)).mpr (by omega)) z⟩
  | succ m ih =>
    intro i hi hk
    refine ⟨fun z => absurd ((n_le (by omega) (by omega)).mp z) (by omega), fun _ => ⟨fun _ => ?_, fun z => absurd h.2.2 z⟩⟩
    rw [tN_nI (by omega), tN_nI (by omega), hF i (by omega), hx]
    refine ⟨vin (by omega), vin (by omega), fun y => h.wrong (d := d + 3) (c := 4) rfl (by omega) (by omega) (fun m3 f3 x3 v4 e4 => B_57 hn ⟨f3, x3⟩ (h0 ⟨i, by omega, y⟩)), fun y v e => ?_⟩
    rw [e, nI_1, show 12 + i + 1 = 12 + (i + 1) by omega]
    refine ih (i + 1) (by omega) (fun k hk2 => ?_)
    by_cases z : k = i
    · rw [z]; exact y
    · exact hk k (by omega)
theorem R_windLn {p0 : Nat} {F : Nat → Int32} (hn : n ≤ 12) (hc : μ 110 11 = nI n) (hF : ∀ i, i < n → μ 112 (12 + i) = F i) (h : LR μ N B p0)
    (h0 : ∀ c q, lnWind N B n F p0 = .inl (c, q) → ∀ μ', BF N c q μ μ' → KV μ')
    (h1 : ∀ p' hh vx vy, lnWind N B n F p0 = .inr (p', hh, vx, vy) → n < 12 → ∀ μ', Fr (zWr n) μ μ' → LR μ' N B p' → μ' 110 11 = nI (n + 1) → μ' 112 (12 + n) = nI hh → μ' 113 (12 + n) = vx → μ' 114 (12 + n) = vy → KV μ') : zcV (d + 5) mX9_readWind [.ref 106] μ KV X := by
  refine cX9_readWind_ ?_
  unfold pX9_readWind
  rw [hc, show (12 : Int32) = nI 12 from rfl, n_eq (by omega) (by omega)]
  unfold lnWind at h0 h1
  refine ⟨fun e6 => h.wrong (d := d + 3) (c := 2) rfl (by omega) (by omega) (fun m1 f1 x1 => ⟨fun z => absurd z x1.b, fun _ => h0 2 p0 (if_pos e6) m1 ⟨f1, x1⟩⟩), fun n6 => ⟨fun _ => ?_, fun z => absurd h.2.2 z⟩⟩
  rw [if_neg n6] at h0 h1
  have lt : n < 12 := by omega
  refine h.next (d := d + 2) (fun m1 f1 k1 v2 e2 => ?_)
  have i1 : ∀ c j, c ≠ 106 → m1 c j = μ c j := fun c j hc => zRs_n f1 hc
  rw [i1 _ _ (by omega), hc, show (12 : Int32) + nI n = nI (12 + n) from nI_add 12 n] at e2
  subst e2
  refine k1.num (d := d + 2) (lo := 0) (hi := 167) rfl rfl (by omega) (by omega) (fun c q e m3 f3 x3 => ⟨vin (by omega), fun m5 e5 => ⟨1, B_57 lt (μ0 := μ) (c := c) (q := q) ?_ (h0 c q (bd_l e))⟩⟩) (fun hh eh => ⟨vin (by omega), fun m5 e5 => ⟨n + 2, ?_⟩⟩)
  · have b3 : BF N c q μ m3 := ⟨(zRs_R f1).tr f3, x3⟩
    rw [tN_nI (by omega)] at e5
    rw [e5]; exact b3.w (by omega) (Or.inr (Or.inr (Or.inr (Or.inl ⟨by omega, by omega⟩))))
  · rw [bd_r eh] at h0 h1
    rw [tN_nI (by omega)] at e5
    have k5 : LR m5 N B (tkN N B p0) := by rw [e5]; exact k1.w (by omega) (by omega)
    have g5 : Fr (zWr n) μ m5 := (zRs_W f1).tr (by rw [e5]; exact Fr.w (Or.inr (Or.inr ⟨by omega, rfl⟩)))
    have cx : m5 112 (12 + n) = nI hh := by rw [e5, zw_s]
    have c5 : m5 110 11 = nI n := by rw [e5, zw_c (by omega), i1 _ _ (by omega), hc]
    refine L_57 (F := F) lt k5 (fun i hi => by rw [e5, zw_j (by omega), i1 _ _ (by omega)]; exact hF i hi) cx (fun yes μ' b => ?_) (fun no => ?_) n 0 (by omega) (fun k hk => by omega)
    · rw [if_pos (zdec_t.mpr yes)] at h0
      exact h0 4 _ rfl μ' (b.tr (zWr_R g5))
    · rw [if_neg (fun z => no (zdec_t.mp z))] at h0 h1
      refine ⟨fun _ => k5.next (d := d + 2) (fun m6 f6 k6 => ?_), fun z => absurd k5.2.2 z⟩
      have g6 : Fr (zWr n) μ m6 := g5.tr (zRs_W f6)
      refine k6.signed (d := d) (fun c q e m7 f7 x7 => ⟨vin (by omega), fun m8 e8 => ?_⟩) (fun pa va ea m7 f7 k7 => ⟨vin (by omega), fun m8 e8 => ?_⟩)
      · have b7 : BF N c q μ m7 := ⟨(zWr_R g6).tr f7, x7⟩
        rw [tN_nI (by omega)] at e8
        have b8 : BF N c q μ m8 := by rw [e8]; exact b7.w (by omega) (Or.inr (Or.inr (Or.inr (Or.inl ⟨by omega, by omega⟩))))
        refine R_sgB (d := d + 1) b8.b ⟨vin (by omega), fun m9 e9 m10 e10 => ?_⟩
        rw [tN_nI (by omega)] at e9
        have b9 : BF N c q μ m9 := by rw [e9]; exact b8.w (by omega) (Or.inr (Or.inr (Or.inr (Or.inl ⟨by omega, by omega⟩))))
        exact h0 c q (bd_l e) m10 (by rw [e10]; exact b9.w (by omega) (Or.inr (Or.inl ⟨rfl, by omega⟩)))
      · rw [bd_r ea] at h0 h1
        rw [tN_nI (by omega)] at e8
        have k8 : LR m8 N B pa := by rw [e8]; exact k7.w (by omega) (by omega)
        have g8 : Fr (zWr n) μ m8 := (g6.tr (zRs_W f7)).tr (by rw [e8]; exact Fr.w (Or.inr (Or.inr ⟨by omega, rfl⟩)))
        refine k8.signed (d := d) (fun c q e m9 f9 x9 => ⟨vin (by omega), fun m10 e10 m11 e11 => ?_⟩) (fun pc vb eb m9 f9 k9 => ⟨vin (by omega), fun m10 e10 m11 e11 => ?_⟩)
        · have b9 : BF N c q μ m9 := ⟨(zWr_R g8).tr f9, x9⟩
          rw [tN_nI (by omega)] at e10
          have b10 : BF N c q μ m10 := by rw [e10]; exact b9.w (by omega) (Or.inr (Or.inr (Or.inr (Or.inl ⟨by omega, by omega⟩))))
          exact h0 c q (bd_l e) m11 (by rw [e11]; exact b10.w (by omega) (Or.inr (Or.inl ⟨rfl, by omega⟩)))
        · rw [bd_r eb] at h1
          rw [tN_nI (by omega)] at e10
          have c10 : m10 110 11 = nI n := by rw [e10, zw_c (by omega), zRs_n f9 (by omega), e8, zw_c (by omega), zRs_n f7 (by omega), zRs_n f6 (by omega)]; exact c5
          rw [c10, nI_1] at e11
          refine h1 _ _ _ _ rfl lt m11 ((g8.tr (zRs_W f9)).tr (Fr.tr (μ1 := m10) (by rw [e10]; exact Fr.w (Or.inr (Or.inr ⟨by omega, rfl⟩))) (by rw [e11]; exact Fr.w (Or.inr (Or.inl ⟨rfl, rfl⟩))))) (by rw [e11, e10]; exact (k9.w (by omega) (by omega)).w (by omega) (by omega)) (by rw [e11, zw_s]) ?_ ?_ ?_
          · rw [e11, zw_c (by omega), e10, zw_c (by omega), zRs_n f9 (by omega), e8, zw_c (by omega), zRs_n f7 (by omega), zRs_n f6 (by omega)]; exact cx
          · rw [e11, zw_c (by omega), e10, zw_c (by omega), zRs_n f9 (by omega), e8, zw_s]
          · rw [e11, zw_c (by omega), e10, zw_s]
end WindR
