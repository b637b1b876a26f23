/-! an isle's line: the reference, from its word on -/
section IsleR3
variable {d n : Nat} {μ μ0 : zMem} {KI : Int32 → zMem → Prop} {KV : zMem → Prop} {X : Nat → zMem → Prop} {N : Nat} {B : Nat → Nat}
theorem x14 {i : Nat} (h : i < 6) : (14 : Int32) * (6 + nI i) = nI (14 * (6 + i)) := by
  have g : ∀ i, i < 6 → (14 : Int32) * (6 + nI i) = nI (14 * (6 + i)) := by decide +kernel
  exact g i h
theorem L_82 {x y p : Nat} {I : zI} (hn : n < 6) (h : LR μ N B p) (hc : μ 110 10 = nI n) (hI : ∀ i, i < n → μ 111 (14 * (6 + i) + 1) = I i 1 ∧ μ 111 (14 * (6 + i) + 2) = I i 2) (hx : μ 111 (14 * (6 + n) + 1) = nI x) (hy : μ 111 (14 * (6 + n) + 2) = nI y)
    (h0 : (∃ i, i < n ∧ I i 1 = nI x ∧ I i 2 = nI y) → ∀ μ', BF N 4 p μ μ' → KV μ') (h1 : ¬ (∃ i, i < n ∧ I i 1 = nI x ∧ I i 2 = nI y) → pX9_readIsle_160 (d + 3) (nI (14 * (6 + n))) μ KV X) :
    ∀ (m i : Nat), i + m = n → (∀ k, k < i → ¬ (I k 1 = nI x ∧ I k 2 = nI y)) → pX9_readIsle_82 (m + 2) (d + 3) (nI (14 * (6 + n))) (nI i) μ KV X := by
  intro m
  induction m with
  | zero =>
    intro i hi hk
    exact ⟨fun _ => h1 fun ⟨k, k1, k2⟩ => hk k (by omega) k2, fun z => absurd (by rw [hc]; exact (n_le (by omega) (by omega)).mpr (by omega)) z⟩
  | succ m ih =>
    intro i hi hk
    obtain ⟨a1, a2⟩ := hI i (by omega)
    have nx : ¬ (I i 1 = nI x ∧ I i 2 = nI y) → ∀ v, v = nI i + 1 → pX9_readIsle_82 (m + 2) (d + 3) (nI (14 * (6 + n))) v μ KV X := by
      intro q v e
      rw [e, nI_1]
      refine ih (i + 1) (by omega) (fun k hk2 => ?_)
      by_cases z : k = i
      · rw [z]; exact q
      · exact hk k (by omega)
    refine ⟨fun z => absurd z (by rw [hc, n_le (by omega) (by omega)]; omega), fun _ => ⟨fun _ => ?_, fun z => absurd h.2.2 z⟩⟩
    rw [x14 (by omega), show nI (14 * (6 + i)) + 1 = nI (14 * (6 + i) + 1) from nI_add _ 1, show nI (14 * (6 + i)) + 2 = nI (14 * (6 + i) + 2) from nI_add _ 2, show nI (14 * (6 + n)) + 1 = nI (14 * (6 + n) + 1) from nI_add _ 1, show nI (14 * (6 + n)) + 2 = nI (14 * (6 + n) + 2) from nI_add _ 2, tN_nI (by omega), tN_nI (by omega), tN_nI (by omega), tN_nI (by omega), a1, a2, hx, hy]
    refine ⟨vin (by omega), vin (by omega), fun q => ⟨vin (by omega), vin (by omega), fun q2 => ?_, fun q2 v e => nx (fun z => q2 z.2) v e⟩, fun q v e => nx (fun z => q z.1) v e⟩
    exact h.wrong (d := d + 2) (c := 4) rfl (by omega) (by omega) (fun m3 f3 x3 v4 e4 => B_82 hn ⟨f3, x3⟩ (h0 ⟨i, by omega, q, q2⟩))
theorem B_17 {x1 : Int32} (b : ¬ μ 106 19 = 0) (h : KV μ) : pX9_readIsle_17 d x1 μ KV X := ⟨fun z => absurd z b, fun _ => h⟩
theorem R_isleLn {p0 kd : Nat} {I : zI} (hn : n ≤ 6) (hc : μ 110 10 = nI n) (hI : ∀ i, i < n → μ 111 (14 * (6 + i) + 1) = I i 1 ∧ μ 111 (14 * (6 + i) + 2) = I i 2) (h : LR μ N B p0)
    (h0 : ∀ c q, lnIsle N B n I kd p0 = .inl (c, q) → ∀ μ', BF N c q μ μ' → KV μ')
    (h1 : ∀ p' R, lnIsle N B n I kd p0 = .inr (p', R) → n < 6 → ∀ μ', Fr (zIr n) μ μ' → LR μ' N B p' → μ' 110 10 = nI (n + 1) → (∀ k, k < 14 → μ' 111 (14 * (6 + n) + k) = R k) → KV μ') : zcV (d + 4) mX9_readIsle [.ref 106, .int (nI kd)] μ KV X := by
  refine cX9_readIsle_ ?_
  unfold pX9_readIsle
  rw [hc, show (6 : Int32) = nI 6 from rfl, n_eq (by omega) (by omega)]
  unfold lnIsle at h0 h1
  refine ⟨fun e6 => h.wrong (d := d + 2) (c := 2) rfl (by omega) (by omega) (fun m1 f1 x1 => B_17 x1.b (h0 2 p0 (if_pos e6) m1 ⟨f1, x1⟩)), fun n6 => ⟨fun _ => ?_, fun z => absurd h.2.2 z⟩⟩
  rw [if_neg n6] at h0 h1
  have lt : n < 6 := by omega
  refine h.next (d := d + 1) (fun m1 f1 k1 v2 e2 => ?_)
  have i1 : ∀ j, m1 110 j = μ 110 j := fun j => zRs_n f1 (by omega)
  have j1 : ∀ j, m1 111 j = μ 111 j := fun j => zRs_n f1 (by omega)
  rw [i1, hc, x14 lt] at e2
  subst e2
  rw [show nI (14 * (6 + n)) + 1 = nI (14 * (6 + n) + 1) from nI_add _ 1, show nI (14 * (6 + n)) + 2 = nI (14 * (6 + n) + 2) from nI_add _ 2, tN_nI (by omega)]
  refine ⟨vin (by omega), fun m3 e3 => ?_⟩
  have k3 : LR m3 N B (tkN N B p0) := by rw [e3]; exact k1.w (by omega) (by omega)
  have g3 : Fr (zIr n) μ m3 := (f1.mono fun c j z => Or.inl z : Fr (zIr n) μ m1).tr (by rw [e3]; exact Fr.w (Or.inr (Or.inr ⟨rfl, by omega, by omega⟩)))
  have i3 : ∀ j, m3 110 j = μ 110 j := fun j => by rw [e3, zw_c (by omega), i1]
  have j3 : ∀ j, j ≠ 14 * (6 + n) → m3 111 j = μ 111 j := fun j hj => by rw [e3, zw_j hj, j1]
  refine R_rd (lo := 0) (hi := 60) (k := 1) rfl rfl (by omega) (by omega) lt (by omega) k3 (fun c q e m4 b4 => ?_) (fun x ex m4 f4 k4 c4 o4 z4 => ?_)
  · have b5 := b4.tr (zIr_R g3)
    refine R_numB (d := d + 2) b5.b ⟨vin (by omega), fun m9 e9 => ⟨1, B_82 lt (μ0 := μ) (c := c) (q := q) ?_ (h0 c q (bd_l e))⟩⟩
    rw [tN_nI (by omega)] at e9
    rw [e9]; exact b5.w (by omega) (Or.inr (Or.inr (Or.inl ⟨rfl, by omega⟩)))
  · rw [bd_r ex] at h0 h1
    have g4 := g3.tr f4
    refine k4.num (d := d + 1) (lo := 0) (hi := 60) rfl rfl (by omega) (by omega) (fun c q e m7 f7 x7 => ⟨vin (by omega), fun m9 e9 => ⟨1, B_82 lt (μ0 := μ) (c := c) (q := q) ?_ (h0 c q (bd_l e))⟩⟩) (fun y ey => ⟨vin (by omega), fun m9 e9 => ⟨n + 2, ?_⟩⟩)
    · have b7 : BF N c q μ m7 := ⟨(zIr_R g4).tr f7, x7⟩
      rw [tN_nI (by omega)] at e9
      rw [e9]; exact b7.w (by omega) (Or.inr (Or.inr (Or.inl ⟨rfl, by omega⟩)))
    · rw [bd_r ey] at h0 h1
      rw [tN_nI (by omega)] at e9
      have k9 : LR m9 N B (tkN N B (tkN N B p0)) := by rw [e9]; exact k4.w (by omega) (by omega)
      have g9 : Fr (zIr n) μ m9 := g4.tr (by rw [e9]; exact Fr.w (Or.inr (Or.inr ⟨rfl, by omega, by omega⟩)))
      have c9 : m9 110 10 = nI n := by rw [e9, zw_c (by omega), z4, i3, hc]
      have cx : m9 111 (14 * (6 + n) + 1) = nI x := by rw [e9, zw_j (by omega)]; exact c4
      have cy : m9 111 (14 * (6 + n) + 2) = nI y := by rw [e9, zw_s]
      have c0 : m9 111 (14 * (6 + n)) = nI kd := by rw [e9, zw_j (by omega), o4 _ (by omega), e3, zw_s]
      have oI : ∀ j, j < 14 * (6 + n) → m9 111 j = μ 111 j := fun j hj => by rw [e9, zw_j (by omega), o4 _ (by omega), j3 _ (by omega)]
      refine L_82 (I := I) lt k9 c9 (fun i hi => ?_) cx cy (fun yes μ' b => ?_) (fun no => ?_) n 0 (by omega) (fun k hk => by omega)
      · rw [oI _ (by omega), oI _ (by omega)]; exact hI i hi
      · rw [if_pos (zdec_t.mpr yes)] at h0
        exact h0 4 _ rfl μ' (b.tr (zIr_R g9))
      · rw [if_neg (fun z => no (zdec_t.mp z))] at h0 h1
        refine ⟨fun _ => k9.next (d := d + 1) (fun m10 f10 k10 => ?_), fun z => absurd k9.2.2 z⟩
        have g10 : Fr (zIr n) μ m10 := g9.tr (f10.mono fun c j z => Or.inl z)
        refine R_171 (f := fun ro li si pe lo go => _) lt k10 (by rw [zRs_n f10 (by omega)]; exact c9) rfl (fun c q e μ' b => h0 c q e μ' (b.tr (zIr_R g10))) (fun ro li si pe lo go e μ' f k n1 t o => h1 _ _ e lt μ' (g10.tr f) k n1 (fun k hk => ?_))
        match k, hk with
        | 0, _ => show μ' 111 (14 * (6 + n)) = nI kd; rw [o _ (by omega), zRs_n f10 (by omega)]; exact c0
        | 1, _ => show μ' 111 (14 * (6 + n) + 1) = nI x; rw [o _ (by omega), zRs_n f10 (by omega)]; exact cx
        | 2, _ => show μ' 111 (14 * (6 + n) + 2) = nI y; rw [o _ (by omega), zRs_n f10 (by omega)]; exact cy
        | 3, _ => exact t 3 (by omega) (by omega)
        | 4, _ => exact t 4 (by omega) (by omega)
        | 5, _ => exact t 5 (by omega) (by omega)
        | 6, _ => exact t 6 (by omega) (by omega)
        | 7, _ => exact t 7 (by omega) (by omega)
        | 8, _ => exact t 8 (by omega) (by omega)
        | 9, _ => exact t 9 (by omega) (by omega)
        | 10, _ => exact t 10 (by omega) (by omega)
        | 11, _ => exact t 11 (by omega) (by omega)
        | 12, _ => exact t 12 (by omega) (by omega)
        | 13, _ => exact t 13 (by omega) (by omega)
        | k + 14, hk => omega
end IsleR3
