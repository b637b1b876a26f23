/-! gusts: the reference -/
def zGr (c j : Nat) : Prop := zRs c j ∨ (c = 110 ∧ 12 ≤ j ∧ j ≤ 18)
section GustR
variable {d n : Nat} {μ μ0 : zMem} {KI : Int32 → zMem → Prop} {KV : zMem → Prop} {X : Nat → zMem → Prop} {N c q : Nat} {B : Nat → Nat}
theorem zGr_R {m1 m2 : zMem} (f : Fr zGr m1 m2) : Fr zRR m1 m2 := f.mono fun c j z => by unfold zGr zRs at z; unfold zRR; omega
theorem zRs_G {m1 m2 : zMem} (f : Fr zRs m1 m2) : Fr zGr m1 m2 := f.mono fun c j z => Or.inl z
theorem B_49 {m i : Nat} {a v : Int32} (hi : i < 4) (h : BF N c q μ0 μ) (hK : ∀ μ', BF N c q μ0 μ' → KV μ') : pX9_readGusts_49 d a (nI i) v μ KV X (fun z0 z1 m1 => pX9_readGusts_4 (m + 1) d z0 z1 m1 KV X) := by
  unfold pX9_readGusts_49
  rw [show (15 : Int32) + nI i = nI (15 + i) from nI_add 15 i, tN_nI (by omega)]
  refine ⟨vin (by omega), fun m1 e1 => ?_⟩
  have b1 : BF N c q μ0 m1 := by rw [e1]; exact h.w (by omega) (Or.inr (Or.inl ⟨rfl, by omega⟩))
  exact ⟨fun z => absurd z b1.b, fun _ v2 e2 => ⟨fun _ => hK m1 b1, fun _ => ⟨fun z => absurd z b1.b, fun _ => hK m1 b1⟩⟩⟩
theorem S_49 {p m i : Nat} {a : Int32} {v : Nat} (hi : i < 4) (h : LR μ N B p) (hK : ∀ m3, Fr zGr μ m3 → LR m3 N B (tkN N B p) → m3 110 (15 + i) = nI v → (∀ j, j ≠ 15 + i → m3 110 j = μ 110 j) → pX9_readGusts_4 m (d + 2) a (nI (i + 1)) m3 KV X) : pX9_readGusts_49 (d + 2) a (nI i) (nI v) μ KV X (fun z0 z1 m1 => pX9_readGusts_4 m (d + 2) z0 z1 m1 KV X) := by
  unfold pX9_readGusts_49
  rw [show (15 : Int32) + nI i = nI (15 + i) from nI_add 15 i, tN_nI (by omega)]
  refine ⟨vin (by omega), fun m1 e1 => ?_⟩
  have k1 : LR m1 N B p := by rw [e1]; exact h.w (by omega) (by omega)
  refine ⟨fun _ => k1.next (fun m3 f3 k3 v4 e4 => ?_), fun z => absurd k1.2.2 z⟩
  rw [e4, nI_1]
  refine hK m3 (Fr.tr (μ1 := m1) (by rw [e1]; exact Fr.w (Or.inr ⟨rfl, by omega, by omega⟩)) (zRs_G f3)) k3 ?_ (fun j hj => ?_)
  · rw [zRs_n f3 (by omega), e1, zw_s]
  · rw [zRs_n f3 (by omega), e1, zw_j hj]
theorem L_gusR {p a i m : Nat} (hi : i < 3) (ha : a < 100) (h : LR μ N B p)
    (h0 : ∀ c q, nmR N B p 0 9 = .inl (c, q) → ∀ μ', BF N c q μ μ' → KV μ')
    (h1 : ∀ v, nmR N B p 0 9 = .inr v → ∀ m3, Fr zGr μ m3 → LR m3 N B (tkN N B p) → m3 110 (15 + i) = nI v → (∀ j, j ≠ 15 + i → m3 110 j = μ 110 j) → pX9_readGusts_4 (m + 1) (d + 2) (nI (a + v)) (nI (i + 1)) m3 KV X) : pX9_readGusts_4 (m + 2) (d + 2) (nI a) (nI i) μ KV X := by
  refine ⟨fun z => absurd ((n_le (a := 4) (by omega) (by omega)).mp z) (by omega), fun _ => ⟨fun _ => ?_, fun z => absurd h.2.2 z⟩⟩
  refine h.num (d := d) (lo := 0) (hi := 9) rfl rfl (by omega) (by omega) (fun c q e m1 f1 x1 => ⟨fun z => absurd z x1.b, fun _ => B_49 (by omega) ⟨f1, x1⟩ (h0 c q e)⟩) (fun v ev => ⟨fun _ => ⟨fun z => absurd ((n_eq (b := 3) (by omega) (by omega)).mp z) (by omega), fun _ => ?_⟩, fun z => absurd h.2.2 z⟩)
  have vr := nmR_rng ev
  rw [nI_add]
  exact S_49 (by omega) h (h1 v ev)
theorem R_gusLn {p0 : Nat} (h : LR μ N B (tkN N B p0))
    (h0 : ∀ c q, lnGus N B p0 = .inl (c, q) → ∀ μ', BF N c q μ μ' → KV μ')
    (h1 : ∀ p' g, lnGus N B p0 = .inr (p', g) → ∀ μ', Fr zGr μ μ' → LR μ' N B p' → (∀ j, j < 4 → μ' 110 (15 + j) = g j) → (∀ j, j < 15 ∨ 19 ≤ j → μ' 110 j = μ 110 j) → KV μ') : zcV (d + 3) mX9_readGusts [.ref 106] μ KV X := by
  refine cX9_readGusts_ ⟨5, ?_⟩
  unfold lnGus at h0 h1
  refine L_gusR (a := 0) (i := 0) (by omega) (by omega) h (fun c q e μ' b => h0 c q (bd_l e) μ' b) (fun a ea m1 f1 k1 c1 o1 => ?_)
  rw [bd_r ea] at h0 h1
  have ra := nmR_rng ea
  refine L_gusR (by omega) (by omega) k1 (fun c q e μ' b => h0 c q (bd_l e) μ' (b.tr (zGr_R f1))) (fun b eb m2 f2 k2 c2 o2 => ?_)
  rw [bd_r eb] at h0 h1
  have rb := nmR_rng eb
  have g2 := f1.tr f2
  refine L_gusR (by omega) (by omega) k2 (fun c q e μ' b => h0 c q (bd_l e) μ' (b.tr (zGr_R g2))) (fun cc ec m3 f3 k3 c3 o3 => ?_)
  rw [bd_r ec] at h0 h1
  have rc := nmR_rng ec
  have g3 := g2.tr f3
  refine ⟨fun z => absurd z (by decide), fun _ => ⟨fun _ => ?_, fun z => absurd k3.2.2 z⟩⟩
  refine k3.num (d := d) (lo := 0) (hi := 9) rfl rfl (by omega) (by omega) (fun c q e m4 f4 x4 => ⟨fun z => absurd z x4.b, fun _ => B_49 (i := 3) (by omega) ⟨(zGr_R g3).tr f4, x4⟩ (h0 c q (bd_l e))⟩) (fun v ev => ⟨fun _ => ⟨fun _ => ?_, fun z => absurd rfl z⟩, fun z => absurd k3.2.2 z⟩)
  rw [bd_r ev] at h0 h1
  have vr := nmR_rng ev
  rw [nI_add]
  refine ⟨fun z => ?_, fun z => S_49 (i := 3) (by omega) k3 (fun m4 f4 k4 c4 o4 => ?_)⟩
  · have s0 := (n_eq (b := 0) (by omega) (by omega)).mp z
    rw [if_pos (by omega)] at h0
    exact k3.wrong (d := d + 1) (c := 2) rfl (by omega) (by omega) (fun m4 f4 x4 => B_49 (i := 3) (by omega) ⟨(zGr_R g3).tr f4, x4⟩ (h0 2 _ rfl))
  · have s0 : ¬ a + b + cc + v = 0 := fun w => z (by rw [show 0 + a + b + cc + v = 0 by omega]; rfl)
    rw [if_neg s0] at h1
    refine ⟨fun _ => h1 _ (guW a b cc v) rfl m4 (g3.tr f4) k4 (fun j hj => ?_) (fun j hj => by rw [o4 _ (by omega), o3 _ (by omega), o2 _ (by omega), o1 _ (by omega)]), fun w => absurd (by decide) w⟩
    match j, hj with
    | 0, _ => rw [o4 _ (by omega), o3 _ (by omega), o2 _ (by omega)]; exact c1
    | 1, _ => rw [o4 _ (by omega), o3 _ (by omega)]; exact c2
    | 2, _ => rw [o4 _ (by omega)]; exact c3
    | 3, _ => exact c4
    | j + 4, hj => omega
end GustR
