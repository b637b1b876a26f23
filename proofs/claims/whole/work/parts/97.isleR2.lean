/-! an isle's line: the reference, whole -/
section IsleR2
variable {d n : Nat} {μ μ0 : zMem} {KI : Int32 → zMem → Prop} {KV : zMem → Prop} {X : Nat → zMem → Prop} {N : Nat} {B : Nat → Nat} {γ : Type}
theorem R_171 {p : Nat} {R : (Nat × Nat) ⊕ γ} {f : Nat → Nat → Nat → Nat → Nat → Nat → (Nat × Nat) ⊕ γ} (hn : n < 6) (h : LR μ N B p) (hc : μ 110 10 = nI n)
    (hR : R = bd (nmR N B p 1 60) fun ro => bd (nmR N B (tkN N B p) 1 99) fun li => bd (nmR N B (tkN N B (tkN N B p)) 1 6) fun si => bd (nmR N B (tkN N B (tkN N B (tkN N B p))) 0 20) fun pe => bd (nmR N B (tkN N B (tkN N B (tkN N B (tkN N B p)))) 0 60) fun lo => bd (nmR N B (tkN N B (tkN N B (tkN N B (tkN N B (tkN N B p))))) 0 9) fun go => f ro li si pe lo go)
    (h0 : ∀ c q, R = .inl (c, q) → ∀ μ', BF N c q μ μ' → KV μ')
    (h1 : ∀ ro li si pe lo go, R = f ro li si pe lo go → ∀ μ', Fr (zIr n) μ μ' → LR μ' N B (tkN N B (tkN N B (tkN N B (tkN N B (tkN N B (tkN N B p)))))) → μ' 110 10 = nI (n + 1) → (∀ k, 3 ≤ k → k < 14 → μ' 111 (14 * (6 + n) + k) = isRow 0 0 0 ro li si pe lo go k) → (∀ j, j < 14 * (6 + n) + 3 → μ' 111 j = μ 111 j) → KV μ') : pX9_readIsle_171 (d + 3) (nI (14 * (6 + n))) μ KV X := by
  have a : ∀ k, nI (14 * (6 + n)) + nI k = nI (14 * (6 + n) + k) := fun k => nI_add _ k
  unfold pX9_readIsle_171
  rw [show nI (14 * (6 + n)) + 3 = nI (14 * (6 + n) + 3) from a 3, show nI (14 * (6 + n)) + 4 = nI (14 * (6 + n) + 4) from a 4, show nI (14 * (6 + n)) + 5 = nI (14 * (6 + n) + 5) from a 5, show nI (14 * (6 + n)) + 6 = nI (14 * (6 + n) + 6) from a 6, show nI (14 * (6 + n)) + 7 = nI (14 * (6 + n) + 7) from a 7, show nI (14 * (6 + n)) + 8 = nI (14 * (6 + n) + 8) from a 8]
  have tl : ∀ {c q : Nat} {m : zMem}, BF N c q μ m → (∀ μ', BF N c q μ μ' → KV μ') → (vp_in (nI (14 * (6 + n)) + 9) 168) ∧ ∀ m19 : zMem, m19 = zw m 111 (nI (14 * (6 + n)) + 9).toNatClampNeg 0 → ∃ n2 : Nat, pX9_readIsle_276 n2 (d + 3) (nI (14 * (6 + n))) 0 m19 KV X := fun b k => B_tail hn b k
  refine R_rd (lo := 1) (hi := 60) rfl rfl (by omega) (by omega) hn (by omega) h (fun c q e m b1 => B_rd hn (by omega) b1 (fun m2 b2 => B_rd hn (by omega) b2 (fun m3 b3 => B_rd hn (by omega) b3 (fun m4 b4 => B_rd hn (by omega) b4 (fun m5 b5 => B_rd hn (by omega) b5 (fun m6 b6 => tl b6 (h0 c q (by rw [hR]; exact bd_l e)))))))) (fun ro e1 m1 f1 k1 c1 o1 z1 => ?_)
  rw [bd_r e1] at hR
  have g1 := zIr_R f1
  refine R_rd (lo := 1) (hi := 99) rfl rfl (by omega) (by omega) hn (by omega) k1 (fun c q e m b => B_rd hn (by omega) (b.tr g1) (fun m3 b3 => B_rd hn (by omega) b3 (fun m4 b4 => B_rd hn (by omega) b4 (fun m5 b5 => B_rd hn (by omega) b5 (fun m6 b6 => tl b6 (h0 c q (by rw [hR]; exact bd_l e))))))) (fun li e2 m2 f2 k2 c2 o2 z2 => ?_)
  rw [bd_r e2] at hR
  have g2 := g1.tr (zIr_R f2)
  refine R_rd (lo := 1) (hi := 6) rfl rfl (by omega) (by omega) hn (by omega) k2 (fun c q e m b => B_rd hn (by omega) (b.tr g2) (fun m4 b4 => B_rd hn (by omega) b4 (fun m5 b5 => B_rd hn (by omega) b5 (fun m6 b6 => tl b6 (h0 c q (by rw [hR]; exact bd_l e)))))) (fun si e3 m3 f3 k3 c3 o3 z3 => ?_)
  rw [bd_r e3] at hR
  have g3 := g2.tr (zIr_R f3)
  refine R_rd (lo := 0) (hi := 20) rfl rfl (by omega) (by omega) hn (by omega) k3 (fun c q e m b => B_rd hn (by omega) (b.tr g3) (fun m5 b5 => B_rd hn (by omega) b5 (fun m6 b6 => tl b6 (h0 c q (by rw [hR]; exact bd_l e))))) (fun pe e4 m4 f4 k4 c4 o4 z4 => ?_)
  rw [bd_r e4] at hR
  have g4 := g3.tr (zIr_R f4)
  have pr := nmR_rng e4
  refine R_rd (lo := 0) (hi := 60) rfl rfl (by omega) (by omega) hn (by omega) k4 (fun c q e m b => B_rd hn (by omega) (b.tr g4) (fun m6 b6 => tl b6 (h0 c q (by rw [hR]; exact bd_l e)))) (fun lo e5 m5 f5 k5 c5 o5 z5 => ?_)
  rw [bd_r e5] at hR
  have g5 := g4.tr (zIr_R f5)
  refine R_rd (lo := 0) (hi := 9) rfl rfl (by omega) (by omega) hn (by omega) k5 (fun c q e m b => tl (b.tr g5) (h0 c q (by rw [hR]; exact bd_l e))) (fun go e6 m6 f6 k6 c6 o6 z6 => ?_)
  rw [bd_r e6] at hR
  rw [show nI (14 * (6 + n)) + 9 = nI (14 * (6 + n) + 9) from a 9, tN_nI (by omega)]
  refine ⟨vin (by omega), fun m7 e7 => ⟨5, ?_⟩⟩
  have f07 : Fr (zIr n) μ m7 := (((((f1.tr f2).tr f3).tr f4).tr f5).tr f6).tr (by rw [e7]; exact Fr.w (Or.inr (Or.inr ⟨rfl, by omega, by omega⟩)))
  have o7 : ∀ j, j ≠ 14 * (6 + n) + 9 → m7 111 j = m6 111 j := fun j hj => by rw [e7, zw_j hj]
  have z7 : m7 110 10 = nI n := by rw [e7, zw_c (by omega), z6, z5, z4, z3, z2, z1, hc]
  have k7 : LR m7 N B (tkN N B (tkN N B (tkN N B (tkN N B (tkN N B (tkN N B p)))))) := by rw [e7]; exact k6.w (by omega) (by omega)
  refine L_276 (μ0 := m7) (pe := pe) hn pr.2.1 (by rw [o7 _ (by omega), o6 _ (by omega), o5 _ (by omega), c4]) z7 (fun μ' f8 s8 n8 t8 o8 => ?_) 4 0 m7 (by omega) Fr.rf (fun t ht => by omega)
  refine h1 ro li si pe lo go hR μ' (f07.tr f8) (k7.go (fun j _ _ => s8 106 (by omega) (by omega) j) (fun j => s8 117 (by omega) (by omega) j)) n8 (fun k k3' k14 => ?_) (fun j hj => by rw [o8 _ (by omega), o7 _ (by omega), o6 _ (by omega), o5 _ (by omega), o4 _ (by omega), o3 _ (by omega), o2 _ (by omega), o1 _ (by omega)])
  match k, k3', k14 with
  | 3, _, _ => rw [o8 _ (by omega), o7 _ (by omega), o6 _ (by omega), o5 _ (by omega), o4 _ (by omega), o3 _ (by omega), o2 _ (by omega)]; exact c1
  | 4, _, _ => rw [o8 _ (by omega), o7 _ (by omega), o6 _ (by omega), o5 _ (by omega), o4 _ (by omega), o3 _ (by omega)]; exact c2
  | 5, _, _ => rw [o8 _ (by omega), o7 _ (by omega), o6 _ (by omega), o5 _ (by omega), o4 _ (by omega)]; exact c3
  | 6, _, _ => rw [o8 _ (by omega), o7 _ (by omega), o6 _ (by omega), o5 _ (by omega)]; exact c4
  | 7, _, _ => rw [o8 _ (by omega), o7 _ (by omega), o6 _ (by omega)]; exact c5
  | 8, _, _ => rw [o8 _ (by omega), o7 _ (by omega)]; exact c6
  | 9, _, _ => rw [o8 _ (by omega), e7, zw_s]; rfl
  | 10, _, _ => exact t8 0 (by omega)
  | 11, _, _ => exact t8 1 (by omega)
  | 12, _, _ => exact t8 2 (by omega)
  | 13, _, _ => exact t8 3 (by omega)
  | k + 14, _, k14 => omega
end IsleR2
