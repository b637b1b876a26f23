/-! sky: the reference -/
section SkyR
variable {d : Nat} {μ : zMem} {KI : Int32 → zMem → Prop} {KV : zMem → Prop} {X : Nat → zMem → Prop} {n : Nat} {S : zSky} {D : Nat → Int32} {tn : Nat} {tb : Nat → Int32} {F : Int32} {T : zT} {K : Option (Nat → Int32)} {M : Option zT}
theorem QR.tx {μ' : zMem} {F' : Int32} (hn : n ≤ 6) (h : QR μ n S D tn tb F T K M) (e : ∀ c j, ¬ zRR c j → ¬ (c = 106 ∧ (j = 3 ∨ j = 12 ∨ j = 14 ∨ j = 21)) → μ' c j = μ c j) (e1 : μ' 106 12 = 0) (e3 : μ' 106 21 = F') : QR μ' n S D 0 tb F' T K M := by
  obtain ⟨⟨h1, ⟨s1, s2, s3, s4, s5, s6, s7⟩, h3⟩, -, -, ⟨t1, t2, ⟨t3, t4⟩, ⟨t5, t6⟩, t7, t8⟩, h11, h12⟩ := h
  refine ⟨⟨?_, ⟨s1, ?_, fun j hj => ?_, s4, ?_, fun j hj => ?_, s7⟩, fun j a b => ?_⟩, ⟨e1, fun j hj => absurd hj (Nat.not_lt_zero j)⟩, e3, ⟨fun i hi k hk => ?_, fun j hj => ?_, ⟨?_, fun j hj i hi k hk => ?_⟩, ⟨?_, fun j hj => ?_⟩, ?_, fun j hj => ?_⟩, ?_, ?_⟩
  · rw [e _ _ (by unfold zRR; omega) (by omega)]; exact h1
  · rw [e _ _ (by unfold zRR; omega) (by omega)]; exact s2
  · rw [e _ _ (by unfold zRR; omega) (by omega), e _ _ (by unfold zRR; omega) (by omega), e _ _ (by unfold zRR; omega) (by omega)]; exact s3 j hj
  · rw [e _ _ (by unfold zRR; omega) (by omega)]; exact s5
  · rw [e _ _ (by unfold zRR; omega) (by omega)]; exact s6 j hj
  · rw [e _ _ (by unfold zRR; omega) (by omega)]; exact h3 j a b
  · rw [e _ _ (by unfold zRR; omega) (by omega)]; exact t1 i hi k hk
  · rw [e _ _ (by unfold zRR; omega) (by omega)]; exact t2 j hj
  · rw [e _ _ (by unfold zRR; omega) (by omega)]; exact t3
  · rw [e _ _ (by unfold zRR; omega) (by omega)]; exact t4 j hj i hi k hk
  · rw [e _ _ (by unfold zRR; omega) (by omega)]; exact t5
  · rw [e _ _ (by unfold zRR; omega) (by omega)]; exact t6 j hj
  · rw [e _ _ (by unfold zRR; omega) (by omega)]; exact t7
  · rw [e _ _ (by unfold zRR; omega) (by omega), e _ _ (by unfold zRR; omega) (by omega), e _ _ (by unfold zRR; omega) (by omega)]; exact t8 j hj
  · cases K with
    | none => show μ' 106 36 = 0; rw [e _ _ (by unfold zRR; omega) (by omega)]; exact h11
    | some ρ => exact ⟨by rw [e _ _ (by unfold zRR; omega) (by omega)]; exact h11.1, fun i hi => by rw [e _ _ (by unfold zRR; omega) (by omega)]; exact h11.2 i hi⟩
  · cases M with
    | none => show μ' 106 53 = 0; rw [e _ _ (by unfold zRR; omega) (by omega)]; exact h12
    | some T' => exact ⟨by rw [e _ _ (by unfold zRR; omega) (by omega)]; exact h12.1, h12.2.go fun c j q => e _ _ (by unfold zRR; omega) (by omega)⟩
theorem R_sky {x1 : Int32} (hW : QW n S D tn T K M) (hR : QR μ n S D tn tb F T K M) (hX : ¬ vTx tn x1 → ∀ m, Fr zScR μ m → m 106 3 = 1 → KI 0 m)
    (hF : ∀ N c q, x1 = nI N → N ≤ tn → txt N (tbB tb) (N + 1) σ0 (tkS N (tbB tb) 0) = .inl (c, q) → ∀ m, Fr zRef μ m → m 106 3 = 0 → QR m n S D 0 tb (nI q) (tRef T 0) K M → KI (nI c) m)
    (hS : ∀ N σ, x1 = nI N → N ≤ tn → txt N (tbB tb) (N + 1) σ0 (tkS N (tbB tb) 0) = .inr σ → SgM σ → ∀ m, Fr zRef μ m → m 106 3 = 0 → QR m σ.2.1.1 σ.2.2.1 σ.2.2.2 0 tb (-1) (tNew σ.2.1.2 T) none none → KI 0 m) :
    zcI (d + 55) mX9_sky [.ref 106, .int x1] μ KI X := by
  have ht := hW.2.2.2.2.1
  have n6 := hW.1
  rw [vTx_g ht] at hX
  refine cX9_sky_ (fun m1 e1 => ?_)
  have c1 : m1 106 12 = nI tn := by rw [e1, zw_j (by omega)]; exact hR.2.1.1
  have fl : ¬ (¬ x1 < 0 ∧ x1 ≤ nI tn) → pX9_sky_17 (d + 54) m1 KI X := fun q => R_fail (d := d + 53) (fun m e => hX q m ((code_q (x := 0)).tr (by rw [e, e1]; exact code_q)) (by rw [e, zw_s]))
  refine ⟨fun z => fl fun q => q.1 z, fun z => ⟨fun z2 m2 e2 m3 e3 m4 e4 m5 e5 m6 e6 => ?_, fun z2 => fl fun q => z2 (by rw [c1]; exact q.2)⟩⟩
  rw [c1] at z2
  obtain ⟨N, eN, hN⟩ := (vTx_g ht).mpr ⟨z, z2⟩
  subst eN
  have g6 : ∀ c j, ¬ (c = 106 ∧ (j = 3 ∨ j = 12 ∨ j = 13 ∨ j = 14 ∨ j = 19 ∨ j = 21)) → m6 c j = μ c j := fun c j a => by
    rw [e6, zw_n (by omega), e5, zw_n (by omega), e4, zw_n (by omega), e3, zw_n (by omega), e2, zw_n (by omega), e1, zw_n (by omega)]
  have v3 : m6 106 3 = 0 := by rw [e6, zw_j (by omega), e5, zw_j (by omega), e4, zw_j (by omega), e3, zw_j (by omega), e2, zw_j (by omega), e1, zw_s]
  have v12 : m6 106 12 = 0 := by rw [e6, zw_j (by omega), e5, zw_j (by omega), e4, zw_j (by omega), e3, zw_j (by omega), e2, zw_s]
  have v14 : m6 106 14 = nI N := by rw [e6, zw_j (by omega), e5, zw_j (by omega), e4, zw_j (by omega), e3, zw_s]
  have v13 : m6 106 13 = 0 := by rw [e6, zw_j (by omega), e5, zw_j (by omega), e4, zw_s]
  have v19 : m6 106 19 = 0 := by rw [e6, zw_j (by omega), e5, zw_s]
  have v21 : m6 106 21 = -1 := by rw [e6, zw_s]
  have tx : TxR m6 N (tbB tb) := ⟨by omega, fun j _ => Nat.mod_lt _ (by omega), v14, fun j hj => by rw [g6 _ _ (by omega), hR.2.1.2 j (by omega)]; exact by_r _⟩
  have t116 : ∀ j, j < 3 → μ 116 j = T.2.1 j := hR.2.2.2.1.2.1
  refine R_readText (d := d) tx v13 v19 (fun c q ex m7 b7 => ?_) (fun σ ex hm m7 f7 w7 u7 => ?_)
  · refine ⟨fun w => absurd w b7.b, fun _ m8 e8 m9 e9 => ?_⟩
    obtain ⟨f7, x1', x2', x3', x4', x5'⟩ := b7
    have g8 : ∀ c j, ¬ zRR c j → ¬ (c = 106 ∧ (j = 3 ∨ j = 12 ∨ j = 14 ∨ j = 21)) → m8 c j = μ c j := fun c j a b => by
      rw [e8, zw_n (by omega), f7 _ _ a, g6 _ _ (by unfold zRR at a; omega)]
    have q8 : QR m8 n S D 0 tb (nI q) T K M := by
      refine hR.tx n6 g8 ?_ ?_
      · rw [e8, zw_j (by omega), f7 _ _ (by unfold zRR; omega), v12]
      · rw [e8, zw_s]; exact x5'
    have ev : m9 106 19 = nI c := by rw [e9, zw_c (by omega), e8, zw_j (by omega)]; exact x4'
    rw [ev]
    have e9' : m9 = zw m8 116 0 (m8 116 0 + 1) := e9
    rw [e9']
    refine hF N c q rfl hN ex _ (fun c j a => ?_) ?_ q8.ref
    · unfold zRef at a
      rw [zw_c (by omega)]
      exact g8 c j (by unfold zRR; omega) (by omega)
    · rw [zw_c (by omega), e8, zw_j (by omega), f7 _ _ (by unfold zRR; omega), v3]
  · refine ⟨fun _ => ?_, fun w => absurd w7 w⟩
    refine R_takeOver (d := d + 52) (fun m8 f8 a8 b8 c8 d8 z8 => ?_)
    obtain ⟨z27, z28, z29, z36, z53⟩ := z8
    obtain ⟨⟨u1, u2⟩, ⟨u3, u4⟩, u5, u6, u9⟩ := u7
    have g8 : ∀ c j, ¬ zOv c j → ¬ zRR c j → m8 c j = m6 c j := fun c j a b => by rw [f8 _ _ a, f7 _ _ b]
    obtain ⟨i1, i2⟩ := hm.2.1
    refine hS N σ rfl hN ex hm m8 (fun c j a => ?_) ?_ ⟨⟨?_, ⟨hm.2.2.1.1, ?_, fun j hj => ?_, hm.2.2.2.2.1, ?_, fun j hj => ?_, hm.2.2.2.2.2.1⟩, fun j p q => ?_⟩, ⟨?_, fun j hj => absurd hj (Nat.not_lt_zero j)⟩, ?_, ⟨fun i hi k hk => ?_, fun j hj => ?_, ⟨z27, fun j hj => absurd hj (Nat.not_lt_zero j)⟩, ⟨z28, fun j hj => absurd hj (Nat.not_lt_zero j)⟩, z29, fun j hj => absurd hj (Nat.not_lt_zero j)⟩, z36, z53⟩
    · unfold zRef at a
      rw [g8 _ _ (by unfold zOv; omega) (by unfold zRR; omega)]
      exact g6 c j (by omega)
    · rw [g8 _ _ (by unfold zOv; omega) (by unfold zRR; omega), v3]
    · rw [a8 0 (by omega)]; exact u1
    · rw [a8 1 (by omega)]; exact u3
    · have l12 := hm.2.2.1.1
      obtain ⟨y1, y2, y3⟩ := c8 j (by omega)
      rw [y1, y2, y3]; exact u4 j hj
    · rw [a8 9 (by omega)]; exact u6
    · have l700 := hm.2.2.2.2.1
      rw [d8 j (by omega)]; exact u9 j hj
    · rw [a8 j (by omega)]; exact u5 j p q
    · rw [g8 _ _ (by unfold zOv; omega) (by unfold zRR; omega), v12]; rfl
    · rw [g8 _ _ (by unfold zOv; omega) (by unfold zRR; omega), v21]
    · have hi' : i < σ.2.1.1 := hi
      rw [b8 (14 * i + k) (by omega), show 84 + (14 * i + k) = 14 * (6 + i) + k by omega]
      exact u2 i hi' k hk
    · rw [g8 _ _ (by unfold zOv; omega) (by unfold zRR; omega), g6 _ _ (by omega)]
      exact t116 j hj
end SkyR
