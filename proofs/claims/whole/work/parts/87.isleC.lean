/-! an isle's line: the class -/
def zPo (s n c j : Nat) : Prop := zL2 c j ∨ (j = n ∧ (c = s + 3 ∨ c = s + 4))
def zBu (s n c j : Nat) : Prop := zL2 c j ∨ (j = n ∧ (c = s + 5 ∨ c = s + 6 ∨ c = s + 7))
def zFt (s n c j : Nat) : Prop := zL2 c j ∨ (j = n ∧ (c = s + 8 ∨ c = s + 9 ∨ c = s + 10)) ∨ (c = s + 12 ∧ 4 * n ≤ j ∧ j < 4 * n + 4)
section IsleC
variable {d s n : Nat} {μ : zMem} {KI : Int32 → zMem → Prop} {KV : zMem → Prop} {X : Nat → zMem → Prop} {N : Nat} {B : Nat → Nat} {γ : Type}
theorem bd_l {α β : Type} {r : (Nat × Nat) ⊕ α} {f : α → (Nat × Nat) ⊕ β} {q : Nat × Nat} (h : r = .inl q) : bd r f = .inl q := by rw [h]; rfl
theorem bd_r {α β : Type} {r : (Nat × Nat) ⊕ α} {f : α → (Nat × Nat) ⊕ β} {a : α} (h : r = .inr a) : bd r f = f a := by rw [h]; rfl
theorem LK.w {p a i : Nat} {v : Int32} (h : LK μ N B p) (ha : 5 ≤ a) : LK (zw μ a i v) N B p := h.go fun c j _ h2 => by rw [zw_c (by omega)]
theorem C_post {p1 : Nat} {I : zI} {R : (Nat × Nat) ⊕ γ} {f : Nat → Nat → (Nat × Nat) ⊕ γ} (hs : s = 6 ∨ s = 26) (hn : n < 6) (hc : μ (s + 1) 0 = nI n) (hI : ∀ i, i < n → μ (s + 3) i = I i 1 ∧ μ (s + 4) i = I i 2) (h : LK μ N B p1)
    (hR : R = bd (nmR N B p1 0 60) fun x => bd (nmR N B (tkN N B p1) 0 60) fun y => if zdec (∃ i, i < n ∧ I i 1 = nI x ∧ I i 2 = nI y) = true then .inl (4, tkN N B p1) else f x y)
    (h0 : ∀ c q, R = .inl (c, q) → ∀ μ', Fr (zPo s n) μ μ' → FC μ' N B c q → KI 0 μ')
    (h1 : ∀ x y, x ≤ 60 → y ≤ 60 → R = f x y → ∀ μ', Fr (zPo s n) μ μ' → LK μ' N B (tkN N B (tkN N B p1)) → μ' (s + 3) n = nI x → μ' (s + 4) n = nI y → KI 1 μ') : zcI (d + 7) mX2_readPost [.ref 2, .ref (s + 1), .int (nI n)] μ KI X := by
  refine cX2_readPost_ (by decide +kernel) (by rcases hs with rfl | rfl <;> decide +kernel) (C_tkN (lo := 0) (hi := 60) rfl rfl (by omega) (by omega) h (fun c q e m1 f1 x1 => ⟨fun _ => h0 c q (by rw [hR]; exact bd_l e) m1 (f1.mono fun _ _ z => Or.inl z) x1, fun z => absurd rfl z⟩) (fun x ex m1 f1 k1 v1 => ⟨fun z => absurd z (by decide), fun _ => ⟨vin (by omega), fun m3 e3 => ?_⟩⟩))
  rw [bd_r ex] at hR
  have xr := nmR_rng ex
  rw [tN_nI (by omega), v1] at e3
  have e3' : m3 = zw m1 (s + 3) n (nI x) := e3
  have f3 : Fr (zPo s n) μ m3 := (f1.mono fun _ _ z => Or.inl z : Fr (zPo s n) μ m1).tr (by rw [e3']; exact Fr.w (Or.inr ⟨rfl, Or.inl rfl⟩))
  have k3 : LK m3 N B (tkN N B p1) := by rw [e3']; exact k1.w (by omega)
  refine C_isN (d := d + 4) (lo := 0) (hi := 60) rfl rfl (by omega) (by omega) k3 (fun c q e m4 f4 x4 => ⟨fun _ => h0 c q (by rw [hR]; exact bd_l e) m4 (f3.tr (f4.mono fun _ _ z => Or.inl z)) x4, fun z => absurd rfl z⟩) (fun y ey m4 f4 k4 v4 => ⟨fun z => absurd z (by decide), fun _ => ⟨vin (by omega), ?_⟩⟩)
  rw [bd_r ey] at hR
  have yr := nmR_rng ey
  have f34 := f3.tr (f4.mono fun _ _ z => Or.inl z : Fr (zPo s n) m3 m4)
  have c4 : m4 (s + 1 + 2) n = nI x := by rw [zL2_6 f4 (by omega) (by omega), e3']; exact zw_s
  rw [tN_nI (by omega), c4, v4]
  refine C_isPost (I := I) (s := s) (n := n) hs (by omega) (by have q1 : m4 (s + 1) 0 = μ (s + 1) 0 := f34 _ _ (by unfold zPo zL2 zRd zStp; omega); rw [q1]; exact hc) (fun i hi => ?_) (fun no => ⟨fun _ => ⟨vin (by omega), fun m8 e8 => ?_⟩, fun z => absurd rfl z⟩) (fun yes => ⟨fun z => absurd z (by decide), fun _ => ?_⟩)
  · have q1 : m4 (s + 3) i = μ (s + 3) i := f34 _ _ (by unfold zPo zL2 zRd zStp; omega)
    have q2 : m4 (s + 4) i = μ (s + 4) i := f34 _ _ (by unfold zPo zL2 zRd zStp; omega)
    exact ⟨q1.trans (hI i hi).1, q2.trans (hI i hi).2⟩
  · rw [if_neg (fun z => no (zdec_t.mp z))] at hR
    rw [v4] at e8
    have e8' : m8 = zw m4 (s + 4) n (nI y) := e8
    have k8 : LK m8 N B (tkN N B p1) := by rw [e8']; exact k4.w (by omega)
    refine k8.next (fun m9 f9 k9 => h1 x y xr.2.1 yr.2.1 hR m9 ((f34.tr (by rw [e8']; exact Fr.w (Or.inr ⟨rfl, Or.inr rfl⟩))).tr (f9.mono fun _ _ z => Or.inl z)) k9 ?_ ?_)
    · rw [zL2_6 f9 (by omega) (by omega), e8', zw_c (by omega)]; exact c4
    · rw [zL2_6 f9 (by omega) (by omega), e8', zw_s]
  · rw [if_pos (zdec_t.mpr yes)] at hR
    exact C_ref (c := 4) rfl (by omega) (by omega) k4 (fun μ' f' x' => ⟨Or.inl rfl, h0 4 _ hR μ' (f34.tr (f'.mono fun _ _ z => Or.inl z)) x'⟩)
theorem C_build {p1 : Nat} {R : (Nat × Nat) ⊕ γ} {f : Nat → Nat → Nat → (Nat × Nat) ⊕ γ} (hs : s = 6 ∨ s = 26) (hn : n < 6) (h : LK μ N B p1)
    (hR : R = bd (nmR N B p1 1 60) fun x => bd (nmR N B (tkN N B p1) 1 99) fun y => bd (nmR N B (tkN N B (tkN N B p1)) 1 6) fun z => f x y z)
    (h0 : ∀ c q, R = .inl (c, q) → ∀ μ', Fr (zBu s n) μ μ' → FC μ' N B c q → KI 0 μ')
    (h1 : ∀ x y z, 1 ≤ x → x ≤ 60 → 1 ≤ y → y ≤ 99 → 1 ≤ z → z ≤ 6 → R = f x y z → ∀ μ', Fr (zBu s n) μ μ' → LK μ' N B (tkN N B (tkN N B (tkN N B p1))) → μ' (s + 5) n = nI x → μ' (s + 6) n = nI y → μ' (s + 7) n = nI z → KI 1 μ') : zcI (d + 7) mX2_readBuild [.ref 2, .ref (s + 1), .int (nI n)] μ KI X := by
  have mo : ∀ {m1 m2 : zMem}, Fr zL2 m1 m2 → Fr (zBu s n) m1 m2 := fun f => f.mono fun _ _ z => Or.inl z
  refine cX2_readBuild_ (by decide +kernel) (by rcases hs with rfl | rfl <;> decide +kernel) (C_tkN (lo := 1) (hi := 60) rfl rfl (by omega) (by omega) h (fun c q e m1 f1 x1 => ⟨fun _ => h0 c q (by rw [hR]; exact bd_l e) m1 (mo f1) x1, fun z => absurd rfl z⟩) (fun x ex m1 f1 k1 v1 => ⟨fun z => absurd z (by decide), fun _ => ⟨vin (by omega), fun m3 e3 => ?_⟩⟩))
  rw [bd_r ex] at hR
  have xr := nmR_rng ex
  rw [tN_nI (by omega), v1] at e3
  have e3' : m3 = zw m1 (s + 5) n (nI x) := e3
  have f3 : Fr (zBu s n) μ m3 := (mo f1).tr (by rw [e3']; exact Fr.w (Or.inr ⟨rfl, Or.inl rfl⟩))
  have k3 : LK m3 N B (tkN N B p1) := by rw [e3']; exact k1.w (by omega)
  refine C_tkN (lo := 1) (hi := 99) rfl rfl (by omega) (by omega) k3 (fun c q e m4 f4 x4 => ⟨fun _ => h0 c q (by rw [hR]; exact bd_l e) m4 (f3.tr (mo f4)) x4, fun z => absurd rfl z⟩) (fun y ey m4 f4 k4 v4 => ⟨fun z => absurd z (by decide), fun _ => ⟨vin (by omega), fun m6 e6 => ?_⟩⟩)
  rw [bd_r ey] at hR
  have yr := nmR_rng ey
  rw [tN_nI (by omega), v4] at e6
  have e6' : m6 = zw m4 (s + 6) n (nI y) := e6
  have f6 : Fr (zBu s n) μ m6 := (f3.tr (mo f4)).tr (by rw [e6']; exact Fr.w (Or.inr ⟨rfl, Or.inr (Or.inl rfl)⟩))
  have k6 : LK m6 N B (tkN N B (tkN N B p1)) := by rw [e6']; exact k4.w (by omega)
  refine C_tkN (lo := 1) (hi := 6) rfl rfl (by omega) (by omega) k6 (fun c q e m7 f7 x7 => ⟨fun _ => h0 c q (by rw [hR]; exact bd_l e) m7 (f6.tr (mo f7)) x7, fun z => absurd rfl z⟩) (fun z ez m7 f7 k7 v7 => ⟨fun w => absurd w (by decide), fun _ => ⟨vin (by omega), fun m9 e9 => ?_⟩⟩)
  rw [bd_r ez] at hR
  have zr := nmR_rng ez
  rw [tN_nI (by omega), v7] at e9
  have e9' : m9 = zw m7 (s + 7) n (nI z) := e9
  refine h1 x y z xr.1 xr.2.1 yr.1 yr.2.1 zr.1 zr.2.1 hR m9 ((f6.tr (mo f7)).tr (by rw [e9']; exact Fr.w (Or.inr ⟨rfl, Or.inr (Or.inr rfl)⟩))) (by rw [e9']; exact k7.w (by omega)) ?_ ?_ ?_
  · rw [e9', zw_c (by omega), zL2_6 f7 (by omega) (by omega), e6', zw_c (by omega), zL2_6 f4 (by omega) (by omega), e3', zw_s]
  · rw [e9', zw_c (by omega), zL2_6 f7 (by omega) (by omega), e6', zw_s]
  · rw [e9', zw_s]
theorem C_freight {p1 : Nat} {R : (Nat × Nat) ⊕ γ} {f : Nat → Nat → Nat → (Nat × Nat) ⊕ γ} (hs : s = 6 ∨ s = 26) (hn : n < 6) (h : LK μ N B p1)
    (hR : R = bd (nmR N B p1 0 20) fun x => bd (nmR N B (tkN N B p1) 0 60) fun y => bd (nmR N B (tkN N B (tkN N B p1)) 0 9) fun z => f x y z)
    (h0 : ∀ c q, R = .inl (c, q) → ∀ μ', Fr (zFt s n) μ μ' → FC μ' N B c q → KI 0 μ')
    (h1 : ∀ x y z, x ≤ 20 → y ≤ 60 → z ≤ 9 → R = f x y z → ∀ μ', Fr (zFt s n) μ μ' → LK μ' N B (tkN N B (tkN N B (tkN N B p1))) → μ' (s + 8) n = nI x → μ' (s + 9) n = nI y → μ' (s + 10) n = nI z → (∀ t, t < 4 → μ' (s + 12) (4 * n + t) = nI ((x + 3 - t) / 4)) → KI 1 μ') : zcI (d + 7) mX2_readFreight [.ref 2, .ref (s + 1), .int (nI n)] μ KI X := by
  have mo : ∀ {m1 m2 : zMem}, Fr zL2 m1 m2 → Fr (zFt s n) m1 m2 := fun f => f.mono fun _ _ z => Or.inl z
  refine cX2_readFreight_ (by decide +kernel) (by rcases hs with rfl | rfl <;> decide +kernel) (C_tkN (lo := 0) (hi := 20) rfl rfl (by omega) (by omega) h (fun c q e m1 f1 x1 => ⟨fun _ => h0 c q (by rw [hR]; exact bd_l e) m1 (mo f1) x1, fun z => absurd rfl z⟩) (fun x ex m1 f1 k1 v1 => ⟨fun z => absurd z (by decide), fun _ => ?_⟩))
  rw [bd_r ex] at hR
  have xr := nmR_rng ex
  rw [v1]
  refine cX1_settle_ (by rcases hs with rfl | rfl <;> decide +kernel) ⟨vin (by omega), fun ma ea => ⟨4 + 1, ?_⟩⟩
  rw [tN_nI (by omega)] at ea
  have ea' : ma = zw m1 (s + 8) n (nI x) := ea
  refine L_settle (d := d + 5) (pe := x) (μ0 := ma) hs hn (by omega) (fun m3 f3 t3 => ?_) 4 0 ma (by omega) Fr.rf (fun t ht => by omega)
  have fm3 : Fr (zFt s n) μ m3 := ((mo f1).tr (by rw [ea']; exact Fr.w (Or.inr (Or.inl ⟨rfl, Or.inl rfl⟩)))).tr (f3.mono fun c j z => Or.inr (Or.inr z))
  have k3 : LK m3 N B (tkN N B p1) := (k1.w (a := s + 8) (i := n) (v := nI x) (by omega)).go fun c j _ h2 => by rw [f3 _ _ (by omega), ea']
  refine C_tkN (lo := 0) (hi := 60) rfl rfl (by omega) (by omega) k3 (fun c q e m4 f4 x4 => ⟨fun _ => h0 c q (by rw [hR]; exact bd_l e) m4 (fm3.tr (mo f4)) x4, fun z => absurd rfl z⟩) (fun y ey m4 f4 k4 v4 => ⟨fun z => absurd z (by decide), fun _ => ⟨vin (by omega), fun m6 e6 => ?_⟩⟩)
  rw [bd_r ey] at hR
  have yr := nmR_rng ey
  rw [tN_nI (by omega), v4] at e6
  have e6' : m6 = zw m4 (s + 9) n (nI y) := e6
  have f6 : Fr (zFt s n) μ m6 := (fm3.tr (mo f4)).tr (by rw [e6']; exact Fr.w (Or.inr (Or.inl ⟨rfl, Or.inr (Or.inl rfl)⟩)))
  have k6 : LK m6 N B (tkN N B (tkN N B p1)) := by rw [e6']; exact k4.w (by omega)
  refine C_tkN (lo := 0) (hi := 9) rfl rfl (by omega) (by omega) k6 (fun c q e m7 f7 x7 => ⟨fun _ => h0 c q (by rw [hR]; exact bd_l e) m7 (f6.tr (mo f7)) x7, fun z => absurd rfl z⟩) (fun z ez m7 f7 k7 v7 => ⟨fun w => absurd w (by decide), fun _ => ⟨vin (by omega), fun m9 e9 => ?_⟩⟩)
  rw [bd_r ez] at hR
  have zr := nmR_rng ez
  rw [tN_nI (by omega), v7] at e9
  have e9' : m9 = zw m7 (s + 10) n (nI z) := e9
  refine h1 x y z xr.2.1 yr.2.1 zr.2.1 hR m9 ((f6.tr (mo f7)).tr (by rw [e9']; exact Fr.w (Or.inr (Or.inl ⟨rfl, Or.inr (Or.inr rfl)⟩)))) (by rw [e9']; exact k7.w (by omega)) ?_ ?_ ?_ (fun t ht => ?_)
  · rw [e9', zw_c (by omega), zL2_6 f7 (by omega) (by omega), e6', zw_c (by omega), zL2_6 f4 (by omega) (by omega), f3 _ _ (by omega), ea', zw_s]
  · rw [e9', zw_c (by omega), zL2_6 f7 (by omega) (by omega), e6', zw_s]
  · rw [e9', zw_s]
  · rw [e9', zw_c (by omega), zL2_6 f7 (by omega) (by omega), e6', zw_c (by omega), zL2_6 f4 (by omega) (by omega)]; exact t3 t ht
/-- what an isle's line writes -/
def zIs (s n c j : Nat) : Prop := zL2 c j ∨ (j = n ∧ s + 2 ≤ c ∧ c ≤ s + 11) ∨ (c = s + 12 ∧ 4 * n ≤ j ∧ j < 4 * n + 4) ∨ (c = s + 1 ∧ j = 0)
theorem C_isleLn {p0 kd : Nat} {I : zI} (hs : s = 6 ∨ s = 26) (hn : n ≤ 6) (hkd : kd < 3) (hc : μ (s + 1) 0 = nI n) (hI : ∀ i, i < n → μ (s + 3) i = I i 1 ∧ μ (s + 4) i = I i 2) (h : LK μ N B p0)
    (h0 : ∀ c q, lnIsle N B n I kd p0 = .inl (c, q) → ∀ μ', Fr (zIs s n) μ μ' → FC μ' N B c q → KI 0 μ')
    (h1 : ∀ p' R, lnIsle N B n I kd p0 = .inr (p', R) → n < 6 → ∀ μ', Fr (zIs s n) μ μ' → LK μ' N B p' → μ' (s + 1) 0 = nI (n + 1) → (∀ k, k < 10 → μ' (s + 2 + k) n = R k) → (∀ t, t < 4 → μ' (s + 12) (4 * n + t) = R (10 + t)) → rowK (fun _ => R) 0 → KI 1 μ') : zcI (d + 8) mX2_readIsle [.ref 2, .ref (s + 1), .int (nI kd)] μ KI X := by
  have mo : ∀ {m1 m2 : zMem}, Fr zL2 m1 m2 → Fr (zIs s n) m1 m2 := fun f => f.mono fun _ _ z => Or.inl z
  refine cX2_readIsle_ (by decide +kernel) (by rcases hs with rfl | rfl <;> decide +kernel) ?_
  unfold pX2_readIsle
  rw [hc, show (6 : Int32) = nI 6 from rfl, n_lt (by omega) (by omega)]
  unfold lnIsle at h0 h1
  refine ⟨fun lt => h.next (fun m1 f1 k1 => ⟨vin (by omega), fun m2 e2 => ⟨vin (by omega), fun m3 e3 => ?_⟩⟩), fun ge => C_ref (c := 2) rfl (by omega) (by omega) h (fun μ' f' x' => ⟨Or.inl rfl, h0 2 p0 (if_pos (by omega)) μ' (mo f') x'⟩)⟩
  rw [if_neg (by omega)] at h0 h1
  rw [tN_nI (by omega)] at e2 e3
  have e2' : m2 = zw m1 (s + 2) n (nI kd) := e2
  have e3' : m3 = zw m2 (s + 11) n 0 := e3
  have k3 : LK m3 N B (tkN N B p0) := by rw [e3', e2']; exact (k1.w (by omega)).w (by omega)
  have f3 : Fr (zIs s n) μ m3 := (mo f1).tr (Fr.tr (μ1 := m2) (by rw [e2']; exact Fr.w (Or.inr (Or.inl ⟨rfl, by omega, by omega⟩))) (by rw [e3']; exact Fr.w (Or.inr (Or.inl ⟨rfl, by omega, by omega⟩))))
  refine C_post (f := fun x y => _) (I := I) hs lt (by rw [e3', zw_c (by omega), e2', zw_c (by omega), zL2_6 f1 (by omega) (by omega)]; exact hc) (fun i hi => ?_) k3 rfl (fun c q e m4 f4 x4 => ⟨fun _ => h0 c q e m4 (f3.tr (f4.mono fun c j z => ?_)) x4, fun z => absurd rfl z⟩) (fun x y hx hy eR m4 f4 k4 c1 c2 => ⟨fun z => absurd z (by decide), fun _ => ?_⟩)
  · rw [e3', zw_c (by omega), zw_c (by omega), e2', zw_c (by omega), zw_c (by omega), zL2_6 f1 (by omega) (by omega), zL2_6 f1 (by omega) (by omega)]; exact hI i hi
  · unfold zPo at z; unfold zIs
    rcases z with z | z
    · exact Or.inl z
    · exact Or.inr (Or.inl (by omega))
  have f4' : Fr (zIs s n) μ m4 := f3.tr (f4.mono fun c j z => by
    unfold zPo at z; unfold zIs
    rcases z with z | z
    · exact Or.inl z
    · exact Or.inr (Or.inl (by omega)))
  rw [eR] at h0 h1
  refine C_build (f := fun x y z => _) hs lt k4 rfl (fun c q e m6 f6 x6 => ⟨fun _ => h0 c q e m6 (f4'.tr (f6.mono fun c j z => ?_)) x6, fun z => absurd rfl z⟩) (fun ro li si r1 r2 l1 l2 s1 s2 eB m6 f6 k6 b1 b2 b3 => ⟨fun z => absurd z (by decide), fun _ => ?_⟩)
  · unfold zBu at z; unfold zIs
    rcases z with z | z
    · exact Or.inl z
    · exact Or.inr (Or.inl (by omega))
  have f6' : Fr (zIs s n) μ m6 := f4'.tr (f6.mono fun c j z => by
    unfold zBu at z; unfold zIs
    rcases z with z | z
    · exact Or.inl z
    · exact Or.inr (Or.inl (by omega)))
  rw [eB] at h0 h1
  refine C_freight (f := fun x y z => _) hs lt k6 rfl (fun c q e m8 f8 x8 => ⟨fun _ => h0 c q e m8 (f6'.tr (f8.mono fun c j z => ?_)) x8, fun z => absurd rfl z⟩) (fun pe lo go pe1 lo1 go1 eF m8 f8 k8 t1 t2 t3 t4 => ⟨fun z => absurd z (by decide), fun _ m10 e10 => ?_⟩)
  · unfold zFt at z; unfold zIs
    rcases z with z | z | z
    · exact Or.inl z
    · exact Or.inr (Or.inl (by omega))
    · exact Or.inr (Or.inr (Or.inl z))
  have f8' : Fr (zIs s n) μ m8 := f6'.tr (f8.mono fun c j z => by
    unfold zFt at z; unfold zIs
    rcases z with z | z | z
    · exact Or.inl z
    · exact Or.inr (Or.inl (by omega))
    · exact Or.inr (Or.inr (Or.inl z)))
  have g8 : ∀ c j, c ≤ 100 → 5 ≤ c → ¬ (j = n ∧ (c = s + 8 ∨ c = s + 9 ∨ c = s + 10)) → ¬ c = s + 12 → m8 c j = m6 c j := fun c j a b x y => f8 c j (by unfold zFt zL2 zRd zStp; omega)
  have g6 : ∀ c j, c ≤ 100 → 5 ≤ c → ¬ (j = n ∧ (c = s + 5 ∨ c = s + 6 ∨ c = s + 7)) → m6 c j = m4 c j := fun c j a b x => f6 c j (by unfold zBu zL2 zRd zStp; omega)
  have g4 : ∀ c j, c ≤ 100 → 5 ≤ c → ¬ (j = n ∧ (c = s + 3 ∨ c = s + 4)) → m4 c j = m3 c j := fun c j a b x => f4 c j (by unfold zPo zL2 zRd zStp; omega)
  have c0 : m8 (s + 1) 0 = nI n := by rw [g8 _ _ (by omega) (by omega) (by omega) (by omega), g6 _ _ (by omega) (by omega) (by omega), g4 _ _ (by omega) (by omega) (by omega), e3', zw_c (by omega), e2', zw_c (by omega), zL2_6 f1 (by omega) (by omega)]; exact hc
  rw [c0, nI_1] at e10
  rw [eF] at h1
  refine h1 _ _ rfl lt m10 (f8'.tr (by rw [e10]; exact Fr.w (Or.inr (Or.inr (Or.inr ⟨rfl, rfl⟩))))) (by rw [e10]; exact k8.w (by omega)) (by rw [e10, zw_s]) (fun k hk => ?_) (fun t ht => ?_) ?_
  · rw [e10, zw_c (by omega)]
    match k, hk with
    | 0, _ => show m8 (s + 2) n = nI kd; rw [g8 _ _ (by omega) (by omega) (by omega) (by omega), g6 _ _ (by omega) (by omega) (by omega), g4 _ _ (by omega) (by omega) (by omega), e3', zw_c (by omega), e2', zw_s]
    | 1, _ => show m8 (s + 3) n = nI x; rw [g8 _ _ (by omega) (by omega) (by omega) (by omega), g6 _ _ (by omega) (by omega) (by omega)]; exact c1
    | 2, _ => show m8 (s + 4) n = nI y; rw [g8 _ _ (by omega) (by omega) (by omega) (by omega), g6 _ _ (by omega) (by omega) (by omega)]; exact c2
    | 3, _ => show m8 (s + 5) n = nI ro; rw [g8 _ _ (by omega) (by omega) (by omega) (by omega)]; exact b1
    | 4, _ => show m8 (s + 6) n = nI li; rw [g8 _ _ (by omega) (by omega) (by omega) (by omega)]; exact b2
    | 5, _ => show m8 (s + 7) n = nI si; rw [g8 _ _ (by omega) (by omega) (by omega) (by omega)]; exact b3
    | 6, _ => exact t1
    | 7, _ => exact t2
    | 8, _ => exact t3
    | 9, _ => show m8 (s + 11) n = 0; rw [g8 _ _ (by omega) (by omega) (by omega) (by omega), g6 _ _ (by omega) (by omega) (by omega), g4 _ _ (by omega) (by omega) (by omega), e3', zw_s]
    | k + 10, hk => omega
  · rw [e10, zw_c (by omega), t4 t ht]
    match t, ht with
    | 0, _ => rfl
    | 1, _ => rfl
    | 2, _ => rfl
    | 3, _ => rfl
    | t + 4, ht => omega
  · unfold rowK
    show 1 ≤ (nI ro).toInt ∧ (nI ro).toInt ≤ 60 ∧ 0 ≤ (0 : Int32).toInt ∧ (0 : Int32).toInt ≤ 60 ∧ 0 ≤ (nI go).toInt ∧ (nI go).toInt ≤ 9
    rw [n_i (by omega), n_i (by omega), i_0]; omega
end IsleC
