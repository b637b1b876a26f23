/-! the other lines: the class -/
noncomputable def lnChu (N : Nat) (B : Nat → Nat) (p0 : Nat) : (Nat × Nat) ⊕ (Nat × Int32) := if wdF N B (tkN N B p0) (spL 1) 0 = -1 then .inl (1, tkN N B p0) else .inr (tkN N B (tkN N B p0), wdF N B (tkN N B p0) (spL 1) 0)
def guW (a b c e : Nat) : Nat → Int32
  | 0 => nI a
  | 1 => nI b
  | 2 => nI c
  | _ => nI e
def lnGus (N : Nat) (B : Nat → Nat) (p0 : Nat) : (Nat × Nat) ⊕ (Nat × (Nat → Int32)) :=
  bd (nmR N B (tkN N B p0) 0 9) fun a => bd (nmR N B (tkN N B (tkN N B p0)) 0 9) fun b => bd (nmR N B (tkN N B (tkN N B (tkN N B p0))) 0 9) fun c => bd (nmR N B (tkN N B (tkN N B (tkN N B (tkN N B p0)))) 0 9) fun e =>
  if a + b + c + e = 0 then .inl (2, tkN N B (tkN N B (tkN N B (tkN N B p0)))) else .inr (tkN N B (tkN N B (tkN N B (tkN N B (tkN N B p0)))), guW a b c e)
def lnNum (N : Nat) (B : Nat → Nat) (hi p0 : Nat) : (Nat × Nat) ⊕ (Nat × Nat) := bd (nmR N B (tkN N B p0) 0 hi) fun v => .inr (tkN N B (tkN N B p0), v)
noncomputable def lnPus (N : Nat) (B : Nat → Nat) (p0 : Nat) : zPE := exE N B 6 (tkN N B p0) 0 (fun _ => 0)
def zHd (s c j : Nat) : Prop := zL2 c j ∨ (c = s ∧ 5 ≤ j ∧ j ≤ 7) ∨ c = s + 16
section HeadC
variable {d s : Nat} {μ : zMem} {KI : Int32 → zMem → Prop} {KV : zMem → Prop} {X : Nat → zMem → Prop} {N : Nat} {B : Nat → Nat}
theorem zHd_m {m1 m2 : zMem} (f : Fr zL2 m1 m2) : Fr (zHd s) m1 m2 := f.mono fun _ _ z => Or.inl z
theorem LK.among {p t : Nat} (ht : t < 6) (h : LK μ N B p) (hK : KI (wdF N B p (spL t) 0) μ) : zcI (d + 6) mX6_among [.ref 3, .ref (1000 + t)] μ KI X := C_among ht h.1 h.2.1 hK
theorem C_chuLn {p0 : Nat} (hs : s = 6 ∨ s = 26) (h : LK μ N B p0)
    (h0 : ∀ c q, lnChu N B p0 = .inl (c, q) → ∀ μ', Fr (zHd s) μ μ' → FC μ' N B c q → KI 0 μ')
    (h1 : ∀ p' v, lnChu N B p0 = .inr (p', v) → ∀ μ', Fr (zHd s) μ μ' → LK μ' N B p' → μ' s 5 = v → (∀ j, j ≠ 5 → μ' s j = μ s j) → (∀ j, μ' (s + 16) j = μ (s + 16) j) → KI 1 μ') : zcI (d + 7) mX2_readChurch [.ref 2, .ref s] μ KI X := by
  have hz : zsh s = .inr 4 := by rcases hs with rfl | rfl <;> decide +kernel
  unfold lnChu at h0 h1
  refine cX2_readChurch_ (by decide +kernel) hz (h.next (fun m1 f1 k1 => k1.among (t := 1) (by omega) ⟨fun z => ?_, fun z m4 e4 => ?_⟩))
  · rw [if_pos z] at h0
    exact C_ref (c := 1) rfl (by omega) (by omega) k1 (fun μ' f' x' => ⟨Or.inl rfl, h0 1 _ rfl μ' (zHd_m (f1.tr f')) x'⟩)
  · rw [if_neg z] at h1
    have k4 : LK m4 N B (tkN N B p0) := by rw [e4]; exact k1.w (by omega)
    refine k4.next (fun m5 f5 k5 => h1 _ _ rfl m5 (((zHd_m f1).tr (by rw [e4]; exact Fr.w (Or.inr (Or.inl ⟨rfl, by omega, by omega⟩)))).tr (zHd_m f5)) k5 ?_ (fun j hj => ?_) (fun j => ?_))
    · rw [zL2_6 f5 (by omega) (by omega), e4, zw_s]
    · rw [zL2_6 f5 (by omega) (by omega), e4, zw_j hj, zL2_6 f1 (by omega) (by omega)]
    · rw [zL2_6 f5 (by omega) (by omega), e4, zw_c (by omega), zL2_6 f1 (by omega) (by omega)]
theorem C_reachLn {p0 : Nat} (hs : s = 6 ∨ s = 26) (h : LK μ N B p0)
    (h0 : ∀ c q, lnNum N B 20 p0 = .inl (c, q) → ∀ μ', Fr (zHd s) μ μ' → FC μ' N B c q → KI 0 μ')
    (h1 : ∀ p' v, lnNum N B 20 p0 = .inr (p', v) → v ≤ 20 → ∀ μ', Fr (zHd s) μ μ' → LK μ' N B p' → μ' s 6 = nI v → (∀ j, j ≠ 6 → μ' s j = μ s j) → (∀ j, μ' (s + 16) j = μ (s + 16) j) → KI 1 μ') : zcI (d + 7) mX2_readReach [.ref 2, .ref s] μ KI X := by
  have hz : zsh s = .inr 4 := by rcases hs with rfl | rfl <;> decide +kernel
  unfold lnNum at h0 h1
  refine cX2_readReach_ (by decide +kernel) hz (h.next (fun m1 f1 k1 => C_tkN (lo := 0) (hi := 20) rfl rfl (by omega) (by omega) k1 (fun c q e m2 f2 x2 => ⟨fun _ => h0 c q (bd_l e) m2 (zHd_m (f1.tr f2)) x2, fun z => absurd rfl z⟩) (fun v ev m2 f2 k2 v2 => ⟨fun z => absurd z (by decide), fun _ m4 e4 => ?_⟩)))
  rw [v2] at e4
  have f12 := f1.tr f2
  refine h1 _ _ (bd_r ev) (nmR_rng ev).2.1 m4 ((zHd_m f12).tr (by rw [e4]; exact Fr.w (Or.inr (Or.inl ⟨rfl, by omega, by omega⟩)))) (by rw [e4]; exact k2.w (by omega)) (by rw [e4, zw_s]) (fun j hj => ?_) (fun j => ?_)
  · rw [e4, zw_j hj, zL2_6 f12 (by omega) (by omega)]
  · rw [e4, zw_c (by omega), zL2_6 f12 (by omega) (by omega)]
theorem C_lightLn {p0 : Nat} (hs : s = 6 ∨ s = 26) (h : LK μ N B p0)
    (h0 : ∀ c q, lnNum N B 24 p0 = .inl (c, q) → ∀ μ', Fr (zHd s) μ μ' → FC μ' N B c q → KI 0 μ')
    (h1 : ∀ p' v, lnNum N B 24 p0 = .inr (p', v) → v ≤ 24 → ∀ μ', Fr (zHd s) μ μ' → LK μ' N B p' → μ' s 7 = nI v → (∀ j, j ≠ 7 → μ' s j = μ s j) → (∀ j, μ' (s + 16) j = μ (s + 16) j) → KI 1 μ') : zcI (d + 7) mX2_readLight [.ref 2, .ref s] μ KI X := by
  have hz : zsh s = .inr 4 := by rcases hs with rfl | rfl <;> decide +kernel
  unfold lnNum at h0 h1
  refine cX2_readLight_ (by decide +kernel) hz (h.next (fun m1 f1 k1 => C_tkN (lo := 0) (hi := 24) rfl rfl (by omega) (by omega) k1 (fun c q e m2 f2 x2 => ⟨fun _ => h0 c q (bd_l e) m2 (zHd_m (f1.tr f2)) x2, fun z => absurd rfl z⟩) (fun v ev m2 f2 k2 v2 => ⟨fun z => absurd z (by decide), fun _ m4 e4 => ?_⟩)))
  rw [v2] at e4
  have f12 := f1.tr f2
  refine h1 _ _ (bd_r ev) (nmR_rng ev).2.1 m4 ((zHd_m f12).tr (by rw [e4]; exact Fr.w (Or.inr (Or.inl ⟨rfl, by omega, by omega⟩)))) (by rw [e4]; exact k2.w (by omega)) (by rw [e4, zw_s]) (fun j hj => ?_) (fun j => ?_)
  · rw [e4, zw_j hj, zL2_6 f12 (by omega) (by omega)]
  · rw [e4, zw_c (by omega), zL2_6 f12 (by omega) (by omega)]
theorem L_gust {p a i m : Nat} (hi : i < 3) (ha : a < 100) (h : LK μ N B p) (hs : s = 6 ∨ s = 26)
    (h0 : ∀ c q, nmR N B p 0 9 = .inl (c, q) → ∀ μ', Fr (zHd s) μ μ' → FC μ' N B c q → KI 0 μ')
    (h1 : ∀ v, nmR N B p 0 9 = .inr v → ∀ m1, Fr (zHd s) μ m1 → LK m1 N B (tkN N B p) → m1 (s + 16) i = nI v → (∀ j, j ≠ i → m1 (s + 16) j = μ (s + 16) j) → (∀ j, m1 s j = μ s j) → pX2_readGusts_11 m (d + 5) 2 s (nI (a + v)) (nI (i + 1)) m1 KI X) : pX2_readGusts_11 (m + 1) (d + 5) 2 s (nI a) (nI i) μ KI X := by
  refine ⟨fun z => absurd ((n_le (a := 4) (by omega) (by omega)).mp z) (by omega), fun _ => ?_⟩
  refine C_isN (d := d + 3) (lo := 0) (hi := 9) rfl rfl (by omega) (by omega) h (fun c q e m1 f1 x1 => ⟨fun _ => h0 c q e m1 (zHd_m f1) x1, fun z => absurd rfl z⟩) (fun v ev m1 f1 k1 v1 => ⟨fun z => absurd z (by decide), fun _ => ⟨fun z => absurd ((n_eq (b := 3) (by omega) (by omega)).mp z) (by omega), fun _ => ⟨vin (by omega), fun m2 e2 => ?_⟩⟩⟩)
  rw [tN_nI (by omega), v1] at e2
  rw [v1, nI_add]
  have k2 : LK m2 N B p := by rw [e2]; exact k1.w (by omega)
  have vr := nmR_rng ev
  refine k2.next (fun m3 f3 k3 v3 e3 => ?_)
  rw [e3, nI_1]
  refine h1 v ev m3 (((zHd_m f1).tr (by rw [e2]; exact Fr.w (Or.inr (Or.inr rfl)))).tr (zHd_m f3)) k3 ?_ (fun j hj => ?_) (fun j => ?_)
  · rw [zL2_6 f3 (by omega) (by omega), e2, zw_s]
  · rw [zL2_6 f3 (by omega) (by omega), e2, zw_j hj, zL2_6 f1 (by omega) (by omega)]
  · rw [zL2_6 f3 (by omega) (by omega), e2, zw_c (by omega), zL2_6 f1 (by omega) (by omega)]
theorem L_gust3 {p a m : Nat} (ha : a < 100) (h : LK μ N B p) (hs : s = 6 ∨ s = 26)
    (h0 : ∀ c q, nmR N B p 0 9 = .inl (c, q) → ∀ μ', Fr (zHd s) μ μ' → FC μ' N B c q → KI 0 μ')
    (h2 : ∀ v, nmR N B p 0 9 = .inr v → a + v = 0 → ∀ m1, Fr (zHd s) μ m1 → FC m1 N B 2 p → KI 0 m1)
    (h1 : ∀ v, nmR N B p 0 9 = .inr v → ¬ a + v = 0 → ∀ m1, Fr (zHd s) μ m1 → LK m1 N B (tkN N B p) → m1 (s + 16) 3 = nI v → (∀ j, j ≠ 3 → m1 (s + 16) j = μ (s + 16) j) → (∀ j, m1 s j = μ s j) → KI 1 m1) : pX2_readGusts_11 (m + 2) (d + 5) 2 s (nI a) (nI 3) μ KI X := by
  refine ⟨fun z => absurd ((n_le (a := 4) (by omega) (by omega)).mp z) (by omega), fun _ => ?_⟩
  refine C_isN (d := d + 3) (lo := 0) (hi := 9) rfl rfl (by omega) (by omega) h (fun c q e m1 f1 x1 => ⟨fun _ => h0 c q e m1 (zHd_m f1) x1, fun z => absurd rfl z⟩) (fun v ev m1 f1 k1 v1 => ⟨fun z => absurd z (by decide), fun _ => ⟨fun _ => ?_, fun z => absurd rfl z⟩⟩)
  have vr := nmR_rng ev
  rw [v1, nI_add]
  refine ⟨fun z => ?_, fun z => ⟨vin (n := 3) (by omega), fun m2 e2 => ?_⟩⟩
  · exact C_ref (c := 2) rfl (by omega) (by omega) k1 (fun μ' f' x' => ⟨Or.inl rfl, h2 v ev ((n_eq (b := 0) (by omega) (by omega)).mp z) μ' (zHd_m (f1.tr f')) x'⟩)
  · rw [tN_nI (by omega), v1] at e2
    have k2 : LK m2 N B p := by rw [e2]; exact k1.w (by omega)
    refine k2.next (fun m3 f3 k3 v3 e3 => ?_)
    rw [e3, nI_1]
    refine ⟨fun _ => h1 v ev (fun w => z (by rw [w]; rfl)) m3 (((zHd_m f1).tr (by rw [e2]; exact Fr.w (Or.inr (Or.inr rfl)))).tr (zHd_m f3)) k3 ?_ (fun j hj => ?_) (fun j => ?_), fun z => absurd ((n_le (a := 4) (b := 3 + 1) (by omega) (by omega)).mpr (by omega)) z⟩
    · rw [zL2_6 f3 (by omega) (by omega), e2, zw_s]
    · rw [zL2_6 f3 (by omega) (by omega), e2, zw_j hj, zL2_6 f1 (by omega) (by omega)]
    · rw [zL2_6 f3 (by omega) (by omega), e2, zw_c (by omega), zL2_6 f1 (by omega) (by omega)]
theorem C_gusLn {p0 : Nat} (hs : s = 6 ∨ s = 26) (h : LK μ N B p0)
    (h0 : ∀ c q, lnGus N B p0 = .inl (c, q) → ∀ μ', Fr (zHd s) μ μ' → FC μ' N B c q → KI 0 μ')
    (h1 : ∀ p' g, lnGus N B p0 = .inr (p', g) → ∀ μ', Fr (zHd s) μ μ' → LK μ' N B p' → (∀ j, j < 4 → μ' (s + 16) j = g j) → (∀ j, μ' s j = μ s j) → KI 1 μ') : zcI (d + 6) mX2_readGusts [.ref 2, .ref s] μ KI X := by
  have hz : zsh s = .inr 4 := by rcases hs with rfl | rfl <;> decide +kernel
  unfold lnGus at h0 h1
  refine cX2_readGusts_ (by decide +kernel) hz (h.next (fun m1 f1 k1 => ⟨5, ?_⟩))
  have g1 := zHd_m (s := s) f1
  refine L_gust (a := 0) (i := 0) (by omega) (by omega) k1 hs (fun c q e m2 f2 x2 => h0 c q (bd_l e) m2 (g1.tr f2) x2) (fun a ea m2 f2 k2 a2 b2 s2 => ?_)
  rw [bd_r ea] at h0 h1
  have ra := nmR_rng ea
  refine L_gust (by omega) (by omega) k2 hs (fun c q e m3 f3 x3 => h0 c q (bd_l e) m3 ((g1.tr f2).tr f3) x3) (fun b eb m3 f3 k3 a3 b3 s3 => ?_)
  rw [bd_r eb] at h0 h1
  have rb := nmR_rng eb
  refine L_gust (by omega) (by omega) k3 hs (fun c q e m4 f4 x4 => h0 c q (bd_l e) m4 (((g1.tr f2).tr f3).tr f4) x4) (fun c ec m4 f4 k4 a4 b4 s4 => ?_)
  rw [bd_r ec] at h0 h1
  have rc := nmR_rng ec
  have fA := ((g1.tr f2).tr f3).tr f4
  refine L_gust3 (m := 0) (by omega) k4 hs (fun c q e m5 f5 x5 => h0 c q (bd_l e) m5 (fA.tr f5) x5) (fun e ee z m5 f5 x5 => h0 2 _ ?_ m5 (fA.tr f5) x5) (fun e ee z m5 f5 k5 a5 b5 s5 => h1 _ (guW a b c e) ?_ m5 (fA.tr f5) k5 (fun j hj => ?_) (fun j => by rw [s5, s4, s3, s2, zL2_6 f1 (by omega) (by omega)]))
  · rw [bd_r ee]; exact if_pos (by omega)
  · rw [bd_r ee]; exact if_neg (by omega)
  · match j, hj with
    | 0, _ => rw [b5 0 (by omega), b4 0 (by omega), b3 0 (by omega)]; exact a2
    | 1, _ => rw [b5 1 (by omega), b4 1 (by omega)]; exact a3
    | 2, _ => rw [b5 2 (by omega)]; exact a4
    | 3, _ => exact a5
    | j + 4, hj => omega
theorem C_pusLn {p0 : Nat} (hs : s = 6 ∨ s = 26) (hk : μ (s + 17) 1 = 0) (h : LK μ N B p0)
    (h0 : ∀ c q, lnPus N B p0 = .inl (c, q) → ∀ μ', Fr (zRd (s + 17)) μ μ' → FC μ' N B c q → KI 0 μ')
    (h1 : ∀ p' k T, lnPus N B p0 = .inr (p', k, T) → ∀ μ', Fr (zRd (s + 17)) μ μ' → LK μ' N B p' → μ' (s + 17) 1 = nI k → (∀ j, j < k → μ' (s + 18) j = encC (T j)) → KI 1 μ') : zcI (d + 53) mX2_readPush [.ref 2, .ref (s + 17)] μ KI X := by
  have hz : zsh (s + 17) = .inr 3 := by rcases hs with rfl | rfl <;> decide +kernel
  refine cX2_readPush_ (by decide +kernel) hz (C_next (d := d + 47) h.1 h.2.1 (fun m1 f1 t1 => ?_))
  have e1 : EC (s + 17) m1 N B (tkN N B p0) 0 (fun _ => 0) := by
    refine ⟨h.1.go f1, t1, ?_, ?_, fun j hj => by omega⟩
    · rw [f1 _ _ (by unfold zStp; omega)]; exact h.2.2
    · rw [f1 _ _ (by unfold zStp; omega)]; exact hk
  have f1' : Fr (zRd (s + 17)) μ m1 := zStp_d f1
  exact C_expr (e := d) (X := X) (by omega) hz 6 0 (by omega) m1 _ 0 _ _ e1 (by omega) ⟨fun c q e m2 f2 x2 => ⟨Or.inl rfl, h0 c q e m2 (f1'.tr f2) x2⟩, fun p' k T e m2 f2 x2 => ⟨Or.inr rfl, h1 p' k T e m2 (f1'.tr f2) ⟨x2.1, x2.2.1, x2.2.2.1⟩ x2.2.2.2.1 x2.2.2.2.2⟩⟩
end HeadC
