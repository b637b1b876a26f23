/-! a wind's line: the class -/
def sgR (N : Nat) (B : Nat → Nat) (p : Nat) : (Nat × Nat) ⊕ (Nat × Int32) := if sg N B p 45 = true then bd (nmR N B (tkN N B p) 0 9) fun v => .inr (tkN N B (tkN N B p), -(nI v)) else bd (nmR N B p 0 9) fun v => .inr (tkN N B p, nI v)
noncomputable def lnWind (N : Nat) (B : Nat → Nat) (wn : Nat) (F : Nat → Int32) (p0 : Nat) : (Nat × Nat) ⊕ (Nat × Nat × Int32 × Int32) :=
  if wn = 12 then .inl (2, p0) else
  bd (nmR N B (tkN N B p0) 0 167) fun h =>
  if zdec (∃ i, i < wn ∧ F i = nI h) = true then .inl (4, tkN N B p0) else
  bd (sgR N B (tkN N B (tkN N B p0))) fun a => bd (sgR N B a.1) fun b => .inr (b.1, h, a.2, b.2)
def zWn (s n c j : Nat) : Prop := zL2 c j ∨ (j = n ∧ s + 13 ≤ c ∧ c ≤ s + 15) ∨ (c = s ∧ j = 1)
theorem sg_9 : ∀ v, v ≤ 9 → (-9 ≤ (nI v).toInt ∧ (nI v).toInt ≤ 9) ∧ -9 ≤ (-(nI v)).toInt ∧ (-(nI v)).toInt ≤ 9 := by
  have h : ∀ v, v < 10 → (-9 ≤ (nI v).toInt ∧ (nI v).toInt ≤ 9) ∧ -9 ≤ (-(nI v)).toInt ∧ (-(nI v)).toInt ≤ 9 := by decide +kernel
  exact fun v hv => h v (by omega)
theorem sgR_p {N p : Nat} {B : Nat → Nat} (hs : sg N B p 45 = true) : sgR N B p = bd (nmR N B (tkN N B p) 0 9) fun v => .inr (tkN N B (tkN N B p), -(nI v)) := if_pos hs
theorem sgR_n {N p : Nat} {B : Nat → Nat} (hs : ¬ sg N B p 45 = true) : sgR N B p = bd (nmR N B p 0 9) fun v => .inr (tkN N B p, nI v) := if_neg hs
section WindC
variable {d s n : Nat} {μ : zMem} {KI : Int32 → zMem → Prop} {KV : zMem → Prop} {X : Nat → zMem → Prop} {N : Nat} {B : Nat → Nat}
theorem LK.w3 {p : Nat} {v : Int32} (h : LK μ N B p) : LK (zw μ 2 3 v) N B p :=
  ⟨h.1.e (by rw [zw_c (by omega)]) (fun j => by rw [zw_c (by omega)]), h.2.1.e (fun j => by rw [zw_c (by omega)]), by rw [zw_j (by omega)]; exact h.2.2⟩
theorem C_sg29 {p : Nat} {x : Int32} (h : LK μ N B p) (h0 : ∀ c q, nmR N B p 0 9 = .inl (c, q) → ∀ μ', Fr zL2 μ μ' → FC μ' N B c q → KI 0 μ') (h1 : ∀ v, nmR N B p 0 9 = .inr v → ∀ m1, Fr zL2 μ m1 → LK m1 N B (tkN N B p) → m1 2 3 = (if x = 0 then nI v else -(nI v)) → KI 1 m1) : pX2_takeSigned_29 (d + 6) 2 x μ KI X := by
  refine C_tkN (lo := 0) (hi := 9) rfl rfl (by omega) (by omega) h (fun c q e m1 f1 x1 => ⟨fun _ => h0 c q e m1 f1 x1, fun z => absurd rfl z⟩) (fun v ev m1 f1 k1 v1 => ⟨fun z => absurd z (by decide), fun _ m3 e3 => ?_⟩)
  rw [v1] at e3
  refine h1 v ev m3 (f1.tr (by rw [e3]; exact Fr.w (Or.inr (Or.inl ⟨rfl, by omega⟩)))) (by rw [e3]; exact k1.w3) (by rw [e3, zw_s])
theorem C_signed {p : Nat} (h : LK μ N B p) (h0 : ∀ c q, sgR N B p = .inl (c, q) → ∀ μ', Fr zL2 μ μ' → FC μ' N B c q → KI 0 μ') (h1 : ∀ p' v, sgR N B p = .inr (p', v) → -9 ≤ v.toInt → v.toInt ≤ 9 → ∀ m1, Fr zL2 μ m1 → LK m1 N B p' → m1 2 3 = v → KI 1 m1) : zcI (d + 7) mX2_takeSigned [.ref 2] μ KI X := by
  refine cX2_takeSigned_ (by decide +kernel) (fun v1 e1 => ?_)
  have e1' : v1 = if μ 3 4 = 45 then 1 else 0 := e1
  rw [h.2.1.2.2.2.1] at e1'
  have q := tkC_s (N := N) (B := B) (p := p) (x := 45) (c := 45) rfl (by omega) (by omega)
  by_cases z : sg N B p 45 = true
  · rw [if_pos (q.mpr z)] at e1'
    rw [sgR_p z] at h0 h1
    rw [e1']
    refine ⟨fun w => absurd w (by decide), fun _ => h.next (fun m2 f2 k2 => ?_)⟩
    refine C_sg29 k2 (fun c q e m3 f3 x3 => h0 c q (by rw [bd_l e]) m3 (f2.tr f3) x3) (fun v ev m3 f3 k3 v3 => ?_)
    rw [if_neg (by decide)] at v3
    have r := (sg_9 v (nmR_rng ev).2.1).2
    exact h1 _ _ (bd_r ev) r.1 r.2 m3 (f2.tr f3) k3 v3
  · rw [if_neg (fun w => z (q.mp w))] at e1'
    rw [sgR_n z] at h0 h1
    rw [e1']
    refine ⟨fun _ => ?_, fun w => absurd rfl w⟩
    refine C_sg29 h (fun c q e m3 f3 x3 => h0 c q (by rw [bd_l e]) m3 f3 x3) (fun v ev m3 f3 k3 v3 => ?_)
    rw [if_pos rfl] at v3
    have r := (sg_9 v (nmR_rng ev).2.1).1
    exact h1 _ _ (bd_r ev) r.1 r.2 m3 f3 k3 v3
theorem L_hasWind {x : Nat} {F : Nat → Int32} (hn : n ≤ 12) (hc : μ s 1 = nI n) (hF : ∀ i, i < n → μ (s + 13) i = F i) (h0 : ¬ (∃ i, i < n ∧ F i = nI x) → KI 0 μ) (h1 : (∃ i, i < n ∧ F i = nI x) → KI 1 μ) : ∀ (m i : Nat), i + m = n → (∀ k, k < i → ¬ F k = nI x) → pX4_hasWindFrom_2 (m + 1) d s (nI x) (nI i) μ KI X := by
  intro m
  induction m with
  | zero =>
    intro i hi hk
    exact ⟨fun _ => h0 fun ⟨k, k1, k2⟩ => hk k (by omega) k2, fun z => absurd (by rw [hc]; exact (n_le (by omega) (by omega)).mpr (by omega)) z⟩
  | succ m ih =>
    intro i hi hk
    refine ⟨fun z => absurd z (by rw [hc, n_le (by omega) (by omega)]; omega), fun _ => ⟨vin (by omega), ?_⟩⟩
    rw [tN_nI (by omega), hF i (by omega)]
    refine ⟨fun q => h1 ⟨i, by omega, q⟩, fun q v e => ?_⟩
    rw [e, nI_1]
    refine ih (i + 1) (by omega) (fun k hk2 => ?_)
    by_cases z : k = i
    · rw [z]; exact q
    · exact hk k (by omega)
theorem C_hasWind {x : Nat} {F : Nat → Int32} (hs : zsh s = .inr 4) (hn : n ≤ 12) (hc : μ s 1 = nI n) (hF : ∀ i, i < n → μ (s + 13) i = F i) (h0 : ¬ (∃ i, i < n ∧ F i = nI x) → KI 0 μ) (h1 : (∃ i, i < n ∧ F i = nI x) → KI 1 μ) : zcI (d + 1) mX4_hasWindFrom [.ref s, .int (nI x)] μ KI X :=
  cX4_hasWindFrom_ hs ⟨n + 1, L_hasWind hn hc hF h0 h1 n 0 (by omega) (fun k hk => by omega)⟩
theorem C_windLn {p0 : Nat} {F : Nat → Int32} (hs : s = 6 ∨ s = 26) (hn : n ≤ 12) (hc : μ s 1 = nI n) (hF : ∀ i, i < n → μ (s + 13) i = F i) (h : LK μ N B p0)
    (h0 : ∀ c q, lnWind N B n F p0 = .inl (c, q) → ∀ μ', Fr (zWn s n) μ μ' → FC μ' N B c q → KI 0 μ')
    (h1 : ∀ p' hh vx vy, lnWind N B n F p0 = .inr (p', hh, vx, vy) → n < 12 → hh ≤ 167 → (-9 ≤ vx.toInt ∧ vx.toInt ≤ 9) → (-9 ≤ vy.toInt ∧ vy.toInt ≤ 9) → (∀ i, i < n → ¬ F i = nI hh) → ∀ μ', Fr (zWn s n) μ μ' → LK μ' N B p' → μ' s 1 = nI (n + 1) → μ' (s + 13) n = nI hh → μ' (s + 14) n = vx → μ' (s + 15) n = vy → KI 1 μ') : zcI (d + 8) mX2_readWind [.ref 2, .ref s] μ KI X := by
  have mo : ∀ {m1 m2 : zMem}, Fr zL2 m1 m2 → Fr (zWn s n) m1 m2 := fun f => f.mono fun _ _ z => Or.inl z
  have hz : zsh s = .inr 4 := by rcases hs with rfl | rfl <;> decide +kernel
  refine cX2_readWind_ (by decide +kernel) hz ?_
  unfold pX2_readWind
  rw [hc, show (12 : Int32) = nI 12 from rfl, n_lt (by omega) (by omega)]
  unfold lnWind at h0 h1
  refine ⟨fun lt => h.next (fun m1 f1 k1 => ?_), fun ge => C_ref (c := 2) rfl (by omega) (by omega) h (fun μ' f' x' => ⟨Or.inl rfl, h0 2 p0 (if_pos (by omega)) μ' (mo f') x'⟩)⟩
  rw [if_neg (by omega)] at h0 h1
  refine C_isN (lo := 0) (hi := 167) rfl rfl (by omega) (by omega) k1 (fun c q e m2 f2 x2 => ⟨fun _ => h0 c q (bd_l e) m2 (mo (f1.tr f2)) x2, fun z => absurd rfl z⟩) (fun hh eh m2 f2 k2 v2 => ⟨fun z => absurd z (by decide), fun _ => ?_⟩)
  rw [bd_r eh] at h0 h1
  have hr := nmR_rng eh
  have f12 := f1.tr f2
  rw [v2]
  refine C_hasWind (s := s) (n := n) (F := F) hz hn ((zL2_6 f12 (by omega) (by omega)).trans hc) (fun i hi => (zL2_6 f12 (by omega) (by omega)).trans (hF i hi)) (fun no => ⟨fun _ => ⟨vin (by omega), fun m6 e6 => ?_⟩, fun z => absurd rfl z⟩) (fun yes => ⟨fun z => absurd z (by decide), fun _ => ?_⟩)
  · rw [if_neg (fun z => no (zdec_t.mp z))] at h0 h1
    rw [tN_nI (by omega), v2] at e6
    have e6' : m6 = zw m2 (s + 13) n (nI hh) := e6
    have f6 : Fr (zWn s n) μ m6 := (mo f12).tr (by rw [e6']; exact Fr.w (Or.inr (Or.inl ⟨rfl, by omega, by omega⟩)))
    have k6 : LK m6 N B (tkN N B p0) := by rw [e6']; exact k2.w (by omega)
    refine k6.next (fun m7 f7 k7 => C_signed k7 (fun c q e m8 f8 x8 => ⟨fun _ => h0 c q (by rw [bd_l e]) m8 (f6.tr (mo (f7.tr f8))) x8, fun z => absurd rfl z⟩) (fun pa va ea ra1 ra2 m8 f8 k8 v8 => ⟨fun z => absurd z (by decide), fun _ => ⟨vin (by omega), fun m10 e10 => ?_⟩⟩))
    rw [bd_r ea] at h0 h1
    rw [tN_nI (by omega), v8] at e10
    have e10' : m10 = zw m8 (s + 14) n va := e10
    have f10 : Fr (zWn s n) μ m10 := (f6.tr (mo (f7.tr f8))).tr (by rw [e10']; exact Fr.w (Or.inr (Or.inl ⟨rfl, by omega, by omega⟩)))
    have k10 : LK m10 N B pa := by rw [e10']; exact k8.w (by omega)
    refine C_signed k10 (fun c q e m11 f11 x11 => ⟨fun _ => h0 c q (by rw [bd_l e]) m11 (f10.tr (mo f11)) x11, fun z => absurd rfl z⟩) (fun pb vb eb rb1 rb2 m11 f11 k11 v11 => ⟨fun z => absurd z (by decide), fun _ => ⟨vin (by omega), fun m13 e13 m14 e14 => ?_⟩⟩)
    rw [bd_r eb] at h1
    rw [tN_nI (by omega), v11] at e13
    have e13' : m13 = zw m11 (s + 15) n vb := e13
    have c1 : m13 s 1 = nI n := by rw [e13', zw_c (by omega), zL2_6 f11 (by omega) (by omega), e10', zw_c (by omega), zL2_6 f8 (by omega) (by omega), zL2_6 f7 (by omega) (by omega), e6', zw_c (by omega), zL2_6 f12 (by omega) (by omega)]; exact hc
    rw [c1, nI_1] at e14
    refine h1 _ _ _ _ rfl lt hr.2.1 ⟨ra1, ra2⟩ ⟨rb1, rb2⟩ (fun i hi z => no ⟨i, hi, z⟩) m14 ((f10.tr (mo f11)).tr (Fr.tr (μ1 := m13) (by rw [e13']; exact Fr.w (Or.inr (Or.inl ⟨rfl, by omega, by omega⟩))) (by rw [e14]; exact Fr.w (Or.inr (Or.inr ⟨rfl, rfl⟩))))) (by rw [e14, e13']; exact (k11.w (by omega)).w (by omega)) (by rw [e14, zw_s]) ?_ ?_ ?_
    · rw [e14, zw_c (by omega), e13', zw_c (by omega), zL2_6 f11 (by omega) (by omega), e10', zw_c (by omega), zL2_6 f8 (by omega) (by omega), zL2_6 f7 (by omega) (by omega), e6', zw_s]
    · rw [e14, zw_c (by omega), e13', zw_c (by omega), zL2_6 f11 (by omega) (by omega), e10', zw_s]
    · rw [e14, zw_c (by omega), e13', zw_s]
  · rw [if_pos (zdec_t.mpr yes)] at h0
    exact C_ref (c := 4) rfl (by omega) (by omega) k2 (fun μ' f' x' => ⟨Or.inl rfl, h0 4 _ rfl μ' (mo (f12.tr f')) x'⟩)
end WindC
