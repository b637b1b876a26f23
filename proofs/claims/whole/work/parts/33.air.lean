/-- what a text tells of winds and the push: how many winds, from when, along x, along y; how many tokens, the tokens -/
abbrev zSky : Type := Nat × (Nat → Int32) × (Nat → Int32) × (Nat → Int32) × Nat × (Nat → Int32)
theorem latS_congr {F F' : Nat → Int32} {h : Int32} {N : Nat} (hF : ∀ k, k < N → F k = F' k) : ∀ (m i : Nat) (a : Option Nat), i + m ≤ N → (∀ k, a = some k → k < N) → latS F h m i a = latS F' h m i a
  | 0, _, _, _, _ => rfl
  | m + 1, i, a, hm, ha => by
    show latS F h m (i + 1) (latC F h i a) = latS F' h m (i + 1) (latC F' h i a)
    have e : latC F h i a = latC F' h i a := by
      unfold latC
      rw [hF i (by omega)]
      cases a with
      | none => rfl
      | some k => dsimp only; rw [hF k (ha k rfl)]
    rw [latS_congr hF m (i + 1) _ (by omega) (latC_lt (by omega) ha), e]
theorem sWx_congr {W W' F F' : Nat → Int32} {N : Nat} {h : Int32} (hF : ∀ k, k < N → F k = F' k) (hW : ∀ k, k < N → W k = W' k) : sWx W F N h = sWx W' F' N h := by
  unfold sWx
  rw [latS_congr hF N 0 none (by omega) (fun k hk => by cases hk)]
  cases e : latS F' h N 0 none with
  | none => rfl
  | some k => exact hW k (latS_lt (N := N) N 0 none (by omega) (fun k hk => by cases hk) k e)
def sPv (S : zSky) (I : zI) (i : Nat) (hour : Int32) : Int32 := if S.2.2.2.2.1 = 0 then 50 else zmax 0 (zmin 100 (evS (vS I i hour) S.2.2.2.2.2 S.2.2.2.2.1 0 0 (fun _ => 0)))
def sPw (S : zSky) (I : zI) (i : Nat) (hour g : Int32) : Int32 := zmin 100 (sPv S I i hour + 20 * g)
def sPsh (S : zSky) (I : zI) (i : Nat) (hour g : Int32) : Int32 := if I i 0 = 2 then sPw S I i hour g / 2 else sPw S I i hour g
def sDx (S : zSky) (I : zI) (i : Nat) (h g : Int32) : Int32 := ((sLin I i * sWx S.2.2.1 S.2.1 S.1 h) * sPsh S I i h g) / 900
def sDy (S : zSky) (I : zI) (i : Nat) (h g : Int32) : Int32 := ((sLin I i * sWx S.2.2.2.1 S.2.1 S.1 h) * sPsh S I i h g) / 900
def sX (S : zSky) (I : zI) (i : Nat) (h g : Int32) : Int32 := I i 1 + (if sFlo I i then sDx S I i h g else 0)
def sY (S : zSky) (I : zI) (i : Nat) (h g : Int32) : Int32 := I i 2 + (if sFlo I i then sDy S I i h g else 0)
def sZ (S : zSky) (I : zI) (i : Nat) (h g : Int32) : Int32 := if sFlo I i then sLin I i - zmax (zabs (sDx S I i h g)) (zabs (sDy S I i h g)) else 0
def sP (S : zSky) (I : zI) (i : Nat) (h g : Int32) : Int32 := if sFlo I i then sPsh S I i h g else 0
/-- a Sky object of the class holds it -/
def SkyC (μ : zMem) (k : Nat) (S : zSky) : Prop := S.1 ≤ 12 ∧ μ k 1 = nI S.1 ∧ (∀ j, j < S.1 → μ (k + 13) j = S.2.1 j ∧ μ (k + 14) j = S.2.2.1 j ∧ μ (k + 15) j = S.2.2.2.1 j) ∧ S.2.2.2.2.1 ≤ 700 ∧ μ (k + 17) 1 = nI S.2.2.2.2.1 ∧ (∀ j, j < S.2.2.2.2.1 → μ (k + 18) j = encC (S.2.2.2.2.2 j)) ∧ (S.2.2.2.2.1 = 0 ∨ wfS S.2.2.2.2.2 S.2.2.2.2.1 0 0)
theorem SkyC.go {μ μ' : zMem} {k : Nat} {S : zSky} (h : SkyC μ k S) (e : ∀ c j, c = k ∧ j = 1 ∨ (k + 13 ≤ c ∧ c ≤ k + 18) → μ' c j = μ c j) : SkyC μ' k S := by
  obtain ⟨h1, h2, h3, h4, h5, h6, h7⟩ := h
  refine ⟨h1, by rw [e _ _ (Or.inl ⟨rfl, rfl⟩)]; exact h2, fun j hj => ?_, h4, by rw [e _ _ (Or.inr (by omega))]; exact h5, fun j hj => by rw [e _ _ (Or.inr (by omega))]; exact h6 j hj, h7⟩
  rw [e _ _ (Or.inr (by omega)), e _ _ (Or.inr (by omega)), e _ _ (Or.inr (by omega))]
  exact h3 j hj
section Air
variable {d o r1 r2 : Nat} {μ : zMem} {KI : Int32 → zMem → Prop} {KV : zMem → Prop} {X : Nat → zMem → Prop}
theorem C_windX' {S : zSky} {hour : Int32} (ho : zsh o = .inr 4) (hS : SkyC μ o S) (h : KI (sWx S.2.2.1 S.2.1 S.1 hour) μ) : zcI (d + 2) mX4_windAlongX [.ref o, .int hour] μ KI X := by
  refine C_windX ho hS.1 hS.2.1 ?_
  rw [sWx_congr (fun k hk => (hS.2.2.1 k hk).1) (fun k hk => (hS.2.2.1 k hk).2.1)]; exact h
theorem C_windY' {S : zSky} {hour : Int32} (ho : zsh o = .inr 4) (hS : SkyC μ o S) (h : KI (sWx S.2.2.2.1 S.2.1 S.1 hour) μ) : zcI (d + 2) mX4_windAlongY [.ref o, .int hour] μ KI X := by
  refine C_windY ho hS.1 hS.2.1 ?_
  rw [sWx_congr (fun k hk => (hS.2.2.1 k hk).1) (fun k hk => (hS.2.2.1 k hk).2.2)]; exact h
theorem C_pushOf {S : zSky} {i : Nat} {x hour g : Int32} (ho : zsh o = .inr 4) (hr : zsh r1 = .inr 1) (hS : SkyC μ o S) (hx : x = nI i) (hi : i < 6)
    (h : ∀ μ', Fr (fun c _ => c = o + 19) μ μ' → KI (sPsh S (cI μ r1) i hour g) μ') : zcI (d + 4) mX4_pushOf [.ref o, .ref r1, .int x, .int hour, .int g] μ KI X := by
  subst hx
  obtain ⟨h1, h2, h3, h4, h5, h6, h7⟩ := hS
  refine cX4_pushOf_ ho hr ?_
  unfold pX4_pushOf
  have hz : zsh (o + 17) = .inr 3 := zo4_9 ho
  have tail : ∀ (y : Int32) (μ1 : zMem), cI μ1 r1 = cI μ r1 → Fr (fun c _ => c = o + 19) μ μ1 → y = (if S.2.2.2.2.1 = 0 then 50 else evS (vS (cI μ r1) i hour) S.2.2.2.2.2 S.2.2.2.2.1 0 0 (fun _ => 0)) → pX4_pushOf_25 (d + 3) o r1 (nI i) g y μ1 KI X := by
    intro y μ1 hI hf hy
    have hh := h μ1 hf
    refine fun v1 e1 v2 e2 => ⟨vin hi, ?_⟩
    rw [tN_nI (by omega)]
    have e3 : v1 = sPv S (cI μ r1) i hour := by
      rw [e1, hy]
      unfold sPv
      split
      · decide
      · rw [i_eq, zmin_i, zmax_i, zmax_i, zmin_i, show (100 : Int32).toInt = 100 from by decide, i_0]; omega
    rw [zmin_c] at e2
    have ek : μ1 (r1 + 1) i = cI μ r1 i 0 := by rw [← hI]; rfl
    rw [ek]
    have e4 : v2 = sPw S (cI μ r1) i hour g := by rw [e2, e3]; rfl
    unfold sPsh at hh
    rw [← e4] at hh
    refine ⟨fun q => ?_, fun q => ?_⟩
    · rw [if_pos q] at hh; exact hh
    · rw [if_neg q] at hh; exact hh
  rw [h5]
  refine ⟨fun q => ?_, fun q => ?_⟩
  · have e0 : S.2.2.2.2.1 = 0 := (n_eq (b := 0) (by omega) (by omega)).mp q
    exact tail 50 μ rfl Fr.rf (by rw [if_pos e0])
  · have e0 : ¬ S.2.2.2.2.1 = 0 := fun z => q (by rw [z]; rfl)
    refine C_worth hz hr h4 h5 (fun k hk => h6 k hk) (h7.resolve_left e0) rfl hi (fun μ' hf => tail _ μ' ?_ hf (by rw [if_neg e0]))
    exact cI_congr fun k _ hk j => hf _ _ (rule_apart hz hr k hk)
theorem d900 : (0 : Int32) / 900 = 0 := by decide
theorem isl_rng {r : Nat} (hr : zsh r = .inr 1) : r = 7 ∨ r = 27 ∨ r = 47 ∨ r = 64 ∨ r = 80 := zis1 r hr
theorem sky_rng {r : Nat} (hr : zsh r = .inr 4) : r = 6 ∨ r = 26 := zis4 r hr
/-- what an isle's slot in Air holds -/
def AirS (μ : zMem) (S : zSky) (I : zI) (i s : Nat) (h g : Int32) : Prop := μ 93 s = sX S I i h g ∧ μ 94 s = sY S I i h g ∧ μ 95 s = sZ S I i h g ∧ μ 96 s = sP S I i h g ∧ μ 97 s = I i 5
def zPut (r1 s : Nat) (c j : Nat) : Prop := (93 ≤ c ∧ c ≤ 97 ∧ j = s) ∨ c = r1 + 19
theorem C_put {S : zSky} {n i s : Nat} {x y hour g : Int32} (h1 : zsh r1 = .inr 4) (h2 : zsh r2 = .inr 1) (hS : SkyC μ r1 S) (hc : μ r2 0 = nI n) (hn : n ≤ 6) (hx : x = nI i) (hi : i < n) (hy : y = nI s) (hs : s < 36)
    (h : ∀ μ', Fr (zPut r1 s) μ μ' → AirS μ' S (cI μ r2) i s hour g → KV μ') : zcV (d + 5) mX0_put [.ref 92, .ref r1, .ref r2, .int x, .int y, .int hour, .int g] μ KV X := by
  subst hx hy
  refine cX0_put_ zl92 h1 h2 ?_
  unfold pX0_put
  have r2r := isl_rng h2
  have r1r := sky_rng h1
  refine C_has h2 ?_
  have q1 : ¬ nI i < 0 := nI_pos (by omega)
  have q2 : ¬ μ r2 0 ≤ nI i := by rw [hc, n_le (by omega) (by omega)]; omega
  have q3 : ¬ (6 : Int32) ≤ nI i := by rw [show (6 : Int32) = nI 6 from rfl, n_le (by omega) (by omega)]; omega
  rw [b2i_t ⟨q1, q2, q3⟩]
  refine ⟨fun q => absurd q (by decide), fun _ => ⟨fun q => absurd q (nI_pos (by omega)), fun _ => ⟨fun _ => ?_, fun q => absurd ?_ q⟩⟩⟩
  rotate_left
  · rw [show (36 : Int32) = nI 36 from rfl, n_lt (by omega) (by omega)]; omega
  have tail : ∀ (line force : Int32) (μ1 : zMem), Fr (fun c _ => c = r1 + 19) μ μ1 → line = (if sFlo (cI μ r2) i then sLin (cI μ r2) i else 0) → force = sP S (cI μ r2) i hour g → pX0_put_63 (d + 4) 92 r1 r2 (nI i) (nI s) hour force line μ1 KV X := by
    intro line force μ1 hf hline hforce
    have hS1 : SkyC μ1 r1 S := hS.go fun c j hcj => hf c j (by omega)
    have hI1 : ∀ k, 1 ≤ k → k ≤ 11 → ∀ j, μ1 (r2 + k) j = μ (r2 + k) j := fun k _ hk j => hf _ _ (by omega)
    unfold pX0_put_63
    refine C_windX' h1 hS1 (fun v3 e3 => C_windY' h1 hS1 (fun v6 e6 => ⟨vin (by omega), vin hs, ?_⟩))
    rw [tN_nI (by omega), tN_nI (by omega)]
    refine fun m7 e7 => ⟨vin (by omega), vin hs, fun m8 e8 => ⟨vin hs, fun m9 e9 => ⟨vin hs, fun m10 e10 => ⟨vin (by omega), vin hs, fun m11 e11 => ?_⟩⟩⟩⟩
    have dx : v3 = (if sFlo (cI μ r2) i then sDx S (cI μ r2) i hour g else 0) := by
      rw [e3, hline, hforce]; unfold sP sDx
      split
      · rfl
      · rw [Int32.zero_mul, Int32.zero_mul]; exact d900
    have dy : v6 = (if sFlo (cI μ r2) i then sDy S (cI μ r2) i hour g else 0) := by
      rw [e6, hline, hforce]; unfold sP sDy
      split
      · rfl
      · rw [Int32.zero_mul, Int32.zero_mul]; exact d900
    have f7 : ∀ k, 1 ≤ k → k ≤ 11 → ∀ j, m7 (r2 + k) j = μ (r2 + k) j := fun k hk1 hk j => by rw [e7, zw_c (by omega)]; exact hI1 k hk1 hk j
    have f8 : ∀ k, 1 ≤ k → k ≤ 11 → ∀ j, m8 (r2 + k) j = μ (r2 + k) j := fun k hk1 hk j => by rw [e8, zw_c (by omega)]; exact f7 k hk1 hk j
    have f10 : ∀ k, 1 ≤ k → k ≤ 11 → ∀ j, m10 (r2 + k) j = μ (r2 + k) j := fun k hk1 hk j => by rw [e10, zw_c (by omega), e9, zw_c (by omega)]; exact f8 k hk1 hk j
    refine h m11 ?_ ⟨?_, ?_, ?_, ?_, ?_⟩
    · intro c j hcj
      unfold zPut at hcj
      rw [e11, zw_n (by omega), e10, zw_n (by omega), e9, zw_n (by omega), e8, zw_n (by omega), e7, zw_n (by omega)]
      exact hf c j (by omega)
    · rw [e11, zw_c (by omega), e10, zw_c (by omega), e9, zw_c (by omega), e8, zw_c (by omega), e7, zw_s, hI1 2 (by omega) (by omega), dx]
      rfl
    · rw [e11, zw_c (by omega), e10, zw_c (by omega), e9, zw_c (by omega), e8, zw_s, f7 3 (by omega) (by omega), dy]
      rfl
    · rw [e11, zw_c (by omega), e10, zw_c (by omega), e9, zw_s, dx, dy, hline]
      unfold sZ
      split
      · rfl
      · decide
    · rw [e11, zw_c (by omega), e10, zw_s, hforce]
    · rw [e11, zw_s, f10 6 (by omega) (by omega)]
      rfl
  refine C_floats h2 rfl (by omega) ?_
  by_cases hfl : sFlo (cI μ r2) i
  · rw [b2i_t hfl]
    refine ⟨fun q => absurd q (by decide), fun _ => ?_⟩
    refine C_pushOf h1 h2 hS rfl (by omega) (fun μ1 hf => ?_)
    unfold pX0_put_47
    refine ⟨fun q => absurd q (by decide), fun _ => C_line h2 rfl (by omega) ?_⟩
    have hI : cI μ1 r2 = cI μ r2 := cI_congr fun k _ hk j => hf _ _ (by omega)
    rw [hI]
    exact tail _ _ μ1 hf (by rw [if_pos hfl]) (by unfold sP; rw [if_pos hfl])
  · rw [b2i_f hfl]
    refine ⟨fun _ => ?_, fun q => absurd rfl q⟩
    unfold pX0_put_47
    exact ⟨fun _ => tail _ _ μ Fr.rf (by rw [if_neg hfl]) (by unfold sP; rw [if_neg hfl]), fun q => absurd rfl q⟩
end Air
