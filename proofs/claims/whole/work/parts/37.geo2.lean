/-! what a row of numbers tells depends on that row alone -/
def rowE (I J : zI) (i : Nat) : Prop := ∀ k, k < 14 → I i k = J i k
theorem sWgt_c {I J : zI} {i : Nat} (h : rowE I J i) : sWgt I i = sWgt J i := by
  unfold sWgt; rw [h 6 (by omega), h 7 (by omega), h 8 (by omega), h 0 (by omega)]
theorem sLin_c {I J : zI} {i : Nat} (h : rowE I J i) : sLin I i = sLin J i := by
  unfold sLin; rw [h 3 (by omega), h 9 (by omega)]
theorem vS_c {I J : zI} {i : Nat} {hour : Int32} (h : rowE I J i) : vS I i hour = vS J i hour := by
  funext j
  match j with
  | 0 => exact h 4 (by omega)
  | 1 => exact sWgt_c h
  | 2 => exact h 3 (by omega)
  | 3 => exact h 9 (by omega)
  | 4 => exact h 6 (by omega)
  | 5 => rfl
  | 6 => rfl
  | j + 7 => exact h 5 (by omega)
theorem sPsh_c {S : zSky} {I J : zI} {i : Nat} {hour g : Int32} (h : rowE I J i) : sPsh S I i hour g = sPsh S J i hour g := by
  unfold sPsh sPw sPv; rw [vS_c h, h 0 (by omega)]
theorem sFlo_c {I J : zI} {i : Nat} (h : rowE I J i) : sFlo I i = sFlo J i := by
  unfold sFlo; rw [sWgt_c h, sLin_c h, h 4 (by omega)]
theorem sDx_c {S : zSky} {I J : zI} {i : Nat} {hour g : Int32} (h : rowE I J i) : sDx S I i hour g = sDx S J i hour g := by
  unfold sDx; rw [sLin_c h, sPsh_c h]
theorem sDy_c {S : zSky} {I J : zI} {i : Nat} {hour g : Int32} (h : rowE I J i) : sDy S I i hour g = sDy S J i hour g := by
  unfold sDy; rw [sLin_c h, sPsh_c h]
theorem flo_if {I J : zI} {i : Nat} (h : rowE I J i) {α : Type} (a b : α) : (if sFlo I i then a else b) = (if sFlo J i then a else b) := by
  have e : sFlo I i ↔ sFlo J i := by rw [sFlo_c h]
  by_cases q : sFlo J i
  · rw [if_pos q, if_pos (e.mpr q)]
  · rw [if_neg q, if_neg (fun z => q (e.mp z))]
theorem sX_c {S : zSky} {I J : zI} {i : Nat} {hour g : Int32} (h : rowE I J i) : sX S I i hour g = sX S J i hour g := by
  unfold sX; rw [sDx_c h, h 1 (by omega), flo_if h]
theorem sY_c {S : zSky} {I J : zI} {i : Nat} {hour g : Int32} (h : rowE I J i) : sY S I i hour g = sY S J i hour g := by
  unfold sY; rw [sDy_c h, h 2 (by omega), flo_if h]
theorem sZ_c {S : zSky} {I J : zI} {i : Nat} {hour g : Int32} (h : rowE I J i) : sZ S I i hour g = sZ S J i hour g := by
  unfold sZ; rw [flo_if h, sDx_c h, sDy_c h]
  exact congrArg (fun z => if sFlo J i then z else 0) (by rw [sLin_c h])
theorem sP_c {S : zSky} {I J : zI} {i : Nat} {hour g : Int32} (h : rowE I J i) : sP S I i hour g = sP S J i hour g := by
  unfold sP; rw [sPsh_c h, flo_if h]
theorem sLea_c {I J : zI} {i : Nat} (h : rowE I J i) : sLea I i = sLea J i := by
  unfold sLea; rw [h 11 (by omega), h 13 (by omega), h 10 (by omega), h 12 (by omega)]
/-! bounds -/
def SkyB (S : zSky) : Prop := ∀ j, j < S.1 → (-9 ≤ (S.2.2.1 j).toInt ∧ (S.2.2.1 j).toInt ≤ 9) ∧ (-9 ≤ (S.2.2.2.1 j).toInt ∧ (S.2.2.2.1 j).toInt ≤ 9)
def rowB (I : zI) (i : Nat) : Prop := -10 ≤ (I i 3).toInt ∧ (I i 3).toInt ≤ 90 ∧ 0 ≤ (I i 9).toInt ∧ (I i 9).toInt ≤ 60
theorem lat_rng {W F : Nat → Int32} {N : Nat} {h : Int32} (hW : ∀ j, j < N → -9 ≤ (W j).toInt ∧ (W j).toInt ≤ 9) : -9 ≤ (sWx W F N h).toInt ∧ (sWx W F N h).toInt ≤ 9 := by
  unfold sWx
  cases e : latS F h N 0 none with
  | none => show -9 ≤ (0 : Int32).toInt ∧ (0 : Int32).toInt ≤ 9; rw [i_0]; omega
  | some k => exact hW k (latS_lt (N := N) N 0 none (by omega) (fun c hc => by cases hc) k e)
theorem i_div {a b : Int32} (h1 : -2147483648 ≤ a.toInt.tdiv b.toInt) (h2 : a.toInt.tdiv b.toInt ≤ 2147483647) : (a / b).toInt = a.toInt.tdiv b.toInt := by
  rw [Int32.toInt_div, Int.bmod_eq_of_le (by omega) (by omega)]
theorem sPv_rng {S : zSky} {I : zI} {i : Nat} {hour : Int32} : 0 ≤ (sPv S I i hour).toInt ∧ (sPv S I i hour).toInt ≤ 100 := by
  unfold sPv
  split
  · have : (50 : Int32).toInt = 50 := by decide
    omega
  · rw [zmax_i, zmin_i, i_0, show (100 : Int32).toInt = 100 from by decide]; omega
def gst (g : Int32) : Prop := 0 ≤ g.toInt ∧ g.toInt ≤ 3
theorem sPsh_rng {S : zSky} {I : zI} {i : Nat} {hour g : Int32} (hg : gst g) : 0 ≤ (sPsh S I i hour g).toInt ∧ (sPsh S I i hour g).toInt ≤ 100 := by
  have h0 := sPv_rng (S := S) (I := I) (i := i) (hour := hour)
  obtain ⟨g1, g2⟩ := hg
  have e20 : (20 : Int32).toInt = 20 := by decide
  have e1 : (20 * g).toInt = 20 * g.toInt := by rw [i_mul (by rw [e20]; omega) (by rw [e20]; omega), e20]
  have e2 : (sPv S I i hour + 20 * g).toInt = (sPv S I i hour).toInt + 20 * g.toInt := by rw [i_add (by omega) (by omega), e1]
  have hw : 0 ≤ (sPw S I i hour g).toInt ∧ (sPw S I i hour g).toInt ≤ 100 := by
    unfold sPw
    rw [zmin_i, e2, show (100 : Int32).toInt = 100 from by decide]; omega
  unfold sPsh
  split
  · have e3 : (sPw S I i hour g).toInt.tdiv (2 : Int32).toInt = (sPw S I i hour g).toInt / 2 := by
      rw [show (2 : Int32).toInt = 2 from by decide]; exact Int.tdiv_eq_ediv_of_nonneg hw.1
    rw [i_div (by rw [e3]; omega) (by rw [e3]; omega), e3]; omega
  · exact hw
theorem sLin_rng {I : zI} {i : Nat} (h : rowB I i) : 0 ≤ (sLin I i).toInt ∧ (sLin I i).toInt ≤ 90 := by
  obtain ⟨h1, h2, h3, h4⟩ := h
  unfold sLin
  rw [zmax_i, i_0, i_sub (by omega) (by omega)]; omega
theorem mul3_rng {a b c : Int} (ha : 0 ≤ a ∧ a ≤ 90) (hb : -9 ≤ b ∧ b ≤ 9) (hc : 0 ≤ c ∧ c ≤ 100) : (-810 ≤ a * b ∧ a * b ≤ 810) ∧ -81000 ≤ a * b * c ∧ a * b * c ≤ 81000 := by
  have h1 : a * b ≤ 90 * 9 := by
    rcases Int.le_total 0 b with q | q
    · exact Int.mul_le_mul ha.2 hb.2 q (by omega)
    · have := Int.mul_nonpos_of_nonneg_of_nonpos ha.1 q; omega
  have h2 : -(90 * 9) ≤ a * b := by
    rcases Int.le_total 0 b with q | q
    · have := Int.mul_nonneg ha.1 q; omega
    · have h3 : a * (-b) ≤ 90 * 9 := Int.mul_le_mul ha.2 (by omega) (by omega) (by omega)
      rw [Int.mul_neg] at h3; omega
  refine ⟨⟨by omega, by omega⟩, ?_, ?_⟩
  · rcases Int.le_total 0 (a * b) with q | q
    · have := Int.mul_nonneg q hc.1; omega
    · have h3 : (-(a * b)) * c ≤ 810 * 100 := Int.mul_le_mul (by omega) hc.2 hc.1 (by omega)
      rw [Int.neg_mul] at h3; omega
  · rcases Int.le_total 0 (a * b) with q | q
    · have h3 : (a * b) * c ≤ 810 * 100 := Int.mul_le_mul (by omega) hc.2 hc.1 (by omega)
      omega
    · have := Int.mul_nonpos_of_nonpos_of_nonneg q hc.1; omega
theorem dd_rng {l w p : Int32} (hl : 0 ≤ l.toInt ∧ l.toInt ≤ 90) (hw : -9 ≤ w.toInt ∧ w.toInt ≤ 9) (hp : 0 ≤ p.toInt ∧ p.toInt ≤ 100) : -90 ≤ (((l * w) * p) / 900).toInt ∧ (((l * w) * p) / 900).toInt ≤ 90 := by
  obtain ⟨m1, m2⟩ := mul3_rng hl hw hp
  have e1 : (l * w).toInt = l.toInt * w.toInt := i_mul (by omega) (by omega)
  have e2 : ((l * w) * p).toInt = l.toInt * w.toInt * p.toInt := by rw [i_mul (by rw [e1]; omega) (by rw [e1]; omega), e1]
  have e9 : (900 : Int32).toInt = 900 := by decide
  have b : -90 ≤ (l.toInt * w.toInt * p.toInt).tdiv 900 ∧ (l.toInt * w.toInt * p.toInt).tdiv 900 ≤ 90 := by
    generalize l.toInt * w.toInt * p.toInt = z at m2
    rcases Int.le_total 0 z with q | q
    · rw [Int.tdiv_eq_ediv_of_nonneg q]; omega
    · have : z.tdiv 900 = -((-z) / 900) := by
        rw [← Int.tdiv_eq_ediv_of_nonneg (by omega : 0 ≤ -z), Int.neg_tdiv, Int.neg_neg]
      rw [this]; omega
  rw [i_div (by rw [e2, e9]; omega) (by rw [e2, e9]; omega), e2, e9]; exact b
theorem sZ_rng {S : zSky} {I : zI} {i : Nat} {hour g : Int32} (hS : SkyB S) (h : rowB I i) (hg : gst g) : -90 ≤ (sZ S I i hour g).toInt ∧ (sZ S I i hour g).toInt ≤ 90 := by
  have l0 := sLin_rng h
  have p0 := sPsh_rng (S := S) (I := I) (i := i) (hour := hour) hg
  have x0 : -90 ≤ (sDx S I i hour g).toInt ∧ (sDx S I i hour g).toInt ≤ 90 := dd_rng l0 (lat_rng fun j hj => (hS j hj).1) p0
  have y0 : -90 ≤ (sDy S I i hour g).toInt ∧ (sDy S I i hour g).toInt ≤ 90 := dd_rng l0 (lat_rng fun j hj => (hS j hj).2) p0
  unfold sZ
  split
  · have ax := zabs_i (x := sDx S I i hour g) (by omega)
    have ay := zabs_i (x := sDy S I i hour g) (by omega)
    rw [i_sub (by rw [zmax_i]; omega) (by rw [zmax_i]; omega), zmax_i]; omega
  · rw [i_0]; omega
theorem sZ_zsm {S : zSky} {I : zI} {i : Nat} {hour g : Int32} (hS : SkyB S) (h : rowB I i) (hg : gst g) : zsm (sZ S I i hour g) := by
  have := sZ_rng (hour := hour) hS h hg
  exact ⟨by omega, by omega⟩
theorem gst0 : gst 0 := by unfold gst; rw [i_0]; omega
/-- an Isles object of the class holds the rows of n isles -/
def IsC (μ : zMem) (o n : Nat) (I : zI) : Prop := μ o 0 = nI n ∧ ∀ i, i < n → rowE (cI μ o) I i
def IsR (μ : zMem) (n : Nat) (I : zI) : Prop := μ 110 0 = nI n ∧ ∀ i, i < n → rowE (rI μ) I i
theorem IsC.go {μ μ' : zMem} {o n : Nat} {I : zI} (h : IsC μ o n I) (e : ∀ c j, o ≤ c → c ≤ o + 11 → μ' c j = μ c j) : IsC μ' o n I := by
  refine ⟨by rw [e _ _ (Nat.le_refl _) (by omega)]; exact h.1, fun i hi => ?_⟩
  have : cI μ' o = cI μ o := cI_congr fun k _ hk j => e _ _ (by omega) (by omega)
  rw [this]; exact h.2 i hi
theorem IsR.go {μ μ' : zMem} {n : Nat} {I : zI} (h : IsR μ n I) (e0 : μ' 110 0 = μ 110 0) (e : ∀ j, μ' 111 j = μ 111 j) : IsR μ' n I := by
  refine ⟨by rw [e0]; exact h.1, fun i hi => ?_⟩
  rw [rI_congr e]; exact h.2 i hi
section Blow
variable {d : Nat} {μ : zMem} {KI : Int32 → zMem → Prop} {KV : zMem → Prop} {X : Nat → zMem → Prop}
/-- what a hour's telling writes, in the class -/
def zAir (c j : Nat) : Prop := (93 ≤ c ∧ c ≤ 97) ∨ c = 25 ∨ c = 45
theorem gAt_of {S : zSky} {I J : zI} {i s : Nat} {h g : Int32} (hA : AirS μ S I i s h g) (e : rowE I J i) : μ 93 s = sX S J i h g ∧ μ 94 s = sY S J i h g ∧ μ 95 s = sZ S J i h g ∧ μ 97 s = J i 5 :=
  ⟨by rw [hA.1]; exact sX_c e, by rw [hA.2.1]; exact sY_c e, by rw [hA.2.2.1]; exact sZ_c e, by rw [hA.2.2.2.2]; exact e 5 (by omega)⟩
theorem L_blow {μ0 : zMem} {r n : Nat} {S : zSky} {I : zI} {hour g : Int32} (hr : zsh r = .inr 1) (hS : SkyC μ0 (zsk μ0 0 4) S) (hI : IsC μ0 r n I) (hn : n ≤ 6) : ∀ (m k : Nat) (μ : zMem), k + m = n → Fr zAir μ0 μ → (∀ i, i < k → gAt μ (sG S I hour g) i) →
    (∀ μ', Fr zAir μ0 μ' → (∀ i, i < n → gAt μ' (sG S I hour g) i) → KV μ') → pX8_blow_3 (m + 1) (d + 5) r hour g (nI k) μ KV X := by
  have rr := isl_rng hr
  intro m
  induction m with
  | zero =>
    intro k μ hk hf hg hK
    have hc : μ r 0 = nI n := by rw [hf _ _ (by unfold zAir; omega)]; exact hI.1
    have : k = n := by omega
    subst this
    exact ⟨fun _ => hK μ hf hg, fun q => absurd (by rw [hc]; exact (n_le (by omega) (by omega)).mpr (by omega)) q⟩
  | succ m ih =>
    intro k μ hk hf hg hK
    have hI' : IsC μ r n I := hI.go fun c j h1 h2 => hf _ _ (by unfold zAir; omega)
    have hz : zsk μ 0 4 = zsk μ0 0 4 := by unfold zsk; rw [hf 0 4 (by unfold zAir; omega)]
    have sr := sky_rng (zsk_sh μ0 0 4)
    have hS' : SkyC μ (zsk μ0 0 4) S := hS.go fun c j h => hf _ _ (by unfold zAir; omega)
    refine ⟨fun q => absurd q (by rw [hI'.1, n_le (by omega) (by omega)]; omega), fun _ => ?_⟩
    rw [hz]
    refine C_put (zsk_sh μ0 0 4) hr hS' hI'.1 hn rfl (by omega) rfl (by omega) (fun m1 f1 a1 v2 e2 => ?_)
    rw [e2, nI_1]
    refine ih (k + 1) m1 (by omega) (hf.tr (f1.mono fun c j q => by unfold zPut at q; unfold zAir; omega)) ?_ hK
    intro i hi
    by_cases hik : i = k
    · subst hik
      exact gAt_of a1 (hI'.2 i (by omega))
    · obtain ⟨b1, b2, b3, b4⟩ := hg i (by omega)
      exact ⟨by rw [f1 _ _ (by unfold zPut; omega)]; exact b1, by rw [f1 _ _ (by unfold zPut; omega)]; exact b2, by rw [f1 _ _ (by unfold zPut; omega)]; exact b3, by rw [f1 _ _ (by unfold zPut; omega)]; exact b4⟩
theorem C_blow {r n : Nat} {S : zSky} {I : zI} {hour g : Int32} (hr : zsh r = .inr 1) (hS : SkyC μ (zsk μ 0 4) S) (hI : IsC μ r n I) (hn : n ≤ 6) (h : ∀ μ', Fr zAir μ μ' → (∀ i, i < n → gAt μ' (sG S I hour g) i) → KV μ') : zcV (d + 6) mX8_blow [.ref 0, .ref r, .int hour, .int g] μ KV X := by
  refine cX8_blow_ hr ⟨n + 1, ?_⟩
  exact L_blow hr hS hI hn n 0 μ (by omega) Fr.rf (fun i hi => absurd hi (by omega)) h
theorem R_hour {n : Nat} {S : zSky} {I : zI} {hour g : Int32} (hS : SkyR μ S) (hG : SkyG S) (hn : n ≤ 6) (hI : IsR μ n I) (h : ∀ μ', Fr zTell μ μ' → (∀ i, i < n → gAr μ' (sG S I hour g) i) → KV μ') : zcV (d + 6) mX9_tellHour [.ref 106, .int hour, .int g] μ KV X := by
  refine R_tellHour hS hG hn hI.1 (fun μ' f1 g1 => h μ' f1 (fun i hi => ?_))
  obtain ⟨b1, b2, b3, b4⟩ := g1 i hi
  have e := hI.2 i hi
  exact ⟨by rw [b1]; exact sX_c e, by rw [b2]; exact sY_c e, by rw [b3]; exact sZ_c e, by rw [b4]; exact e 5 (by omega)⟩
end Blow
