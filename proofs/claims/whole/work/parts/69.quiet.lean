/-! who is disturbed by whom; rows of ropes -/
noncomputable def zdec (p : Prop) : Bool := @decide p (Classical.propDecidable p)
theorem zdec_t {p : Prop} : zdec p = true ↔ p := @decide_eq_true_iff p (Classical.propDecidable p)
theorem zdec_c {p q : Prop} (h : p ↔ q) : zdec p = zdec q := by
  by_cases a : q
  · rw [zdec_t.mpr (h.mpr a), zdec_t.mpr a]
  · have h1 : ¬ zdec p = true := fun z => a (h.mp (zdec_t.mp z))
    have h2 : ¬ zdec q = true := fun z => a (zdec_t.mp z)
    rw [Bool.not_eq_true] at h1 h2
    rw [h1, h2]
theorem zabs_neg (x : Int32) : zabs (0 - x) = zabs x := by
  have r := i_rng x
  unfold zabs
  by_cases q : x.toInt = -2147483648
  · have e : x = -2147483648 := by rw [i_eq, q]; decide
    subst e; decide
  · have s : (0 - x).toInt = -x.toInt := by rw [i_sub (by rw [i_0]; omega) (by rw [i_0]; omega), i_0]; omega
    have ss : (0 : Int32) - (0 - x) = x := by rw [i_eq, i_sub (by rw [i_0, s]; omega) (by rw [i_0, s]; omega), i_0, s]; omega
    by_cases z : 0 ≤ x
    · rw [if_pos z]
      by_cases z2 : 0 ≤ 0 - x
      · rw [if_pos z2]
        rw [i_le, i_0] at z z2
        rw [i_eq, s]; omega
      · rw [if_neg z2, ss]
    · rw [if_neg z, if_pos]
      rw [i_le, i_0] at *
      omega
theorem sub_sw (a b : Int32) : a - b = 0 - (b - a) := by
  rw [Int32.sub_eq_add_neg, Int32.sub_eq_add_neg 0, Int32.zero_add, Int32.neg_sub]
  exact (Int32.sub_eq_add_neg a b).symm
theorem zabs_sw (a b : Int32) : zabs (a - b) = zabs (b - a) := by rw [sub_sw, zabs_neg]
theorem ov_sy {G : zG} {a b : Nat} {r : Int32} : ov G a b r → ov G b a r := by
  intro ⟨h1, h2⟩
  refine ⟨?_, ?_⟩
  · rw [zabs_sw, Int32.add_comm (G.2.2.2 b)]; exact h1
  · rw [zabs_sw, Int32.add_comm (G.2.2.2 b)]; exact h2
theorem kn_sy {G : zG} {a b : Nat} (h : kn G a b) : kn G b a := ⟨ov_sy h.1, by rw [zabs_sw]; exact h.2⟩
theorem fkI_none {G : zG} {a : Nat} : ∀ (m b : Nat), fkI G m a b = none ↔ ∀ c, b ≤ c → c < b + m → ¬ kn G a c
  | 0, b => ⟨fun _ c h1 h2 => by omega, fun _ => rfl⟩
  | m + 1, b => by
    unfold fkI
    by_cases q : kn G a b
    · rw [if_pos q]
      exact ⟨fun h => (by cases h), fun h => absurd q (h b (by omega) (by omega))⟩
    · rw [if_neg q, fkI_none m (b + 1)]
      refine ⟨fun h c h1 h2 => ?_, fun h c h1 h2 => h c (by omega) (by omega)⟩
      by_cases e : c = b
      · rw [e]; exact q
      · exact h c (by omega) (by omega)
theorem fkI_some {G : zG} {a : Nat} {v : Int32} : ∀ (m b : Nat), fkI G m a b = some v → ∃ c, b ≤ c ∧ c < b + m ∧ v = nI (10 * a + c)
  | 0, b, h => by cases h
  | m + 1, b, h => by
    unfold fkI at h
    by_cases q : kn G a b
    · rw [if_pos q] at h
      cases h
      exact ⟨b, by omega, by omega, e10i a b⟩
    · rw [if_neg q] at h
      obtain ⟨c, c1, c2, c3⟩ := fkI_some m (b + 1) h
      exact ⟨c, by omega, by omega, c3⟩
theorem fkO_none {G : zG} {n : Nat} (hn : n ≤ 6) : ∀ (m a : Nat), a + m = n → (fkO G n m a = -1 ↔ ∀ x c, a ≤ x → x < c → c < n → ¬ kn G x c)
  | 0, a, h => ⟨fun _ x c h1 h2 h3 => by omega, fun _ => rfl⟩
  | m + 1, a, h => by
    unfold fkO
    cases e : fkI G (n - (a + 1)) a (a + 1) with
    | some v =>
      obtain ⟨c, c1, c2, c3⟩ := fkI_some _ _ e
      refine ⟨fun q => absurd q ?_, fun q => ?_⟩
      · show ¬ v = -1
        rw [c3]; exact oI_n (by omega)
      · have : fkI G (n - (a + 1)) a (a + 1) = none := (fkI_none _ _).mpr fun c k1 k2 => q a c (by omega) (by omega) (by omega)
        rw [e] at this; cases this
    | none =>
      show fkO G n m (a + 1) = -1 ↔ _
      rw [fkO_none hn m (a + 1) (by omega)]
      have e' := (fkI_none _ _).mp e
      refine ⟨fun q x c h1 h2 h3 => ?_, fun q x c h1 h2 h3 => q x c (by omega) h2 h3⟩
      by_cases z : x = a
      · subst z; exact e' c (by omega) (by omega)
      · exact q x c (by omega) h2 h3
theorem fk_none {G : zG} {n : Nat} (hn : n ≤ 6) : fk G n = -1 ↔ ∀ x c, x < c → c < n → ¬ kn G x c := by
  unfold fk
  rw [fkO_none hn n 0 (by omega)]
  exact ⟨fun h x c => h x c (by omega), fun h x c _ => h x c⟩
theorem rnC_none {G : zG} {i k : Nat} {a : Option Nat} : rnC G i k a = none ↔ a = none ∧ (k = i ∨ ¬ sh G i k) := by
  unfold rnC
  by_cases e : k = i
  · rw [if_pos e]; exact ⟨fun h => ⟨h, Or.inl e⟩, fun h => h.1⟩
  · rw [if_neg e]
    by_cases q : sh G i k
    · rw [if_pos q]
      refine ⟨fun h => ?_, fun h => absurd q (h.2.resolve_left e)⟩
      cases a with
      | none => cases h
      | some c =>
        have h' : (if G.2.2.1 c ≤ G.2.2.1 k then some c else some k) = none := h
        split at h' <;> cases h'
    · rw [if_neg q]; exact ⟨fun h => ⟨h, Or.inr q⟩, fun h => h.1⟩
theorem rnS_none {G : zG} {i : Nat} : ∀ (m k : Nat) (a : Option Nat), rnS G i m k a = none ↔ a = none ∧ ∀ c, k ≤ c → c < k + m → c ≠ i → ¬ sh G i c
  | 0, k, a => ⟨fun h => ⟨h, fun c h1 h2 => by omega⟩, fun h => h.1⟩
  | m + 1, k, a => by
    show rnS G i m (k + 1) (rnC G i k a) = none ↔ _
    rw [rnS_none m (k + 1), rnC_none]
    refine ⟨fun ⟨⟨h1, h2⟩, h3⟩ => ⟨h1, fun c k1 k2 k3 => ?_⟩, fun ⟨h1, h2⟩ => ⟨⟨h1, ?_⟩, fun c k1 k2 => h2 c (by omega) (by omega)⟩⟩
    · by_cases e : c = k
      · subst e; exact h2.resolve_left k3
      · exact h3 c (by omega) (by omega) k3
    · by_cases e : k = i
      · exact Or.inl e
      · exact Or.inr (h2 k (by omega) (by omega) e)
theorem rn_none {G : zG} {i n : Nat} : rn G i n = none ↔ ∀ c, c < n → c ≠ i → ¬ sh G i c := by
  unfold rn
  rw [rnS_none]
  exact ⟨fun h c h1 => h.2 c (by omega) (by omega), fun h => ⟨rfl, fun c _ h2 => h c (by omega)⟩⟩
/-- isle i is disturbed: in another one's shade (light), or it knocks -/
def dsQ (L : Bool) (G : zG) (i k : Nat) : Prop := if L = true then sh G i k else kn G i k
def dsP (L : Bool) (G : zG) (n i : Nat) : Prop := ∃ k, k < n ∧ k ≠ i ∧ dsQ L G i k
theorem dsP_L {G : zG} {n i : Nat} (hn : n ≤ 6) : dsP true G n i ↔ ¬ oI (rn G i n) = -1 := by
  have e : oI (rn G i n) = -1 ↔ rn G i n = none := by
    cases q : rn G i n with
    | none => exact ⟨fun _ => rfl, fun _ => rfl⟩
    | some c => exact ⟨fun h => absurd h (oI_n (by have := rn_lt q; omega)), fun h => (by cases h)⟩
  rw [e, rn_none]
  refine ⟨fun ⟨k, h1, h2, h3⟩ h => h k h1 h2 h3, fun h => Classical.byContradiction fun q => h fun c h1 h2 h3 => q ⟨c, h1, h2, h3⟩⟩
theorem dsP_K {G : zG} {n : Nat} (hn : n ≤ 6) : fk G n = -1 ↔ ∀ i, i < n → ¬ dsP false G n i := by
  rw [fk_none hn]
  refine ⟨fun h i hi ⟨k, h1, h2, h3⟩ => ?_, fun h x c h1 h2 h3 => h x (by omega) ⟨c, h2, by omega, h3⟩⟩
  have h3' : kn G i k := h3
  by_cases q : i < k
  · exact h i k q h1 h3'
  · exact h k i (by omega) hi (kn_sy h3')
def gE (G H : zG) (i : Nat) : Prop := G.1 i = H.1 i ∧ G.2.1 i = H.2.1 i ∧ G.2.2.1 i = H.2.2.1 i ∧ G.2.2.2 i = H.2.2.2 i
theorem dsQ_c {L : Bool} {G H : zG} {i k : Nat} (hi : gE G H i) (hk : gE G H k) : dsQ L G i k ↔ dsQ L H i k := by
  obtain ⟨a1, a2, a3, a4⟩ := hi
  obtain ⟨b1, b2, b3, b4⟩ := hk
  unfold dsQ sh kn ov
  rw [a1, a2, a3, a4, b1, b2, b3, b4]
theorem dsP_c {L : Bool} {G H : zG} {n i : Nat} (hi : i < n) (h : ∀ k, k < n → gE G H k) : dsP L G n i ↔ dsP L H n i :=
  ⟨fun ⟨k, h1, h2, h3⟩ => ⟨k, h1, h2, (dsQ_c (h i hi) (h k h1)).mp h3⟩, fun ⟨k, h1, h2, h3⟩ => ⟨k, h1, h2, (dsQ_c (h i hi) (h k h1)).mpr h3⟩⟩
/-- of H hours from a on, in how many -/
noncomputable def cfN (S : zSky) (I : zI) (L : Bool) (n a i H : Nat) : Nat := cntB (fun j => zdec (dsP L (sG S I (nI (a + j)) 0) n i)) H
theorem cfN_c {S : zSky} {I J : zI} {L : Bool} {n a i H : Nat} (hi : i < n) (h : eqI n I J) : cfN S I L n a i H = cfN S J L n a i H :=
  cntB_c H fun j _ => zdec_c (dsP_c hi fun k hk => sG_c (h k hk))
theorem cntB_step {f : Nat → Bool} {k : Nat} : ∀ m, cntB f k ≤ cntB f (k + m)
  | 0 => Nat.le_refl _
  | m + 1 => by
    have := cntB_step (f := f) (k := k) m
    show cntB f k ≤ cntB f (k + m) + (if f (k + m) = true then 1 else 0)
    omega
theorem cfN_mono {S : zSky} {I : zI} {L : Bool} {n a i H H' : Nat} (h : H ≤ H') : cfN S I L n a i H ≤ cfN S I L n a i H' := by
  have := cntB_step (f := fun j => zdec (dsP L (sG S I (nI (a + j)) 0) n i)) (k := H) (H' - H)
  rw [show H + (H' - H) = H' by omega] at this; exact this
theorem cfN_s {S : zSky} {I : zI} {L : Bool} {n a i H : Nat} : cfN S I L n a i (H + 1) = cfN S I L n a i H + (if zdec (dsP L (sG S I (nI (a + H)) 0) n i) = true then 1 else 0) := rfl
def qtP (S : zSky) (I : zI) (L : Bool) (lim n a H : Nat) : Prop := ∀ i, i < n → cfN S I L n a i H ≤ lim
def yd (q y : Nat) : Int32 := nI y - nI q
theorem yd_i {q y : Nat} (hq : q < 1000) (hy : y < 1000) : (yd q y).toInt = (y : Int) - q := pk_sub_toInt (by omega) (by omega)
theorem yd_1 {q y : Nat} (hq : q < 1000) (hy : y < 900) : yd q y + 1 = yd q (y + 1) := by
  have h := yd_i (q := q) (y := y) hq (by omega)
  have h2 := yd_i (q := q) (y := y + 1) hq (by omega)
  rw [i_eq, i_add (by rw [h, i_1]; omega) (by rw [h, i_1]; omega), h, h2, i_1]; omega
theorem yd_0 {q : Nat} (hq : q < 1000) : -(nI q) = yd q 0 := by
  show -(nI q) = nI 0 - nI q
  rw [Int32.sub_eq_add_neg]; exact (Int32.zero_add _).symm
theorem yd_abs {q y : Nat} (hq : q < 1000) (hy : y < 1000) : zabs (yd q y) = nI (az q y) := by
  have h := yd_i hq hy
  rw [i_eq, zabs_i (by omega), n_i (by unfold az; split <;> omega), h]
  unfold az
  split <;> omega
theorem yd_slot {q y i : Nat} (hq : q ≤ 4) (hy : y < 100) (hi : i < 100) (h : q ≤ 4 + y) : (nI i * 9 + 4) + yd q y = nI (9 * i + (4 + y - q)) := by
  have e : nI i * 9 + 4 = nI (9 * i + 4) := by
    rw [show (9 : Int32) = nI 9 from rfl, show (4 : Int32) = nI 4 from rfl, pk_mul, nI_add, Nat.mul_comm]
  have h2 := yd_i (q := q) (y := y) (by omega) (by omega)
  rw [e, i_eq, i_add (by rw [h2, n_i (by omega)]; omega) (by rw [h2, n_i (by omega)]; omega), h2, n_i (by omega), n_i (by omega)]; omega
/-- a row's isles -/
def rwI (q w n : Nat) (I : zI) (r : Nat) : zI := fun i k => if k = 3 then I i 3 + yd q (dg w n r i) else I i k
def rpN (I : zI) (i : Nat) : Nat := (I i 3).toInt.toNat
noncomputable def lsQ (S : zSky) (I : zI) (L : Bool) (lim q w n a H : Nat) (r : Nat) : Bool := zdec (qtP S (rwI q w n I r) L lim n a H)
def enS (w q n : Nat) : Option Nat → Int32
  | none => -1
  | some b => nI (smN w q n b n)
noncomputable def lsZ (S : zSky) (I : zI) (L : Bool) (lim q n a H : Nat) : Option Nat := zscan (lsF (2 * q + 1) q n (rpN I) (lsQ S I L lim q (2 * q + 1) n a H)) ((2 * q + 1) ^ n) 0 none
def lsK (q w n : Nat) (I : zI) (K : Option (Nat → Int32)) : Option Nat → Option (Nat → Int32)
  | none => K
  | some b => some (fun i => I i 3 + yd q (dg w n b i))
/-- a rope in range -/
theorem rp_ok {q y R : Nat} {x : Int32} (hq : q ≤ 4) (hy : y < 9) (hx : x = nI R) (hR : R ≤ 60) : (1 ≤ (x + yd q y).toInt ∧ (x + yd q y).toInt ≤ 60) ↔ okD q y R := by
  have h := yd_i (q := q) (y := y) (by omega) (by omega)
  subst hx
  rw [i_add (by rw [h, n_i (by omega)]; omega) (by rw [h, n_i (by omega)]; omega), h, n_i (by omega)]
  unfold okD; omega
