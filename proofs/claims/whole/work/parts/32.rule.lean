/-! the rule of the push: tokens as the reference has them -/
def jnS (t a b : Int32) : Int32 := if t = -26 then (if a = 0 then 0 else (if b = 0 then 0 else 1)) else if t = -25 then (if a = b then 1 else 0) else if t = -24 then (if b ≤ a then 0 else 1) else if t = -23 then (if b = 0 then 0 else a / b) else if t = -22 then a * b else if t = -21 then a - b else if t = -20 then a + b else (if a = 0 then (if b = 0 then 0 else 1) else 1)
def opT (t : Int32) : Prop := t = -20 ∨ t = -21 ∨ t = -22 ∨ t = -23 ∨ t = -24 ∨ t = -25 ∨ t = -26 ∨ t = -27
def vaT (t : Int32) : Prop := -9 < t
def encC (t : Int32) : Int32 := if -9 < t then t else if t = -20 then -43 else if t = -21 then -45 else if t = -22 then -42 else if t = -23 then -47 else if t = -24 then -60 else if t = -25 then -61 else if t = -26 then -101 else if t = -27 then -102 else -100
def wfS (T : Nat → Int32) : Nat → Nat → Nat → Prop
  | 0, _, h => 1 ≤ h
  | m + 1, k, h => (vaT (T k) ∧ h < 40 ∧ wfS T m (k + 1) (h + 1)) ∨ (T k = -28 ∧ 1 ≤ h ∧ wfS T m (k + 1) h) ∨ (opT (T k) ∧ 2 ≤ h ∧ wfS T m (k + 1) (h - 1))
def ntS (a : Int32) : Int32 := if a = 0 then 1 else 0
def evS (V : Nat → Int32) (T : Nat → Int32) : Nat → Nat → Nat → (Nat → Int32) → Int32
  | 0, _, _, s => s 0
  | m + 1, k, h, s => if -9 < T k then evS V T m (k + 1) (h + 1) (upd s h (if T k < 0 then V (-1 - T k).toNatClampNeg else T k)) else if T k = -28 then evS V T m (k + 1) h (upd s (h - 1) (ntS (s (h - 1)))) else evS V T m (k + 1) (h - 1) (upd s (h - 2) (jnS (T k) (s (h - 2)) (s (h - 1))))
def vS (I : zI) (i : Nat) (hour : Int32) : Nat → Int32
  | 0 => I i 4
  | 1 => sWgt I i
  | 2 => I i 3
  | 3 => I i 9
  | 4 => I i 6
  | 5 => hour - hour / 24 * 24
  | 6 => hour / 24
  | _ => I i 5
theorem va_neg {t : Int32} (h1 : vaT t) (h2 : t < 0) : ∃ j, j < 8 ∧ -1 - t = nI j := by
  unfold vaT at h1
  rw [i_lt] at h1 h2
  have e1 : (-9 : Int32).toInt = -9 := by decide
  have e2 : (-1 : Int32).toInt = -1 := by decide
  rw [e1] at h1; rw [i_0] at h2
  refine ⟨(-1 - t.toInt).toNat, by omega, ?_⟩
  rw [i_eq, i_sub (by rw [e2]; omega) (by rw [e2]; omega), n_i (by omega), e2]; omega
theorem op_va {t : Int32} (h : opT t) : ¬ -9 < t ∧ t ≠ -28 ∧ t ≤ -20 := by
  rcases h with rfl | rfl | rfl | rfl | rfl | rfl | rfl | rfl <;> decide
theorem va_op {t : Int32} (h : vaT t) : ¬ t ≤ -20 ∧ t ≠ -28 ∧ ¬ t < -8 ∧ encC t = t := by
  unfold vaT at h
  refine ⟨?_, ?_, ?_, by unfold encC; rw [if_pos h]⟩
  · rw [i_le]; rw [i_lt] at h
    have e1 : (-9 : Int32).toInt = -9 := by decide
    have e2 : (-20 : Int32).toInt = -20 := by decide
    omega
  · rintro rfl; exact absurd h (by decide)
  · rw [i_lt]; rw [i_lt] at h
    have e1 : (-9 : Int32).toInt = -9 := by decide
    have e2 : (-8 : Int32).toInt = -8 := by decide
    omega
theorem n_m1 {h : Nat} (h1 : 1 ≤ h) : nI h - 1 = nI (h - 1) := by
  rw [show (1 : Int32) = nI 1 from rfl, pk_sub h1]
theorem n_p (h : Nat) : nI h + (-1) = nI h - 1 := by
  rw [Int32.sub_eq_add_neg]
section Rule
variable {d o r1 : Nat} {μ : zMem} {KI : Int32 → zMem → Prop} {X : Nat → zMem → Prop}
theorem C_join {t a b : Int32} {x : Int32} (hx : x = encC t) (ht : opT t) (h : KI (jnS t a b) μ) : zcI (d + 1) mX3_join [.int x, .int a, .int b] μ KI X := by
  subst hx
  refine cX3_join_ ?_
  unfold pX3_join
  have e1 : ∀ {p : Prop}, ¬ ((1 : Nat) = 2) := fun {p} => by decide
  rcases ht with rfl | rfl | rfl | rfl | rfl | rfl | rfl | rfl
  · refine ⟨fun q => absurd q (by decide), fun q => absurd q (by decide), fun q => absurd q (by decide), fun q => absurd q (by decide), fun q => absurd q (by decide), fun _ => h, fun q => absurd q (by decide), fun _ _ _ _ _ q _ => absurd (by decide) q⟩
  · refine ⟨fun q => absurd q (by decide), fun q => absurd q (by decide), fun q => absurd q (by decide), fun q => absurd q (by decide), fun _ => h, fun q => absurd q (by decide), fun q => absurd q (by decide), fun _ _ _ _ q _ _ => absurd (by decide) q⟩
  · refine ⟨fun q => absurd q (by decide), fun q => absurd q (by decide), fun q => absurd q (by decide), fun q => absurd q (by decide), fun q => absurd q (by decide), fun q => absurd q (by decide), fun _ => h, fun _ _ _ _ _ _ q => absurd (by decide) q⟩
  · have h : KI (if b = 0 then 0 else a / b) μ := h
    refine ⟨fun q => absurd q (by decide), fun q => absurd q (by decide), fun q => absurd q (by decide), fun _ => ⟨fun q => ?_, fun q => ⟨q, ?_⟩⟩, fun q => absurd q (by decide), fun q => absurd q (by decide), fun q => absurd q (by decide), fun _ _ _ q _ _ _ => absurd (by decide) q⟩
    · rw [if_pos q] at h; exact h
    · rw [if_neg q] at h; exact h
  · refine ⟨fun q => absurd q (by decide), fun q => absurd q (by decide), fun _ => h, fun q => absurd q (by decide), fun q => absurd q (by decide), fun q => absurd q (by decide), fun q => absurd q (by decide), fun _ _ q _ _ _ _ => absurd (by decide) q⟩
  · refine ⟨fun q => absurd q (by decide), fun _ => h, fun q => absurd q (by decide), fun q => absurd q (by decide), fun q => absurd q (by decide), fun q => absurd q (by decide), fun q => absurd q (by decide), fun _ q _ _ _ _ _ => absurd (by decide) q⟩
  · refine ⟨fun _ => h, fun q => absurd q (by decide), fun q => absurd q (by decide), fun q => absurd q (by decide), fun q => absurd q (by decide), fun q => absurd q (by decide), fun q => absurd q (by decide), fun q _ _ _ _ _ _ => absurd (by decide) q⟩
  · refine ⟨fun q => absurd q (by decide), fun q => absurd q (by decide), fun q => absurd q (by decide), fun q => absurd q (by decide), fun q => absurd q (by decide), fun q => absurd q (by decide), fun q => absurd q (by decide), fun _ _ _ _ _ _ _ => h⟩
theorem C_reckon {t a b : Int32} (ht : opT t) (h : KI (jnS t a b) μ) : zcI (d + 1) mX9_reckon [.int t, .int a, .int b] μ KI X := by
  refine cX9_reckon_ ?_
  unfold pX9_reckon
  rcases ht with rfl | rfl | rfl | rfl | rfl | rfl | rfl | rfl
  · exact ⟨fun q => absurd q (by decide), fun q => absurd q (by decide), fun q => absurd q (by decide), fun q => absurd q (by decide), fun q => absurd q (by decide), fun q => absurd q (by decide), fun _ => h, fun _ _ _ _ _ _ q => absurd (by decide) q⟩
  · exact ⟨fun q => absurd q (by decide), fun q => absurd q (by decide), fun q => absurd q (by decide), fun q => absurd q (by decide), fun q => absurd q (by decide), fun _ => h, fun q => absurd q (by decide), fun _ _ _ _ _ q _ => absurd (by decide) q⟩
  · exact ⟨fun q => absurd q (by decide), fun q => absurd q (by decide), fun q => absurd q (by decide), fun q => absurd q (by decide), fun _ => h, fun q => absurd q (by decide), fun q => absurd q (by decide), fun _ _ _ _ q _ _ => absurd (by decide) q⟩
  · have h : KI (if b = 0 then 0 else a / b) μ := h
    refine ⟨fun q => absurd q (by decide), fun q => absurd q (by decide), fun q => absurd q (by decide), fun _ => ⟨fun q => ?_, fun q => ⟨q, ?_⟩⟩, fun q => absurd q (by decide), fun q => absurd q (by decide), fun q => absurd q (by decide), fun _ _ _ q _ _ _ => absurd (by decide) q⟩
    · rw [if_pos q] at h; exact h
    · rw [if_neg q] at h; exact h
  · exact ⟨fun q => absurd q (by decide), fun q => absurd q (by decide), fun _ => h, fun q => absurd q (by decide), fun q => absurd q (by decide), fun q => absurd q (by decide), fun q => absurd q (by decide), fun _ _ q _ _ _ _ => absurd (by decide) q⟩
  · exact ⟨fun q => absurd q (by decide), fun _ => h, fun q => absurd q (by decide), fun q => absurd q (by decide), fun q => absurd q (by decide), fun q => absurd q (by decide), fun q => absurd q (by decide), fun _ q _ _ _ _ _ => absurd (by decide) q⟩
  · exact ⟨fun _ => h, fun q => absurd q (by decide), fun q => absurd q (by decide), fun q => absurd q (by decide), fun q => absurd q (by decide), fun q => absurd q (by decide), fun q => absurd q (by decide), fun q _ _ _ _ _ _ => absurd (by decide) q⟩
  · exact ⟨fun q => absurd q (by decide), fun q => absurd q (by decide), fun q => absurd q (by decide), fun q => absurd q (by decide), fun q => absurd q (by decide), fun q => absurd q (by decide), fun q => absurd q (by decide), fun _ _ _ _ _ _ _ => h⟩
theorem C_valueOf {i j : Nat} {x y hour : Int32} (hr : zsh r1 = .inr 1) (hx : x = nI j) (hj : j < 8) (hy : y = nI i) (hi : i < 6) (h : KI (vS (cI μ r1) i hour j) μ) : zcI (d + 2) mX3_valueOf [.int x, .ref r1, .int y, .int hour] μ KI X := by
  subst hx hy
  refine cX3_valueOf_ hr ?_
  unfold pX3_valueOf
  rw [tN_nI (by omega)]
  have n0 : ∀ a b, a < 100 → b < 100 → a ≠ b → ¬ nI a = nI b := fun a b h1 h2 h3 q => h3 ((n_eq (by omega) (by omega)).mp q)
  have q0 : ∀ b, b < 100 → j ≠ b → ¬ nI j = nI b := fun b h1 h2 => n0 j b (by omega) h1 h2
  refine ⟨fun q => ⟨vin hi, ?_⟩, fun q => C_weight hr rfl hi ?_, fun q => ⟨vin hi, ?_⟩, fun q => ⟨vin hi, ?_⟩, fun q => ⟨vin hi, ?_⟩, fun q => ?_, fun q => ?_, fun g0 g1 g2 g3 g4 g5 g6 => ⟨vin hi, ?_⟩⟩
  · have : j = 0 := (n_eq (b := 0) (by omega) (by omega)).mp q
    subst this; exact h
  · have : j = 1 := (n_eq (b := 1) (by omega) (by omega)).mp q
    subst this; exact h
  · have : j = 2 := (n_eq (b := 2) (by omega) (by omega)).mp q
    subst this; exact h
  · have : j = 3 := (n_eq (b := 3) (by omega) (by omega)).mp q
    subst this; exact h
  · have : j = 4 := (n_eq (b := 4) (by omega) (by omega)).mp q
    subst this; exact h
  · have : j = 5 := (n_eq (b := 5) (by omega) (by omega)).mp q
    subst this; exact h
  · have : j = 6 := (n_eq (b := 6) (by omega) (by omega)).mp q
    subst this; exact h
  · have : j = 7 := by
      have a0 : j ≠ 0 := fun e => g0 (by rw [e]; rfl)
      have a1 : j ≠ 1 := fun e => g1 (by rw [e]; rfl)
      have a2 : j ≠ 2 := fun e => g2 (by rw [e]; rfl)
      have a3 : j ≠ 3 := fun e => g3 (by rw [e]; rfl)
      have a4 : j ≠ 4 := fun e => g4 (by rw [e]; rfl)
      have a5 : j ≠ 5 := fun e => g5 (by rw [e]; rfl)
      have a6 : j ≠ 6 := fun e => g6 (by rw [e]; rfl)
      omega
    subst this; exact h
theorem cI_congr {μ' : zMem} {o : Nat} (h : ∀ k, 1 ≤ k → k ≤ 11 → ∀ j, μ' (o + k) j = μ (o + k) j) : cI μ' o = cI μ o := by
  funext i k
  unfold cI
  split
  · have := h (1 + k) (by omega) (by omega) i
    rw [show o + 1 + k = o + (1 + k) by omega]; exact this
  · exact h 11 (by omega) (by omega) _
theorem rule_apart {o r1 : Nat} (ho : zsh o = .inr 3) (hr : zsh r1 = .inr 1) : ∀ k, k ≤ 11 → r1 + k ≠ o + 2 := by
  intro k hk
  rcases zis3 o ho with rfl | rfl <;> rcases zis1 r1 hr with rfl | rfl | rfl | rfl | rfl <;> omega
theorem L_worth {μ0 : zMem} {T : Nat → Int32} {N i : Nat} {hour : Int32} (ho : zsh o = .inr 3) (hr : zsh r1 = .inr 1) (hN : N ≤ 700) (hc : μ0 o 1 = nI N) (hT : ∀ k, k < N → μ0 (o + 1) k = encC (T k)) (hi : i < 6)
    (hK : ∀ μ', Fr (fun c _ => c = o + 2) μ0 μ' → KI (evS (vS (cI μ0 r1) i hour) T N 0 0 (fun _ => 0)) μ' → True) :
    ∀ (m k h : Nat) (s : Nat → Int32) (μ : zMem), k + m = N → wfS T m k h → h ≤ 40 → (∀ j, j < h → μ (o + 2) j = s j) → Fr (fun c _ => c = o + 2) μ0 μ →
      (∀ μ', Fr (fun c _ => c = o + 2) μ0 μ' → KI (evS (vS (cI μ0 r1) i hour) T m k h s) μ') → pX3_worth_6 (m + 1) (d + 2) o r1 (nI i) hour (nI h) (nI k) μ KI X := by
  clear hK
  intro m
  induction m with
  | zero =>
    intro k h s μ hk hw hh hs hf hK
    have hcc : μ o 1 = nI N := by rw [hf o 1 (by omega)]; exact hc
    refine ⟨fun _ => ?_, fun q => absurd ?_ q⟩
    · have h1 : 1 ≤ h := hw
      have := hK μ hf
      show KI (μ (o + 2) 0) μ
      rw [hs 0 (by omega)]; exact this
    · rw [hcc]; exact (n_le (by omega) (by omega)).mpr (by omega)
  | succ m ih =>
    intro k h s μ hk hw hh hs hf hK
    have hcc : μ o 1 = nI N := by rw [hf o 1 (by omega)]; exact hc
    have hlt : ¬ μ o 1 ≤ nI k := by rw [hcc, n_le (by omega) (by omega)]; omega
    have hI : cI μ r1 = cI μ0 r1 := cI_congr fun k9 _ h9 j => hf _ _ (fun q => rule_apart ho hr k9 h9 q)
    have hTk : μ (o + 1) k = encC (T k) := by rw [hf _ _ (by omega)]; exact hT k (by omega)
    refine ⟨fun q => absurd q hlt, fun _ => ⟨vin (by omega), fun v hv => ?_⟩⟩
    rw [tN_nI (by omega), hTk] at hv
    subst hv
    -- the ways on
    have go : ∀ (h' : Nat) (s' : Nat → Int32) (μ' : zMem), wfS T m (k + 1) h' → h' ≤ 40 → (∀ j, j < h' → μ' (o + 2) j = s' j) → Fr (fun c _ => c = o + 2) μ0 μ' → evS (vS (cI μ0 r1) i hour) T (m + 1) k h s = evS (vS (cI μ0 r1) i hour) T m (k + 1) h' s' → ∀ y x, y = nI h' → x = nI k + 1 → pX3_worth_6 (m + 1) (d + 2) o r1 (nI i) hour y x μ' KI X := by
      intro h' s' μ' w1 w2 w3 w4 w5 y x ey ex
      rw [ey, ex, nI_1]
      exact ih (k + 1) h' s' μ' (by omega) w1 w2 w3 w4 (fun μ9 h9 => by rw [← w5]; exact hK μ9 h9)
    rcases hw with ⟨w1, w2, w3⟩ | ⟨w1, w2, w3⟩ | ⟨w1, w2, w3⟩
    · obtain ⟨a1, a2, a3, a4⟩ := va_op w1
      rw [a4]
      have push : ∀ (w : Int32) (μ1 : zMem), Fr (fun c _ => c = o + 2) μ0 μ1 → (∀ j, j < h → μ1 (o + 2) j = s j) → w = (if T k < 0 then vS (cI μ0 r1) i hour (-1 - T k).toNatClampNeg else T k) → pX3_worth_64 (d + 2) o r1 (nI i) hour (nI h) (nI k) w (nI h) μ1 KI X (fun z0 z1 z2 z3 m9 => pX3_worth_6 (m + 1) (d + 2) o r1 z0 z1 z2 z3 m9 KI X) := by
        intro w μ1 hf1 hs1 hw
        refine ⟨vin (by omega), fun m1 e1 v2 e2 v3 e3 => ?_⟩
        rw [tN_nI (by omega)] at e1
        refine go (h + 1) (upd s h w) m1 w3 (by omega) ?_ (by rw [e1]; exact hf1.tr (Fr.w rfl)) ?_ v2 v3 (by rw [e2, nI_1]) e3
        · intro j hj
          rw [e1]
          by_cases hjh : j = h
          · subst hjh; rw [zw_s]; unfold upd; rw [if_pos rfl]
          · rw [zw_j hjh]; unfold upd; rw [if_neg hjh]; exact hs1 j (by omega)
        · rw [hw]
          show (if -9 < T k then _ else _) = _
          exact if_pos w1
      refine ⟨fun q => absurd q a3, fun _ => ⟨fun q => absurd q ?_, fun _ => ⟨fun q => ?_, fun q => ?_⟩⟩⟩
      · rw [show (40 : Int32) = nI 40 from rfl, n_le (by omega) (by omega)]; omega
      · obtain ⟨j, hj, ej⟩ := va_neg w1 q
        refine C_valueOf (x := -1 - T k) hr ej hj rfl hi ?_
        refine push _ μ hf hs ?_
        rw [if_pos q, ej, tN_nI (by omega), hI]
      · exact push _ μ hf hs (by rw [if_neg q])
    · rw [w1]
      have e : encC (-28) = -100 := by decide
      rw [e]
      have not71 : pX3_worth_71 (d + 2) o r1 (nI i) hour (nI h) (nI k) (-100) μ KI X (fun z0 z1 z2 z3 m9 => pX3_worth_6 (m + 1) (d + 2) o r1 z0 z1 z2 z3 m9 KI X) := by
        refine ⟨fun _ => ⟨fun q => absurd q ?_, fun _ => ?_⟩, fun q => absurd rfl q⟩
        · rw [show (1 : Int32) = nI 1 from rfl, n_lt (by omega) (by omega)]; omega
        · rw [n_m1 w2, tN_nI (by omega)]
          refine ⟨vin (by omega), vin (by omega), fun m1 e1 v2 e2 => ?_⟩
          refine go h (upd s (h - 1) (ntS (s (h - 1)))) m1 w3 hh ?_ (by rw [e1]; exact hf.tr (Fr.w rfl)) ?_ _ v2 rfl e2
          · intro j hj
            rw [e1]
            by_cases hjh : j = h - 1
            · subst hjh; rw [zw_s, hs _ hj]; unfold upd ntS; rw [if_pos rfl]
            · rw [zw_j hjh]; unfold upd; rw [if_neg hjh]; exact hs j hj
          · show (if -9 < T k then _ else if T k = -28 then _ else _) = _
            rw [if_neg (by rw [w1]; decide), if_pos w1]
      exact ⟨fun _ => not71, fun q => absurd (by decide) q⟩
    · obtain ⟨b1, b2, b3⟩ := op_va w1
      have hq : encC (T k) < -8 ∧ ¬ encC (T k) = -100 := by
        rcases w1 with q | q | q | q | q | q | q | q <;> rw [q] <;> decide
      refine ⟨fun _ => ⟨fun q => absurd q hq.2, fun _ => ⟨fun q => absurd q ?_, fun _ v2 e2 => ?_⟩⟩, fun q => absurd hq.1 q⟩
      · rw [show (2 : Int32) = nI 2 from rfl, n_lt (by omega) (by omega)]; omega
      · rw [n_p, n_m1 (by omega)] at e2
        subst e2
        rw [n_m1 (by omega), tN_nI (by omega), tN_nI (by omega)]
        refine ⟨vin (by omega), vin (by omega), C_join rfl w1 ⟨vin (by omega), fun m5 e5 v6 e6 => ?_⟩⟩
        refine go (h - 1) (upd s (h - 2) (jnS (T k) (s (h - 2)) (s (h - 1)))) m5 w3 (by omega) ?_ (by rw [e5]; exact hf.tr (Fr.w rfl)) ?_ _ v6 rfl e6
        · intro j hj
          rw [e5]
          have e8 : h - 1 - 1 = h - 2 := by omega
          rw [e8, hs _ (by omega), hs _ (by omega)]
          by_cases hjh : j = h - 2
          · subst hjh; rw [zw_s]; unfold upd; rw [if_pos rfl]
          · rw [zw_j hjh]; unfold upd; rw [if_neg hjh]; exact hs j (by omega)
        · show (if -9 < T k then _ else if T k = -28 then _ else _) = _
          rw [if_neg b1, if_neg b2]
theorem C_worth {T : Nat → Int32} {N i : Nat} {x hour : Int32} (ho : zsh o = .inr 3) (hr : zsh r1 = .inr 1) (hN : N ≤ 700) (hc : μ o 1 = nI N) (hT : ∀ k, k < N → μ (o + 1) k = encC (T k)) (hw : wfS T N 0 0) (hx : x = nI i) (hi : i < 6)
    (hK : ∀ μ', Fr (fun c _ => c = o + 2) μ μ' → KI (evS (vS (cI μ r1) i hour) T N 0 0 (fun _ => 0)) μ') : zcI (d + 3) mX3_worth [.ref o, .ref r1, .int x, .int hour] μ KI X := by
  subst hx
  refine cX3_worth_ ho hr ⟨N + 1, ?_⟩
  exact L_worth ho hr hN hc hT hi (fun _ _ _ => trivial) N 0 0 _ μ (by omega) hw (by omega) (fun j hj => absurd hj (by omega)) Fr.rf hK
end Rule
