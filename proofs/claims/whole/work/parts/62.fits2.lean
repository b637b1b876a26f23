section Fits2
variable {d : Nat} {μ : zMem} {KI : Int32 → zMem → Prop} {KV : zMem → Prop} {X : Nat → zMem → Prop} {n : Nat} {S : zSky} {D : Nat → Int32} {tn : Nat} {tb : Nat → Int32} {F : Int32} {T T' : zT} {K : Option (Nat → Int32)} {M : Option zT}
theorem ftOK_0 {c : Nat} : ftOK c (0, -1) := ⟨Nat.zero_le _, ⟨fun _ => rfl, fun _ => rfl⟩⟩
theorem ftI_1 {i r m y : Nat} {p : Nat × Int32} (z : asS S T.2.2.2.2.2 (zset T.1 i 3 (nI (r + y))) T.2.2.2.2.1 0 = 0) : ftI S T i r (m + 1) y p = ftI S T i r m (y + 1) p := by
  show ftI S T i r m (y + 1) (if _ then _ else _) = _
  rw [if_pos z]
theorem ftI_2 {i r m y : Nat} {p : Nat × Int32} (z : ¬ asS S T.2.2.2.2.2 (zset T.1 i 3 (nI (r + y))) T.2.2.2.2.1 0 = 0) : ftI S T i r (m + 1) y p = ftI S T i r m (y + 1) (p.1 + 1, if p.1 = 0 then nI (10 * i + y) else p.2) := by
  show ftI S T i r m (y + 1) (if _ then _ else _) = _
  rw [if_neg z]
theorem ftI_ok {i r : Nat} (hi : i ≤ 6) : ∀ (m y c : Nat) (p : Nat × Int32), y + m ≤ 100 → ftOK c p → ftOK (c + m) (ftI S T i r m y p) := by
  intro m
  induction m with
  | zero => intro y c p _ h; exact h
  | succ m ih =>
    intro y c p hy h
    by_cases z : asS S T.2.2.2.2.2 (zset T.1 i 3 (nI (r + y))) T.2.2.2.2.1 0 = 0
    · rw [ftI_1 z, show c + (m + 1) = (c + 1) + m by omega]
      exact ih (y + 1) (c + 1) p (by omega) (ftOK_m h (by omega))
    · rw [ftI_2 z, show c + (m + 1) = (c + 1) + m by omega]
      exact ih (y + 1) (c + 1) _ (by omega) (ftOK_s h (by omega) (by omega))
theorem nI0 {k : Nat} (hk : k < 2 ^ 31) : nI k = 0 ↔ k = 0 := n_eq (b := 0) hk (by omega)
theorem ftR_e {i r : Nat} (hr : r ≤ 60) (e : T.1 i 3 = nI r) : ftR T i = r := by
  unfold ftR
  rw [e, n_i (by omega)]; omega
theorem L_fitC {w : Int32} {i r : Nat} {μ0 : zMem} {C : Int32 → Int32 → Int32 → Int32 → zMem → Prop} (hi : i < n) (hr2 : r ≤ 60) (er : T.1 i 3 = nI r) (hW : QW n S D tn T K M) (hC : QC μ0 n S D tn tb F T K M) : ∀ (m y c : Nat) (p : Nat × Int32) (I : zI) (μ : zMem), y + m = min 9 (60 - r) + 1 → c + m ≤ 100 → ftOK c p → Fr zScC μ0 μ → IsC μ 80 n I → zset I i 3 0 = zset T.1 i 3 0 →
    (∀ μ', Fr zScC μ0 μ' → IsC μ' 80 n T.1 → C w (nI (ftI S T i r m y p).1) (ftI S T i r m y p).2 (nI (i + 1)) μ') → pX8_fits_56 (m + 1) (d + 7) w (nI p.1) p.2 (nI i) (nI r) (nI y) μ KI X C := by
  have n6 := hW.1
  intro m
  induction m with
  | zero =>
    intro y c p I μ hy hc hp hf hI hz hK
    have fin : pX8_fits_121 (d + 7) w (nI p.1) p.2 (nI i) (nI r) μ KI X C := by
      refine ⟨vin (by omega), fun m1 e1 v2 e2 => ?_⟩
      rw [tN_nI (by omega)] at e1
      rw [nI_1] at e2
      subst e2
      have eI : zset I i 3 (nI r) = T.1 := by rw [← zset2 (I := I) (u := 0), hz, zset2, ← er, zset_id]
      refine hK m1 (hf.tr (by rw [e1]; exact Fr.w (by unfold zScC; omega))) ?_
      rw [e1]
      exact IsC_w (o := 80) (k := 3) hI (by omega) fun a ha b hb => by rw [eI]
    refine ⟨fun _ => fin, fun z1 => ⟨fun _ => fin, fun z2 => absurd ?_ z2⟩⟩
    rw [show (9 : Int32) = nI 9 from rfl, n_lt (by omega) (by omega)] at z1
    rw [nI_add, show (60 : Int32) = nI 60 from rfl, n_lt (by omega) (by omega)]; omega
  | succ m ih =>
    intro y c p I μ hy hc hp hf hI hz hK
    refine ⟨fun z => absurd z (by rw [show (9 : Int32) = nI 9 from rfl, n_lt (by omega) (by omega)]; omega), fun _ => ⟨fun z => absurd z (by rw [nI_add, show (60 : Int32) = nI 60 from rfl, n_lt (by omega) (by omega)]; omega), fun _ => ⟨vin (by omega), fun m1 e1 => ?_⟩⟩⟩
    rw [tN_nI (by omega), nI_add] at e1
    have f1 : Fr zScC μ m1 := by rw [e1]; exact Fr.w (by unfold zScC; omega)
    have eI : zset I i 3 (nI (r + y)) = zset T.1 i 3 (nI (r + y)) := by rw [← zset2 (I := I) (u := 0), hz, zset2]
    have I1 : IsC m1 80 n (zset T.1 i 3 (nI (r + y))) := by
      rw [e1]
      exact IsC_w (o := 80) (k := 3) hI (by omega) fun a ha b hb => by rw [eI]
    refine C_allSeen hW hC (hf.tr f1) I1 (fun m2 f2 I2 => ⟨fun z v4 e4 => ?_, fun z v5 e5 v6 e6 v7 e7 => ?_⟩)
    · rw [nI_1] at e4
      subst e4
      refine ih (y + 1) (c + 1) p _ m2 (by omega) (by omega) (ftOK_m hp (by omega)) f2 I2 (by rw [zset2]) (fun μ' f' i' => ?_)
      have := hK μ' f' i'
      rw [ftI_1 z] at this; exact this
    · rw [nI_1] at e6 e7
      rw [e10i] at e5
      have hp1 := hp.1
      have e5' : v5 = (if p.1 = 0 then nI (10 * i + y) else p.2) := by
        rw [e5]
        by_cases q : p.1 = 0
        · rw [if_pos q, if_pos ((nI0 (by omega)).mpr q)]
        · rw [if_neg q, if_neg (fun s => q ((nI0 (by omega)).mp s))]
      subst e6 e7 e5'
      refine ih (y + 1) (c + 1) (p.1 + 1, if p.1 = 0 then nI (10 * i + y) else p.2) _ m2 (by omega) (by omega) (ftOK_s hp (by omega) (by omega)) f2 I2 (by rw [zset2]) (fun μ' f' i' => ?_)
      have := hK μ' f' i'
      rw [ftI_2 z] at this; exact this
theorem L_fitC2 {w : Int32} {μ0 : zMem} (hW : QW n S D tn T K M) (hC : QC μ0 n S D tn tb F T K M) : ∀ (m i c : Nat) (p : Nat × Int32) (μ : zMem), i + m = n → c + 9 * m ≤ 80 → ftOK c p → Fr zScC μ0 μ → IsC μ 80 n T.1 →
    (∀ μ', Fr zScC μ0 μ' → KI (if w = 0 then nI (ftO S T m i p).1 else (ftO S T m i p).2) μ') → pX8_fits_26 (m + 1) (d + 7) w (nI p.1) p.2 (nI i) μ KI X := by
  have n6 := hW.1
  intro m
  induction m with
  | zero =>
    intro i c p μ hi hc hp hf hI hK
    exact ⟨fun _ => hK μ hf, fun z => absurd (by rw [hI.1]; exact (n_le (by omega) (by omega)).mpr (by omega)) z⟩
  | succ m ih =>
    intro i c p μ hi hc hp hf hI hK
    refine ⟨fun z => absurd z (by rw [hI.1, n_le (by omega) (by omega)]; omega), fun _ => ⟨vin (by omega), fun v1 e1 => ?_⟩⟩
    have rk := hW.rK (i := i) (by omega)
    unfold rowK at rk
    obtain ⟨r, hr, er⟩ := vWh.get (m := 61) (w := T.1 i 3) (by unfold vWh; omega)
    rw [er, n_i (by omega)] at rk
    have e1' : v1 = nI r := by
      rw [e1, tN_nI (by omega), ← er]
      exact (hC.q hf).I.lo (k := 3) (by omega) (by omega)
    subst e1'
    refine ⟨min 9 (60 - r) + 1, L_fitC (by omega) (by omega) er hW hC (min 9 (60 - r)) 1 c p T.1 μ (by omega) (by omega) hp hf hI rfl (fun m2 f2 I2 => ?_)⟩
    have ok := ftI_ok (S := S) (T := T) (i := i) (r := r) (by omega) (min 9 (60 - r)) 1 c p (by omega) hp
    refine ih (i + 1) (c + 9) _ m2 (by omega) (by omega) (ftOK_m ok (by omega)) f2 I2 (fun μ' f' => ?_)
    have := hK μ' f'
    rw [show ftO S T (m + 1) i p = ftO S T m (i + 1) (ftI S T i (ftR T i) (min 9 (60 - ftR T i)) 1 p) from rfl, ftR_e (by omega) er] at this
    exact this
theorem C_fits {x1 : Int32} (hW : QW n S D tn T K M) (hC : QC μ n S D tn tb F T K M) (h0 : ¬ vWh 2 x1 → X 0 μ) (h1 : vWh 2 x1 → ∀ m, Fr zScC μ m → KI (sFit S T n x1) m) : zcI (d + 8) mX8_fits [.ref 0, .int x1] μ KI X := by
  have n6 := hW.1
  exact cX8_fits_ (C_needWhat (m := 2) (by decide) h0 (fun q => C_copyNow hW hC (fun m2 f2 g2 I2 => ⟨n + 1, L_fitC2 hW hC n 0 0 (0, -1) m2 (by omega) (by omega) ftOK_0 f2 I2 (fun μ' f' => h1 q μ' f')⟩)))
theorem L_fitR {w : Int32} {i r : Nat} {μ0 : zMem} {C : Int32 → Int32 → Int32 → Int32 → zMem → Prop} (hi : i < n) (hr2 : r ≤ 60) (er : T.1 i 3 = nI r) (hW : QW n S D tn T K M) (hR : QR μ0 n S D tn tb F T K M) : ∀ (m y c : Nat) (p : Nat × Int32) (I : zI) (μ : zMem), y + m = min 9 (60 - r) + 1 → c + m ≤ 100 → ftOK c p → Fr zTry μ0 μ → isl μ n I → μ 106 3 = 0 → zset I i 3 0 = zset T.1 i 3 0 →
    (∀ μ', Fr zTry μ0 μ' → isl μ' n T.1 → μ' 106 3 = 0 → C w (nI (ftI S T i r m y p).1) (ftI S T i r m y p).2 (nI (i + 1)) μ') → pX9_fits_50 (m + 1) (d + 7) w (nI p.1) p.2 (nI i) (nI r) (nI y) μ KI X C := by
  have n6 := hW.1
  intro m
  induction m with
  | zero =>
    intro y c p I μ hy hc hp hf hI hk hz hK
    have fin : pX9_fits_116 (d + 7) w (nI p.1) p.2 (nI i) (nI r) μ KI X C := by
      refine R_set rfl rfl (by omega) (k := 3) (by omega) (fun m1 e1 v2 e2 => ?_)
      rw [nI_1] at e2
      subst e2
      have eI : zset I i 3 (nI r) = T.1 := by rw [← zset2 (I := I) (u := 0), hz, zset2, ← er, zset_id]
      refine hK m1 (hf.tr (by rw [e1]; exact Fr.w (Or.inr rfl))) ?_ (by rw [e1, zw_c (by omega)]; exact hk)
      have := hI.set (i := i) (v := nI r) (k := 3) (by omega)
      rw [eI] at this
      rw [e1]; exact this
    refine ⟨fun _ => fin, fun z1 => ⟨fun _ => fin, fun z2 => absurd ?_ z2⟩⟩
    rw [show (9 : Int32) = nI 9 from rfl, n_lt (by omega) (by omega)] at z1
    rw [nI_add, show (60 : Int32) = nI 60 from rfl, n_lt (by omega) (by omega)]; omega
  | succ m ih =>
    intro y c p I μ hy hc hp hf hI hk hz hK
    refine ⟨fun z => absurd z (by rw [show (9 : Int32) = nI 9 from rfl, n_lt (by omega) (by omega)]; omega), fun _ => ⟨fun z => absurd z (by rw [nI_add, show (60 : Int32) = nI 60 from rfl, n_lt (by omega) (by omega)]; omega), fun _ => R_set rfl rfl (by omega) (k := 3) (by omega) (fun m1 e1 => ?_)⟩⟩
    rw [nI_add] at e1
    have f1 : Fr zTry μ0 m1 := hf.tr (by rw [e1]; exact Fr.w (Or.inr rfl))
    have eI : zset I i 3 (nI (r + y)) = zset T.1 i 3 (nI (r + y)) := by rw [← zset2 (I := I) (u := 0), hz, zset2]
    have I1 : isl m1 n (zset T.1 i 3 (nI (r + y))) := by
      rw [e1, ← eI]; exact hI.set (by omega)
    have k1 : m1 106 3 = 0 := by rw [e1, zw_c (by omega)]; exact hk
    refine R_asSeen hW hR f1 I1 k1 (fun m2 f2 I2 k2 => ⟨fun z v4 e4 => ?_, fun z v6 e6 v5 e5 v7 e7 => ?_⟩)
    · rw [nI_1] at e4
      subst e4
      refine ih (y + 1) (c + 1) p _ m2 (by omega) (by omega) (ftOK_m hp (by omega)) f2 I2 k2 (by rw [zset2]) (fun μ' f' i' k' => ?_)
      have := hK μ' f' i' k'
      rw [ftI_1 z] at this; exact this
    · rw [nI_1] at e6 e7
      rw [e10i] at e5
      have hp1 := hp.1
      have e5' : v5 = (if p.1 = 0 then nI (10 * i + y) else p.2) := by
        rw [e5]
        by_cases q : p.1 = 0
        · rw [if_pos q, if_pos (hp.2.mp q)]
        · rw [if_neg q, if_neg (fun s => q (hp.2.mpr s))]
      subst e6 e7 e5'
      refine ih (y + 1) (c + 1) (p.1 + 1, if p.1 = 0 then nI (10 * i + y) else p.2) _ m2 (by omega) (by omega) (ftOK_s hp (by omega) (by omega)) f2 I2 k2 (by rw [zset2]) (fun μ' f' i' k' => ?_)
      have := hK μ' f' i' k'
      rw [ftI_2 z] at this; exact this
theorem L_fitR2 {w : Int32} {μ0 : zMem} (hW : QW n S D tn T K M) (hR : QR μ0 n S D tn tb F T K M) : ∀ (m i c : Nat) (p : Nat × Int32) (μ : zMem), i + m = n → c + 9 * m ≤ 80 → ftOK c p → Fr zTry μ0 μ → isl μ n T.1 → μ 106 3 = 0 →
    (∀ μ', Fr zTry μ0 μ' → isl μ' n T.1 → μ' 106 3 = 0 → KI (if w = 0 then nI (ftO S T m i p).1 else (ftO S T m i p).2) μ') → pX9_fits_27 (m + 1) (d + 7) w (nI p.1) p.2 (nI i) μ KI X := by
  have n6 := hW.1
  intro m
  induction m with
  | zero =>
    intro i c p μ hi hc hp hf hI hk hK
    exact ⟨fun _ => hK μ hf hI hk, fun z => absurd (by rw [(hR.sky hf).2.1]; exact (n_le (by omega) (by omega)).mpr (by omega)) z⟩
  | succ m ih =>
    intro i c p μ hi hc hp hf hI hk hK
    refine ⟨fun z => absurd z (by rw [(hR.sky hf).2.1, n_le (by omega) (by omega)]; omega), fun _ => R_of rfl rfl (by omega) (k := 3) (by omega) ?_⟩
    have rk := hW.rK (i := i) (by omega)
    unfold rowK at rk
    obtain ⟨r, hr, er⟩ := vWh.get (m := 61) (w := T.1 i 3) (by unfold vWh; omega)
    rw [er, n_i (by omega)] at rk
    have e1' : rI μ i 3 = nI r := by rw [← er]; exact hI i (by omega) 3 (by omega)
    rw [e1']
    refine ⟨min 9 (60 - r) + 1, L_fitR (by omega) (by omega) er hW hR (min 9 (60 - r)) 1 c p T.1 μ (by omega) (by omega) hp hf hI hk rfl (fun m2 f2 I2 k2 => ?_)⟩
    have ok := ftI_ok (S := S) (T := T) (i := i) (r := r) (by omega) (min 9 (60 - r)) 1 c p (by omega) hp
    refine ih (i + 1) (c + 9) _ m2 (by omega) (by omega) (ftOK_m ok (by omega)) f2 I2 k2 (fun μ' f' i' k' => ?_)
    have := hK μ' f' i' k'
    rw [show ftO S T (m + 1) i p = ftO S T m (i + 1) (ftI S T i (ftR T i) (min 9 (60 - ftR T i)) 1 p) from rfl, ftR_e (by omega) er] at this
    exact this
theorem R_fits {x1 : Int32} (hW : QW n S D tn T K M) (hR : QR μ n S D tn tb F T K M) (h0 : ¬ vWh 2 x1 → ∀ m, Fr zScR μ m → m 106 3 = 1 → KI 0 m) (h1 : vWh 2 x1 → ∀ m, Fr zRef μ m → QR m n S D tn tb F T K M → m 106 3 = 0 → KI (sFit S T n x1) m) : zcI (d + 8) mX9_fits [.ref 106, .int x1] μ KI X := by
  have n6 := hW.1
  refine cX9_fits_ (fun m1 e1 => ?_)
  have f1 : Fr zScR μ m1 := by rw [e1]; exact code_q
  have k1 : m1 106 3 = 0 := by rw [e1, zw_s]
  have hR1 := hR.q f1
  have bad : ¬ vWh 2 x1 → pX9_fits_14 (d + 7) m1 KI X := fun q => R_fail (fun m e => h0 q m (f1.tr (by rw [e]; exact code_q)) (by rw [e, zw_s]))
  refine ⟨fun z => bad fun q => ?_, fun z => ⟨fun z2 => ?_, fun z2 => bad fun q => ?_⟩⟩
  · rw [i_lt, i_0] at z; unfold vWh at q; omega
  · have hw : vWh 2 x1 := by rw [i_lt, i_0] at z; rw [i_le, i_1] at z2; unfold vWh; omega
    refine ⟨n + 1, L_fitR2 hW hR1 n 0 0 (0, -1) m1 (by omega) (by omega) ftOK_0 Fr.rf hR1.il k1 (fun μ' f' i' k' => ?_)⟩
    exact h1 hw μ' ((zScR_r f1).tr (zTry_r f')) (hR1.back f' i') k'
  · rw [i_le, i_1] at z2; unfold vWh at q; omega
theorem P_fits {x1 : Int32} (h : QS μ n S D tn tb F T K M) : PI (d + 8) mX8_fits mX9_fits [.ref 0, .int x1] [.ref 106, .int x1] c10 μ := by
  intro KI X hK hX
  exact C_fits h.1 h.2.1 (fun q => hX _ _ Fr.rf (fun m2 g => R_fits h.1 (h.2.2.r (Fr.rf (P := zCls)) g) (fun _ m f e => ⟨e, h.q Fr.rf g f⟩) (fun a => absurd a q)) (by decide))
    (fun a m1 f1 => hK _ _ (zScC_c f1) (fun m2 g => R_fits h.1 (h.2.2.r (zScC_c f1) g) (fun q => absurd a q) (fun _ m f q e3 => ⟨e3, rfl, QS.t h.1 (h.2.1.q f1) g f q⟩)))
end Fits2
