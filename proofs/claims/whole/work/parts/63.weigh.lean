section Weighed
variable {d : Nat} {μ : zMem} {KI : Int32 → zMem → Prop} {KV : zMem → Prop} {X : Nat → zMem → Prop} {n : Nat} {S : zSky} {D : Nat → Int32} {tn : Nat} {tb : Nat → Int32} {F : Int32} {T T' : zT} {K : Option (Nat → Int32)} {M : Option zT}
def wgS (S : zSky) (I : zI) (i : Nat) (hour high : Int32) : Nat → Nat → Nat × Int32 → Nat × Int32
  | 0, _, p => p
  | m + 1, y, p => wgS S I i hour high m (y + 1) (if sZ S (zset I i 7 (nI y)) i hour 0 = high then (p.1 + 1, if p.1 = 0 then nI (10 * 0 + y) else p.2) else p)
theorem wgS_1 {I : zI} {i m y : Nat} {hour high : Int32} {p : Nat × Int32} (z : sZ S (zset I i 7 (nI y)) i hour 0 = high) : wgS S I i hour high (m + 1) y p = wgS S I i hour high m (y + 1) (p.1 + 1, if p.1 = 0 then nI (10 * 0 + y) else p.2) := by
  show wgS S I i hour high m (y + 1) (if _ then _ else _) = _
  rw [if_pos z]
theorem wgS_2 {I : zI} {i m y : Nat} {hour high : Int32} {p : Nat × Int32} (z : ¬ sZ S (zset I i 7 (nI y)) i hour 0 = high) : wgS S I i hour high (m + 1) y p = wgS S I i hour high m (y + 1) p := by
  show wgS S I i hour high m (y + 1) (if _ then _ else _) = _
  rw [if_neg z]
def sWei (S : zSky) (I : zI) (i : Nat) (hour high w : Int32) : Int32 := if w = 0 then nI (wgS S I i hour high 61 0 (0, -1)).1 else (wgS S I i hour high 61 0 (0, -1)).2
theorem zset_z {I J : zI} {i k : Nat} {v : Int32} (h : zset I i k 0 = zset J i k 0) : zset I i k v = zset J i k v := by
  rw [← zset2 (I := I) (u := 0), h, zset2]
theorem e60n {y : Nat} (hy : y < 1000) : (60 : Int32) < nI y ↔ 60 < y := by rw [show (60 : Int32) = nI 60 from rfl, n_lt (by omega) (by omega)]
theorem L_weiC {w hour high : Int32} {i : Nat} {μ0 : zMem} (hi : i < n) (hW : QW n S D tn T K M) (hC : QC μ0 n S D tn tb F T K M) : ∀ (m y : Nat) (p : Nat × Int32) (I : zI) (μ : zMem), y + m = 61 → ftOK y p → Fr zScC μ0 μ → IsC μ 80 n I → zset I i 7 0 = zset T.1 i 7 0 →
    (∀ μ', Fr zScC μ0 μ' → KI (if w = 0 then nI (wgS S T.1 i hour high m y p).1 else (wgS S T.1 i hour high m y p).2) μ') → pX8_weighed_38 (m + 1) (d + 6 + 1) (nI i) hour high w (nI p.1) p.2 (nI y) μ KI X := by
  have n6 := hW.1
  intro m
  induction m with
  | zero =>
    intro y p I μ hy hp hf hI hz hK
    exact ⟨fun _ => hK μ hf, fun z => absurd ((e60n (by omega)).mpr (by omega)) z⟩
  | succ m ih =>
    intro y p I μ hy hp hf hI hz hK
    refine ⟨fun z => absurd ((e60n (by omega)).mp z) (by omega), fun _ => ⟨vin (by omega), fun m1 e1 => ?_⟩⟩
    rw [tN_nI (by omega)] at e1
    have f1 : Fr zScC μ m1 := by rw [e1]; exact Fr.w (by unfold zScC; omega)
    have I1 : IsC m1 80 n (zset T.1 i 7 (nI y)) := by
      rw [e1]
      exact IsC_w (o := 80) (k := 7) hI (by omega) fun a ha b hb => by rw [zset_z hz]
    refine C_high hW hC (hf.tr f1) I1 hi (fun m2 f2 I2 => ⟨fun z v5 e5 v6 e6 v7 e7 => ?_, fun z v4 e4 => ?_⟩)
    · rw [nI_1] at e6 e7
      have hp1 := hp.1
      have e5' : v5 = (if p.1 = 0 then nI (10 * 0 + y) else p.2) := by
        rw [e5, show 10 * 0 + y = y by omega]
        by_cases q : p.1 = 0
        · rw [if_pos q, if_pos ((nI0 (by omega)).mpr q)]
        · rw [if_neg q, if_neg (fun s => q ((nI0 (by omega)).mp s))]
      subst e6 e7 e5'
      refine ih (y + 1) (p.1 + 1, if p.1 = 0 then nI (10 * 0 + y) else p.2) _ m2 (by omega) (ftOK_s hp (by omega) (by omega)) f2 I2 (by rw [zset2]) (fun μ' f' => ?_)
      have := hK μ' f'
      rw [wgS_1 z] at this; exact this
    · rw [nI_1] at e4
      subst e4
      refine ih (y + 1) p _ m2 (by omega) (ftOK_m hp (by omega)) f2 I2 (by rw [zset2]) (fun μ' f' => ?_)
      have := hK μ' f'
      rw [wgS_2 z] at this; exact this
theorem C_weighed {x1 x2 x3 x4 : Int32} (hW : QW n S D tn T K M) (hC : QC μ n S D tn tb F T K M) (h0 : ¬ (vIs n x1 ∧ vHr x2 ∧ vWh 2 x4) → X 0 μ) (h1 : ∀ i, i < n → x1 = nI i → vHr x2 → vWh 2 x4 → ∀ m, Fr zScC μ m → KI (sWei S T.1 i x2 x3 x4) m) : zcI (d + 8) mX8_weighed [.ref 0, .int x1, .int x2, .int x3, .int x4] μ KI X := by
  have n6 := hW.1
  refine cX8_weighed_ (C_needIsle hC.cn n6 (fun q => h0 fun z => q z.1) (fun i hi e => C_needHour (fun q => h0 fun z => q z.2.1) (fun q2 => C_needWhat (m := 2) (by decide) (fun q => h0 fun z => q z.2.2) (fun q3 => C_copyNow hW hC (fun m2 f2 g2 I2 => ⟨61 + 1, ?_⟩)))))
  subst e
  exact L_weiC hi hW hC 61 0 (0, -1) T.1 m2 (by omega) ftOK_0 f2 I2 rfl (fun μ' f' => h1 i hi rfl q2 q3 μ' f')
theorem L_weiR {w hour high : Int32} {i : Nat} {μ0 : zMem} (hi : i < n) (hW : QW n S D tn T K M) (hR : QR μ0 n S D tn tb F T K M) : ∀ (m y : Nat) (p : Nat × Int32) (I : zI) (μ : zMem), y + m = 61 → ftOK y p → Fr zTry μ0 μ → isl μ n I → μ 106 3 = 0 → zset I i 7 0 = zset T.1 i 7 0 →
    (∀ μ', Fr zTry μ0 μ' → isl μ' n T.1 → μ' 106 3 = 0 → KI (if w = 0 then nI (wgS S T.1 i hour high m y p).1 else (wgS S T.1 i hour high m y p).2) μ') → pX9_weighed_55 (m + 1) (d + 6 + 1) (nI i) hour high w (T.1 i 7) (nI p.1) p.2 (nI y) μ KI X := by
  have n6 := hW.1
  intro m
  induction m with
  | zero =>
    intro y p I μ hy hp hf hI hk hz hK
    refine ⟨fun _ => R_set rfl rfl (by omega) (k := 7) (by omega) (fun m1 e1 => ?_), fun z => absurd ((e60n (by omega)).mpr (by omega)) z⟩
    refine hK m1 (hf.tr (by rw [e1]; exact Fr.w (Or.inr rfl))) ?_ (by rw [e1, zw_c (by omega)]; exact hk)
    have := hI.set (i := i) (v := T.1 i 7) (k := 7) (by omega)
    rw [zset_z hz, zset_id] at this
    rw [e1]; exact this
  | succ m ih =>
    intro y p I μ hy hp hf hI hk hz hK
    refine ⟨fun z => absurd ((e60n (by omega)).mp z) (by omega), fun _ => R_set rfl rfl (by omega) (k := 7) (by omega) (fun m1 e1 => ?_)⟩
    have f1 : Fr zTry μ0 m1 := hf.tr (by rw [e1]; exact Fr.w (Or.inr rfl))
    have I1 : isl m1 n (zset T.1 i 7 (nI y)) := by
      rw [e1, ← zset_z hz]; exact hI.set (by omega)
    refine R_hourTry hW hR f1 I1 (fun m2 f2 g2 => ⟨vin (by omega), ?_⟩)
    have hf2 := f1.tr (zTry_c f2)
    have k2 : m2 106 3 = 0 := by rw [zTell_c f2, e1, zw_c (by omega)]; exact hk
    have I2 : isl m2 n (zset T.1 i 7 (nI y)) := I1.go fun j => f2 _ _ (by unfold zTell; omega)
    have z2 : m2 122 i = sZ S (zset T.1 i 7 (nI y)) i hour 0 := (g2 i hi).2.2.1
    rw [tN_nI (by omega), z2]
    refine ⟨fun z v6 e6 v5 e5 v7 e7 => ?_, fun z v4 e4 => ?_⟩
    · rw [nI_1] at e6 e7
      have hp1 := hp.1
      have e5' : v5 = (if p.1 = 0 then nI (10 * 0 + y) else p.2) := by
        rw [e5, show 10 * 0 + y = y by omega]
        by_cases q : p.1 = 0
        · rw [if_pos q, if_pos (hp.2.mp q)]
        · rw [if_neg q, if_neg (fun s => q (hp.2.mpr s))]
      subst e6 e7 e5'
      refine ih (y + 1) (p.1 + 1, if p.1 = 0 then nI (10 * 0 + y) else p.2) _ m2 (by omega) (ftOK_s hp (by omega) (by omega)) hf2 I2 k2 (by rw [zset2]) (fun μ' f' i' k' => ?_)
      have := hK μ' f' i' k'
      rw [wgS_1 z] at this; exact this
    · rw [nI_1] at e4
      subst e4
      refine ih (y + 1) p _ m2 (by omega) (ftOK_m hp (by omega)) hf2 I2 k2 (by rw [zset2]) (fun μ' f' i' k' => ?_)
      have := hK μ' f' i' k'
      rw [wgS_2 z] at this; exact this
theorem R_weighed {x1 x2 x3 x4 : Int32} (hW : QW n S D tn T K M) (hR : QR μ n S D tn tb F T K M) (h0 : ¬ (vIs n x1 ∧ vHr x2 ∧ vWh 2 x4) → ∀ m, Fr zScR μ m → m 106 3 = 1 → KI 0 m) (h1 : ∀ i, i < n → x1 = nI i → vHr x2 → vWh 2 x4 → ∀ m, Fr zRef μ m → QR m n S D tn tb F T K M → m 106 3 = 0 → KI (sWei S T.1 i x2 x3 x4) m) : zcI (d + 8) mX9_weighed [.ref 106, .int x1, .int x2, .int x3, .int x4] μ KI X := by
  have n6 := hW.1
  refine cX9_weighed_ (fun m1 e1 => ?_)
  have f1 : Fr zScR μ m1 := by rw [e1]; exact code_q
  have k1 : m1 106 3 = 0 := by rw [e1, zw_s]
  have hR1 := hR.q f1
  have bad : ¬ (vIs n x1 ∧ vHr x2 ∧ vWh 2 x4) → pX9_weighed_31 (d + 7) m1 KI X := fun q => R_fail (fun m e => h0 q m (f1.tr (by rw [e]; exact code_q)) (by rw [e, zw_s]))
  refine R_isIsle hR1.cn n6 (b2i_go (fun q => bad fun z => q z.1) (fun q1 => R_isHour (b2i_go (fun q => bad fun z => q z.2.1) (fun q2 => ⟨fun z => bad fun q => ?_, fun z => ⟨fun z2 => ?_, fun z2 => bad fun q => ?_⟩⟩))))
  · have := q.2.2
    rw [i_lt, i_0] at z; unfold vWh at this; omega
  · have hw : vWh 2 x4 := by rw [i_lt, i_0] at z; rw [i_le, i_1] at z2; unfold vWh; omega
    obtain ⟨i, hi, e⟩ := q1.get
    subst e
    refine R_of rfl rfl (by omega) (k := 7) (by omega) ⟨61 + 1, ?_⟩
    rw [show rI m1 i 7 = T.1 i 7 from hR1.I.2 i hi 7 (by omega)]
    exact L_weiR hi hW hR1 61 0 (0, -1) T.1 m1 (by omega) ftOK_0 Fr.rf hR1.il k1 rfl (fun μ' f' i' k' => h1 i hi rfl q2 hw μ' ((zScR_r f1).tr (zTry_r f')) (hR1.back f' i') k')
  · have := q.2.2
    rw [i_le, i_1] at z2; unfold vWh at this; omega
theorem P_weighed {x1 x2 x3 x4 : Int32} (h : QS μ n S D tn tb F T K M) : PI (d + 8) mX8_weighed mX9_weighed [.ref 0, .int x1, .int x2, .int x3, .int x4] [.ref 106, .int x1, .int x2, .int x3, .int x4] c10 μ := by
  intro KI X hK hX
  have n6 := h.1.1
  refine C_weighed h.1 h.2.1 (fun q => hX _ _ Fr.rf (fun m2 g => R_weighed h.1 (h.2.2.r (Fr.rf (P := zCls)) g) (fun _ m f e => ⟨e, h.q Fr.rf g f⟩) (fun i hi e a b => absurd ⟨by rw [e]; exact vIs_n hi n6, a, b⟩ q)) (by decide))
    (fun i hi e a b m1 f1 => hK _ _ (zScC_c f1) (fun m2 g => R_weighed h.1 (h.2.2.r (zScC_c f1) g) (fun q => absurd ⟨by rw [e]; exact vIs_n hi n6, a, b⟩ q) (fun j hj e2 _ _ m f q e3 => ⟨e3, ?_, QS.t h.1 (h.2.1.q f1) g f q⟩)))
  cases nj hi hj n6 (e.symm.trans e2); rfl
end Weighed
