theorem zset_back {V : zI} {i k : Nat} {x : Int32} : zset (zset V i k x) i k (V i k) = V := by
  funext a b
  unfold zset
  by_cases q : a = i ∧ b = k
  · rw [if_pos q, q.1, q.2]
  · rw [if_neg q, if_neg q]
def tRef (T : zT) (j : Nat) : zT := (T.1, (fun k => if k = j then T.2.1 k + 1 else T.2.1 k), T.2.2)
section Acts
variable {d : Nat} {μ : zMem} {KI : Int32 → zMem → Prop} {KV : zMem → Prop} {X : Nat → zMem → Prop} {n : Nat} {S : zSky} {D : Nat → Int32} {tn : Nat} {tb : Nat → Int32} {F : Int32} {T T' : zT} {K : Option (Nat → Int32)} {M : Option zT}
theorem QW.t (h : QW n S D tn T K M) (t : TW n T') : QW n S D tn T' K M := ⟨h.1, h.2.1, h.2.2.1, h.2.2.2.1, h.2.2.2.2.1, t, h.2.2.2.2.2.2⟩
theorem QW.tw (h : QW n S D tn T K M) : TW n T := h.2.2.2.2.2.1
theorem QS.t {m1 m2 m3 : zMem} (hW : QW n S D tn T K M) (hC : QC m1 n S D tn tb F T K M) (g : Fr z143 m1 m2) (f : Fr zRef m2 m3) (hR : QR m3 n S D tn tb F T K M) : QI m3 ∧ Fr zRef m2 m3 :=
  ⟨⟨n, S, D, tn, tb, F, T, K, M, hW, hC.r g f, hR⟩, f⟩
theorem QC.t {μ' : zMem} (h : QC μ n S D tn tb F T K M) (e : ∀ c j, c ≤ 105 → ¬ (46 ≤ c ∧ c ≤ 62) → ¬ zScC c j → μ' c j = μ c j) (t : TC 46 μ' n T') : QC μ' n S D tn tb F T' K M := by
  obtain ⟨⟨h1, h2, h3, h4, h5, h6⟩, ⟨h7, h8⟩, h9, h10, h11, h12⟩ := h
  have z4 : zsk μ' 0 4 = zsk μ 0 4 := by unfold zsk; rw [e 0 4 (by omega) (by omega) (by unfold zScC; omega)]
  have z5 : zsk μ' 0 5 = zsk μ 0 5 := by unfold zsk; rw [e 0 5 (by omega) (by omega) (by unfold zScC; omega)]
  have sr := sky_rng (zsk_sh μ 0 4)
  refine ⟨?_, ⟨by rw [e _ _ (by omega) (by omega) (by unfold zScC; omega)]; exact h7, fun j hj => by rw [e _ _ (by omega) (by omega) (by unfold zScC; omega)]; exact h8 j hj⟩, by rw [e _ _ (by omega) (by omega) (by unfold zScC; omega)]; exact h9, t, ?_, ?_⟩
  · rw [z4, z5]
    refine ⟨h1.go fun c j q => e _ _ (by omega) (by omega) (by unfold zScC; omega), h2, ?_, ?_, ?_, fun j hj => ?_⟩
    · rw [e _ _ (by omega) (by omega) (by unfold zScC; omega)]; exact h3
    · rw [e _ _ (by omega) (by omega) (by unfold zScC; omega)]; exact h4
    · rw [e _ _ (by omega) (by omega) (by unfold zScC; omega)]; exact h5
    · rw [e _ _ (by omega) (by omega) (by unfold zScC; omega)]; exact h6 j hj
  · cases K with
    | none => show μ' 98 4 = 0; rw [e _ _ (by omega) (by omega) (by unfold zScC; omega)]; exact h11
    | some ρ =>
      refine ⟨by rw [e _ _ (by omega) (by omega) (by unfold zScC; omega)]; exact h11.1, fun i hi => by rw [e _ _ (by omega) (by omega) (by unfold zScC; omega)]; exact h11.2 i hi⟩
  · cases M with
    | none => show μ' 0 8 = 0; rw [e _ _ (by omega) (by omega) (by unfold zScC; omega)]; exact h12
    | some T' =>
      exact ⟨by rw [e _ _ (by omega) (by omega) (by unfold zScC; omega)]; exact h12.1, h12.2.go fun c j q1 q2 => e _ _ (by omega) (by omega) (by unfold zScC; omega)⟩
/-- where the reference's live state lies -/
def zLiv (c j : Nat) : Prop := c = 111 ∨ c = 123 ∨ c = 129 ∨ c = 132 ∨ c = 133 ∨ c = 134 ∨ c = 116 ∨ (c = 106 ∧ (j = 27 ∨ j = 28 ∨ j = 29))
theorem QR.t {μ' : zMem} (h : QR μ n S D tn tb F T K M) (e : ∀ c j, 106 ≤ c → c ≤ 142 → ¬ zLiv c j → ¬ zScR c j → μ' c j = μ c j) (t : TRn μ' n T') : QR μ' n S D tn tb F T' K M := by
  obtain ⟨⟨h1, h2, h3⟩, ⟨h7, h8⟩, h9, h10, h11, h12⟩ := h
  have e' : ∀ c j, 106 ≤ c → c ≤ 142 → ¬ (zLiv c j ∨ zScR c j) → μ' c j = μ c j := fun c j a b z => e c j a b (fun y => z (Or.inl y)) (fun y => z (Or.inr y))
  refine ⟨⟨?_, ?_, ?_⟩, ⟨by rw [e' _ _ (by omega) (by omega) (by unfold zLiv zScR; omega)]; exact h7, fun j hj => by rw [e' _ _ (by omega) (by omega) (by unfold zLiv zScR; omega)]; exact h8 j hj⟩, by rw [e' _ _ (by omega) (by omega) (by unfold zLiv zScR; omega)]; exact h9, t, ?_, ?_⟩
  · rw [e' _ _ (by omega) (by omega) (by unfold zLiv zScR; omega)]; exact h1
  · exact h2.go fun c j q1 q2 q3 => e' _ _ (by omega) (by omega) (by unfold zLiv zScR; omega)
  · intro j hj1 hj2
    rw [e' _ _ (by omega) (by omega) (by unfold zLiv zScR; omega)]; exact h3 j hj1 hj2
  · cases K with
    | none => show μ' 106 36 = 0; rw [e' _ _ (by omega) (by omega) (by unfold zLiv zScR; omega)]; exact h11
    | some ρ =>
      refine ⟨by rw [e' _ _ (by omega) (by omega) (by unfold zLiv zScR; omega)]; exact h11.1, fun i hi => by rw [e' _ _ (by omega) (by omega) (by unfold zLiv zScR; omega)]; exact h11.2 i hi⟩
  · cases M with
    | none => show μ' 106 53 = 0; rw [e' _ _ (by omega) (by omega) (by unfold zLiv zScR; omega)]; exact h12
    | some T' =>
      exact ⟨by rw [e' _ _ (by omega) (by omega) (by unfold zLiv zScR; omega)]; exact h12.1, h12.2.go fun c j q => e' _ _ (by omega) (by omega) (by unfold zLiv zScR; omega)⟩
/-! refused -/
theorem TW.ref {j : Nat} (h : TW n T) : TW n (tRef T j) := h
theorem QC.ref {j : Nat} (h : QC μ n S D tn tb F T K M) : QC (zw μ 62 j (μ 62 j + 1)) n S D tn tb F (tRef T j) K M := by
  refine h.t (fun c k _ q _ => zw_c (by omega)) ?_
  obtain ⟨t1, t2, ⟨t3, t4⟩, ⟨t5, t6⟩, t7, t8⟩ := h.2.2.2.1
  refine ⟨t1.go fun c k q1 q2 => zw_c (by omega), fun k hk => ?_, ⟨?_, fun k hk => (t4 k hk).xt fun a _ => zw_c (by omega)⟩, ⟨?_, fun k hk => ?_⟩, ?_, fun k hk => ?_⟩
  · show zw μ 62 j (μ 62 j + 1) (46 + 16) k = (if k = j then T.2.1 k + 1 else T.2.1 k)
    by_cases q : k = j
    · subst q
      rw [if_pos rfl, ← t2 k hk]
      exact zw_s
    · rw [if_neg q, zw_j q]; exact t2 k hk
  · rw [zw_c (by omega)]; exact t3
  · rw [zw_c (by omega)]; exact t5
  · rw [zw_c (by omega)]; exact t6 k hk
  · rw [zw_c (by omega)]; exact t7
  · rw [zw_c (by omega), zw_c (by omega), zw_c (by omega)]; exact t8 k hk
theorem QR.ref {j : Nat} (h : QR μ n S D tn tb F T K M) : QR (zw μ 116 j (μ 116 j + 1)) n S D tn tb F (tRef T j) K M := by
  refine h.t (fun c k _ _ q _ => zw_c (fun z => q (by unfold zLiv; omega))) ?_
  obtain ⟨t1, t2, ⟨t3, t4⟩, ⟨t5, t6⟩, t7, t8⟩ := h.2.2.2.1
  refine ⟨fun i hi k hk => by rw [zw_c (by omega)]; exact t1 i hi k hk, fun k hk => ?_, ⟨by rw [zw_c (by omega)]; exact t3, fun a ha i hi k hk => by rw [zw_c (by omega)]; exact t4 a ha i hi k hk⟩, ⟨by rw [zw_c (by omega)]; exact t5, fun k hk => by rw [zw_c (by omega)]; exact t6 k hk⟩, by rw [zw_c (by omega)]; exact t7, fun k hk => by rw [zw_c (by omega), zw_c (by omega), zw_c (by omega)]; exact t8 k hk⟩
  show zw μ 116 j (μ 116 j + 1) 116 k = (if k = j then T.2.1 k + 1 else T.2.1 k)
  by_cases q : k = j
  · subst q
    rw [if_pos rfl, ← t2 k hk]
    exact zw_s
  · rw [if_neg q, zw_j q]; exact t2 k hk
/-! an act on the class's side, on the reference's side -/
theorem C_act {μ1 : zMem} {I' : zI} {x1 x2 x3 x4 x5 : Int32} (hW : QW n S D tn T K M) (hC : QC μ n S D tn tb F T K M) (f1 : ∀ c j, ¬ (47 ≤ c ∧ c ≤ 58) → μ1 c j = μ c j) (hI : IsC μ1 47 n I') (hA : ActR n (zrec x1 x2 x3 x4 x5) T.1 I')
    (h : ∀ μ', Fr zCls μ μ' → QC μ' n S D tn tb F (tPush T I') K M → (∀ c j, 47 ≤ c → c ≤ 58 → μ' c j = μ1 c j) → KV μ') : zcV (d + 2) mX5_keepAct [.ref 46, .int x1, .int x2, .int x3, .int x4, .int x5] μ1 KV X := by
  obtain ⟨t1, t2, ⟨t3, t4⟩, ⟨t5, t6⟩, t7, t8⟩ := hC.2.2.2.1
  refine C_keepAct (by decide +kernel) hW.tw.1 ⟨by rw [f1 _ _ (by omega)]; exact t3, fun j hj => (t4 j hj).xt fun k _ => f1 _ _ (by omega)⟩ hA (fun μ' f l => ?_)
  have g : ∀ c j, ¬ (47 ≤ c ∧ c ≤ 59) → ¬ (c = 46 ∧ j = 2) → μ' c j = μ c j := fun c j a b => by
    rw [f _ _ (by unfold zDrop; omega), f1 _ _ (by omega)]
  refine h μ' (fun c j z => g c j (fun y => z (by unfold zCls; omega)) (fun y => z (by unfold zCls; omega))) (hC.t (fun c j _ q _ => g c j (by omega) (by omega)) ⟨?_, fun k hk => ?_, l, ⟨?_, fun k hk => ?_⟩, ?_, fun k hk => ?_⟩) (fun c j a b => f _ _ (by unfold zDrop; omega))
  · exact hI.go fun c j a b => f _ _ (by unfold zDrop; omega)
  · rw [g _ _ (by omega) (by omega)]; exact t2 k hk
  · rw [g _ _ (by omega) (by omega)]; exact t5
  · rw [g _ _ (by omega) (by omega)]; exact t6 k hk
  · rw [g _ _ (by omega) (by omega)]; exact t7
  · rw [g _ _ (by omega) (by omega), g _ _ (by omega) (by omega), g _ _ (by omega) (by omega)]; exact t8 k hk
theorem R_keepNow {I' : zI} (hW : QW n S D tn T K M) (hR : QR μ n S D tn tb F T K M) (h : ∀ μ', Fr zKeep μ μ' → LgR μ' n (tPush T I') → KV μ') : zcV (d + 1) mX9_keep [.ref 106] μ KV X :=
  R_keep hW.1 hW.tw.1 hR.2.2.2.1.1 hR.2.2.2.1.2.2.1 h
theorem QR.act {μ1 μ2 : zMem} {I' : zI} (hR : QR μ n S D tn tb F T K M) (f : Fr zKeep μ μ1) (l : LgR μ1 n (tPush T I')) (f2 : ∀ c j, c ≠ 111 → μ2 c j = μ1 c j) (hI : ∀ i, i < n → ∀ k, k < 14 → μ2 111 (14 * i + k) = I' i k) : QR μ2 n S D tn tb F (tPush T I') K M := by
  obtain ⟨t1, t2, ⟨t3, t4⟩, ⟨t5, t6⟩, t7, t8⟩ := hR.2.2.2.1
  have g : ∀ c j, c ≠ 111 → c ≠ 123 → ¬ (c = 106 ∧ j = 27) → μ2 c j = μ c j := fun c j a b e => by rw [f2 _ _ a, f _ _ (by unfold zKeep; omega)]
  refine hR.t (fun c j _ _ q _ => g c j (fun z => q (by unfold zLiv; omega)) (fun z => q (by unfold zLiv; omega)) (fun z => q (by unfold zLiv; omega))) ⟨hI, fun k hk => ?_, ⟨?_, fun j hj i hi k hk => ?_⟩, ⟨?_, fun k hk => ?_⟩, ?_, fun k hk => ?_⟩
  · rw [g _ _ (by omega) (by omega) (by omega)]; exact t2 k hk
  · rw [f2 _ _ (by omega)]; exact l.1
  · rw [f2 _ _ (by omega)]; exact l.2 j hj i hi k hk
  · rw [g _ _ (by omega) (by omega) (by omega)]; exact t5
  · rw [g _ _ (by omega) (by omega) (by omega)]; exact t6 k hk
  · rw [g _ _ (by omega) (by omega) (by omega)]; exact t7
  · rw [g _ _ (by omega) (by omega) (by omega), g _ _ (by omega) (by omega) (by omega), g _ _ (by omega) (by omega) (by omega)]; exact t8 k hk
theorem zKeep_r {m1 m2 : zMem} (f : Fr zKeep m1 m2) : Fr zRef m1 m2 := f.mono fun c j q => by unfold zKeep at q; unfold zRef; omega
theorem isl_set {μ1 : zMem} {I : zI} {i k : Nat} {v : Int32} (hk : k < 14) (h : ∀ a, a < n → ∀ b, b < 14 → μ1 111 (14 * a + b) = I a b) : ∀ a, a < n → ∀ b, b < 14 → zw μ1 111 (14 * i + k) v 111 (14 * a + b) = zset I i k v a b := by
  intro a ha b hb
  by_cases q : a = i ∧ b = k
  · rw [q.1, q.2, zset_s, zw_s]
  · rw [zset_n q, zw_j (by omega)]; exact h a ha b hb
/-! one number of one isle -/
theorem rowK_set {I : zI} {i k : Nat} {v : Int32} (h : ∀ a, a < n → rowK I a) (hv : (k = 3 → 1 ≤ v.toInt ∧ v.toInt ≤ 60) ∧ (k = 9 → 0 ≤ v.toInt ∧ v.toInt ≤ 60) ∧ (k = 8 → 0 ≤ v.toInt ∧ v.toInt ≤ 9)) : ∀ a, a < n → rowK (zset I i k v) a := by
  intro a ha
  obtain ⟨h1, h2, h3, h4, h5, h6⟩ := h a ha
  unfold rowK zset
  refine ⟨?_, ?_, ?_, ?_, ?_, ?_⟩ <;> split <;> first | assumption | (rename_i q; have := q.2; omega)
end Acts
