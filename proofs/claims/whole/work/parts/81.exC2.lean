/-! EXPR: the class, loops -/
section ExC2
variable {d r : Nat} {μ : zMem} {KI : Int32 → zMem → Prop} {KV : zMem → Prop} {X : Nat → zMem → Prop} {N : Nat} {B : Nat → Nat}
theorem exLoop_0 {c : Nat → Option Int32} {body : zPF} {m p k : Nat} {T : Nat → Int32} (e : c p = none) : exLoop N B c body (m + 1) p k T = .inr (p, k, T) := by
  show (match c p with | none => (Sum.inr (p, k, T) : zPE) | some s => pb (body (tkN N B p) k T) (fun p' k' T' => exLoop N B c body m p' (k' + 1) (upd T' k' s))) = _
  rw [e]
theorem exLoop_1 {c : Nat → Option Int32} {body : zPF} {m p k : Nat} {T : Nat → Int32} {s : Int32} (e : c p = some s) : exLoop N B c body (m + 1) p k T = pb (body (tkN N B p) k T) (fun p' k' T' => exLoop N B c body m p' (k' + 1) (upd T' k' s)) := by
  show (match c p with | none => (Sum.inr (p, k, T) : zPE) | some s => pb (body (tkN N B p) k T) (fun p' k' T' => exLoop N B c body m p' (k' + 1) (upd T' k' s))) = _
  rw [e]
theorem EC.sgn {p k : Nat} {T : Nat → Int32} {y s : Int32} (h : EC r μ N B p k T) (hr : 5 < r) (h3 : zsh r = .inr 3) (hk : k < 700) (ex : -y = encC s) (hK : ∀ μ', Fr (zRd r) μ μ' → EC r μ' N B p (k + 1) (upd T k s) → KV μ') : zcV (d + 2) mX3_addSign [.ref r, .int y] μ KV X :=
  cX3_addSign_ h3 (h.add hr h3 hk ex hK)
/-- one round of a loop, when there is an operator -/
theorem C_round {c : Nat → Option Int32} {body : zPF} {n e m p k : Nat} {T : Nat → Int32} {s y w : Int32} {g gA : zMD} {fin : zMem → Prop} (hr : 5 < r) (gd : gdF N 0 n body) (hb : BC r N B (e + 10) g w X body) (ec : c p = some s) (lt : p < N) (h : EC r μ N B p k T) (hk : k ≤ p) (hC : CR r μ N B (exLoop N B c body (m + 1) p k T) KI)
    (hA : ∀ m2 p k T, EC r m2 N B p k T → k < 700 → (∀ μ', Fr (zRd r) m2 μ' → EC r μ' N B p (k + 1) (upd T k s) → fin μ') → zcV (e + 10) gA [.ref r, .int y] m2 (fun m4 => fin m4) X)
    (go : ∀ μ' p' k' T', EC r μ' N B p' k' T' → k' ≤ p' → CR r μ' N B (exLoop N B c body m p' k' T') KI → fin μ') :
    zcV (e + 10) mX6_step [.ref 3] μ (fun m1 => zcI (e + 10) g [.ref 2, .ref r, .int w] m1 (fun u3 m2 => ((u3 = 0 → KI 0 m2) ∧ (¬ (u3 = 0) → zcV (e + 10) gA [.ref r, .int y] m2 (fun m4 => fin m4) X))) X) X := by
  have hN := h.1.1
  have n1 := tkN_lt (N := N) (B := B) lt
  rw [exLoop_1 ec] at hC
  refine h.next hr (fun m1 f1 e1 => hb m1 _ k T _ e1 (by omega) ((CR.tr hC f1).pb (fun μ' f' y => ⟨fun _ => y, fun z => absurd rfl z⟩) (fun p1 k1 T1 er m2 f2 e2 c2 => ⟨fun z => absurd z (by decide), fun _ => ?_⟩)))
  have gg := gd _ _ _ _ _ _ e1.2.1.1 er
  exact hA m2 p1 k1 T1 e2 (by have := e2.2.1.1; have := gg.2.2.2.1; omega) (fun μ' f' e' => go μ' p1 (k1 + 1) _ e' (by have := gg.2.2.2.1; omega) (CR.tr c2 f'))
theorem L_prod {ex : zPF} {n e : Nat} {w : Int32} (hr : 5 < r) (h3 : zsh r = .inr 3) (gd : gdF N 0 n (exPart N B ex)) (hb : BC r N B (e + 10) mX2_readPart w X (exPart N B ex)) : ∀ (m i p k : Nat) (T : Nat → Int32) (μ : zMem), i + m = 700 → EC r μ N B p k T → k ≤ p → CR r μ N B (exLoop N B (cPr N B) (exPart N B ex) m p k T) KI → pX2_readProduct_13 (m + 1) (e + 10) 2 r w (nI i) μ KI X := by
  intro m
  induction m with
  | zero =>
    intro i p k T μ hi h hk hC
    exact ⟨fun _ => CR.ri hC Fr.rf h, fun z => absurd ((n_le (a := 700) (by omega) (by omega)).mpr (by omega)) z⟩
  | succ m ih =>
    intro i p k T μ hi h hk hC
    refine ⟨fun z => absurd ((n_le (a := 700) (by omega) (by omega)).mp z) (by omega), fun _ => ?_⟩
    show (μ 3 4 = 42 → _) ∧ (¬ μ 3 4 = 42 → (μ 3 4 = 47 → _) ∧ (¬ μ 3 4 = 47 → _))
    have e34 := h.2.1.2.2.2.1
    have go : ∀ (s : Int32) (x : Int32), cPr N B p = some s → μ 3 4 = x → -x = encC s → pX2_readProduct_44 (e + 10) 2 r w (nI i) μ KI X (fun z0 z1 m9 => pX2_readProduct_13 (m + 1) (e + 10) 2 r z0 z1 m9 KI X) := by
      intro s x ec em ex
      refine C_round (fin := fun μ' => ∀ v5 : Int32, v5 = nI i + 1 → pX2_readProduct_13 (m + 1) (e + 10) 2 r w v5 μ' KI X) hr gd hb ec (cPr_o ec).2 h hk hC (fun m2 p k T E' k7 hf => ?_) (fun μ' p' k' T' E' k2 c2 v5 e5 => ?_)
      · exact E'.sgn (d := e + 8) hr h3 k7 (by show -(μ 3 4) = _; rw [em]; exact ex) hf
      · rw [e5, nI_1]; exact ih (i + 1) p' k' T' μ' (by omega) E' k2 c2
    rw [e34, tkC_s (x := 42) (c := 42) rfl (by omega) (by omega), tkC_s (x := 47) (c := 47) rfl (by omega) (by omega)]
    refine ⟨fun q => ?_, fun q => ⟨fun q2 => ?_, fun q2 => ?_⟩⟩
    · exact go (-22) 42 (by unfold cPr; rw [if_pos q]) (by rw [e34]; exact (tkC_s (x := 42) (c := 42) rfl (by omega) (by omega)).mpr q) (by decide)
    · exact go (-23) 47 (by unfold cPr; rw [if_neg q, if_pos q2]) (by rw [e34]; exact (tkC_s (x := 47) (c := 47) rfl (by omega) (by omega)).mpr q2) (by decide)
    · rw [exLoop_0 (by unfold cPr; rw [if_neg q, if_neg q2])] at hC
      exact CR.ri hC Fr.rf h
end ExC2
