section More
variable {M : zMD} {d k pc : Nat} {L : List (Nat × Value)} {st : List Value} {μ : zMem} {K : zRes → zMem → Nat → Prop}
theorem zne {x v : Int32} {c : Int} (h : ¬ x = v) (hv : v.toInt = c) : x.toInt ≠ c := fun q => h (Int32.toInt_inj.mp (q.trans hv.symm))
theorem Wr_tswC {dflt lo hi : Int} {offs : Array Int} {len : Nat} {x : Int32} (v : Int32) (off : Int) (tgt : Nat) (hx : x = v) (hd : decode M.2.1 pc = .ok (.tableswitch dflt lo hi offs, len)) (h1 : ¬ v.toInt < lo) (h2 : ¬ hi < v.toInt) (ho : offs[(v.toInt - lo).toNat]? = some off) (ht : (pc : Int) + off = (tgt : Int)) (h : Wr M d k tgt L st μ K) : Wr M d k pc L (.int x :: st) μ K := by
  subst hx
  exact Wr_st (fun ad hx hb hl kk => lv_tableIn hx hb hd h1 h2 ho ht kk) h
theorem Wr_tswD {dflt lo hi : Int} {offs : Array Int} {len : Nat} {x : Int32} (tgt : Nat) (hx : x.toInt < lo ∨ hi < x.toInt) (hd : decode M.2.1 pc = .ok (.tableswitch dflt lo hi offs, len)) (ht : (pc : Int) + dflt = (tgt : Int)) (h : Wr M d k tgt L st μ K) : Wr M d k pc L (.int x :: st) μ K :=
  Wr_st (fun ad hx' hb hl kk => lv_tableOut hx' hb hd hx ht kk) h
theorem Wr_lsw {dflt : Int} {ps : Array (Int × Int)} {len : Nat} {x : Int32} (off : Int) (tgt : Nat) (hd : decode M.2.1 pc = .ok (.lookupswitch dflt ps, len)) (hp : (ps.toList.zip (ps.toList.drop 1)).all (fun (a, next) => a.1 < next.1) = true) (ho : Op.lookupswitch.offset ps.toList dflt x.toInt = off) (ht : (pc : Int) + off = (tgt : Int)) (h : Wr M d k tgt L st μ K) : Wr M d k pc L (.int x :: st) μ K :=
  Wr_st (fun ad hx hb hl kk => lv_lookup hx hb hd hp ho ht kk) h
theorem Wr_lswC {dflt : Int} {ps : Array (Int × Int)} {len : Nat} {x : Int32} (v : Int32) (off : Int) (tgt : Nat) (hx : x = v) (hd : decode M.2.1 pc = .ok (.lookupswitch dflt ps, len)) (hp : (ps.toList.zip (ps.toList.drop 1)).all (fun (a, next) => a.1 < next.1) = true) (ho : Op.lookupswitch.offset ps.toList dflt v.toInt = off) (ht : (pc : Int) + off = (tgt : Int)) (h : Wr M d k tgt L st μ K) : Wr M d k pc L (.int x :: st) μ K :=
  Wr_lsw off tgt hd hp (by rw [hx]; exact ho) ht h
/-- an ldc of an int, of a long -/
theorem Wr_ldc {idx : Nat} {v : Int32} (hd : decode M.2.1 pc = .ok (.ldc idx, 2)) (hc : Cond.constant M.1.cls idx v ∈ wG) (h : Wr M d k (pc + 2) L (.int v :: st) μ K) : Wr M d k pc L st μ K :=
  Wr_fx (fun F hP hS hl kk => lv_ldc F.1 F.2.1 F.2.2.2.2.1 (F.2.2.2.2.2.1 _ hc) hd kk) h
theorem Wr_ldcw {idx : Nat} {v : Int32} (hd : decode M.2.1 pc = .ok (.ldc_w idx, 3)) (hc : Cond.constant M.1.cls idx v ∈ wG) (h : Wr M d k (pc + 3) L (.int v :: st) μ K) : Wr M d k pc L st μ K :=
  Wr_fx (fun F hP hS hl kk => lv_ldcw F.1 F.2.1 F.2.2.2.2.1 (F.2.2.2.2.2.1 _ hc) hd kk) h
theorem Wr_ldc2 {idx : Nat} {v : Int64} (hd : decode M.2.1 pc = .ok (.ldc2_w idx, 3)) (hc : Cond.constantLong M.1.cls idx v ∈ wG) (h : Wr M d k (pc + 3) L (.long v :: st) μ K) : Wr M d k pc L st μ K :=
  Wr_fx (fun F hP hS hl kk => lv_ldc2 F.1 F.2.1 F.2.2.2.2.1 (F.2.2.2.2.2.1 _ hc) hd kk) h
/-- an ldc of a String -/
theorem Wr_ldcS {idx sn : Nat} {tx : String} (hd : decode M.2.1 pc = .ok (.ldc idx, 2)) (hz : (M.1.cls, idx, tx, sn) ∈ zstrs) (h : Wr M d k (pc + 2) L (.ref (1000 + sn) :: st) μ K) : Wr M d k pc L st μ K := by
  refine Wr_fx (fun {D cA ad p l e R s m args below meth c0 H locs cells slots Q ls} F hP hS hl kk => ?_) h
  have hr := F.2.2.2.2.2.2.2.2.2.2.2.2.2.2.1 _ hz
  intro T hT X
  obtain ⟨t, a1, b1⟩ := kk T hT X
  have h1 : (Cond.stringRef M.1.cls idx tx).before args s = true := by
    have := hr.1
    simp only [Cond.before, Cond.holds, Cond.value] at this ⊢
    exact this
  have h2 : (Term.string M.1.cls idx).eval args s none [] s = some (.ref (ad (1000 + sn))) := by
    have := hr.2
    simp only [Term.eval] at this ⊢
    exact this
  exact ⟨t, X.ldcString F.1 F.2.2.2.2.1 h1 h2 (g := F0 m pc ls (st.map (zv ad))) rfl (by rw [F.2.1]; exact hd) t a1, b1⟩
theorem Wr_ldcSw {idx sn : Nat} {tx : String} (hd : decode M.2.1 pc = .ok (.ldc_w idx, 3)) (hz : (M.1.cls, idx, tx, sn) ∈ zstrs) (h : Wr M d k (pc + 3) L (.ref (1000 + sn) :: st) μ K) : Wr M d k pc L st μ K := by
  refine Wr_fx (fun {D cA ad p l e R s m args below meth c0 H locs cells slots Q ls} F hP hS hl kk => ?_) h
  have hr := F.2.2.2.2.2.2.2.2.2.2.2.2.2.2.1 _ hz
  intro T hT X
  obtain ⟨t, a1, b1⟩ := kk T hT X
  have h1 : (Cond.stringRef M.1.cls idx tx).before args s = true := by
    have := hr.1
    simp only [Cond.before, Cond.holds, Cond.value] at this ⊢
    exact this
  have h2 : (Term.string M.1.cls idx).eval args s none [] s = some (.ref (ad (1000 + sn))) := by
    have := hr.2
    simp only [Term.eval] at this ⊢
    exact this
  exact ⟨t, X.ldcStringW F.1 F.2.2.2.2.1 h1 h2 (g := F0 m pc ls (st.map (zv ad))) rfl (by rw [F.2.1]; exact hd) t a1, b1⟩
def zcp (μ : zMem) (a sp b dp n : Nat) : zMem := fun i j => if i = b then va_cpy (μ a) (μ b) sp dp n j else μ i j
theorem Wr_acopy {idx a b n0 n1 : Nat} {sp dp n : Int32} (hd : decode M.2.1 pc = .ok (.invokestatic idx, 3)) (hlink : Cond.methodLink M.1.cls idx arraycopyName ∈ wG) (hnat : Cond.native arraycopyName ∈ wG) (hstat : Cond.static arraycopyName ∈ wG) (hini : Cond.initialized "java/lang/System" ∈ wG)
    (ha : zsh a = .inl (0, n0)) (hb' : zsh b = .inl (0, n1)) (h1 : ¬ sp < 0) (h2 : ¬ dp < 0) (h3 : ¬ n < 0) (h4 : sp.toNatClampNeg + n.toNatClampNeg ≤ n0) (h5 : dp.toNatClampNeg + n.toNatClampNeg ≤ n1) (hroom : (st.map fun v => v.category).sum ≤ 8)
    (h : Wr M d k (pc + 3) L st (zcp μ a sp.toNatClampNeg b dp.toNatClampNeg n.toNatClampNeg) K) : Wr M d k pc L (.int n :: .int dp :: .ref b :: .int sp :: .ref a :: st) μ K := by
  refine Wr_hp (fun {D cA ad p l e R s m args below meth c0 H locs cells slots Q ls} F hP hS hl' kk => ?_) h
  obtain ⟨hx, hb, hr, hml, hown, hts, hlk, hh, htr, hfr, hlo, hK, hD, hF⟩ := F
  refine va_copyi hx hb (hml.trans hl'.1.symm) hown (hts _ hlink) (hts _ hnat) (hts _ hstat) (hts _ hini) hK hP (zD_va hD) hS a b 0 0 (zws_arr ha (by omega)) (zws_arr hb' (by omega)) rfl rfl rfl h1 h2 h3 h4 h5 (fun _ _ => rfl) (by omega) (by rw [zv_sum]; show _ + (5 + 2 + 11) ≤ _; omega) hd (fun H1 locs1 hP1 hD1 hS1 => kk H1 locs1 ?_ hS1)
  have e : (zws cA ad μ).set b (ad b, .inl (cA 0, n1, .inl (va_cpy (μ a) (μ b) sp.toNatClampNeg dp.toNatClampNeg n.toNatClampNeg))) = zws cA ad (zcp μ a sp.toNatClampNeg b dp.toNatClampNeg n.toNatClampNeg) := by
    have hb9 : b < zN := zsh_inl hb' (by omega)
    apply List.ext_getElem?
    intro i
    by_cases hi : i < zN
    · rw [zws_get hi]
      by_cases hbi : b = i
      · subst hbi
        rw [List.getElem?_set_self (by rw [zws_len]; exact hi), zent_arr hb' (by omega) (by omega)]
        have ef : va_cpy (μ a) (μ b) sp.toNatClampNeg dp.toNatClampNeg n.toNatClampNeg = zcp μ a sp.toNatClampNeg b dp.toNatClampNeg n.toNatClampNeg b := funext fun j => by simp [zcp]
        rw [ef]
      · rw [List.getElem?_set_ne hbi, zws_get hi]
        have e1 : ∀ j, zcp μ a sp.toNatClampNeg b dp.toNatClampNeg n.toNatClampNeg i j = μ i j := fun j => by unfold zcp; rw [if_neg (fun q => hbi q.symm)]
        congr 2
        unfold zent
        split
        · congr 2
          exact List.map_congr_left fun j _ => by unfold zfv; rw [e1 j]
        · have e2 : zcp μ a sp.toNatClampNeg b dp.toNatClampNeg n.toNatClampNeg i = μ i := funext e1
          rw [e2]
    · rw [List.getElem?_eq_none (by rw [List.length_set, zws_len]; omega), List.getElem?_eq_none (by rw [zws_len]; omega)]
  rw [e] at hP1
  exact hP1
/-! Strings: the numbers 1000 + i, their bytes 2000 + i -/
theorem Wr_strV {idx i : Nat} (hd : decode M.2.1 pc = .ok (.getfield idx, 3)) (hl : Cond.fieldLink M.1.cls idx "java/lang/String" "value" "[B" ∈ wG) (hi : i < zNS) (h : Wr M d k (pc + 3) L (.ref (2000 + i) :: st) μ K) : Wr M d k pc L (.ref (1000 + i) :: st) μ K :=
  Wr_fx (fun F hP hS hl' kk => vk_getf F.1 F.2.1 (F.2.2.2.2.2.2.2.2.2.2.2.2.2.1 i hi).2.2.1 hS F.2.2.2.2.1 (F.2.2.2.2.2.1 _ hl) (fun _ h9 => h9) hd kk) h
theorem Wr_strC {idx i : Nat} (hd : decode M.2.1 pc = .ok (.getfield idx, 3)) (hl : Cond.fieldLink M.1.cls idx "java/lang/String" "coder" "B" ∈ wG) (hi : i < zNS) (h : Wr M d k (pc + 3) L (.int 0 :: st) μ K) : Wr M d k pc L (.ref (1000 + i) :: st) μ K :=
  Wr_fx (fun F hP hS hl' kk => vk_getf F.1 F.2.1 (F.2.2.2.2.2.2.2.2.2.2.2.2.2.1 i hi).2.1 hS F.2.2.2.2.1 (F.2.2.2.2.2.1 _ hl) (fun _ h9 => h9) hd kk) h
theorem Wr_strL {i : Nat} (hd : decode M.2.1 pc = .ok (.arraylength, 1)) (hi : i < zNS) (h : Wr M d k (pc + 1) L (.int (Int32.ofNat (zlen i)) :: st) μ K) : Wr M d k pc L (.ref (2000 + i) :: st) μ K :=
  Wr_fx (fun F hP hS hl' kk => va_tlen F.1 F.2.1 (F.2.2.2.2.2.2.2.2.2.2.2.2.2.1 i hi).2.2.2 hS rfl hd kk) h
theorem Wr_strB {i : Nat} {j : Int32} (hd : decode M.2.1 pc = .ok (.baload, 1)) (hi : i < zNS) (hj : vp_in j (zlen i)) (h : Wr M d k (pc + 1) L (.int (zbyt i j.toNatClampNeg) :: st) μ K) : Wr M d k pc L (.int j :: .ref (2000 + i) :: st) μ K :=
  Wr_fx (fun F hP hS hl' kk => va_tb F.1 F.2.1 (F.2.2.2.2.2.2.2.2.2.2.2.2.2.1 i hi).2.2.2 hS hj rfl hd kk) h
theorem Wr_gsC {idx : Nat} (hd : decode M.2.1 pc = .ok (.getstatic idx, 3)) (hl : Cond.fieldLink M.1.cls idx "java/lang/String" "COMPACT_STRINGS" "Z" ∈ wG) (h : Wr M d k (pc + 3) L (.int 1 :: st) μ K) : Wr M d k pc L st μ K :=
  Wr_fx (fun F hP hS hl' kk => va_gets F.1 F.2.1 F.2.2.2.2.2.2.2.2.2.2.2.2.2.2.2.2.2.1 hS F.2.2.2.2.1 (F.2.2.2.2.2.1 _ hl) (fun _ h9 => h9) hd kk) h
/-- a static that is null or some reference: both ways to the same end -/
theorem Wr_gsQ {idx : Nat} {r : zRes} {μ' : zMem} {kf : Nat} (hd : decode M.2.1 pc = .ok (.getstatic idx, 3)) (hl : Cond.fieldLink M.1.cls idx "jdk/internal/util/Preconditions" "SIOOBE_FORMATTER" "Ljava/util/function/BiFunction;" ∈ wG) (hK : K r μ' kf)
    (h1 : Wr M d k (pc + 3) L (.null :: st) μ (fun r2 μ2 k2 => r2 = r ∧ μ2 = μ' ∧ k2 = kf)) (h2 : Wr M d k (pc + 3) L (.ref 3000 :: st) μ (fun r2 μ2 k2 => r2 = r ∧ μ2 = μ' ∧ k2 = kf)) : Wr M d k pc L st μ K := by
  obtain ⟨r1, μ1, k1, a1, ⟨rfl, rfl, rfl⟩, h1⟩ := h1
  obtain ⟨r2, μ2, k2, a2, ⟨rfl, rfl, rfl⟩, h2⟩ := h2
  refine ⟨_, _, _, a1, hK, fun D cA ad p l e R s m args below meth c c0 s0 H locs ls F b1 b2 hP hS hl9 => ?_⟩
  have FF := F
  obtain ⟨hx, hb, hr, hml, hown, hts, hlk, hh, htr, hfr, hlo, hK, hD, hF⟩ := F
  obtain ⟨f1, f2, f3, f4, f5, f6, f7⟩ := hF
  rcases f6 with f6 | f6
  · exact va_gets hx hb f6 hS hown (hts _ hl) (fun _ h9 => h9) hd (h1 D cA ad p l e R s m args below meth c c0 s0 H locs ls FF b1 b2 hP hS hl9)
  · exact va_gets hx hb f6 hS hown (hts _ hl) (fun _ h9 => h9) hd (h2 D cA ad p l e R s m args below meth c c0 s0 H locs ls FF b1 b2 hP hS hl9)
end More
/-! the forms of a call: an int, a long, nothing comes back; or it throws -/
def kI (KI : Int32 → zMem → Prop) (X : Nat → zMem → Prop) : zRes → zMem → Nat → Prop := fun r μ k => match r with
  | .inl (some (.int v)) => k = 0 ∧ KI v μ
  | .inr E => k = 1 ∧ X E μ
  | _ => False
def kL (KL : Int64 → zMem → Prop) (X : Nat → zMem → Prop) : zRes → zMem → Nat → Prop := fun r μ k => match r with
  | .inl (some (.long v)) => k = 0 ∧ KL v μ
  | .inr E => k = 1 ∧ X E μ
  | _ => False
def kV (KV : zMem → Prop) (X : Nat → zMem → Prop) : zRes → zMem → Nat → Prop := fun r μ k => match r with
  | .inl none => k = 0 ∧ KV μ
  | .inr E => k = 1 ∧ X E μ
  | _ => False
def zcI (d : Nat) (g : zMD) (as : List Value) (μ : zMem) (KI : Int32 → zMem → Prop) (X : Nat → zMem → Prop) : Prop := Ex d g as μ (kI KI X)
def zcL (d : Nat) (g : zMD) (as : List Value) (μ : zMem) (KL : Int64 → zMem → Prop) (X : Nat → zMem → Prop) : Prop := Ex d g as μ (kL KL X)
def zcV (d : Nat) (g : zMD) (as : List Value) (μ : zMem) (KV : zMem → Prop) (X : Nat → zMem → Prop) : Prop := Ex d g as μ (kV KV X)
theorem kI_imp {K K' : Int32 → zMem → Prop} {X X' : Nat → zMem → Prop} (f : ∀ v μ, K v μ → K' v μ) (g : ∀ E μ, X E μ → X' E μ) : ∀ r μ n, kI K X r μ n → kI K' X' r μ n := by
  intro r μ n h
  rcases r with (_ | v) | E
  · exact h
  · cases v <;> first | exact ⟨h.1, f _ _ h.2⟩ | exact h
  · exact ⟨h.1, g _ _ h.2⟩
theorem kL_imp {K K' : Int64 → zMem → Prop} {X X' : Nat → zMem → Prop} (f : ∀ v μ, K v μ → K' v μ) (g : ∀ E μ, X E μ → X' E μ) : ∀ r μ n, kL K X r μ n → kL K' X' r μ n := by
  intro r μ n h
  rcases r with (_ | v) | E
  · exact h
  · cases v <;> first | exact ⟨h.1, f _ _ h.2⟩ | exact h
  · exact ⟨h.1, g _ _ h.2⟩
theorem kV_imp {K K' : zMem → Prop} {X X' : Nat → zMem → Prop} (f : ∀ μ, K μ → K' μ) (g : ∀ E μ, X E μ → X' E μ) : ∀ r μ n, kV K X r μ n → kV K' X' r μ n := by
  intro r μ n h
  rcases r with (_ | v) | E
  · exact ⟨h.1, f _ h.2⟩
  · exact h
  · exact ⟨h.1, g _ _ h.2⟩
theorem zcI.imp {d : Nat} {g : zMD} {as : List Value} {μ : zMem} {K K' : Int32 → zMem → Prop} {X X' : Nat → zMem → Prop} (h : zcI d g as μ K X) (f : ∀ v μ, K v μ → K' v μ) (f2 : ∀ E μ, X E μ → X' E μ) : zcI d g as μ K' X' := Ex.imp h (kI_imp f f2)
theorem zcL.imp {d : Nat} {g : zMD} {as : List Value} {μ : zMem} {K K' : Int64 → zMem → Prop} {X X' : Nat → zMem → Prop} (h : zcL d g as μ K X) (f : ∀ v μ, K v μ → K' v μ) (f2 : ∀ E μ, X E μ → X' E μ) : zcL d g as μ K' X' := Ex.imp h (kL_imp f f2)
theorem zcV.imp {d : Nat} {g : zMD} {as : List Value} {μ : zMem} {K K' : zMem → Prop} {X X' : Nat → zMem → Prop} (h : zcV d g as μ K X) (f : ∀ μ, K μ → K' μ) (f2 : ∀ E μ, X E μ → X' E μ) : zcV d g as μ K' X' := Ex.imp h (kV_imp f f2)
section Forms
variable {M : zMD} {d k pc : Nat} {L : List (Nat × Value)} {st : List Value} {μ : zMem} {K : zRes → zMem → Nat → Prop}
theorem zpick (ad : Nat → Nat) (L : List (Nat × Value)) : ∀ ks : List Nat, lv_pick (zvl ad L) ks = zvl ad (lv_pick L ks)
  | [] => rfl
  | a :: ks => by
    have ih := zpick ad L ks
    unfold lv_pick at ih ⊢
    rw [List.filterMap_cons, List.filterMap_cons, ih]
    have e : (zvl ad L)[a]? = (L[a]?).map (fun q => (q.1, zv ad q.2)) := by unfold zvl; rw [List.getElem?_map]
    rw [e]
    cases L[a]? with
    | none => rfl
    | some q => rfl
theorem Wr_sub {L' : List (Nat × Value)} (ks : List Nat) (hL : lv_pick L ks = L') (h : Wr M d k pc L' st μ K) : Wr M d k pc L st μ K :=
  Wr_lo (fun ad hx hb hl kk => kk _ (lv_sub hl ks (by rw [zpick, hL]))) h
theorem Wr_cVi {g : zMD} {n idx : Nat} {b : Nat} (As : List Value) {stk : List Value} (hd : decode M.2.1 pc = .ok (.invokevirtual idx, 3)) (hl : Cond.methodLink M.1.cls idx g.1 ∈ wG) (hg : zMG g n) (hp : zPlain g) (hv : zVirt g) (hb : zRecv g b) (hnn : As.length = n) (hstk : stk = As.reverse ++ .ref b :: st) (hroom : (st.map fun v => v.category).sum ≤ 8) (hno : zNoH M)
    (hE : zcI d g (.ref b :: As) μ (fun v μ1 => Wr M (d + 1) k (pc + 3) L (.int v :: st) μ1 K) (fun E μ1 => K (.inr E) μ1 (k + 1))) : Wr M (d + 1) k pc L stk μ K := by
  refine Wr_callV hd hl hg hp hv hb hnn hstk hroom (fun _ _ _ _ => hno) hE ?_ ?_
  · intro v μ1 k1 h
    rcases v with _ | v
    · exact absurd h id
    · cases v <;> first | exact absurd h id | (obtain ⟨rfl, h⟩ := h; exact h)
  · intro E μ1 k1 h
    obtain ⟨rfl, h⟩ := h
    exact h
theorem Wr_cSi {g : zMD} {n idx : Nat} (As : List Value) {stk : List Value} (hd : decode M.2.1 pc = .ok (.invokestatic idx, 3)) (hl : Cond.methodLink M.1.cls idx g.1 ∈ wG) (hg : zMG g n) (hp : zPlain g) (hv : Cond.static g.1 ∈ wG) (hnn : As.length = n) (hstk : stk = As.reverse ++ st) (hroom : (st.map fun v => v.category).sum ≤ 8) (hno : zNoH M)
    (hE : zcI d g As μ (fun v μ1 => Wr M (d + 1) k (pc + 3) L (.int v :: st) μ1 K) (fun E μ1 => K (.inr E) μ1 (k + 1))) : Wr M (d + 1) k pc L stk μ K := by
  refine Wr_callS hd hl hg hp hv hnn hstk hroom (fun _ _ _ _ => hno) hE ?_ ?_
  · intro v μ1 k1 h
    rcases v with _ | v
    · exact absurd h id
    · cases v <;> first | exact absurd h id | (obtain ⟨rfl, h⟩ := h; exact h)
  · intro E μ1 k1 h
    obtain ⟨rfl, h⟩ := h
    exact h
theorem Wr_cVl {g : zMD} {n idx : Nat} {b : Nat} (As : List Value) {stk : List Value} (hd : decode M.2.1 pc = .ok (.invokevirtual idx, 3)) (hl : Cond.methodLink M.1.cls idx g.1 ∈ wG) (hg : zMG g n) (hp : zPlain g) (hv : zVirt g) (hb : zRecv g b) (hnn : As.length = n) (hstk : stk = As.reverse ++ .ref b :: st) (hroom : (st.map fun v => v.category).sum ≤ 8) (hno : zNoH M)
    (hE : zcL d g (.ref b :: As) μ (fun v μ1 => Wr M (d + 1) k (pc + 3) L (.long v :: st) μ1 K) (fun E μ1 => K (.inr E) μ1 (k + 1))) : Wr M (d + 1) k pc L stk μ K := by
  refine Wr_callV hd hl hg hp hv hb hnn hstk hroom (fun _ _ _ _ => hno) hE ?_ ?_
  · intro v μ1 k1 h
    rcases v with _ | v
    · exact absurd h id
    · cases v <;> first | exact absurd h id | (obtain ⟨rfl, h⟩ := h; exact h)
  · intro E μ1 k1 h
    obtain ⟨rfl, h⟩ := h
    exact h
theorem Wr_cSl {g : zMD} {n idx : Nat} (As : List Value) {stk : List Value} (hd : decode M.2.1 pc = .ok (.invokestatic idx, 3)) (hl : Cond.methodLink M.1.cls idx g.1 ∈ wG) (hg : zMG g n) (hp : zPlain g) (hv : Cond.static g.1 ∈ wG) (hnn : As.length = n) (hstk : stk = As.reverse ++ st) (hroom : (st.map fun v => v.category).sum ≤ 8) (hno : zNoH M)
    (hE : zcL d g As μ (fun v μ1 => Wr M (d + 1) k (pc + 3) L (.long v :: st) μ1 K) (fun E μ1 => K (.inr E) μ1 (k + 1))) : Wr M (d + 1) k pc L stk μ K := by
  refine Wr_callS hd hl hg hp hv hnn hstk hroom (fun _ _ _ _ => hno) hE ?_ ?_
  · intro v μ1 k1 h
    rcases v with _ | v
    · exact absurd h id
    · cases v <;> first | exact absurd h id | (obtain ⟨rfl, h⟩ := h; exact h)
  · intro E μ1 k1 h
    obtain ⟨rfl, h⟩ := h
    exact h
theorem Wr_cVv {g : zMD} {n idx : Nat} {b : Nat} (As : List Value) {stk : List Value} (hd : decode M.2.1 pc = .ok (.invokevirtual idx, 3)) (hl : Cond.methodLink M.1.cls idx g.1 ∈ wG) (hg : zMG g n) (hp : zPlain g) (hv : zVirt g) (hb : zRecv g b) (hnn : As.length = n) (hstk : stk = As.reverse ++ .ref b :: st) (hroom : (st.map fun v => v.category).sum ≤ 8) (hno : zNoH M)
    (hE : zcV d g (.ref b :: As) μ (fun μ1 => Wr M (d + 1) k (pc + 3) L st μ1 K) (fun E μ1 => K (.inr E) μ1 (k + 1))) : Wr M (d + 1) k pc L stk μ K := by
  refine Wr_callV hd hl hg hp hv hb hnn hstk hroom (fun _ _ _ _ => hno) hE ?_ ?_
  · intro v μ1 k1 h
    rcases v with _ | v
    · obtain ⟨rfl, h⟩ := h; exact h
    · exact absurd h id
  · intro E μ1 k1 h
    obtain ⟨rfl, h⟩ := h
    exact h
theorem Wr_cSv {g : zMD} {n idx : Nat} (As : List Value) {stk : List Value} (hd : decode M.2.1 pc = .ok (.invokestatic idx, 3)) (hl : Cond.methodLink M.1.cls idx g.1 ∈ wG) (hg : zMG g n) (hp : zPlain g) (hv : Cond.static g.1 ∈ wG) (hnn : As.length = n) (hstk : stk = As.reverse ++ st) (hroom : (st.map fun v => v.category).sum ≤ 8) (hno : zNoH M)
    (hE : zcV d g As μ (fun μ1 => Wr M (d + 1) k (pc + 3) L st μ1 K) (fun E μ1 => K (.inr E) μ1 (k + 1))) : Wr M (d + 1) k pc L stk μ K := by
  refine Wr_callS hd hl hg hp hv hnn hstk hroom (fun _ _ _ _ => hno) hE ?_ ?_
  · intro v μ1 k1 h
    rcases v with _ | v
    · obtain ⟨rfl, h⟩ := h; exact h
    · exact absurd h id
  · intro E μ1 k1 h
    obtain ⟨rfl, h⟩ := h
    exact h
end Forms
