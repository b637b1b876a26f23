/-! lines: the reference -/
def zRR (c j : Nat) : Prop := (c = 106 ∧ (j = 13 ∨ (15 ≤ j ∧ j ≤ 20))) ∨ (c = 110 ∧ 10 ≤ j) ∨ (c = 111 ∧ 84 ≤ j) ∨ ((c = 112 ∨ c = 113 ∨ c = 114) ∧ 12 ≤ j) ∨ (c = 115 ∧ 700 ≤ j)
def LR (μ : zMem) (N : Nat) (B : Nat → Nat) (p : Nat) : Prop := TxR μ N B ∧ TkR μ N B p ∧ μ 106 19 = 0
theorem zRs_R {m1 m2 : zMem} (f : Fr zRs m1 m2) : Fr zRR m1 m2 := f.mono fun c j q => by unfold zRs at q; unfold zRR; omega
theorem zRdR_R {m1 m2 : zMem} (f : Fr zRdR m1 m2) : Fr zRR m1 m2 := f.mono fun c j q => by unfold zRdR at q; unfold zRR; omega
theorem zRs_n {m1 m2 : zMem} (f : Fr zRs m1 m2) {c j : Nat} (h : c ≠ 106) : m2 c j = m1 c j := f _ _ (by unfold zRs; omega)
section LineR
variable {d : Nat} {μ : zMem} {KI : Int32 → zMem → Prop} {KV : zMem → Prop} {X : Nat → zMem → Prop} {N : Nat} {B : Nat → Nat}
theorem TkR.e {μ' : zMem} {p : Nat} (h : TkR μ N B p) (e : ∀ j, 13 ≤ j → j ≤ 18 → μ' 106 j = μ 106 j) : TkR μ' N B p := by
  obtain ⟨a1, a2, a3, a4, a5, a6⟩ := h
  exact ⟨a1, by rw [e _ (by omega) (by omega)]; exact a2, by rw [e _ (by omega) (by omega)]; exact a3, by rw [e _ (by omega) (by omega)]; exact a4, by rw [e _ (by omega) (by omega)]; exact a5, fun x y => by rw [e _ (by omega) (by omega)]; exact a6 x y⟩
theorem LR.go {μ' : zMem} {p : Nat} (h : LR μ N B p) (e : ∀ j, 13 ≤ j → j ≤ 19 → μ' 106 j = μ 106 j) (e2 : ∀ j, μ' 117 j = μ 117 j) : LR μ' N B p :=
  ⟨⟨h.1.1, h.1.2.1, by rw [e _ (by omega) (by omega)]; exact h.1.2.2.1, fun j hj => by rw [e2]; exact h.1.2.2.2 j hj⟩, h.2.1.e fun j a b => e j a (by omega), by rw [e _ (by omega) (by omega)]; exact h.2.2⟩
theorem LR.w {p a i : Nat} {v : Int32} (h : LR μ N B p) (h1 : a ≠ 106) (h2 : a ≠ 117) : LR (zw μ a i v) N B p := h.go (fun j _ _ => by rw [zw_c (by omega)]) (fun j => by rw [zw_c (by omega)])
theorem LR.st {μ' : zMem} {p p' : Nat} (h : LR μ N B p) (f : Fr zRs μ μ') (t : TkR μ' N B p') : LR μ' N B p' := ⟨h.1.go f, t, by rw [f _ _ (by unfold zRs; omega)]; exact h.2.2⟩
theorem LR.next {p : Nat} (h : LR μ N B p) (hK : ∀ μ', Fr zRs μ μ' → LR μ' N B (tkN N B p) → KV μ') : zcV (d + 2) mX9_stepOn [.ref 106] μ KV X := R_next h.1 h.2.1 (fun μ' f t => hK μ' f (h.st f t))
theorem LR.wrong {p c : Nat} {x : Int32} (ex : x = nI c) (c1 : 1 ≤ c) (c5 : c ≤ 5) (h : LR μ N B p) (hK : ∀ μ', Fr zRR μ μ' → FR μ' N c p → KV μ') : zcV (d + 1) mX9_wrong [.ref 106, .int x] μ KV X := R_wrong ex c1 c5 h.2.2 h.2.1 (fun μ' f x => hK μ' (zRdR_R f) x)
theorem LR.num {p lo hi : Nat} {x y : Int32} (ex : x = nI lo) (ey : y = nI hi) (hh : hi ≤ 9999) (hl : lo ≤ 9999) (h : LR μ N B p) (h0 : ∀ c q, nmR N B p lo hi = .inl (c, q) → ∀ μ', Fr zRR μ μ' → FR μ' N c q → KI 0 μ') (h1 : ∀ v, nmR N B p lo hi = .inr v → KI (nI v) μ) : zcI (d + 2) mX9_numberNow [.ref 106, .int x, .int y] μ KI X :=
  R_num ex ey hh hl h.1 h.2.1 h.2.2 (fun c μ' a f x => h0 c p (nmR_i a) μ' (zRdR_R f) x) (fun a b => h1 _ (nmR_o a b))
theorem LR.read {p lo hi : Nat} {x y : Int32} (ex : x = nI lo) (ey : y = nI hi) (hh : hi ≤ 9999) (hl : lo ≤ 9999) (h : LR μ N B p) (h0 : ∀ c q, nmR N B p lo hi = .inl (c, q) → ∀ μ', Fr zRR μ μ' → FR μ' N c q → KI 0 μ') (h1 : ∀ v, nmR N B p lo hi = .inr v → ∀ μ', Fr zRs μ μ' → LR μ' N B (tkN N B p) → KI (nI v) μ') : zcI (d + 3) mX9_readNumber [.ref 106, .int x, .int y] μ KI X :=
  R_read ex ey hh hl h.1 h.2.1 h.2.2 (fun c μ' a f x => h0 c p (nmR_i a) μ' (zRdR_R f) x) (fun a b μ' f t => h1 _ (nmR_o a b) μ' f (h.st f t))
theorem LR.mkd {p c : Nat} {x : Int32} (ex : x = nI c) (hc : c < 256) (h : LR μ N B p) (h0 : ¬ sg N B p c = true → KI 0 μ) (h1 : sg N B p c = true → KI 1 μ) : zcI (d + 1) mX9_isMarked [.ref 106, .int x] μ KI X := R_mkd ex hc h.1 h.2.1 h.2.2 h0 h1
/-- told already: what is written elsewhere changes nothing -/
theorem FR.go {μ' : zMem} {c q : Nat} (h : FR μ N c q) (e : ∀ j, 19 ≤ j → j ≤ 20 → μ' 106 j = μ 106 j) : FR μ' N c q := ⟨h.1, h.2.1, h.2.2.1, by rw [e _ (by omega) (by omega)]; exact h.2.2.2.1, by rw [e _ (by omega) (by omega)]; exact h.2.2.2.2⟩
theorem FR.w {c q a i : Nat} {v : Int32} (h : FR μ N c q) (h1 : a ≠ 106) : FR (zw μ a i v) N c q := h.go fun j _ _ => by rw [zw_c (by omega)]
/-! a signed number -/
theorem R_sgB (b : ¬ μ 106 19 = 0) (h : KI 0 μ) : zcI (d + 3) mX9_readSigned [.ref 106, .int 9] μ KI X := by
  refine cX9_readSigned_ (R_mkdB b ⟨fun _ => R_readB b ?_, fun z => absurd rfl z⟩)
  rw [if_pos rfl]; exact h
theorem LR.signed {p : Nat} (h : LR μ N B p) (h0 : ∀ c q, sgR N B p = .inl (c, q) → ∀ μ', Fr zRR μ μ' → FR μ' N c q → KI 0 μ') (h1 : ∀ p' v, sgR N B p = .inr (p', v) → ∀ μ', Fr zRs μ μ' → LR μ' N B p' → KI v μ') : zcI (d + 4) mX9_readSigned [.ref 106, .int 9] μ KI X := by
  refine cX9_readSigned_ (h.mkd (d := d + 2) (c := 45) rfl (by omega) (fun z => ⟨fun _ => ?_, fun w => absurd rfl w⟩) (fun z => ⟨fun w => absurd w (by decide), fun _ => h.next (d := d + 1) (fun m1 f1 k1 => ?_)⟩))
  · rw [sgR_n z] at h0 h1
    refine h.read (lo := 0) (hi := 9) rfl rfl (by omega) (by omega) (fun c q e μ' f x => ?_) (fun v e μ' f k => ?_)
    · rw [if_pos rfl]; exact h0 c q (bd_l e) μ' f x
    · rw [if_pos rfl]; exact h1 _ _ (bd_r e) μ' f k
  · rw [sgR_p z] at h0 h1
    refine k1.read (lo := 0) (hi := 9) rfl rfl (by omega) (by omega) (fun c q e μ' f x => ?_) (fun v e μ' f k => ?_)
    · rw [if_neg (by decide)]; exact h0 c q (bd_l e) μ' ((zRs_R f1).tr f) x
    · rw [if_neg (by decide)]; exact h1 _ _ (bd_r e) μ' (f1.tr f) k
end LineR
