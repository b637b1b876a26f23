/-! the least winching: rows tried in their order -/
def zscan {σ : Type} (f : Nat → σ → σ) : Nat → Nat → σ → σ
  | 0, _, s => s
  | k + 1, lo, s => zscan f k (lo + 1) (f lo s)
theorem zscan_add {σ : Type} {f : Nat → σ → σ} (b : Nat) : ∀ (a lo : Nat) (s : σ), zscan f (a + b) lo s = zscan f b (lo + a) (zscan f a lo s)
  | 0, lo, s => by rw [Nat.zero_add]; rfl
  | a + 1, lo, s => by
    rw [show a + 1 + b = (a + b) + 1 by omega]
    show zscan f (a + b) (lo + 1) (f lo s) = _
    rw [zscan_add b a (lo + 1), show lo + 1 + a = lo + (a + 1) by omega]; rfl
theorem zscan_fix {σ : Type} {f : Nat → σ → σ} {s : σ} : ∀ (k lo : Nat), (∀ j, j < k → f (lo + j) s = s) → zscan f k lo s = s
  | 0, _, _ => rfl
  | k + 1, lo, h => by
    show zscan f k (lo + 1) (f lo s) = s
    have h0 : f lo s = s := h 0 (by omega)
    rw [h0]
    exact zscan_fix k (lo + 1) (fun j hj => by have := h (j + 1) (by omega); rw [show lo + 1 + j = lo + (j + 1) by omega]; exact this)
theorem zscan_c {σ : Type} {f g : Nat → σ → σ} : ∀ (k lo : Nat) (s : σ), (∀ j s, j < k → f (lo + j) s = g (lo + j) s) → zscan f k lo s = zscan g k lo s
  | 0, _, _, _ => rfl
  | k + 1, lo, s, h => by
    show zscan f k (lo + 1) (f lo s) = zscan g k (lo + 1) (g lo s)
    have h0 : f lo s = g lo s := h 0 s (by omega)
    rw [h0]
    exact zscan_c k (lo + 1) _ (fun j s hj => by have := h (j + 1) s (by omega); rw [show lo + 1 + j = lo + (j + 1) by omega]; exact this)
/-- the i-th of n digits of a row, the first the greatest -/
def dg (w n r i : Nat) : Nat := r / w ^ (n - 1 - i) % w
/-- how far a digit is from the middle -/
def az (q y : Nat) : Nat := if y < q then q - y else y - q
def smN (w q n r : Nat) : Nat → Nat
  | 0 => 0
  | i + 1 => smN w q n r i + az q (dg w n r i)
theorem dg_lt {w n r i : Nat} (hw : 0 < w) : dg w n r i < w := Nat.mod_lt _ hw
/-- rows below a beginning begin as it does -/
theorem dg_pre {w n m r j i : Nat} (hw : 0 < w) (hj : j < w ^ m) (hi : i < n) : dg w (n + m) (r * w ^ m + j) i = dg w n r i := by
  unfold dg
  have e : n + m - 1 - i = m + (n - 1 - i) := by omega
  rw [e, Nat.pow_add, ← Nat.div_div_eq_div_mul, Nat.mul_comm r, Nat.mul_add_div (Nat.pow_pos hw), Nat.div_eq_of_lt hj, Nat.add_zero]
theorem dg_last {w n r y : Nat} (hy : y < w) : dg w (n + 1) (r * w + y) n = y := by
  unfold dg
  rw [show n + 1 - 1 - n = 0 by omega, Nat.pow_zero, Nat.div_one, Nat.mul_comm, Nat.mul_add_mod, Nat.mod_eq_of_lt hy]
theorem dg_up {w n r y i : Nat} (hw : 0 < w) (hy : y < w) (hi : i < n) : dg w (n + 1) (r * w + y) i = dg w n r i := by
  have := dg_pre (w := w) (n := n) (m := 1) (r := r) (j := y) (i := i) hw (by rw [Nat.pow_one]; exact hy) hi
  rw [Nat.pow_one] at this; exact this
theorem smN_c {w q n n' r r' : Nat} : ∀ k, (∀ i, i < k → dg w n r i = dg w n' r' i) → smN w q n r k = smN w q n' r' k
  | 0, _ => rfl
  | k + 1, h => by
    show smN w q n r k + az q (dg w n r k) = smN w q n' r' k + az q (dg w n' r' k)
    rw [smN_c k (fun i hi => h i (by omega)), h k (by omega)]
theorem smN_mono {w q n r k : Nat} : ∀ m, smN w q n r k ≤ smN w q n r (k + m)
  | 0 => Nat.le_refl _
  | m + 1 => by
    have := smN_mono (w := w) (q := q) (n := n) (r := r) (k := k) m
    show smN w q n r k ≤ smN w q n r (k + m) + az q (dg w n r (k + m))
    omega
theorem az_le {q y : Nat} (h : y < 2 * q + 1) : az q y ≤ q := by unfold az; split <;> omega
theorem smN_le {w q n r : Nat} (hw : w = 2 * q + 1) : ∀ k, smN w q n r k ≤ q * k
  | 0 => Nat.le_refl _
  | k + 1 => by
    have h1 := smN_le (n := n) (r := r) hw k
    have h2 := az_le (q := q) (y := dg w n r k) (by have := dg_lt (w := w) (n := n) (r := r) (i := k) (by omega); omega)
    show smN w q n r k + az q (dg w n r k) ≤ q * (k + 1)
    rw [Nat.mul_add, Nat.mul_one]; omega
/-- a rope of a row: in range -/
def okD (q y : Nat) (a : Nat) : Prop := 1 + q ≤ a + y ∧ a + y ≤ 60 + q
/-- one row: better, and quiet -/
noncomputable def lsF (w q n : Nat) (R : Nat → Nat) (Q : Nat → Bool) (r : Nat) (s : Option Nat) : Option Nat :=
  @ite _ ((∀ i, i < n → okD q (dg w n r i) (R i)) ∧ (∀ b, s = some b → smN w q n r n < smN w q n b n) ∧ Q r = true) (Classical.propDecidable _) (some r) s
section Ls
variable {w q n : Nat} {R : Nat → Nat} {Q : Nat → Bool}
theorem lsF_t {r : Nat} {s : Option Nat} (h1 : ∀ i, i < n → okD q (dg w n r i) (R i)) (h2 : ∀ b, s = some b → smN w q n r n < smN w q n b n) (h3 : Q r = true) : lsF w q n R Q r s = some r := if_pos ⟨h1, h2, h3⟩
theorem lsF_o {r i : Nat} {s : Option Nat} (hi : i < n) (h : ¬ okD q (dg w n r i) (R i)) : lsF w q n R Q r s = s := if_neg fun z => h (z.1 i hi)
theorem lsF_s {r b : Nat} (h : smN w q n b n ≤ smN w q n r n) : lsF w q n R Q r (some b) = some b := if_neg fun z => by have := z.2.1 b rfl; omega
theorem lsF_q {r : Nat} {s : Option Nat} (h : ¬ Q r = true) : lsF w q n R Q r s = s := if_neg fun z => h z.2.2
/-- what can't be better isn't looked at: all rows that begin so -/
theorem sub_o {m k r i : Nat} {s : Option Nat} (hw : 0 < w) (hn : n = k + m) (hi : i < k) (h : ¬ okD q (dg w k r i) (R i)) : zscan (lsF w q n R Q) (w ^ m) (r * w ^ m) s = s := by
  refine zscan_fix _ _ (fun j hj => lsF_o (i := i) (by omega) ?_)
  rw [hn, dg_pre hw hj hi]; exact h
theorem sub_s {m k r b : Nat} (hw : 0 < w) (hn : n = k + m) (h : smN w q n b n ≤ smN w q k r k) : zscan (lsF w q n R Q) (w ^ m) (r * w ^ m) (some b) = some b := by
  refine zscan_fix _ _ (fun j hj => lsF_s ?_)
  have e : smN w q n (r * w ^ m + j) k = smN w q k r k := smN_c k (fun i hi => by rw [hn]; exact dg_pre hw hj hi)
  have := smN_mono (w := w) (q := q) (n := n) (r := r * w ^ m + j) (k := k) m
  rw [← hn] at this
  omega
theorem sub_split {m r y : Nat} {s : Option Nat} {f : Nat → Option Nat → Option Nat} (hy : y < w) : zscan f ((w - y) * w ^ m) ((r * w + y) * w ^ m) s = zscan f ((w - (y + 1)) * w ^ m) ((r * w + (y + 1)) * w ^ m) (zscan f (w ^ m) ((r * w + y) * w ^ m) s) := by
  have e : (w - y) * w ^ m = w ^ m + (w - (y + 1)) * w ^ m := by
    rw [show w - y = 1 + (w - (y + 1)) by omega, Nat.add_mul, Nat.one_mul]
  rw [e, zscan_add]
  congr 1
  rw [show r * w + (y + 1) = (r * w + y) + 1 by omega, Nat.add_mul (r * w + y) 1, Nat.one_mul]
end Ls
