/-! ways: over bridges again and again; 1000: none -/
def wyR (E : Nat → Nat → Bool) (a b : Nat) (v : Nat → Nat) : Nat → Nat := if v a < 1000 ∧ v a + 1 < v b ∧ E a b = true then (fun k => if k = b then v a + 1 else v k) else v
def wyB (E : Nat → Nat → Bool) (a : Nat) : Nat → Nat → (Nat → Nat) → Nat → Nat
  | 0, _, v => v
  | m + 1, b, v => wyB E a m (b + 1) (wyR E a b v)
def wyA (E : Nat → Nat → Bool) (n : Nat) : Nat → Nat → (Nat → Nat) → Nat → Nat
  | 0, _, v => v
  | m + 1, a, v => wyA E n m (a + 1) (wyB E a n 0 v)
def wyP (E : Nat → Nat → Bool) (n : Nat) (v : Nat → Nat) : Nat → Nat := wyA E n n 0 v
def wyN (E : Nat → Nat → Bool) (n : Nat) : Nat → (Nat → Nat) → Nat → Nat
  | 0, v => v
  | k + 1, v => wyN E n k (wyP E n v)
def wyCl (E : Nat → Nat → Bool) (n : Nat) (v : Nat → Nat) : Prop := ∀ a b, a < n → b < n → v a < 1000 → E a b = true → v b ≤ v a + 1
section Pass
variable {E : Nat → Nat → Bool} {n : Nat}
theorem wyR_cl {v : Nat → Nat} (h : wyCl E n v) {a b : Nat} (ha : a < n) (hb : b < n) : wyR E a b v = v := by
  unfold wyR
  rw [if_neg]
  intro q
  have := h a b ha hb q.1 q.2.2
  omega
theorem wyB_cl {v : Nat → Nat} (h : wyCl E n v) {a : Nat} (ha : a < n) : ∀ (m b : Nat), b + m ≤ n → wyB E a m b v = v
  | 0, _, _ => rfl
  | m + 1, b, hm => by
    show wyB E a m (b + 1) (wyR E a b v) = v
    rw [wyR_cl h ha (by omega)]; exact wyB_cl h ha m (b + 1) (by omega)
theorem wyA_cl {v : Nat → Nat} (h : wyCl E n v) : ∀ (m a : Nat), a + m ≤ n → wyA E n m a v = v
  | 0, _, _ => rfl
  | m + 1, a, hm => by
    show wyA E n m (a + 1) (wyB E a n 0 v) = v
    rw [wyB_cl h (by omega) n 0 (by omega)]; exact wyA_cl h m (a + 1) (by omega)
theorem wyP_cl {v : Nat → Nat} (h : wyCl E n v) : wyP E n v = v := wyA_cl h n 0 (by omega)
theorem wyN_fix {v : Nat → Nat} (h : wyP E n v = v) : ∀ k, wyN E n k v = v
  | 0 => rfl
  | k + 1 => by show wyN E n k (wyP E n v) = v; rw [h]; exact wyN_fix h k
theorem wyN_s {v : Nat → Nat} : ∀ k, wyN E n (k + 1) v = wyP E n (wyN E n k v) := by
  intro k
  induction k generalizing v with
  | zero => rfl
  | succ k ih => show wyN E n (k + 1) (wyP E n v) = _; rw [ih]; rfl
theorem wyR_le {a b : Nat} {v : Nat → Nat} (k : Nat) : wyR E a b v k ≤ v k := by
  unfold wyR
  split
  · rename_i q
    show (if k = b then v a + 1 else v k) ≤ v k
    split
    · rename_i e; rw [e]; omega
    · exact Nat.le_refl _
  · exact Nat.le_refl _
theorem wyB_le {a : Nat} : ∀ (m b : Nat) (v : Nat → Nat) (k : Nat), wyB E a m b v k ≤ v k
  | 0, _, _, _ => Nat.le_refl _
  | m + 1, b, v, k => Nat.le_trans (wyB_le m (b + 1) (wyR E a b v) k) (wyR_le k)
theorem wyA_le : ∀ (m a : Nat) (v : Nat → Nat) (k : Nat), wyA E n m a v k ≤ v k
  | 0, _, _, _ => Nat.le_refl _
  | m + 1, a, v, k => Nat.le_trans (wyA_le m (a + 1) (wyB E a n 0 v) k) (wyB_le n 0 v k)
theorem wyP_le {v : Nat → Nat} (k : Nat) : wyP E n v k ≤ v k := wyA_le n 0 v k
theorem wyN_le : ∀ (m : Nat) (v : Nat → Nat) (k : Nat), wyN E n m v k ≤ v k
  | 0, _, _ => Nat.le_refl _
  | m + 1, v, k => Nat.le_trans (wyN_le m (wyP E n v) k) (wyP_le k)
/-- below: a closed row stays below -/
def wyLe (n : Nat) (D v : Nat → Nat) : Prop := ∀ k, k < n → D k ≤ v k
theorem wyR_D {D v : Nat → Nat} (hD : wyCl E n D) {a b : Nat} (ha : a < n) (hb : b < n) (h : wyLe n D v) : wyLe n D (wyR E a b v) := by
  intro k hk
  unfold wyR
  split
  · rename_i q
    show D k ≤ (if k = b then v a + 1 else v k)
    split
    · rename_i e
      subst e
      have h1 := h a ha
      have := hD a k ha hb (by omega) q.2.2
      omega
    · exact h k hk
  · exact h k hk
theorem wyB_D {D : Nat → Nat} (hD : wyCl E n D) {a : Nat} (ha : a < n) : ∀ (m b : Nat) (v : Nat → Nat), b + m ≤ n → wyLe n D v → wyLe n D (wyB E a m b v)
  | 0, _, _, _, h => h
  | m + 1, b, _, hm, h => wyB_D hD ha m (b + 1) _ (by omega) (wyR_D hD ha (by omega) h)
theorem wyA_D {D : Nat → Nat} (hD : wyCl E n D) : ∀ (m a : Nat) (v : Nat → Nat), a + m ≤ n → wyLe n D v → wyLe n D (wyA E n m a v)
  | 0, _, _, _, h => h
  | m + 1, a, _, hm, h => wyA_D hD m (a + 1) _ (by omega) (wyB_D hD (by omega) n 0 _ (by omega) h)
theorem wyP_D {D v : Nat → Nat} (hD : wyCl E n D) (h : wyLe n D v) : wyLe n D (wyP E n v) := wyA_D hD n 0 v (by omega) h
/-- what is final hands on -/
theorem wyB_go {a b : Nat} (ha : a < n) (hE : E a b = true) {x : Nat} (hx : x < 1000) : ∀ (m b0 : Nat) (v : Nat → Nat), b0 ≤ b → b < b0 + m → v a ≤ x → wyB E a m b0 v b ≤ x + 1 := by
  intro m
  induction m with
  | zero => intro b0 v h1 h2; omega
  | succ m ih =>
    intro b0 v h1 h2 h3
    show wyB E a m (b0 + 1) (wyR E a b0 v) b ≤ x + 1
    by_cases e : b0 = b
    · subst e
      refine Nat.le_trans (wyB_le m (b0 + 1) _ b0) ?_
      unfold wyR
      split
      · show (if b0 = b0 then v a + 1 else v b0) ≤ x + 1
        rw [if_pos rfl]; omega
      · rename_i q
        have : ¬ (v a + 1 < v b0) := fun z => q ⟨by omega, z, hE⟩
        omega
    · exact ih (b0 + 1) _ (by omega) (by omega) (Nat.le_trans (wyR_le a) h3)
theorem wyA_go {a b : Nat} (ha : a < n) (hb : b < n) (hE : E a b = true) {x : Nat} (hx : x < 1000) : ∀ (m a0 : Nat) (v : Nat → Nat), a0 ≤ a → a < a0 + m → v a ≤ x → wyA E n m a0 v b ≤ x + 1 := by
  intro m
  induction m with
  | zero => intro a0 v h1 h2; omega
  | succ m ih =>
    intro a0 v h1 h2 h3
    show wyA E n m (a0 + 1) (wyB E a0 n 0 v) b ≤ x + 1
    by_cases e : a0 = a
    · subst e
      exact Nat.le_trans (wyA_le m (a0 + 1) _ b) (wyB_go ha hE hx n 0 v (by omega) (by omega) h3)
    · exact ih (a0 + 1) _ (by omega) (by omega) (Nat.le_trans (wyB_le n 0 v a) h3)
theorem wyP_go {a b : Nat} {v : Nat → Nat} (ha : a < n) (hb : b < n) (hE : E a b = true) (hx : v a < 1000) : wyP E n v b ≤ v a + 1 := wyA_go ha hb hE hx n 0 v (by omega) (by omega) (Nat.le_refl _)
/-! counting -/
def cntB (f : Nat → Bool) : Nat → Nat
  | 0 => 0
  | n + 1 => cntB f n + (if f n = true then 1 else 0)
theorem cntB_le {f : Nat → Bool} : ∀ n, cntB f n ≤ n
  | 0 => Nat.le_refl _
  | n + 1 => by
    have := cntB_le (f := f) n
    show cntB f n + (if f n = true then 1 else 0) ≤ n + 1
    split <;> omega
theorem cntB_mono {f g : Nat → Bool} : ∀ n, (∀ i, i < n → f i = true → g i = true) → cntB f n ≤ cntB g n
  | 0, _ => Nat.le_refl _
  | n + 1, h => by
    have := cntB_mono n (fun i hi => h i (by omega))
    show cntB f n + (if f n = true then 1 else 0) ≤ cntB g n + (if g n = true then 1 else 0)
    by_cases q : f n = true
    · rw [if_pos q, if_pos (h n (by omega) q)]; omega
    · rw [if_neg q]; omega
theorem cntB_lt {f g : Nat → Bool} {j : Nat} : ∀ n, (∀ i, i < n → f i = true → g i = true) → j < n → ¬ f j = true → g j = true → cntB f n + 1 ≤ cntB g n
  | 0, _, h, _, _ => by omega
  | n + 1, h, hj, h1, h2 => by
    show cntB f n + (if f n = true then 1 else 0) + 1 ≤ cntB g n + (if g n = true then 1 else 0)
    by_cases e : j = n
    · subst e
      have := cntB_mono j (fun i hi => h i (by omega))
      rw [if_neg h1, if_pos h2]; omega
    · have := cntB_lt n (fun i hi => h i (by omega)) (by omega) h1 h2
      by_cases q : f n = true
      · rw [if_pos q, if_pos (h n (by omega) q)]; omega
      · rw [if_neg q]; omega
theorem cntB_all {f : Nat → Bool} : ∀ n, n ≤ cntB f n → ∀ i, i < n → f i = true
  | 0, _, i, hi => by omega
  | n + 1, h, i, hi => by
    have h' : n + 1 ≤ cntB f n + (if f n = true then 1 else 0) := h
    have l := cntB_le (f := f) n
    by_cases q : f n = true
    · rw [if_pos q] at h'
      by_cases e : i = n
      · rw [e]; exact q
      · exact cntB_all n (by omega) i (by omega)
    · rw [if_neg q] at h'; omega
theorem ex_min (f : Nat → Nat) (P : Nat → Prop) : ∀ n, (∃ i, i < n ∧ P i) → ∃ i, i < n ∧ P i ∧ ∀ j, j < n → P j → f i ≤ f j := by
  intro n
  induction n with
  | zero => intro ⟨i, hi, _⟩; omega
  | succ n ih =>
    intro ⟨i, hi, hp⟩
    by_cases q : ∃ i, i < n ∧ P i
    · obtain ⟨k, hk, pk, mk⟩ := ih q
      by_cases q2 : P n ∧ f n < f k
      · refine ⟨n, by omega, q2.1, fun j hj pj => ?_⟩
        by_cases e : j = n
        · rw [e]; exact Nat.le_refl _
        · have := mk j (by omega) pj; omega
      · refine ⟨k, by omega, pk, fun j hj pj => ?_⟩
        by_cases e : j = n
        · subst e
          have : ¬ f j < f k := fun z => q2 ⟨pj, z⟩
          omega
        · exact mk j (by omega) pj
    · have e : i = n := by
        by_cases z : i < n
        · exact absurd ⟨i, z, hp⟩ q
        · omega
      subst e
      refine ⟨i, by omega, hp, fun j hj pj => ?_⟩
      by_cases e : j = i
      · rw [e]; exact Nat.le_refl _
      · exact absurd ⟨j, by omega, pj⟩ q
def zSumN (v : Nat → Nat) : Nat → Nat
  | 0 => 0
  | n + 1 => zSumN v n + v n
theorem zSumN_le {v w : Nat → Nat} : ∀ n, (∀ k, k < n → v k ≤ w k) → zSumN v n ≤ zSumN w n
  | 0, _ => Nat.le_refl _
  | n + 1, h => by
    have := zSumN_le n (fun k hk => h k (by omega))
    have := h n (by omega)
    show zSumN v n + v n ≤ zSumN w n + w n
    omega
theorem zSumN_lt {v w : Nat → Nat} {j : Nat} : ∀ n, (∀ k, k < n → v k ≤ w k) → j < n → v j < w j → zSumN v n < zSumN w n
  | 0, _, h, _ => by omega
  | n + 1, h, hj, h2 => by
    show zSumN v n + v n < zSumN w n + w n
    by_cases e : j = n
    · subst e
      have := zSumN_le j (fun k hk => h k (by omega))
      omega
    · have := zSumN_lt n (fun k hk => h k (by omega)) (by omega) h2
      have := h n (by omega)
      omega
/-- the least ones of all: closed, each of them there from the first or one more than another one -/
def wyG (E : Nat → Nat → Bool) (n : Nat) (v D : Nat → Nat) : Prop := wyCl E n D ∧ wyLe n D v ∧ ∀ b, b < n → D b = v b ∨ ∃ a, a < n ∧ D a < 1000 ∧ E a b = true ∧ D b = D a + 1
theorem wyG_ex : ∀ (s : Nat) (v : Nat → Nat), zSumN v n ≤ s → ∃ D, wyG E n v D := by
  intro s
  induction s with
  | zero =>
    intro v hs
    by_cases c : wyCl E n v
    · exact ⟨v, c, fun _ _ => Nat.le_refl _, fun _ _ => Or.inl rfl⟩
    · refine absurd (fun a b ha hb h1 h2 => ?_) c
      have z : ∀ k, k < n → v k = 0 := fun k hk => by
        by_cases q : v k = 0
        · exact q
        · have := zSumN_lt (v := fun _ => 0) (w := v) (j := k) n (fun k _ => Nat.zero_le _) hk (Nat.pos_of_ne_zero q)
          omega
      rw [z b hb]; omega
  | succ s ih =>
    intro v hs
    by_cases c : wyCl E n v
    · exact ⟨v, c, fun _ _ => Nat.le_refl _, fun _ _ => Or.inl rfl⟩
    · have : ∃ a b, a < n ∧ b < n ∧ v a < 1000 ∧ E a b = true ∧ v a + 1 < v b := by
        refine Classical.byContradiction fun q => c fun a b ha hb h1 h2 => ?_
        refine Classical.byContradiction fun q2 => q ⟨a, b, ha, hb, h1, h2, by omega⟩
      obtain ⟨a, b, ha, hb, h1, h2, h3⟩ := this
      have lt : zSumN (wyR E a b v) n < zSumN v n := by
        refine zSumN_lt (j := b) n (fun k _ => wyR_le k) hb ?_
        unfold wyR
        rw [if_pos ⟨h1, h3, h2⟩]
        show (if b = b then v a + 1 else v b) < v b
        rw [if_pos rfl]; exact h3
      obtain ⟨D, d1, d2, d3⟩ := ih (wyR E a b v) (by omega)
      have ab : ¬ a = b := fun e => by rw [e] at h3; omega
      refine ⟨D, d1, fun k hk => Nat.le_trans (d2 k hk) (wyR_le k), fun k hk => ?_⟩
      rcases d3 k hk with q | q
      · by_cases e : k = b
        · subst e
          refine Or.inr ⟨a, ha, ?_⟩
          have e1 : wyR E a k v k = v a + 1 := by
            unfold wyR
            rw [if_pos ⟨h1, h3, h2⟩]; exact if_pos rfl
          have l1 : D a ≤ v a := Nat.le_trans (d2 a ha) (wyR_le a)
          have l2 := d1 a k ha hk (by omega) h2
          exact ⟨by omega, h2, by omega⟩
        · refine Or.inl ?_
          rw [q]
          unfold wyR
          rw [if_pos ⟨h1, h3, h2⟩]; exact if_neg e
      · exact Or.inr q
theorem wyN_all {v D : Nat → Nat} (hG : wyG E n v D) (hn : 0 < n) (h1000 : ∀ k, k < n → v k ≤ 1000) : ∀ k, k + 1 ≤ n → wyLe n D (wyN E n k v) ∧ k + 1 ≤ cntB (fun i => decide (wyN E n k v i ≤ D i)) n := by
  obtain ⟨d1, d2, d3⟩ := hG
  intro k
  induction k with
  | zero =>
    intro _
    refine ⟨d2, ?_⟩
    obtain ⟨i, hi, _, mi⟩ := ex_min D (fun _ => True) n ⟨0, hn, trivial⟩
    have : cntB (fun _ => false) n + 1 ≤ cntB (fun i => decide (wyN E n 0 v i ≤ D i)) n := by
      refine cntB_lt (j := i) n (fun _ _ h => by cases h) hi (by simp) ?_
      show decide (v i ≤ D i) = true
      refine decide_eq_true ?_
      rcases d3 i hi with q | ⟨a, ha, h2, h3, h4⟩
      · omega
      · have := mi a ha trivial; omega
    omega
  | succ k ih =>
    intro hk
    obtain ⟨l, c⟩ := ih (by omega)
    rw [wyN_s]
    have l2 := wyP_D d1 l
    refine ⟨l2, ?_⟩
    have mono : ∀ i, i < n → decide (wyN E n k v i ≤ D i) = true → decide (wyP E n (wyN E n k v) i ≤ D i) = true := fun i _ h => decide_eq_true (Nat.le_trans (wyP_le i) (of_decide_eq_true h))
    by_cases q : ∃ b, b < n ∧ ¬ wyN E n k v b ≤ D b
    · obtain ⟨b, hb, nb, mb⟩ := ex_min D (fun b => ¬ wyN E n k v b ≤ D b) n q
      have nd : ¬ D b = v b := fun e => nb (by rw [e]; exact wyN_le k v b)
      obtain ⟨a, ha, h2, h3, h4⟩ := (d3 b hb).resolve_left nd
      have fa : wyN E n k v a ≤ D a := Classical.byContradiction fun z => by have := mb a ha z; omega
      have lt := cntB_lt (f := fun i => decide (wyN E n k v i ≤ D i)) (g := fun i => decide (wyP E n (wyN E n k v) i ≤ D i)) (j := b) n mono hb (fun z => nb (of_decide_eq_true z)) (decide_eq_true (by
        have := wyP_go (v := wyN E n k v) ha hb h3 (by omega)
        omega))
      omega
    · have : n ≤ cntB (fun i => decide (wyP E n (wyN E n k v) i ≤ D i)) n := by
        have all : ∀ i, i < n → (fun _ : Nat => true) i = true → (fun i => decide (wyP E n (wyN E n k v) i ≤ D i)) i = true := fun i hi _ => mono i hi (decide_eq_true (Classical.byContradiction fun z => q ⟨i, hi, z⟩))
        have t : ∀ m, cntB (fun _ => true) m = m := by
          intro m
          induction m with
          | zero => rfl
          | succ m ihm => show cntB (fun _ => true) m + (if true = true then 1 else 0) = m + 1; rw [ihm, if_pos rfl]
        have := cntB_mono n all
        rw [t] at this; exact this
      omega
/-- as often as there are isles less one: then nothing is left to go over -/
theorem wyN_cl {v : Nat → Nat} (hn : 0 < n) (h1000 : ∀ k, k < n → v k ≤ 1000) : wyCl E n (wyN E n (n - 1) v) := by
  obtain ⟨D, hG⟩ := wyG_ex (E := E) (n := n) (zSumN v n) v (Nat.le_refl _)
  obtain ⟨l, c⟩ := wyN_all hG hn h1000 (n - 1) (by omega)
  have all := cntB_all n (by omega : n ≤ cntB (fun i => decide (wyN E n (n - 1) v i ≤ D i)) n)
  have e : ∀ i, i < n → wyN E n (n - 1) v i = D i := fun i hi => Nat.le_antisymm (of_decide_eq_true (all i hi)) (l i hi)
  intro a b ha hb h1 h2
  rw [e a ha] at h1 ⊢
  rw [e b hb]
  exact hG.1 a b ha hb h1 h2
/-! bounds -/
def wyOK (n : Nat) (v : Nat → Nat) : Prop := (∀ k, k < n → v k ≤ 1000) ∧ ∀ k, k < n → v k < 1000 → v k ≤ cntB (fun i => decide (v i < 1000)) n
theorem wyOK.six {v : Nat → Nat} (h : wyOK n v) {k : Nat} (hk : k < n) (q : v k < 1000) : v k ≤ n := Nat.le_trans (h.2 k hk q) (cntB_le n)
theorem wyR_ok {a b : Nat} {v : Nat → Nat} (ha : a < n) (hb : b < n) (h : wyOK n v) : wyOK n (wyR E a b v) := by
  refine ⟨fun k hk => Nat.le_trans (wyR_le k) (h.1 k hk), fun k hk => ?_⟩
  unfold wyR
  split
  · rename_i q
    have mono : ∀ i, i < n → decide (v i < 1000) = true → decide ((if i = b then v a + 1 else v i) < 1000) = true := fun i hi z => by
      have z1 := of_decide_eq_true z
      refine decide_eq_true ?_
      split
      · have := h.1 b hb; omega
      · exact z1
    have b1 := h.1 b hb
    have m := cntB_mono n mono
    show (if k = b then v a + 1 else v k) < 1000 → (if k = b then v a + 1 else v k) ≤ cntB (fun i => decide ((if i = b then v a + 1 else v i) < 1000)) n
    intro z
    by_cases e : k = b
    · rw [if_pos e]
      have ka := h.2 a ha q.1
      by_cases fb : v b < 1000
      · have kb := h.2 b hb fb
        omega
      · have lt := cntB_lt (f := fun i => decide (v i < 1000)) (g := fun i => decide ((if i = b then v a + 1 else v i) < 1000)) (j := b) n mono hb (fun y => fb (of_decide_eq_true y)) (decide_eq_true (by rw [if_pos rfl]; omega))
        omega
    · rw [if_neg e] at z ⊢
      have := h.2 k hk z
      omega
  · exact h.2 k hk
theorem wyB_ok {a : Nat} (ha : a < n) : ∀ (m b : Nat) (v : Nat → Nat), b + m ≤ n → wyOK n v → wyOK n (wyB E a m b v)
  | 0, _, _, _, h => h
  | m + 1, b, _, hm, h => wyB_ok ha m (b + 1) _ (by omega) (wyR_ok ha (by omega) h)
theorem wyA_ok : ∀ (m a : Nat) (v : Nat → Nat), a + m ≤ n → wyOK n v → wyOK n (wyA E n m a v)
  | 0, _, _, _, h => h
  | m + 1, a, _, hm, h => wyA_ok m (a + 1) _ (by omega) (wyB_ok (by omega) n 0 _ (by omega) h)
theorem wyP_ok {v : Nat → Nat} (h : wyOK n v) : wyOK n (wyP E n v) := wyA_ok n 0 v (by omega) h
theorem wyN_ok : ∀ (k : Nat) (v : Nat → Nat), wyOK n v → wyOK n (wyN E n k v)
  | 0, _, h => h
  | k + 1, _, h => wyN_ok k _ (wyP_ok h)
end Pass
