/-! the first world -/
def zAd (base : Nat) (adK adV : Nat → Nat) (t3 k : Nat) : Nat := if k < 1000 then base + k else if k < 2000 then adK (k - 1000) else if k < 3000 then adV (k - 2000) else t3
theorem zAd_c {base : Nat} {adK adV : Nat → Nat} {t3 k : Nat} (h : k < 1000) : zAd base adK adV t3 k = base + k := if_pos h
theorem zAd_K {base : Nat} {adK adV : Nat → Nat} {t3 i : Nat} (h : i < 1000) : zAd base adK adV t3 (1000 + i) = adK i := by
  unfold zAd
  rw [if_neg (by omega), if_pos (by omega), Nat.add_sub_cancel_left]
theorem zAd_V {base : Nat} {adK adV : Nat → Nat} {t3 i : Nat} (h : i < 1000) : zAd base adK adV t3 (2000 + i) = adV i := by
  unfold zAd
  rw [if_neg (by omega), if_neg (by omega), if_pos (by omega), Nat.add_sub_cancel_left]
def zD4 : Nat → Int32 := upd (upd (upd (upd (upd (upd (upd (upd (upd (upd (upd (upd (upd (upd (upd (upd (upd (upd (upd (upd (fun _ => 0) 0 0) 1 0) 2 0) 3 2) 4 8) 5 1) 6 0) 7 0) 8 0) 9 0) 10 0) 11 0) 12 0) 13 2) 14 8) 15 1) 16 0) 17 0) 18 0) 19 0
def zμ0 (k : Nat) : Nat → Int32 :=
  if k = 0 then (fun j => if j = 3 then -1 else if j = 5 then 1 else 0) else if k = 2 then (fun j => if j = 4 then -1 else 0) else if k = 6 then (fun j => if j = 6 then 2 else if j = 7 then 8 else 0)
  else if k = 26 then (fun j => if j = 6 then 2 else if j = 7 then 8 else 0) else if k = 22 then upd (fun _ => 0) 0 1 else if k = 42 then upd (fun _ => 0) 0 1 else if k = 106 then (fun j => if j = 21 then -1 else 0) else if k = 110 then zD4 else fun _ => 0
theorem zbw_alt {D : va_G} {h : Nat} {es : List va_E} {H : Heap} {k : Nat} {e e' : va_E} (hB : va_P D vwCl (zbw h es) H) (hk : es[k]? = some e) (he : va_at D vwCl (h + k, e) H → va_at D vwCl (h + k, e') H) : va_P D vwCl (zbw h (es.set k e')) H := by
  have hk0 := (List.getElem?_eq_some_iff.mp hk).1
  intro i q hq
  obtain ⟨e9, he9, rfl⟩ := zbw_some hq
  by_cases hi : k = i
  · subst hi
    rw [List.getElem?_set_self hk0] at he9
    cases he9
    exact he (hB k _ (by rw [zbw_get, hk]; rfl))
  · rw [List.getElem?_set_ne hi] at he9
    exact hB i _ (by rw [zbw_get, he9]; rfl)
theorem arrV_cg {c : ClassId} {n : Nat} {f g : Nat → Value} (h : ∀ j, j < n → f j = g j) : arrV c n f = arrV c n g := by
  have e : (fun j : Fin n => f j.val) = fun j : Fin n => g j.val := funext fun j => h j.1 j.2
  unfold arrV
  rw [e]
theorem zat_q {D : va_G} {a n : Nat} {c : ClassId} {f g : Nat → Option Nat} {H : Heap} (h : ∀ j, j < n → f j = g j) (hb : va_at D vwCl (a, .inl (c, n, .inr (.inr (.inr (.inr f))))) H) : va_at D vwCl (a, .inl (c, n, .inr (.inr (.inr (.inr g))))) H := by
  have h1 : H[a]? = some (vp_cell c (n, .inr (.inr (.inr (.inr f))))) := hb
  show H[a]? = some (vp_cell c (n, .inr (.inr (.inr (.inr g)))))
  rw [vp_cell_q] at h1 ⊢
  rw [h1]
  exact congrArg some (arrV_cg fun j hj => by rw [h j hj])
section Wd
variable {cA : Nat → ClassId} {base : Nat} {adK adV : Nat → Nat} {t3 : Nat}
def zL8 (cA : Nat → ClassId) (h : Nat) : List va_E := [.inr (8, [.ref (h + 1), .int 0, .ref (h + 2), .int (-1), .ref (h + 6), .ref (h + 26), .ref (h + 46), .ref (h + 63), .int 0, .ref (h + 80), .ref (h + 92), .ref (h + 98), .ref (h + 103), .ref (h + 104), .ref (h + 105)]), .inl (cA 1, 700, .inl (fun _ => 0)), .inr (2, [.ref (h + 3), .ref (h + 5), .int 0, .int 0, .int (-1)]), .inr (6, [.ref (h + 4), .int 0, .int 0, .int 0, .int 0, .int 0]), .inl (cA 1, 700, .inl (fun _ => 0)), .inl (cA 2, 5, .inl (fun _ => 0)), .inr (4, [.ref (h + 7), .int 0, .ref (h + 19), .ref (h + 20), .ref (h + 21), .int 0, .int 2, .int 8, .ref (h + 22), .ref (h + 23)]), .inr (1, [.int 0, .ref (h + 8), .ref (h + 9), .ref (h + 10), .ref (h + 11), .ref (h + 12), .ref (h + 13), .ref (h + 14), .ref (h + 15), .ref (h + 16), .ref (h + 17), .ref (h + 18)]), .inl (cA 0, 6, .inl (fun _ => 0)), .inl (cA 0, 6, .inl (fun _ => 0)), .inl (cA 0, 6, .inl (fun _ => 0)), .inl (cA 0, 6, .inl (fun _ => 0)), .inl (cA 0, 6, .inl (fun _ => 0)), .inl (cA 0, 6, .inl (fun _ => 0)), .inl (cA 0, 6, .inl (fun _ => 0)), .inl (cA 0, 6, .inl (fun _ => 0)), .inl (cA 0, 6, .inl (fun _ => 0)), .inl (cA 0, 6, .inl (fun _ => 0)), .inl (cA 0, 24, .inl (fun _ => 0)), .inl (cA 0, 12, .inl (fun _ => 0)), .inl (cA 0, 12, .inl (fun _ => 0)), .inl (cA 0, 12, .inl (fun _ => 0)), .inl (cA 0, 4, .inl (upd (fun _ => 0) 0 1)), .inr (3, [.ref (h + 24), .int 0, .ref (h + 25)]), .inl (cA 0, 700, .inl (fun _ => 0)), .inl (cA 0, 40, .inl (fun _ => 0)), .inr (4, [.ref (h + 27), .int 0, .ref (h + 39), .ref (h + 40), .ref (h + 41), .int 0, .int 2, .int 8, .ref (h + 42), .ref (h + 43)]), .inr (1, [.int 0, .ref (h + 28), .ref (h + 29), .ref (h + 30), .ref (h + 31), .ref (h + 32), .ref (h + 33), .ref (h + 34), .ref (h + 35), .ref (h + 36), .ref (h + 37), .ref (h + 38)]), .inl (cA 0, 6, .inl (fun _ => 0)), .inl (cA 0, 6, .inl (fun _ => 0)), .inl (cA 0, 6, .inl (fun _ => 0)), .inl (cA 0, 6, .inl (fun _ => 0)), .inl (cA 0, 6, .inl (fun _ => 0)), .inl (cA 0, 6, .inl (fun _ => 0)), .inl (cA 0, 6, .inl (fun _ => 0)), .inl (cA 0, 6, .inl (fun _ => 0)), .inl (cA 0, 6, .inl (fun _ => 0)), .inl (cA 0, 6, .inl (fun _ => 0)), .inl (cA 0, 24, .inl (fun _ => 0)), .inl (cA 0, 12, .inl (fun _ => 0)), .inl (cA 0, 12, .inl (fun _ => 0)), .inl (cA 0, 12, .inl (fun _ => 0)), .inl (cA 0, 4, .inl (upd (fun _ => 0) 0 1)), .inr (3, [.ref (h + 44), .int 0, .ref (h + 45)]), .inl (cA 0, 700, .inl (fun _ => 0)), .inl (cA 0, 40, .inl (fun _ => 0)), .inr (5, [.ref (h + 47), .ref (h + 59), .int 0, .ref (h + 60), .int 0, .ref (h + 61), .int 0, .ref (h + 62)]), .inr (1, [.int 0, .ref (h + 48), .ref (h + 49), .ref (h + 50), .ref (h + 51), .ref (h + 52), .ref (h + 53), .ref (h + 54), .ref (h + 55), .ref (h + 56), .ref (h + 57), .ref (h + 58)]), .inl (cA 0, 6, .inl (fun _ => 0)), .inl (cA 0, 6, .inl (fun _ => 0)), .inl (cA 0, 6, .inl (fun _ => 0)), .inl (cA 0, 6, .inl (fun _ => 0)), .inl (cA 0, 6, .inl (fun _ => 0)), .inl (cA 0, 6, .inl (fun _ => 0)), .inl (cA 0, 6, .inl (fun _ => 0)), .inl (cA 0, 6, .inl (fun _ => 0)), .inl (cA 0, 6, .inl (fun _ => 0)), .inl (cA 0, 6, .inl (fun _ => 0)), .inl (cA 0, 24, .inl (fun _ => 0)), .inl (cA 0, 200, .inl (fun _ => 0)), .inl (cA 0, 40, .inl (fun _ => 0)), .inl (cA 0, 36, .inl (fun _ => 0)), .inl (cA 0, 3, .inl (fun _ => 0)), .inr (5, [.ref (h + 64), .ref (h + 76), .int 0, .ref (h + 77), .int 0, .ref (h + 78), .int 0, .ref (h + 79)]), .inr (1, [.int 0, .ref (h + 65), .ref (h + 66), .ref (h + 67), .ref (h + 68), .ref (h + 69), .ref (h + 70), .ref (h + 71), .ref (h + 72), .ref (h + 73), .ref (h + 74), .ref (h + 75)]), .inl (cA 0, 6, .inl (fun _ => 0)), .inl (cA 0, 6, .inl (fun _ => 0)), .inl (cA 0, 6, .inl (fun _ => 0)), .inl (cA 0, 6, .inl (fun _ => 0)), .inl (cA 0, 6, .inl (fun _ => 0)), .inl (cA 0, 6, .inl (fun _ => 0)), .inl (cA 0, 6, .inl (fun _ => 0)), .inl (cA 0, 6, .inl (fun _ => 0)), .inl (cA 0, 6, .inl (fun _ => 0)), .inl (cA 0, 6, .inl (fun _ => 0)), .inl (cA 0, 24, .inl (fun _ => 0)), .inl (cA 0, 200, .inl (fun _ => 0)), .inl (cA 0, 40, .inl (fun _ => 0)), .inl (cA 0, 36, .inl (fun _ => 0)), .inl (cA 0, 3, .inl (fun _ => 0)), .inr (1, [.int 0, .ref (h + 81), .ref (h + 82), .ref (h + 83), .ref (h + 84), .ref (h + 85), .ref (h + 86), .ref (h + 87), .ref (h + 88), .ref (h + 89), .ref (h + 90), .ref (h + 91)]), .inl (cA 0, 6, .inl (fun _ => 0)), .inl (cA 0, 6, .inl (fun _ => 0)), .inl (cA 0, 6, .inl (fun _ => 0)), .inl (cA 0, 6, .inl (fun _ => 0)), .inl (cA 0, 6, .inl (fun _ => 0)), .inl (cA 0, 6, .inl (fun _ => 0)), .inl (cA 0, 6, .inl (fun _ => 0)), .inl (cA 0, 6, .inl (fun _ => 0)), .inl (cA 0, 6, .inl (fun _ => 0)), .inl (cA 0, 6, .inl (fun _ => 0)), .inl (cA 0, 24, .inl (fun _ => 0)), .inr (0, [.ref (h + 93), .ref (h + 94), .ref (h + 95), .ref (h + 96), .ref (h + 97)]), .inl (cA 0, 36, .inl (fun _ => 0)), .inl (cA 0, 36, .inl (fun _ => 0)), .inl (cA 0, 36, .inl (fun _ => 0)), .inl (cA 0, 36, .inl (fun _ => 0)), .inl (cA 0, 36, .inl (fun _ => 0)), .inr (7, [.ref (h + 99), .ref (h + 100), .ref (h + 101), .ref (h + 102), .int 0]), .inl (cA 0, 1296, .inl (fun _ => 0)), .inl (cA 0, 4, .inl (fun _ => 0)), .inl (cA 0, 4, .inl (fun _ => 0)), .inl (cA 0, 4, .inl (fun _ => 0)), .inl (cA 0, 6, .inl (fun _ => 0)), .inl (cA 0, 36, .inl (fun _ => 0)), .inl (cA 0, 40, .inl (fun _ => 0))]
theorem zL8_ok {h : Nat} : eX8 cA h = zL8 cA h := rfl
def zL9 (cA : Nat → ClassId) (h : Nat) (sa : Nat → Nat) : List va_E := [.inr (9, [.ref (h + 1), .ref (h + 2), .ref (h + 3), .int 0, .ref (h + 4), .ref (h + 5), .ref (h + 6), .ref (h + 7), .ref (h + 8), .ref (h + 9), .ref (h + 10), .ref (h + 11), .int 0, .int 0, .int 0, .int 0, .int 0, .int 0, .int 0, .int 0, .int 0, .int (-1), .ref (h + 12), .ref (h + 13), .ref (h + 14), .ref (h + 15), .ref (h + 16), .int 0, .int 0, .int 0, .int 0, .int 0, .ref (h + 17), .ref (h + 18), .ref (h + 19), .ref (h + 20), .int 0, .int 0, .int 0, .int 0, .int 0, .int 0, .int 0, .ref (h + 21), .ref (h + 22), .ref (h + 23), .ref (h + 24), .ref (h + 25), .ref (h + 26), .ref (h + 27), .ref (h + 28), .ref (h + 29), .int 0, .int 0, .int 0, .int 0, .int 0, .ref (h + 30), .ref (h + 31), .ref (h + 32), .ref (h + 33), .ref (h + 34), .ref (h + 35), .ref (h + 36)]), .inl (cA 4, 3, .inr (.inr (.inr (.inr (va_up (va_up (va_up (fun _ => none) 0 (some (sa 7))) 1 (some (sa 8))) 2 (some (sa 9))))))), .inl (cA 4, 4, .inr (.inr (.inr (.inr (va_up (va_up (va_up (va_up (fun _ => none) 0 (some (sa 10))) 1 (some (sa 11))) 2 (some (sa 12))) 3 (some (sa 13))))))), .inl (cA 4, 8, .inr (.inr (.inr (.inr (va_up (va_up (va_up (va_up (va_up (va_up (va_up (va_up (fun _ => none) 0 (some (sa 14))) 1 (some (sa 15))) 2 (some (sa 16))) 3 (some (sa 17))) 4 (some (sa 18))) 5 (some (sa 19))) 6 (some (sa 20))) 7 (some (sa 21))))))), .inl (cA 0, 20, .inl (upd (upd (upd (upd (upd (upd (upd (upd (upd (upd (upd (upd (upd (upd (upd (upd (upd (upd (upd (upd (fun _ => 0) 0 0) 1 0) 2 0) 3 2) 4 8) 5 1) 6 0) 7 0) 8 0) 9 0) 10 0) 11 0) 12 0) 13 2) 14 8) 15 1) 16 0) 17 0) 18 0) 19 0)), .inl (cA 0, 168, .inl (fun _ => 0)), .inl (cA 0, 24, .inl (fun _ => 0)), .inl (cA 0, 24, .inl (fun _ => 0)), .inl (cA 0, 24, .inl (fun _ => 0)), .inl (cA 0, 1400, .inl (fun _ => 0)), .inl (cA 0, 3, .inl (fun _ => 0)), .inl (cA 0, 700, .inl (fun _ => 0)), .inl (cA 0, 8, .inl (fun _ => 0)), .inl (cA 0, 64, .inl (fun _ => 0)), .inl (cA 0, 6, .inl (fun _ => 0)), .inl (cA 0, 6, .inl (fun _ => 0)), .inl (cA 0, 6, .inl (fun _ => 0)), .inl (cA 0, 3360, .inl (fun _ => 0)), .inl (cA 0, 6, .inl (fun _ => 0)), .inl (cA 0, 6, .inl (fun _ => 0)), .inl (cA 0, 6, .inl (fun _ => 0)), .inl (cA 0, 6, .inl (fun _ => 0)), .inl (cA 0, 6, .inl (fun _ => 0)), .inl (cA 0, 40, .inl (fun _ => 0)), .inl (cA 0, 40, .inl (fun _ => 0)), .inl (cA 0, 6, .inl (fun _ => 0)), .inl (cA 0, 12, .inl (fun _ => 0)), .inl (cA 0, 12, .inl (fun _ => 0)), .inl (cA 0, 12, .inl (fun _ => 0)), .inl (cA 0, 36, .inl (fun _ => 0)), .inl (cA 0, 168, .inl (fun _ => 0)), .inl (cA 0, 3360, .inl (fun _ => 0)), .inl (cA 0, 40, .inl (fun _ => 0)), .inl (cA 0, 12, .inl (fun _ => 0)), .inl (cA 0, 12, .inl (fun _ => 0)), .inl (cA 0, 12, .inl (fun _ => 0)), .inl (cA 0, 3, .inl (fun _ => 0))]
theorem zL9_ok {h : Nat} {sa : Nat → Nat} : eX9 cA h sa = zL9 cA h sa := rfl
def zLs (k n : Nat) (cA : Nat → ClassId) (ad : Nat → Nat) : va_E := .inl (cA 4, n, .inr (.inr (.inr (.inr (fun j => some (ad (zstr k j)))))))
def zLl (cA : Nat → ClassId) : va_E := .inl (cA 3, 1, .inr (.inl (fun _ => zJ 0 0)))
set_option maxRecDepth 200000 in
theorem zL8_z : zL8 cA base = (List.range 106).map (zent cA (zAd base adK adV t3) zμ0) := rfl
set_option maxRecDepth 200000 in
theorem zL9_z : (((zL9 cA (base + 106) adK).set 1 (zLs 107 3 cA (zAd base adK adV t3))).set 2 (zLs 108 4 cA (zAd base adK adV t3))).set 3 (zLs 109 8 cA (zAd base adK adV t3)) = (List.range 37).map (fun j => zent cA (zAd base adK adV t3) zμ0 (106 + j)) := rfl
theorem zLl_z : zLl cA = zent cA (zAd base adK adV t3) zμ0 143 := rfl
end Wd
theorem zbw_l {D : va_G} {h : Nat} {a b : List va_E} {H : Heap} (hB : va_P D vwCl (zbw h (a ++ b)) H) : va_P D vwCl (zbw h a) H := by
  intro k q hq
  refine hB k q ?_
  rw [zbw_app, List.getElem?_append_left (List.getElem?_eq_some_iff.mp hq).1]
  exact hq
theorem zbw_r {D : va_G} {h : Nat} {a b : List va_E} {H : Heap} (hB : va_P D vwCl (zbw h (a ++ b)) H) : va_P D vwCl (zbw (h + a.length) b) H := by
  intro k q hq
  refine hB (a.length + k) q ?_
  rw [zbw_app, List.getElem?_append_right (by rw [zbw_len]; omega), zbw_len, Nat.add_sub_cancel_left]
  exact hq
theorem zbw_e {D : va_G} {h k : Nat} {es : List va_E} {e : va_E} {H : Heap} (hB : va_P D vwCl (zbw h es) H) (he : es[k]? = some e) : va_at D vwCl (h + k, e) H := hB k _ (by rw [zbw_get, he]; rfl)
section Wd2
variable {cA : Nat → ClassId} {base : Nat} {adK adV : Nat → Nat} {t3 : Nat} {D : va_G} {H : Heap}
theorem zP0 (hB : zB D base (eX8 cA base ++ (eX9 cA (base + 106) adK ++ [.inl (cA 3, 1, .inr (.inl fun _ => 0))])) H) : zP D cA (zAd base adK adV t3) zμ0 H := by
  rw [zL8_ok, zL9_ok] at hB
  have h8 := zbw_l hB.2
  have h9 := zbw_r hB.2
  have hl := zbw_r h9
  rw [show (zL9 cA (base + 106) adK).length = 37 from rfl] at hl
  replace h9 := zbw_l h9
  rw [show (zL8 cA base).length = 106 from rfl] at h9 hl
  have q1 := zbw_alt (e' := zLs 107 3 cA (zAd base adK adV t3)) (k := 1) h9 rfl (zat_q fun j hj => by match j, hj with | 0, _ => rfl | 1, _ => rfl | 2, _ => rfl)
  have q2 := zbw_alt (e' := zLs 108 4 cA (zAd base adK adV t3)) (k := 2) q1 rfl (zat_q fun j hj => by match j, hj with | 0, _ => rfl | 1, _ => rfl | 2, _ => rfl | 3, _ => rfl)
  have q3 := zbw_alt (e' := zLs 109 8 cA (zAd base adK adV t3)) (k := 3) q2 rfl (zat_q fun j hj => by match j, hj with | 0, _ => rfl | 1, _ => rfl | 2, _ => rfl | 3, _ => rfl | 4, _ => rfl | 5, _ => rfl | 6, _ => rfl | 7, _ => rfl)
  rw [zL9_z] at q3
  rw [zL8_z (adK := adK) (adV := adV) (t3 := t3)] at h8
  have hJ : zJ 0 0 = 0 := by decide
  have ql := zbw_e (k := 0) (e := zLl cA) hl (by unfold zLl; rw [hJ]; rfl)
  rw [zLl_z (base := base) (adK := adK) (adV := adV) (t3 := t3)] at ql
  intro k q hq
  obtain ⟨hk, rfl⟩ := zws_some hq
  have hk : k < 144 := hk
  rw [zAd_c (by omega)]
  by_cases c1 : k < 106
  · exact zbw_e h8 (by rw [List.getElem?_map, List.getElem?_range c1]; rfl)
  · by_cases c2 : k < 143
    · obtain ⟨j, rfl⟩ : ∃ j, k = 106 + j := ⟨k - 106, by omega⟩
      have := zbw_e (k := j) (e := zent cA (zAd base adK adV t3) zμ0 (106 + j)) q3 (by rw [List.getElem?_map, List.getElem?_range (by omega)]; rfl)
      rw [show base + (106 + j) = base + 106 + j by omega]
      exact this
    · have hk3 : k = 143 := by omega
      subst hk3
      exact ql
end Wd2
theorem QI0 : QI zμ0 := by
  have z4 : zsk zμ0 0 4 = 6 := by decide
  have z5 : zsk zμ0 0 5 = 26 := by decide
  have d1 : ∀ j, j < 4 → zμ0 (6 + 16) j = σD (5 + j) := by decide
  have d2 : ∀ j, j < 9 → 2 ≤ j → zμ0 110 j = σD j := by decide
  have n0 : ∀ {P : Nat → Prop} (j : Nat), j < 0 → P j := fun j hj => absurd hj (Nat.not_lt_zero j)
  refine ⟨0, σ0.2.2.1, σD, 0, fun _ => 0, -1, tNew (fun _ _ => 0) (fun _ _ => 0, fun _ => 0, (0, fun _ => fun _ _ => 0), (0, fun _ => 0), (0, fun _ => (0, 0, 0))), none, none, QW.new σ0_M, ⟨⟨?_, ?_, ?_⟩, ⟨by decide, fun j hj => absurd hj (Nat.not_lt_zero j)⟩, by decide, ⟨⟨by decide, fun j hj => absurd hj (Nat.not_lt_zero j)⟩, fun j _ => rfl, ⟨by decide, fun j hj => absurd hj (Nat.not_lt_zero j)⟩, ⟨by decide, fun j hj => absurd hj (Nat.not_lt_zero j)⟩, by decide, fun j hj => absurd hj (Nat.not_lt_zero j)⟩, by show zμ0 98 4 = 0; decide, by show zμ0 0 8 = 0; decide⟩,
    ⟨⟨by decide, ⟨Nat.zero_le _, by decide, fun j hj => absurd hj (Nat.not_lt_zero j), Nat.zero_le _, by decide, fun j hj => absurd hj (Nat.not_lt_zero j), Or.inl rfl⟩, fun j h2 h8 => d2 j (by omega) h2⟩, ⟨by decide, fun j hj => absurd hj (Nat.not_lt_zero j)⟩, by decide, ⟨fun j hj => absurd hj (Nat.not_lt_zero j), fun j _ => rfl, ⟨by decide, fun j hj => absurd hj (Nat.not_lt_zero j)⟩, ⟨by decide, fun j hj => absurd hj (Nat.not_lt_zero j)⟩, by decide, fun j hj => absurd hj (Nat.not_lt_zero j)⟩, by show zμ0 106 36 = 0; decide, by show zμ0 106 53 = 0; decide⟩⟩
  · rw [z4]
    exact ⟨Nat.zero_le _, by decide, fun j hj => absurd hj (Nat.not_lt_zero j), Nat.zero_le _, by decide, fun j hj => absurd hj (Nat.not_lt_zero j), Or.inl rfl⟩
  · rw [z4, z5]; decide
  · rw [z4]
    exact ⟨by decide, by decide, by decide, d1⟩
