theorem wGl (ws : List Cond) (ps : List Nat) (hp : ws = ps.filterMap (fun i => lw_tbl[i]?)) (h : ws.all goodWord = true) : ∀ w ∈ ws, w ∈ wG := by
  intro w hw
  have h1 := List.all_eq_true.mp h w hw
  rw [hp] at hw
  obtain ⟨i, -, hi⟩ := List.mem_filterMap.mp hw
  exact wGm i hi h1
theorem zcw0 : ∀ w ∈ u_ws RX0 TX0 5, w ∈ wG := wGl _ [401, 403, 405, 407, 409] (by decide +kernel) (by decide +kernel)
theorem zcw1 : ∀ w ∈ u_ws RX1 TX1 12, w ∈ wG := wGl _ [254, 256, 258, 260, 262, 264, 266, 268, 270, 272, 274, 276] (by decide +kernel) (by decide +kernel)
theorem zcw2 : ∀ w ∈ u_ws RX2 TX2 5, w ∈ wG := wGl _ [179, 181, 183, 185, 187] (by decide +kernel) (by decide +kernel)
theorem zcw3 : ∀ w ∈ u_ws RX3 TX3 3, w ∈ wG := wGl _ [290, 292, 294] (by decide +kernel) (by decide +kernel)
theorem zcw4 : ∀ w ∈ u_ws RX4 TX4 10, w ∈ wG := wGl _ [323, 325, 327, 329, 331, 333, 335, 337, 339, 341] (by decide +kernel) (by decide +kernel)
theorem zcw5 : ∀ w ∈ u_ws RX5 TX5 8, w ∈ wG := wGl _ [367, 369, 371, 373, 375, 377, 379, 381] (by decide +kernel) (by decide +kernel)
theorem zcw6 : ∀ w ∈ u_ws RX6 TX6 6, w ∈ wG := wGl _ [159, 161, 163, 165, 167, 169] (by decide +kernel) (by decide +kernel)
theorem zcw7 : ∀ w ∈ u_ws RX7 TX7 5, w ∈ wG := wGl _ [425, 427, 429, 431, 433] (by decide +kernel) (by decide +kernel)
theorem zcw8 : ∀ w ∈ u_ws RX8 TX8 15, w ∈ wG := wGl _ [451, 453, 455, 457, 459, 461, 463, 465, 467, 469, 471, 473, 475, 477, 479] (by decide +kernel) (by decide +kernel)
theorem zcw9 : ∀ w ∈ u_ws RX9 TX9 64, w ∈ wG := wGl _ [1440, 1442, 1444, 1446, 1448, 1450, 1452, 1454, 1456, 1458, 1460, 1462, 1464, 1466, 1468, 1470, 1472, 1474, 1476, 1478, 1480, 1482, 1484, 1486, 1488, 1490, 1492, 1494, 1496, 1498, 1500, 1502, 1504, 1506, 1508, 1510, 1512, 1514, 1516, 1518, 1520, 1522, 1524, 1526, 1528, 1530, 1532, 1534, 1536, 1538, 1540, 1542, 1544, 1546, 1548, 1550, 1552, 1554, 1556, 1558, 1560, 1562, 1564, 1566] (by decide +kernel) (by decide +kernel)
theorem zvw {P : Nat → vw_C → Prop} (h : ∀ (c : Nat) (hc : c < 10), P c (vwCl.getD c (RX0, TX0, 5))) : ∀ (c : Nat) (q : vw_C), vwCl[c]? = some q → P c q := by
  intro c q hq
  have hc : c < 10 := (List.getElem?_eq_some_iff.mp hq).1
  have := h c hc
  rw [List.getD_eq_getElem?_getD, hq] at this
  exact this
theorem zfn_ok : ∀ (c : Nat) (q : vw_C), vwCl[c]? = some q → zfn c = q.2.2 := zvw (P := fun c q => zfn c = q.2.2) (by decide +kernel)
theorem zCW : ∀ (c : Nat) (q : vw_C), vwCl[c]? = some q → ∀ w ∈ u_ws q.1 q.2.1 q.2.2, w ∈ wG := by
  intro c q hq
  match c, hq with
  | 0, hq => cases hq; exact zcw0
  | 1, hq => cases hq; exact zcw1
  | 2, hq => cases hq; exact zcw2
  | 3, hq => cases hq; exact zcw3
  | 4, hq => cases hq; exact zcw4
  | 5, hq => cases hq; exact zcw5
  | 6, hq => cases hq; exact zcw6
  | 7, hq => cases hq; exact zcw7
  | 8, hq => cases hq; exact zcw8
  | 9, hq => cases hq; exact zcw9
  | c + 10, hq => exact absurd (List.getElem?_eq_some_iff.mp hq).1 (by show ¬ c + 10 < 10; omega)
theorem zCT : ∀ (c : Nat) (q : vw_C), vwCl[c]? = some q → (∃ ty0 : Nat → FieldType, ∀ k, k < q.2.2 → parseFieldDescriptor (q.2.1 k).2.2.1 = some (ty0 k)) ∧ ∀ a, a < q.2.2 → ∀ b, b < q.2.2 → a ≠ b → (q.2.1 a).2.1 ≠ (q.2.1 b).2.1 := by
  intro c q hq
  match c, hq with
  | 0, hq => cases hq; exact ⟨⟨tyX0, tyX0_ok⟩, nmX0⟩
  | 1, hq => cases hq; exact ⟨⟨tyX1, tyX1_ok⟩, nmX1⟩
  | 2, hq => cases hq; exact ⟨⟨tyX2, tyX2_ok⟩, nmX2⟩
  | 3, hq => cases hq; exact ⟨⟨tyX3, tyX3_ok⟩, nmX3⟩
  | 4, hq => cases hq; exact ⟨⟨tyX4, tyX4_ok⟩, nmX4⟩
  | 5, hq => cases hq; exact ⟨⟨tyX5, tyX5_ok⟩, nmX5⟩
  | 6, hq => cases hq; exact ⟨⟨tyX6, tyX6_ok⟩, nmX6⟩
  | 7, hq => cases hq; exact ⟨⟨tyX7, tyX7_ok⟩, nmX7⟩
  | 8, hq => cases hq; exact ⟨⟨tyX8, tyX8_ok⟩, nmX8⟩
  | 9, hq => cases hq; exact ⟨⟨tyX9, tyX9_ok⟩, nmX9⟩
  | c + 10, hq => exact absurd (List.getElem?_eq_some_iff.mp hq).1 (by show ¬ c + 10 < 10; omega)
