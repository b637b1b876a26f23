theorem zl0 : zsh 0 = .inr 8 := rfl
theorem zl1 : zsh 1 = .inl (1, 700) := rfl
theorem zl2 : zsh 2 = .inr 2 := rfl
theorem zl3 : zsh 3 = .inr 6 := rfl
theorem zl4 : zsh 4 = .inl (1, 700) := rfl
theorem zl5 : zsh 5 = .inl (2, 5) := rfl
theorem zl6 : zsh 6 = .inr 4 := rfl
theorem zl7 : zsh 7 = .inr 1 := rfl
theorem zl8 : zsh 8 = .inl (0, 6) := rfl
theorem zl9 : zsh 9 = .inl (0, 6) := rfl
theorem zl10 : zsh 10 = .inl (0, 6) := rfl
theorem zl11 : zsh 11 = .inl (0, 6) := rfl
theorem zl12 : zsh 12 = .inl (0, 6) := rfl
theorem zl13 : zsh 13 = .inl (0, 6) := rfl
theorem zl14 : zsh 14 = .inl (0, 6) := rfl
theorem zl15 : zsh 15 = .inl (0, 6) := rfl
theorem zl16 : zsh 16 = .inl (0, 6) := rfl
theorem zl17 : zsh 17 = .inl (0, 6) := rfl
theorem zl18 : zsh 18 = .inl (0, 24) := rfl
theorem zl19 : zsh 19 = .inl (0, 12) := rfl
theorem zl20 : zsh 20 = .inl (0, 12) := rfl
theorem zl21 : zsh 21 = .inl (0, 12) := rfl
theorem zl22 : zsh 22 = .inl (0, 4) := rfl
theorem zl23 : zsh 23 = .inr 3 := rfl
theorem zl24 : zsh 24 = .inl (0, 700) := rfl
theorem zl25 : zsh 25 = .inl (0, 40) := rfl
theorem zl26 : zsh 26 = .inr 4 := rfl
theorem zl27 : zsh 27 = .inr 1 := rfl
theorem zl28 : zsh 28 = .inl (0, 6) := rfl
theorem zl29 : zsh 29 = .inl (0, 6) := rfl
theorem zl30 : zsh 30 = .inl (0, 6) := rfl
theorem zl31 : zsh 31 = .inl (0, 6) := rfl
theorem zl32 : zsh 32 = .inl (0, 6) := rfl
theorem zl33 : zsh 33 = .inl (0, 6) := rfl
theorem zl34 : zsh 34 = .inl (0, 6) := rfl
theorem zl35 : zsh 35 = .inl (0, 6) := rfl
theorem zl36 : zsh 36 = .inl (0, 6) := rfl
theorem zl37 : zsh 37 = .inl (0, 6) := rfl
theorem zl38 : zsh 38 = .inl (0, 24) := rfl
theorem zl39 : zsh 39 = .inl (0, 12) := rfl
theorem zl40 : zsh 40 = .inl (0, 12) := rfl
theorem zl41 : zsh 41 = .inl (0, 12) := rfl
theorem zl42 : zsh 42 = .inl (0, 4) := rfl
theorem zl43 : zsh 43 = .inr 3 := rfl
theorem zl44 : zsh 44 = .inl (0, 700) := rfl
theorem zl45 : zsh 45 = .inl (0, 40) := rfl
theorem zl46 : zsh 46 = .inr 5 := rfl
theorem zl47 : zsh 47 = .inr 1 := rfl
theorem zl48 : zsh 48 = .inl (0, 6) := rfl
theorem zl49 : zsh 49 = .inl (0, 6) := rfl
theorem zl50 : zsh 50 = .inl (0, 6) := rfl
theorem zl51 : zsh 51 = .inl (0, 6) := rfl
theorem zl52 : zsh 52 = .inl (0, 6) := rfl
theorem zl53 : zsh 53 = .inl (0, 6) := rfl
theorem zl54 : zsh 54 = .inl (0, 6) := rfl
theorem zl55 : zsh 55 = .inl (0, 6) := rfl
theorem zl56 : zsh 56 = .inl (0, 6) := rfl
theorem zl57 : zsh 57 = .inl (0, 6) := rfl
theorem zl58 : zsh 58 = .inl (0, 24) := rfl
theorem zl59 : zsh 59 = .inl (0, 200) := rfl
theorem zl60 : zsh 60 = .inl (0, 40) := rfl
theorem zl61 : zsh 61 = .inl (0, 36) := rfl
theorem zl62 : zsh 62 = .inl (0, 3) := rfl
theorem zl63 : zsh 63 = .inr 5 := rfl
theorem zl64 : zsh 64 = .inr 1 := rfl
theorem zl65 : zsh 65 = .inl (0, 6) := rfl
theorem zl66 : zsh 66 = .inl (0, 6) := rfl
theorem zl67 : zsh 67 = .inl (0, 6) := rfl
theorem zl68 : zsh 68 = .inl (0, 6) := rfl
theorem zl69 : zsh 69 = .inl (0, 6) := rfl
theorem zl70 : zsh 70 = .inl (0, 6) := rfl
theorem zl71 : zsh 71 = .inl (0, 6) := rfl
theorem zl72 : zsh 72 = .inl (0, 6) := rfl
theorem zl73 : zsh 73 = .inl (0, 6) := rfl
theorem zl74 : zsh 74 = .inl (0, 6) := rfl
theorem zl75 : zsh 75 = .inl (0, 24) := rfl
theorem zl76 : zsh 76 = .inl (0, 200) := rfl
theorem zl77 : zsh 77 = .inl (0, 40) := rfl
theorem zl78 : zsh 78 = .inl (0, 36) := rfl
theorem zl79 : zsh 79 = .inl (0, 3) := rfl
theorem zl80 : zsh 80 = .inr 1 := rfl
theorem zl81 : zsh 81 = .inl (0, 6) := rfl
theorem zl82 : zsh 82 = .inl (0, 6) := rfl
theorem zl83 : zsh 83 = .inl (0, 6) := rfl
theorem zl84 : zsh 84 = .inl (0, 6) := rfl
theorem zl85 : zsh 85 = .inl (0, 6) := rfl
theorem zl86 : zsh 86 = .inl (0, 6) := rfl
theorem zl87 : zsh 87 = .inl (0, 6) := rfl
theorem zl88 : zsh 88 = .inl (0, 6) := rfl
theorem zl89 : zsh 89 = .inl (0, 6) := rfl
theorem zl90 : zsh 90 = .inl (0, 6) := rfl
theorem zl91 : zsh 91 = .inl (0, 24) := rfl
theorem zl92 : zsh 92 = .inr 0 := rfl
theorem zl93 : zsh 93 = .inl (0, 36) := rfl
theorem zl94 : zsh 94 = .inl (0, 36) := rfl
theorem zl95 : zsh 95 = .inl (0, 36) := rfl
theorem zl96 : zsh 96 = .inl (0, 36) := rfl
theorem zl97 : zsh 97 = .inl (0, 36) := rfl
theorem zl98 : zsh 98 = .inr 7 := rfl
theorem zl99 : zsh 99 = .inl (0, 1296) := rfl
theorem zl100 : zsh 100 = .inl (0, 4) := rfl
theorem zl101 : zsh 101 = .inl (0, 4) := rfl
theorem zl102 : zsh 102 = .inl (0, 4) := rfl
theorem zl103 : zsh 103 = .inl (0, 6) := rfl
theorem zl104 : zsh 104 = .inl (0, 36) := rfl
theorem zl105 : zsh 105 = .inl (0, 40) := rfl
theorem zl106 : zsh 106 = .inr 9 := rfl
theorem zl107 : zsh 107 = .inl (4, 3) := rfl
theorem zl108 : zsh 108 = .inl (4, 4) := rfl
theorem zl109 : zsh 109 = .inl (4, 8) := rfl
theorem zl110 : zsh 110 = .inl (0, 20) := rfl
theorem zl111 : zsh 111 = .inl (0, 168) := rfl
theorem zl112 : zsh 112 = .inl (0, 24) := rfl
theorem zl113 : zsh 113 = .inl (0, 24) := rfl
theorem zl114 : zsh 114 = .inl (0, 24) := rfl
theorem zl115 : zsh 115 = .inl (0, 1400) := rfl
theorem zl116 : zsh 116 = .inl (0, 3) := rfl
theorem zl117 : zsh 117 = .inl (0, 700) := rfl
theorem zl118 : zsh 118 = .inl (0, 8) := rfl
theorem zl119 : zsh 119 = .inl (0, 64) := rfl
theorem zl120 : zsh 120 = .inl (0, 6) := rfl
theorem zl121 : zsh 121 = .inl (0, 6) := rfl
theorem zl122 : zsh 122 = .inl (0, 6) := rfl
theorem zl123 : zsh 123 = .inl (0, 3360) := rfl
theorem zl124 : zsh 124 = .inl (0, 6) := rfl
theorem zl125 : zsh 125 = .inl (0, 6) := rfl
theorem zl126 : zsh 126 = .inl (0, 6) := rfl
theorem zl127 : zsh 127 = .inl (0, 6) := rfl
theorem zl128 : zsh 128 = .inl (0, 6) := rfl
theorem zl129 : zsh 129 = .inl (0, 40) := rfl
theorem zl130 : zsh 130 = .inl (0, 40) := rfl
theorem zl131 : zsh 131 = .inl (0, 6) := rfl
theorem zl132 : zsh 132 = .inl (0, 12) := rfl
theorem zl133 : zsh 133 = .inl (0, 12) := rfl
theorem zl134 : zsh 134 = .inl (0, 12) := rfl
theorem zl135 : zsh 135 = .inl (0, 36) := rfl
theorem zl136 : zsh 136 = .inl (0, 168) := rfl
theorem zl137 : zsh 137 = .inl (0, 3360) := rfl
theorem zl138 : zsh 138 = .inl (0, 40) := rfl
theorem zl139 : zsh 139 = .inl (0, 12) := rfl
theorem zl140 : zsh 140 = .inl (0, 12) := rfl
theorem zl141 : zsh 141 = .inl (0, 12) := rfl
theorem zl142 : zsh 142 = .inl (0, 3) := rfl
theorem zl143 : zsh 143 = .inl (3, 1) := rfl
theorem zis0 : ∀ o, zsh o = .inr 0 → o = 92 := by
  intro o h
  have h1 := zsh_inr h
  have h2 : ∀ k, k < 144 → zsh k = .inr 0 → k = 92 := by decide +kernel
  exact h2 o h1 h
theorem zo0_0 {o : Nat} (h : zsh o = .inr 0) : zsh (o + 1) = .inl (0, 36) := by
  have e := zis0 o h
  subst e
  rfl
theorem zo0_1 {o : Nat} (h : zsh o = .inr 0) : zsh (o + 2) = .inl (0, 36) := by
  have e := zis0 o h
  subst e
  rfl
theorem zo0_2 {o : Nat} (h : zsh o = .inr 0) : zsh (o + 3) = .inl (0, 36) := by
  have e := zis0 o h
  subst e
  rfl
theorem zo0_3 {o : Nat} (h : zsh o = .inr 0) : zsh (o + 4) = .inl (0, 36) := by
  have e := zis0 o h
  subst e
  rfl
theorem zo0_4 {o : Nat} (h : zsh o = .inr 0) : zsh (o + 5) = .inl (0, 36) := by
  have e := zis0 o h
  subst e
  rfl
theorem zis1 : ∀ o, zsh o = .inr 1 → o = 7 ∨ o = 27 ∨ o = 47 ∨ o = 64 ∨ o = 80 := by
  intro o h
  have h1 := zsh_inr h
  have h2 : ∀ k, k < 144 → zsh k = .inr 1 → k = 7 ∨ k = 27 ∨ k = 47 ∨ k = 64 ∨ k = 80 := by decide +kernel
  exact h2 o h1 h
theorem zo1_1 {o : Nat} (h : zsh o = .inr 1) : zsh (o + 1) = .inl (0, 6) := by
  rcases zis1 o h with rfl | rfl | rfl | rfl | rfl <;> rfl
theorem zo1_2 {o : Nat} (h : zsh o = .inr 1) : zsh (o + 2) = .inl (0, 6) := by
  rcases zis1 o h with rfl | rfl | rfl | rfl | rfl <;> rfl
theorem zo1_3 {o : Nat} (h : zsh o = .inr 1) : zsh (o + 3) = .inl (0, 6) := by
  rcases zis1 o h with rfl | rfl | rfl | rfl | rfl <;> rfl
theorem zo1_4 {o : Nat} (h : zsh o = .inr 1) : zsh (o + 4) = .inl (0, 6) := by
  rcases zis1 o h with rfl | rfl | rfl | rfl | rfl <;> rfl
theorem zo1_5 {o : Nat} (h : zsh o = .inr 1) : zsh (o + 5) = .inl (0, 6) := by
  rcases zis1 o h with rfl | rfl | rfl | rfl | rfl <;> rfl
theorem zo1_6 {o : Nat} (h : zsh o = .inr 1) : zsh (o + 6) = .inl (0, 6) := by
  rcases zis1 o h with rfl | rfl | rfl | rfl | rfl <;> rfl
theorem zo1_7 {o : Nat} (h : zsh o = .inr 1) : zsh (o + 7) = .inl (0, 6) := by
  rcases zis1 o h with rfl | rfl | rfl | rfl | rfl <;> rfl
theorem zo1_8 {o : Nat} (h : zsh o = .inr 1) : zsh (o + 8) = .inl (0, 6) := by
  rcases zis1 o h with rfl | rfl | rfl | rfl | rfl <;> rfl
theorem zo1_9 {o : Nat} (h : zsh o = .inr 1) : zsh (o + 9) = .inl (0, 6) := by
  rcases zis1 o h with rfl | rfl | rfl | rfl | rfl <;> rfl
theorem zo1_10 {o : Nat} (h : zsh o = .inr 1) : zsh (o + 10) = .inl (0, 6) := by
  rcases zis1 o h with rfl | rfl | rfl | rfl | rfl <;> rfl
theorem zo1_11 {o : Nat} (h : zsh o = .inr 1) : zsh (o + 11) = .inl (0, 24) := by
  rcases zis1 o h with rfl | rfl | rfl | rfl | rfl <;> rfl
theorem zis2 : ∀ o, zsh o = .inr 2 → o = 2 := by
  intro o h
  have h1 := zsh_inr h
  have h2 : ∀ k, k < 144 → zsh k = .inr 2 → k = 2 := by decide +kernel
  exact h2 o h1 h
theorem zo2_0 {o : Nat} (h : zsh o = .inr 2) : zsh (o + 1) = .inr 6 := by
  have e := zis2 o h
  subst e
  rfl
theorem zo2_1 {o : Nat} (h : zsh o = .inr 2) : zsh (o + 3) = .inl (2, 5) := by
  have e := zis2 o h
  subst e
  rfl
theorem zis3 : ∀ o, zsh o = .inr 3 → o = 23 ∨ o = 43 := by
  intro o h
  have h1 := zsh_inr h
  have h2 : ∀ k, k < 144 → zsh k = .inr 3 → k = 23 ∨ k = 43 := by decide +kernel
  exact h2 o h1 h
theorem zo3_0 {o : Nat} (h : zsh o = .inr 3) : zsh (o + 1) = .inl (0, 700) := by
  rcases zis3 o h with rfl | rfl <;> rfl
theorem zo3_2 {o : Nat} (h : zsh o = .inr 3) : zsh (o + 2) = .inl (0, 40) := by
  rcases zis3 o h with rfl | rfl <;> rfl
theorem zis4 : ∀ o, zsh o = .inr 4 → o = 6 ∨ o = 26 := by
  intro o h
  have h1 := zsh_inr h
  have h2 : ∀ k, k < 144 → zsh k = .inr 4 → k = 6 ∨ k = 26 := by decide +kernel
  exact h2 o h1 h
theorem zo4_0 {o : Nat} (h : zsh o = .inr 4) : zsh (o + 1) = .inr 1 := by
  rcases zis4 o h with rfl | rfl <;> rfl
theorem zo4_2 {o : Nat} (h : zsh o = .inr 4) : zsh (o + 13) = .inl (0, 12) := by
  rcases zis4 o h with rfl | rfl <;> rfl
theorem zo4_3 {o : Nat} (h : zsh o = .inr 4) : zsh (o + 14) = .inl (0, 12) := by
  rcases zis4 o h with rfl | rfl <;> rfl
theorem zo4_4 {o : Nat} (h : zsh o = .inr 4) : zsh (o + 15) = .inl (0, 12) := by
  rcases zis4 o h with rfl | rfl <;> rfl
theorem zo4_8 {o : Nat} (h : zsh o = .inr 4) : zsh (o + 16) = .inl (0, 4) := by
  rcases zis4 o h with rfl | rfl <;> rfl
theorem zo4_9 {o : Nat} (h : zsh o = .inr 4) : zsh (o + 17) = .inr 3 := by
  rcases zis4 o h with rfl | rfl <;> rfl
theorem zis5 : ∀ o, zsh o = .inr 5 → o = 46 ∨ o = 63 := by
  intro o h
  have h1 := zsh_inr h
  have h2 : ∀ k, k < 144 → zsh k = .inr 5 → k = 46 ∨ k = 63 := by decide +kernel
  exact h2 o h1 h
theorem zo5_0 {o : Nat} (h : zsh o = .inr 5) : zsh (o + 1) = .inr 1 := by
  rcases zis5 o h with rfl | rfl <;> rfl
theorem zo5_1 {o : Nat} (h : zsh o = .inr 5) : zsh (o + 13) = .inl (0, 200) := by
  rcases zis5 o h with rfl | rfl <;> rfl
theorem zo5_3 {o : Nat} (h : zsh o = .inr 5) : zsh (o + 14) = .inl (0, 40) := by
  rcases zis5 o h with rfl | rfl <;> rfl
theorem zo5_5 {o : Nat} (h : zsh o = .inr 5) : zsh (o + 15) = .inl (0, 36) := by
  rcases zis5 o h with rfl | rfl <;> rfl
theorem zo5_7 {o : Nat} (h : zsh o = .inr 5) : zsh (o + 16) = .inl (0, 3) := by
  rcases zis5 o h with rfl | rfl <;> rfl
theorem zis6 : ∀ o, zsh o = .inr 6 → o = 3 := by
  intro o h
  have h1 := zsh_inr h
  have h2 : ∀ k, k < 144 → zsh k = .inr 6 → k = 3 := by decide +kernel
  exact h2 o h1 h
theorem zo6_0 {o : Nat} (h : zsh o = .inr 6) : zsh (o + 1) = .inl (1, 700) := by
  have e := zis6 o h
  subst e
  rfl
theorem zis7 : ∀ o, zsh o = .inr 7 → o = 98 := by
  intro o h
  have h1 := zsh_inr h
  have h2 : ∀ k, k < 144 → zsh k = .inr 7 → k = 98 := by decide +kernel
  exact h2 o h1 h
theorem zo7_0 {o : Nat} (h : zsh o = .inr 7) : zsh (o + 1) = .inl (0, 1296) := by
  have e := zis7 o h
  subst e
  rfl
theorem zo7_1 {o : Nat} (h : zsh o = .inr 7) : zsh (o + 2) = .inl (0, 4) := by
  have e := zis7 o h
  subst e
  rfl
theorem zo7_2 {o : Nat} (h : zsh o = .inr 7) : zsh (o + 3) = .inl (0, 4) := by
  have e := zis7 o h
  subst e
  rfl
theorem zo7_3 {o : Nat} (h : zsh o = .inr 7) : zsh (o + 4) = .inl (0, 4) := by
  have e := zis7 o h
  subst e
  rfl
theorem zis8 : ∀ o, zsh o = .inr 8 → o = 0 := by
  intro o h
  have h1 := zsh_inr h
  have h2 : ∀ k, k < 144 → zsh k = .inr 8 → k = 0 := by decide +kernel
  exact h2 o h1 h
theorem zo8_0 {o : Nat} (h : zsh o = .inr 8) : zsh (o + 1) = .inl (1, 700) := by
  have e := zis8 o h
  subst e
  rfl
theorem zo8_2 {o : Nat} (h : zsh o = .inr 8) : zsh (o + 2) = .inr 2 := by
  have e := zis8 o h
  subst e
  rfl
theorem zo8_6 {o : Nat} (h : zsh o = .inr 8) : zsh (o + 46) = .inr 5 := by
  have e := zis8 o h
  subst e
  rfl
theorem zo8_7 {o : Nat} (h : zsh o = .inr 8) : zsh (o + 63) = .inr 5 := by
  have e := zis8 o h
  subst e
  rfl
theorem zo8_9 {o : Nat} (h : zsh o = .inr 8) : zsh (o + 80) = .inr 1 := by
  have e := zis8 o h
  subst e
  rfl
theorem zo8_10 {o : Nat} (h : zsh o = .inr 8) : zsh (o + 92) = .inr 0 := by
  have e := zis8 o h
  subst e
  rfl
theorem zo8_11 {o : Nat} (h : zsh o = .inr 8) : zsh (o + 98) = .inr 7 := by
  have e := zis8 o h
  subst e
  rfl
theorem zo8_12 {o : Nat} (h : zsh o = .inr 8) : zsh (o + 103) = .inl (0, 6) := by
  have e := zis8 o h
  subst e
  rfl
theorem zo8_13 {o : Nat} (h : zsh o = .inr 8) : zsh (o + 104) = .inl (0, 36) := by
  have e := zis8 o h
  subst e
  rfl
theorem zo8_14 {o : Nat} (h : zsh o = .inr 8) : zsh (o + 105) = .inl (0, 40) := by
  have e := zis8 o h
  subst e
  rfl
theorem zis9 : ∀ o, zsh o = .inr 9 → o = 106 := by
  intro o h
  have h1 := zsh_inr h
  have h2 : ∀ k, k < 144 → zsh k = .inr 9 → k = 106 := by decide +kernel
  exact h2 o h1 h
theorem zo9_0 {o : Nat} (h : zsh o = .inr 9) : zsh (o + 1) = .inl (4, 3) := by
  have e := zis9 o h
  subst e
  rfl
theorem zo9_1 {o : Nat} (h : zsh o = .inr 9) : zsh (o + 2) = .inl (4, 4) := by
  have e := zis9 o h
  subst e
  rfl
theorem zo9_2 {o : Nat} (h : zsh o = .inr 9) : zsh (o + 3) = .inl (4, 8) := by
  have e := zis9 o h
  subst e
  rfl
theorem zo9_4 {o : Nat} (h : zsh o = .inr 9) : zsh (o + 4) = .inl (0, 20) := by
  have e := zis9 o h
  subst e
  rfl
theorem zo9_5 {o : Nat} (h : zsh o = .inr 9) : zsh (o + 5) = .inl (0, 168) := by
  have e := zis9 o h
  subst e
  rfl
theorem zo9_6 {o : Nat} (h : zsh o = .inr 9) : zsh (o + 6) = .inl (0, 24) := by
  have e := zis9 o h
  subst e
  rfl
theorem zo9_7 {o : Nat} (h : zsh o = .inr 9) : zsh (o + 7) = .inl (0, 24) := by
  have e := zis9 o h
  subst e
  rfl
theorem zo9_8 {o : Nat} (h : zsh o = .inr 9) : zsh (o + 8) = .inl (0, 24) := by
  have e := zis9 o h
  subst e
  rfl
theorem zo9_9 {o : Nat} (h : zsh o = .inr 9) : zsh (o + 9) = .inl (0, 1400) := by
  have e := zis9 o h
  subst e
  rfl
theorem zo9_10 {o : Nat} (h : zsh o = .inr 9) : zsh (o + 10) = .inl (0, 3) := by
  have e := zis9 o h
  subst e
  rfl
theorem zo9_11 {o : Nat} (h : zsh o = .inr 9) : zsh (o + 11) = .inl (0, 700) := by
  have e := zis9 o h
  subst e
  rfl
theorem zo9_22 {o : Nat} (h : zsh o = .inr 9) : zsh (o + 12) = .inl (0, 8) := by
  have e := zis9 o h
  subst e
  rfl
theorem zo9_23 {o : Nat} (h : zsh o = .inr 9) : zsh (o + 13) = .inl (0, 64) := by
  have e := zis9 o h
  subst e
  rfl
theorem zo9_24 {o : Nat} (h : zsh o = .inr 9) : zsh (o + 14) = .inl (0, 6) := by
  have e := zis9 o h
  subst e
  rfl
theorem zo9_25 {o : Nat} (h : zsh o = .inr 9) : zsh (o + 15) = .inl (0, 6) := by
  have e := zis9 o h
  subst e
  rfl
theorem zo9_26 {o : Nat} (h : zsh o = .inr 9) : zsh (o + 16) = .inl (0, 6) := by
  have e := zis9 o h
  subst e
  rfl
theorem zo9_32 {o : Nat} (h : zsh o = .inr 9) : zsh (o + 17) = .inl (0, 3360) := by
  have e := zis9 o h
  subst e
  rfl
theorem zo9_33 {o : Nat} (h : zsh o = .inr 9) : zsh (o + 18) = .inl (0, 6) := by
  have e := zis9 o h
  subst e
  rfl
theorem zo9_34 {o : Nat} (h : zsh o = .inr 9) : zsh (o + 19) = .inl (0, 6) := by
  have e := zis9 o h
  subst e
  rfl
theorem zo9_35 {o : Nat} (h : zsh o = .inr 9) : zsh (o + 20) = .inl (0, 6) := by
  have e := zis9 o h
  subst e
  rfl
theorem zo9_43 {o : Nat} (h : zsh o = .inr 9) : zsh (o + 21) = .inl (0, 6) := by
  have e := zis9 o h
  subst e
  rfl
theorem zo9_44 {o : Nat} (h : zsh o = .inr 9) : zsh (o + 22) = .inl (0, 6) := by
  have e := zis9 o h
  subst e
  rfl
theorem zo9_45 {o : Nat} (h : zsh o = .inr 9) : zsh (o + 23) = .inl (0, 40) := by
  have e := zis9 o h
  subst e
  rfl
theorem zo9_46 {o : Nat} (h : zsh o = .inr 9) : zsh (o + 24) = .inl (0, 40) := by
  have e := zis9 o h
  subst e
  rfl
theorem zo9_47 {o : Nat} (h : zsh o = .inr 9) : zsh (o + 25) = .inl (0, 6) := by
  have e := zis9 o h
  subst e
  rfl
theorem zo9_48 {o : Nat} (h : zsh o = .inr 9) : zsh (o + 26) = .inl (0, 12) := by
  have e := zis9 o h
  subst e
  rfl
theorem zo9_49 {o : Nat} (h : zsh o = .inr 9) : zsh (o + 27) = .inl (0, 12) := by
  have e := zis9 o h
  subst e
  rfl
theorem zo9_50 {o : Nat} (h : zsh o = .inr 9) : zsh (o + 28) = .inl (0, 12) := by
  have e := zis9 o h
  subst e
  rfl
theorem zo9_51 {o : Nat} (h : zsh o = .inr 9) : zsh (o + 29) = .inl (0, 36) := by
  have e := zis9 o h
  subst e
  rfl
theorem zo9_57 {o : Nat} (h : zsh o = .inr 9) : zsh (o + 30) = .inl (0, 168) := by
  have e := zis9 o h
  subst e
  rfl
theorem zo9_58 {o : Nat} (h : zsh o = .inr 9) : zsh (o + 31) = .inl (0, 3360) := by
  have e := zis9 o h
  subst e
  rfl
theorem zo9_59 {o : Nat} (h : zsh o = .inr 9) : zsh (o + 32) = .inl (0, 40) := by
  have e := zis9 o h
  subst e
  rfl
theorem zo9_60 {o : Nat} (h : zsh o = .inr 9) : zsh (o + 33) = .inl (0, 12) := by
  have e := zis9 o h
  subst e
  rfl
theorem zo9_61 {o : Nat} (h : zsh o = .inr 9) : zsh (o + 34) = .inl (0, 12) := by
  have e := zis9 o h
  subst e
  rfl
theorem zo9_62 {o : Nat} (h : zsh o = .inr 9) : zsh (o + 35) = .inl (0, 12) := by
  have e := zis9 o h
  subst e
  rfl
theorem zo9_63 {o : Nat} (h : zsh o = .inr 9) : zsh (o + 36) = .inl (0, 3) := by
  have e := zis9 o h
  subst e
  rfl
theorem zsk_sh (μ : zMem) (o j : Nat) : zsh (zsk μ o j) = .inr 4 := by
  unfold zsk
  split <;> rfl
theorem zrv {g : zMD} {b c : Nat} (h : zsh b = .inr c) (q : vw_C) (hq : vwCl[c]? = some q) (hn : q.1 = g.1.cls) : zRecv g b := Or.inl ⟨c, q, h, hq, hn⟩
theorem zrs {g : zMD} {i : Nat} (h : i < zNS) (hn : g.1.cls = "java/lang/String") : zRecv g (1000 + i) := Or.inr ⟨i, h, rfl, hn⟩
