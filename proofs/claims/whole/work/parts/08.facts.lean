theorem kk_0 {i : Nat} (h : sh_kd i = 0) : i = 26 := by
  have h1 := sh_lt h (by decide)
  have h2 : ∀ i, i < 602 → sh_kd i = 0 → i = 26 := by decide +kernel
  exact h2 i h1 h
theorem kk_1 {i : Nat} (h : sh_kd i = 1) : i = 45 := by
  have h1 := sh_lt h (by decide)
  have h2 : ∀ i, i < 602 → sh_kd i = 1 → i = 45 := by decide +kernel
  exact h2 i h1 h
theorem kk_2 {i : Nat} (h : sh_kd i = 2) : i = 49 := by
  have h1 := sh_lt h (by decide)
  have h2 : ∀ i, i < 602 → sh_kd i = 2 → i = 49 := by decide +kernel
  exact h2 i h1 h
theorem kk_3 {i : Nat} (h : sh_kd i = 3) : i = 3 ∨ i = 12 := by
  have h1 := sh_lt h (by decide)
  have h2 : ∀ i, i < 602 → sh_kd i = 3 → i = 3 ∨ i = 12 := by decide +kernel
  exact h2 i h1 h
theorem kk_4 {i : Nat} (h : sh_kd i = 4) : i = 21 := by
  have h1 := sh_lt h (by decide)
  have h2 : ∀ i, i < 602 → sh_kd i = 4 → i = 21 := by decide +kernel
  exact h2 i h1 h
theorem kk_5 {i : Nat} (h : sh_kd i = 5) : i = 38 := by
  have h1 := sh_lt h (by decide)
  have h2 : ∀ i, i < 602 → sh_kd i = 5 → i = 38 := by decide +kernel
  exact h2 i h1 h
theorem kk_6 {i : Nat} (h : sh_kd i = 6) : i = 51 := by
  have h1 := sh_lt h (by decide)
  have h2 : ∀ i, i < 602 → sh_kd i = 6 → i = 51 := by decide +kernel
  exact h2 i h1 h
theorem kk_7 {i : Nat} (h : sh_kd i = 7) : i = 42 := by
  have h1 := sh_lt h (by decide)
  have h2 : ∀ i, i < 602 → sh_kd i = 7 → i = 42 := by decide +kernel
  exact h2 i h1 h
theorem kk_8 {i : Nat} (h : sh_kd i = 8) : i = 32 ∨ i = 35 := by
  have h1 := sh_lt h (by decide)
  have h2 : ∀ i, i < 602 → sh_kd i = 8 → i = 32 ∨ i = 35 := by decide +kernel
  exact h2 i h1 h
theorem kk_9 {i : Nat} (h : sh_kd i = 9) : i = 27 := by
  have h1 := sh_lt h (by decide)
  have h2 : ∀ i, i < 602 → sh_kd i = 9 → i = 27 := by decide +kernel
  exact h2 i h1 h
theorem kk_10 {i : Nat} (h : sh_kd i = 10) : i = 1 := by
  have h1 := sh_lt h (by decide)
  have h2 : ∀ i, i < 602 → sh_kd i = 10 → i = 1 := by decide +kernel
  exact h2 i h1 h
theorem kk_11 {i : Nat} (h : sh_kd i = 11) : i = 0 := by
  have h1 := sh_lt h (by decide)
  have h2 : ∀ i, i < 602 → sh_kd i = 11 → i = 0 := by decide +kernel
  exact h2 i h1 h
theorem kk_12 {i : Nat} (h : sh_kd i = 12) : i = 52 := by
  have h1 := sh_lt h (by decide)
  have h2 : ∀ i, i < 602 → sh_kd i = 12 → i = 52 := by decide +kernel
  exact h2 i h1 h
theorem kk_16 {i : Nat} (h : sh_kd i = 16) : i = 57 ∨ i = 106 ∨ i = 155 ∨ i = 316 ∨ i = 477 ∨ i = 483 ∨ i = 491 ∨ i = 575 ∨ i = 592 := by
  have h1 := sh_lt h (by decide)
  have h2 : ∀ i, i < 602 → sh_kd i = 16 → i = 57 ∨ i = 106 ∨ i = 155 ∨ i = 316 ∨ i = 477 ∨ i = 483 ∨ i = 491 ∨ i = 575 ∨ i = 592 := by decide +kernel
  exact h2 i h1 h
theorem kt_1_0 {i : Nat} (h : sh_kd i = 1) : sh_kd (sh_rf i 0) = 3 := by
  rcases kk_1 h with rfl <;> decide +kernel
theorem kt_1_1 {i : Nat} (h : sh_kd i = 1) : sh_kd (sh_rf i 1) = 13 := by
  rcases kk_1 h with rfl <;> decide +kernel
theorem kl_1_1 {i : Nat} (h : sh_kd i = 1) : sh_ln (sh_rf i 1) = 1536 := by
  rcases kk_1 h with rfl <;> decide +kernel
theorem kt_1_2 {i : Nat} (h : sh_kd i = 1) : sh_kd (sh_rf i 2) = 13 := by
  rcases kk_1 h with rfl <;> decide +kernel
theorem kl_1_2 {i : Nat} (h : sh_kd i = 1) : sh_ln (sh_rf i 2) = 40 := by
  rcases kk_1 h with rfl <;> decide +kernel
theorem kt_1_3 {i : Nat} (h : sh_kd i = 1) : sh_kd (sh_rf i 3) = 13 := by
  rcases kk_1 h with rfl <;> decide +kernel
theorem kl_1_3 {i : Nat} (h : sh_kd i = 1) : sh_ln (sh_rf i 3) = 5 := by
  rcases kk_1 h with rfl <;> decide +kernel
theorem kt_2_0 {i : Nat} (h : sh_kd i = 2) : sh_kd (sh_rf i 0) = 3 := by
  rcases kk_2 h with rfl <;> decide +kernel
theorem kt_2_1 {i : Nat} (h : sh_kd i = 2) : sh_kd (sh_rf i 1) = 13 := by
  rcases kk_2 h with rfl <;> decide +kernel
theorem kl_2_1 {i : Nat} (h : sh_kd i = 2) : sh_ln (sh_rf i 1) = 5 := by
  rcases kk_2 h with rfl <;> decide +kernel
theorem kt_3_4 {i : Nat} (h : sh_kd i = 3) : sh_kd (sh_rf i 4) = 13 := by
  rcases kk_3 h with rfl | rfl <;> decide +kernel
theorem kl_3_4 {i : Nat} (h : sh_kd i = 3) : sh_ln (sh_rf i 4) = 8 := by
  rcases kk_3 h with rfl | rfl <;> decide +kernel
theorem kt_3_5 {i : Nat} (h : sh_kd i = 3) : sh_kd (sh_rf i 5) = 13 := by
  rcases kk_3 h with rfl | rfl <;> decide +kernel
theorem kl_3_5 {i : Nat} (h : sh_kd i = 3) : sh_ln (sh_rf i 5) = 12 := by
  rcases kk_3 h with rfl | rfl <;> decide +kernel
theorem kt_3_6 {i : Nat} (h : sh_kd i = 3) : sh_kd (sh_rf i 6) = 13 := by
  rcases kk_3 h with rfl | rfl <;> decide +kernel
theorem kl_3_6 {i : Nat} (h : sh_kd i = 3) : sh_ln (sh_rf i 6) = 12 := by
  rcases kk_3 h with rfl | rfl <;> decide +kernel
theorem kt_3_7 {i : Nat} (h : sh_kd i = 3) : sh_kd (sh_rf i 7) = 13 := by
  rcases kk_3 h with rfl | rfl <;> decide +kernel
theorem kl_3_7 {i : Nat} (h : sh_kd i = 3) : sh_ln (sh_rf i 7) = 8 := by
  rcases kk_3 h with rfl | rfl <;> decide +kernel
theorem kt_3_8 {i : Nat} (h : sh_kd i = 3) : sh_kd (sh_rf i 8) = 13 := by
  rcases kk_3 h with rfl | rfl <;> decide +kernel
theorem kl_3_8 {i : Nat} (h : sh_kd i = 3) : sh_ln (sh_rf i 8) = 8 := by
  rcases kk_3 h with rfl | rfl <;> decide +kernel
theorem kt_3_9 {i : Nat} (h : sh_kd i = 3) : sh_kd (sh_rf i 9) = 13 := by
  rcases kk_3 h with rfl | rfl <;> decide +kernel
theorem kl_3_9 {i : Nat} (h : sh_kd i = 3) : sh_ln (sh_rf i 9) = 8 := by
  rcases kk_3 h with rfl | rfl <;> decide +kernel
theorem kt_3_10 {i : Nat} (h : sh_kd i = 3) : sh_kd (sh_rf i 10) = 13 := by
  rcases kk_3 h with rfl | rfl <;> decide +kernel
theorem kl_3_10 {i : Nat} (h : sh_kd i = 3) : sh_ln (sh_rf i 10) = 5 := by
  rcases kk_3 h with rfl | rfl <;> decide +kernel
theorem kt_3_11 {i : Nat} (h : sh_kd i = 3) : sh_kd (sh_rf i 11) = 13 := by
  rcases kk_3 h with rfl | rfl <;> decide +kernel
theorem kl_3_11 {i : Nat} (h : sh_kd i = 3) : sh_ln (sh_rf i 11) = 5 := by
  rcases kk_3 h with rfl | rfl <;> decide +kernel
theorem kt_4_0 {i : Nat} (h : sh_kd i = 4) : sh_kd (sh_rf i 0) = 13 := by
  rcases kk_4 h with rfl <;> decide +kernel
theorem kl_4_0 {i : Nat} (h : sh_kd i = 4) : sh_ln (sh_rf i 0) = 150 := by
  rcases kk_4 h with rfl <;> decide +kernel
theorem kt_4_2 {i : Nat} (h : sh_kd i = 4) : sh_kd (sh_rf i 2) = 13 := by
  rcases kk_4 h with rfl <;> decide +kernel
theorem kl_4_2 {i : Nat} (h : sh_kd i = 4) : sh_ln (sh_rf i 2) = 150 := by
  rcases kk_4 h with rfl <;> decide +kernel
theorem kt_4_4 {i : Nat} (h : sh_kd i = 4) : sh_kd (sh_rf i 4) = 13 := by
  rcases kk_4 h with rfl <;> decide +kernel
theorem kl_4_4 {i : Nat} (h : sh_kd i = 4) : sh_ln (sh_rf i 4) = 7 := by
  rcases kk_4 h with rfl <;> decide +kernel
theorem kt_4_5 {i : Nat} (h : sh_kd i = 4) : sh_kd (sh_rf i 5) = 13 := by
  rcases kk_4 h with rfl <;> decide +kernel
theorem kl_4_5 {i : Nat} (h : sh_kd i = 4) : sh_ln (sh_rf i 5) = 32 := by
  rcases kk_4 h with rfl <;> decide +kernel
theorem kt_5_2 {i : Nat} (h : sh_kd i = 5) : sh_kd (sh_rf i 2) = 13 := by
  rcases kk_5 h with rfl <;> decide +kernel
theorem kl_5_2 {i : Nat} (h : sh_kd i = 5) : sh_ln (sh_rf i 2) = 752 := by
  rcases kk_5 h with rfl <;> decide +kernel
theorem kt_5_3 {i : Nat} (h : sh_kd i = 5) : sh_kd (sh_rf i 3) = 13 := by
  rcases kk_5 h with rfl <;> decide +kernel
theorem kl_5_3 {i : Nat} (h : sh_kd i = 5) : sh_ln (sh_rf i 3) = 2397 := by
  rcases kk_5 h with rfl <;> decide +kernel
theorem kt_5_4 {i : Nat} (h : sh_kd i = 5) : sh_kd (sh_rf i 4) = 13 := by
  rcases kk_5 h with rfl <;> decide +kernel
theorem kl_5_4 {i : Nat} (h : sh_kd i = 5) : sh_ln (sh_rf i 4) = 3 := by
  rcases kk_5 h with rfl <;> decide +kernel
theorem kt_6_0 {i : Nat} (h : sh_kd i = 6) : sh_kd (sh_rf i 0) = 3 := by
  rcases kk_6 h with rfl <;> decide +kernel
theorem kt_7_0 {i : Nat} (h : sh_kd i = 7) : sh_kd (sh_rf i 0) = 3 := by
  rcases kk_7 h with rfl <;> decide +kernel
theorem kt_7_1 {i : Nat} (h : sh_kd i = 7) : sh_kd (sh_rf i 1) = 4 := by
  rcases kk_7 h with rfl <;> decide +kernel
theorem kt_7_2 {i : Nat} (h : sh_kd i = 7) : sh_kd (sh_rf i 2) = 13 := by
  rcases kk_7 h with rfl <;> decide +kernel
theorem kl_7_2 {i : Nat} (h : sh_kd i = 7) : sh_ln (sh_rf i 2) = 256 := by
  rcases kk_7 h with rfl <;> decide +kernel
theorem kt_7_3 {i : Nat} (h : sh_kd i = 7) : sh_kd (sh_rf i 3) = 13 := by
  rcases kk_7 h with rfl <;> decide +kernel
theorem kl_7_3 {i : Nat} (h : sh_kd i = 7) : sh_ln (sh_rf i 3) = 256 := by
  rcases kk_7 h with rfl <;> decide +kernel
theorem kt_8_0 {i : Nat} (h : sh_kd i = 8) : sh_kd (sh_rf i 0) = 3 := by
  rcases kk_8 h with rfl | rfl <;> decide +kernel
theorem kt_8_1 {i : Nat} (h : sh_kd i = 8) : sh_kd (sh_rf i 1) = 4 := by
  rcases kk_8 h with rfl | rfl <;> decide +kernel
theorem kt_8_2 {i : Nat} (h : sh_kd i = 8) : sh_kd (sh_rf i 2) = 13 := by
  rcases kk_8 h with rfl | rfl <;> decide +kernel
theorem kl_8_2 {i : Nat} (h : sh_kd i = 8) : sh_ln (sh_rf i 2) = 47 := by
  rcases kk_8 h with rfl | rfl <;> decide +kernel
theorem kt_8_3 {i : Nat} (h : sh_kd i = 8) : sh_kd (sh_rf i 3) = 13 := by
  rcases kk_8 h with rfl | rfl <;> decide +kernel
theorem kl_8_3 {i : Nat} (h : sh_kd i = 8) : sh_ln (sh_rf i 3) = 5 := by
  rcases kk_8 h with rfl | rfl <;> decide +kernel
theorem kt_9_0 {i : Nat} (h : sh_kd i = 9) : sh_kd (sh_rf i 0) = 13 := by
  rcases kk_9 h with rfl <;> decide +kernel
theorem kl_9_0 {i : Nat} (h : sh_kd i = 9) : sh_ln (sh_rf i 0) = 25 := by
  rcases kk_9 h with rfl <;> decide +kernel
theorem kt_9_1 {i : Nat} (h : sh_kd i = 9) : sh_kd (sh_rf i 1) = 13 := by
  rcases kk_9 h with rfl <;> decide +kernel
theorem kl_9_1 {i : Nat} (h : sh_kd i = 9) : sh_ln (sh_rf i 1) = 25 := by
  rcases kk_9 h with rfl <;> decide +kernel
theorem kt_9_2 {i : Nat} (h : sh_kd i = 9) : sh_kd (sh_rf i 2) = 13 := by
  rcases kk_9 h with rfl <;> decide +kernel
theorem kl_9_2 {i : Nat} (h : sh_kd i = 9) : sh_ln (sh_rf i 2) = 25 := by
  rcases kk_9 h with rfl <;> decide +kernel
theorem kt_9_3 {i : Nat} (h : sh_kd i = 9) : sh_kd (sh_rf i 3) = 13 := by
  rcases kk_9 h with rfl <;> decide +kernel
theorem kl_9_3 {i : Nat} (h : sh_kd i = 9) : sh_ln (sh_rf i 3) = 25 := by
  rcases kk_9 h with rfl <;> decide +kernel
theorem kt_10_0 {i : Nat} (h : sh_kd i = 10) : sh_kd (sh_rf i 0) = 13 := by
  rcases kk_10 h with rfl <;> decide +kernel
theorem kl_10_0 {i : Nat} (h : sh_kd i = 10) : sh_ln (sh_rf i 0) = 600 := by
  rcases kk_10 h with rfl <;> decide +kernel
theorem kt_11_0 {i : Nat} (h : sh_kd i = 11) : sh_kd (sh_rf i 0) = 10 := by
  rcases kk_11 h with rfl <;> decide +kernel
theorem kt_11_1 {i : Nat} (h : sh_kd i = 11) : sh_kd (sh_rf i 1) = 3 := by
  rcases kk_11 h with rfl <;> decide +kernel
theorem kt_11_2 {i : Nat} (h : sh_kd i = 11) : sh_kd (sh_rf i 2) = 3 := by
  rcases kk_11 h with rfl <;> decide +kernel
theorem kt_11_3 {i : Nat} (h : sh_kd i = 11) : sh_kd (sh_rf i 3) = 4 := by
  rcases kk_11 h with rfl <;> decide +kernel
theorem kt_11_4 {i : Nat} (h : sh_kd i = 11) : sh_kd (sh_rf i 4) = 0 := by
  rcases kk_11 h with rfl <;> decide +kernel
theorem kt_11_5 {i : Nat} (h : sh_kd i = 11) : sh_kd (sh_rf i 5) = 9 := by
  rcases kk_11 h with rfl <;> decide +kernel
theorem kt_11_6 {i : Nat} (h : sh_kd i = 11) : sh_kd (sh_rf i 6) = 8 := by
  rcases kk_11 h with rfl <;> decide +kernel
theorem kt_11_7 {i : Nat} (h : sh_kd i = 11) : sh_kd (sh_rf i 7) = 8 := by
  rcases kk_11 h with rfl <;> decide +kernel
theorem kt_11_8 {i : Nat} (h : sh_kd i = 11) : sh_kd (sh_rf i 8) = 5 := by
  rcases kk_11 h with rfl <;> decide +kernel
theorem kt_11_9 {i : Nat} (h : sh_kd i = 11) : sh_kd (sh_rf i 9) = 7 := by
  rcases kk_11 h with rfl <;> decide +kernel
theorem kt_11_10 {i : Nat} (h : sh_kd i = 11) : sh_kd (sh_rf i 10) = 1 := by
  rcases kk_11 h with rfl <;> decide +kernel
theorem kt_11_11 {i : Nat} (h : sh_kd i = 11) : sh_kd (sh_rf i 11) = 2 := by
  rcases kk_11 h with rfl <;> decide +kernel
theorem kt_11_12 {i : Nat} (h : sh_kd i = 11) : sh_kd (sh_rf i 12) = 6 := by
  rcases kk_11 h with rfl <;> decide +kernel
theorem kt_12_9 {i : Nat} (h : sh_kd i = 12) : sh_kd (sh_rf i 9) = 13 := by
  rcases kk_12 h with rfl <;> decide +kernel
theorem kl_12_9 {i : Nat} (h : sh_kd i = 12) : sh_ln (sh_rf i 9) = 600 := by
  rcases kk_12 h with rfl <;> decide +kernel
theorem kt_12_10 {i : Nat} (h : sh_kd i = 12) : sh_kd (sh_rf i 10) = 13 := by
  rcases kk_12 h with rfl <;> decide +kernel
theorem kl_12_10 {i : Nat} (h : sh_kd i = 12) : sh_ln (sh_rf i 10) = 2 := by
  rcases kk_12 h with rfl <;> decide +kernel
theorem kt_12_11 {i : Nat} (h : sh_kd i = 12) : sh_kd (sh_rf i 11) = 13 := by
  rcases kk_12 h with rfl <;> decide +kernel
theorem kl_12_11 {i : Nat} (h : sh_kd i = 12) : sh_ln (sh_rf i 11) = 4 := by
  rcases kk_12 h with rfl <;> decide +kernel
theorem kt_12_12 {i : Nat} (h : sh_kd i = 12) : sh_kd (sh_rf i 12) = 13 := by
  rcases kk_12 h with rfl <;> decide +kernel
theorem kl_12_12 {i : Nat} (h : sh_kd i = 12) : sh_ln (sh_rf i 12) = 4 := by
  rcases kk_12 h with rfl <;> decide +kernel
theorem kt_12_13 {i : Nat} (h : sh_kd i = 12) : sh_kd (sh_rf i 13) = 16 := by
  rcases kk_12 h with rfl <;> decide +kernel
theorem kl_12_13 {i : Nat} (h : sh_kd i = 12) : sh_ln (sh_rf i 13) = 48 := by
  rcases kk_12 h with rfl <;> decide +kernel
theorem kt_12_14 {i : Nat} (h : sh_kd i = 12) : sh_kd (sh_rf i 14) = 16 := by
  rcases kk_12 h with rfl <;> decide +kernel
theorem kl_12_14 {i : Nat} (h : sh_kd i = 12) : sh_ln (sh_rf i 14) = 48 := by
  rcases kk_12 h with rfl <;> decide +kernel
theorem kt_12_17 {i : Nat} (h : sh_kd i = 12) : sh_kd (sh_rf i 17) = 16 := by
  rcases kk_12 h with rfl <;> decide +kernel
theorem kl_12_17 {i : Nat} (h : sh_kd i = 12) : sh_ln (sh_rf i 17) = 160 := by
  rcases kk_12 h with rfl <;> decide +kernel
theorem kt_12_18 {i : Nat} (h : sh_kd i = 12) : sh_kd (sh_rf i 18) = 16 := by
  rcases kk_12 h with rfl <;> decide +kernel
theorem kl_12_18 {i : Nat} (h : sh_kd i = 12) : sh_ln (sh_rf i 18) = 160 := by
  rcases kk_12 h with rfl <;> decide +kernel
theorem kt_12_19 {i : Nat} (h : sh_kd i = 12) : sh_kd (sh_rf i 19) = 16 := by
  rcases kk_12 h with rfl <;> decide +kernel
theorem kl_12_19 {i : Nat} (h : sh_kd i = 12) : sh_ln (sh_rf i 19) = 5 := by
  rcases kk_12 h with rfl <;> decide +kernel
theorem kt_12_20 {i : Nat} (h : sh_kd i = 12) : sh_kd (sh_rf i 20) = 16 := by
  rcases kk_12 h with rfl <;> decide +kernel
theorem kl_12_20 {i : Nat} (h : sh_kd i = 12) : sh_ln (sh_rf i 20) = 5 := by
  rcases kk_12 h with rfl <;> decide +kernel
theorem kt_12_21 {i : Nat} (h : sh_kd i = 12) : sh_kd (sh_rf i 21) = 13 := by
  rcases kk_12 h with rfl <;> decide +kernel
theorem kl_12_21 {i : Nat} (h : sh_kd i = 12) : sh_ln (sh_rf i 21) = 160 := by
  rcases kk_12 h with rfl <;> decide +kernel
theorem kt_12_22 {i : Nat} (h : sh_kd i = 12) : sh_kd (sh_rf i 22) = 13 := by
  rcases kk_12 h with rfl <;> decide +kernel
theorem kl_12_22 {i : Nat} (h : sh_kd i = 12) : sh_ln (sh_rf i 22) = 7 := by
  rcases kk_12 h with rfl <;> decide +kernel
theorem kt_12_23 {i : Nat} (h : sh_kd i = 12) : sh_kd (sh_rf i 23) = 16 := by
  rcases kk_12 h with rfl <;> decide +kernel
theorem kl_12_23 {i : Nat} (h : sh_kd i = 12) : sh_ln (sh_rf i 23) = 80 := by
  rcases kk_12 h with rfl <;> decide +kernel
theorem kt_12_25 {i : Nat} (h : sh_kd i = 12) : sh_kd (sh_rf i 25) = 13 := by
  rcases kk_12 h with rfl <;> decide +kernel
theorem kl_12_25 {i : Nat} (h : sh_kd i = 12) : sh_ln (sh_rf i 25) = 47 := by
  rcases kk_12 h with rfl <;> decide +kernel
theorem kt_12_26 {i : Nat} (h : sh_kd i = 12) : sh_kd (sh_rf i 26) = 13 := by
  rcases kk_12 h with rfl <;> decide +kernel
theorem kl_12_26 {i : Nat} (h : sh_kd i = 12) : sh_ln (sh_rf i 26) = 47 := by
  rcases kk_12 h with rfl <;> decide +kernel
theorem kt_12_27 {i : Nat} (h : sh_kd i = 12) : sh_kd (sh_rf i 27) = 13 := by
  rcases kk_12 h with rfl <;> decide +kernel
theorem kl_12_27 {i : Nat} (h : sh_kd i = 12) : sh_ln (sh_rf i 27) = 47 := by
  rcases kk_12 h with rfl <;> decide +kernel
theorem kt_12_28 {i : Nat} (h : sh_kd i = 12) : sh_kd (sh_rf i 28) = 16 := by
  rcases kk_12 h with rfl <;> decide +kernel
theorem kl_12_28 {i : Nat} (h : sh_kd i = 12) : sh_ln (sh_rf i 28) = 16 := by
  rcases kk_12 h with rfl <;> decide +kernel
theorem kt_12_29 {i : Nat} (h : sh_kd i = 12) : sh_kd (sh_rf i 29) = 16 := by
  rcases kk_12 h with rfl <;> decide +kernel
theorem kl_12_29 {i : Nat} (h : sh_kd i = 12) : sh_ln (sh_rf i 29) = 3 := by
  rcases kk_12 h with rfl <;> decide +kernel
theorem kt_12_37 {i : Nat} (h : sh_kd i = 12) : sh_kd (sh_rf i 37) = 15 := by
  rcases kk_12 h with rfl <;> decide +kernel
theorem kl_12_37 {i : Nat} (h : sh_kd i = 12) : sh_ln (sh_rf i 37) = 8000 := by
  rcases kk_12 h with rfl <;> decide +kernel
theorem kt_12_38 {i : Nat} (h : sh_kd i = 12) : sh_kd (sh_rf i 38) = 15 := by
  rcases kk_12 h with rfl <;> decide +kernel
theorem kl_12_38 {i : Nat} (h : sh_kd i = 12) : sh_ln (sh_rf i 38) = 8000 := by
  rcases kk_12 h with rfl <;> decide +kernel
theorem kt_12_39 {i : Nat} (h : sh_kd i = 12) : sh_kd (sh_rf i 39) = 13 := by
  rcases kk_12 h with rfl <;> decide +kernel
theorem kl_12_39 {i : Nat} (h : sh_kd i = 12) : sh_ln (sh_rf i 39) = 5 := by
  rcases kk_12 h with rfl <;> decide +kernel
theorem kt_12_40 {i : Nat} (h : sh_kd i = 12) : sh_kd (sh_rf i 40) = 13 := by
  rcases kk_12 h with rfl <;> decide +kernel
theorem kl_12_40 {i : Nat} (h : sh_kd i = 12) : sh_ln (sh_rf i 40) = 5 := by
  rcases kk_12 h with rfl <;> decide +kernel
theorem kt_12_43 {i : Nat} (h : sh_kd i = 12) : sh_kd (sh_rf i 43) = 14 := by
  rcases kk_12 h with rfl <;> decide +kernel
theorem kl_12_43 {i : Nat} (h : sh_kd i = 12) : sh_ln (sh_rf i 43) = 14 := by
  rcases kk_12 h with rfl <;> decide +kernel
theorem kt_row {a z : Nat} {i : Int32} (h : sh_kd a = 16) (hz : px_rld a i = some z) : sh_kd z = 13 := by
  unfold px_rld at hz
  by_cases hy : px_in i (sh_ln a) = true
  · rw [if_pos hy] at hz
    cases hz
    simp only [px_in, Bool.and_eq_true, decide_eq_true_eq] at hy
    have h2 : ∀ a, sh_kd a = 16 → ∀ k, k < sh_ln a → sh_kd (sh_rf a k) = 13 := by
      intro a h
      rcases kk_16 h with rfl | rfl | rfl | rfl | rfl | rfl | rfl | rfl | rfl <;> decide +kernel
    exact h2 a h _ hy.2
  · rw [if_neg hy] at hz; cases hz
theorem mt_X0_forget : mt_ok yX0_forget cX0_forget 1 none 0 := ⟨gw_in (gt_4 (List.mem_of_getElem? (i := 92) rfl)) rfl, gw_in (gt_1 (List.mem_of_getElem? (i := 5) rfl)) rfl, by decide +kernel, by decide⟩
theorem mv_X0_forget : mt_v yX0_forget 0 := ⟨gw_in (gt_4 (List.mem_of_getElem? (i := 90) rfl)) rfl, gw_in (gt_4 (List.mem_of_getElem? (i := 91) rfl)) rfl, by decide, _, rfl, rfl⟩
theorem mt_X0_read : mt_ok yX0_read cX0_read 8 none 2 := ⟨gw_in (gt_5 (List.mem_of_getElem? (i := 23) rfl)) rfl, gw_in (gt_1 (List.mem_of_getElem? (i := 5) rfl)) rfl, by decide +kernel, by decide⟩
theorem mv_X0_read : mt_v yX0_read 0 := ⟨gw_in (gt_5 (List.mem_of_getElem? (i := 21) rfl)) rfl, gw_in (gt_5 (List.mem_of_getElem? (i := 22) rfl)) rfl, by decide, _, rfl, rfl⟩
theorem mt_X0_many : mt_ok yX0_many cX0_many 1 (some .int) 0 := ⟨gw_in (gt_5 (List.mem_of_getElem? (i := 32) rfl)) rfl, gw_in (gt_1 (List.mem_of_getElem? (i := 5) rfl)) rfl, by decide +kernel, by decide⟩
theorem mv_X0_many : mt_v yX0_many 0 := ⟨gw_in (gt_5 (List.mem_of_getElem? (i := 30) rfl)) rfl, gw_in (gt_5 (List.mem_of_getElem? (i := 31) rfl)) rfl, by decide, _, rfl, rfl⟩
theorem mt_X0_hasLineOf : mt_ok yX0_hasLineOf cX0_hasLineOf 2 (some .boolean) 1 := ⟨gw_in (gt_6 (List.mem_of_getElem? (i := 80) rfl)) rfl, gw_in (gt_1 (List.mem_of_getElem? (i := 5) rfl)) rfl, by decide +kernel, by decide⟩
theorem mv_X0_hasLineOf : mt_v yX0_hasLineOf 0 := ⟨gw_in (gt_6 (List.mem_of_getElem? (i := 78) rfl)) rfl, gw_in (gt_6 (List.mem_of_getElem? (i := 79) rfl)) rfl, by decide, _, rfl, rfl⟩
theorem mt_X0_agreesWith : mt_ok yX0_agreesWith cX0_agreesWith 2 (some .boolean) 1 := ⟨gw_in (gt_6 (List.mem_of_getElem? (i := 61) rfl)) rfl, gw_in (gt_1 (List.mem_of_getElem? (i := 5) rfl)) rfl, by decide +kernel, by decide⟩
theorem mv_X0_agreesWith : mt_v yX0_agreesWith 0 := ⟨gw_in (gt_6 (List.mem_of_getElem? (i := 59) rfl)) rfl, gw_in (gt_6 (List.mem_of_getElem? (i := 60) rfl)) rfl, by decide, _, rfl, rfl⟩
theorem mt_X1_solve : mt_ok yX1_solve cX1_solve 4 none 1 := ⟨gw_in (gt_5 (List.mem_of_getElem? (i := 233) rfl)) rfl, gw_in (gt_1 (List.mem_of_getElem? (i := 10) rfl)) rfl, by decide +kernel, by decide⟩
theorem mv_X1_solve : mt_v yX1_solve 1 := ⟨gw_in (gt_5 (List.mem_of_getElem? (i := 231) rfl)) rfl, gw_in (gt_5 (List.mem_of_getElem? (i := 232) rfl)) rfl, by decide, _, rfl, rfl⟩
theorem mt_X1_measurePaths : mt_ok yX1_measurePaths cX1_measurePaths 6 none 1 := ⟨gw_in (gt_5 (List.mem_of_getElem? (i := 237) rfl)) rfl, gw_in (gt_1 (List.mem_of_getElem? (i := 10) rfl)) rfl, by decide +kernel, by decide⟩
theorem mv_X1_measurePaths : mt_v yX1_measurePaths 1 := ⟨gw_in (gt_5 (List.mem_of_getElem? (i := 236) rfl)) rfl, gw_in (gt_p (q := (yX1_measurePaths, 6)) (List.mem_of_getElem? (i := 34) rfl)) rfl, by decide, _, rfl, rfl⟩
theorem mt_X1_bestFor : mt_ok yX1_bestFor cX1_bestFor 5 (some .int) 2 := ⟨gw_in (gt_6 (List.mem_of_getElem? (i := 8) rfl)) rfl, gw_in (gt_1 (List.mem_of_getElem? (i := 10) rfl)) rfl, by decide +kernel, by decide⟩
theorem mv_X1_bestFor : mt_v yX1_bestFor 1 := ⟨gw_in (gt_6 (List.mem_of_getElem? (i := 7) rfl)) rfl, gw_in (gt_p (q := (yX1_bestFor, 6)) (List.mem_of_getElem? (i := 35) rfl)) rfl, by decide, _, rfl, rfl⟩
theorem mt_X1_isFree : mt_ok yX1_isFree cX1_isFree 4 (some .boolean) 3 := ⟨gw_in (gt_6 (List.mem_of_getElem? (i := 12) rfl)) rfl, gw_in (gt_1 (List.mem_of_getElem? (i := 10) rfl)) rfl, by decide +kernel, by decide⟩
theorem mv_X1_isFree : mt_v yX1_isFree 1 := ⟨gw_in (gt_6 (List.mem_of_getElem? (i := 11) rfl)) rfl, gw_in (gt_p (q := (yX1_isFree, 6)) (List.mem_of_getElem? (i := 36) rfl)) rfl, by decide, _, rfl, rfl⟩
theorem mt_X1_worth : mt_ok yX1_worth cX1_worth 4 (some .int) 3 := ⟨gw_in (gt_6 (List.mem_of_getElem? (i := 16) rfl)) rfl, gw_in (gt_1 (List.mem_of_getElem? (i := 10) rfl)) rfl, by decide +kernel, by decide⟩
theorem mv_X1_worth : mt_v yX1_worth 1 := ⟨gw_in (gt_6 (List.mem_of_getElem? (i := 15) rfl)) rfl, gw_in (gt_p (q := (yX1_worth, 6)) (List.mem_of_getElem? (i := 37) rfl)) rfl, by decide, _, rfl, rfl⟩
theorem mt_X1_choose : mt_ok yX1_choose cX1_choose 4 none 0 := ⟨gw_in (gt_6 (List.mem_of_getElem? (i := 21) rfl)) rfl, gw_in (gt_1 (List.mem_of_getElem? (i := 10) rfl)) rfl, by decide +kernel, by decide⟩
theorem mv_X1_choose : mt_v yX1_choose 1 := ⟨gw_in (gt_6 (List.mem_of_getElem? (i := 20) rfl)) rfl, gw_in (gt_p (q := (yX1_choose, 6)) (List.mem_of_getElem? (i := 38) rfl)) rfl, by decide, _, rfl, rfl⟩
theorem mt_X1_firstBest : mt_ok yX1_firstBest cX1_firstBest 4 (some .int) 2 := ⟨gw_in (gt_6 (List.mem_of_getElem? (i := 25) rfl)) rfl, gw_in (gt_1 (List.mem_of_getElem? (i := 10) rfl)) rfl, by decide +kernel, by decide⟩
theorem mv_X1_firstBest : mt_v yX1_firstBest 1 := ⟨gw_in (gt_6 (List.mem_of_getElem? (i := 24) rfl)) rfl, gw_in (gt_p (q := (yX1_firstBest, 6)) (List.mem_of_getElem? (i := 39) rfl)) rfl, by decide, _, rfl, rfl⟩
theorem mt_X2_weigh : mt_ok yX2_weigh cX2_weigh 7 none 3 := ⟨gw_in (gt_6 (List.mem_of_getElem? (i := 50) rfl)) rfl, gw_in (gt_1 (List.mem_of_getElem? (i := 11) rfl)) rfl, by decide +kernel, by decide⟩
theorem mv_X2_weigh : mt_v yX2_weigh 2 := ⟨gw_in (gt_6 (List.mem_of_getElem? (i := 48) rfl)) rfl, gw_in (gt_6 (List.mem_of_getElem? (i := 49) rfl)) rfl, by decide, _, rfl, rfl⟩
theorem mt_X2_countPair : mt_ok yX2_countPair cX2_countPair 4 none 2 := ⟨gw_in (gt_6 (List.mem_of_getElem? (i := 65) rfl)) rfl, gw_in (gt_1 (List.mem_of_getElem? (i := 11) rfl)) rfl, by decide +kernel, by decide⟩
theorem mv_X2_countPair : mt_v yX2_countPair 2 := ⟨gw_in (gt_6 (List.mem_of_getElem? (i := 64) rfl)) rfl, gw_in (gt_p (q := (yX2_countPair, 4)) (List.mem_of_getElem? (i := 40) rfl)) rfl, by decide, _, rfl, rfl⟩
theorem mt_X2_leftAtWorst : mt_ok yX2_leftAtWorst cX2_leftAtWorst 2 (some .int) 1 := ⟨gw_in (gt_6 (List.mem_of_getElem? (i := 84) rfl)) rfl, gw_in (gt_1 (List.mem_of_getElem? (i := 11) rfl)) rfl, by decide +kernel, by decide⟩
theorem mv_X2_leftAtWorst : mt_v yX2_leftAtWorst 2 := ⟨gw_in (gt_6 (List.mem_of_getElem? (i := 82) rfl)) rfl, gw_in (gt_6 (List.mem_of_getElem? (i := 83) rfl)) rfl, by decide, _, rfl, rfl⟩
theorem mt_X2_bestToWatch : mt_ok yX2_bestToWatch cX2_bestToWatch 4 (some .int) 1 := ⟨gw_in (gt_6 (List.mem_of_getElem? (i := 76) rfl)) rfl, gw_in (gt_1 (List.mem_of_getElem? (i := 11) rfl)) rfl, by decide +kernel, by decide⟩
theorem mv_X2_bestToWatch : mt_v yX2_bestToWatch 2 := ⟨gw_in (gt_6 (List.mem_of_getElem? (i := 74) rfl)) rfl, gw_in (gt_6 (List.mem_of_getElem? (i := 75) rfl)) rfl, by decide, _, rfl, rfl⟩
theorem mt_X3_copyFrom : mt_ok yX3_copyFrom cX3_copyFrom 2 none 1 := ⟨gw_in (gt_4 (List.mem_of_getElem? (i := 83) rfl)) rfl, gw_in (gt_1 (List.mem_of_getElem? (i := 3) rfl)) rfl, by decide +kernel, by decide⟩
theorem mv_X3_copyFrom : mt_v yX3_copyFrom 3 := ⟨gw_in (gt_4 (List.mem_of_getElem? (i := 81) rfl)) rfl, gw_in (gt_4 (List.mem_of_getElem? (i := 82) rfl)) rfl, by decide, _, rfl, rfl⟩
theorem mt_X3_read : mt_ok yX3_read cX3_read 3 none 1 := ⟨gw_in (gt_3 (List.mem_of_getElem? (i := 192) rfl)) rfl, gw_in (gt_1 (List.mem_of_getElem? (i := 3) rfl)) rfl, by decide +kernel, by decide⟩
theorem mv_X3_read : mt_v yX3_read 3 := ⟨gw_in (gt_3 (List.mem_of_getElem? (i := 190) rfl)) rfl, gw_in (gt_3 (List.mem_of_getElem? (i := 191) rfl)) rfl, by decide, _, rfl, rfl⟩
theorem mt_X3_readClause : mt_ok yX3_readClause cX3_readClause 3 none 1 := ⟨gw_in (gt_3 (List.mem_of_getElem? (i := 208) rfl)) rfl, gw_in (gt_1 (List.mem_of_getElem? (i := 3) rfl)) rfl, by decide +kernel, by decide⟩
theorem mv_X3_readClause : mt_v yX3_readClause 3 := ⟨gw_in (gt_3 (List.mem_of_getElem? (i := 207) rfl)) rfl, gw_in (gt_p (q := (yX3_readClause, 12)) (List.mem_of_getElem? (i := 9) rfl)) rfl, by decide, _, rfl, rfl⟩
theorem mt_X3_readRoom : mt_ok yX3_readRoom cX3_readRoom 3 none 2 := ⟨gw_in (gt_4 (List.mem_of_getElem? (i := 29) rfl)) rfl, gw_in (gt_1 (List.mem_of_getElem? (i := 3) rfl)) rfl, by decide +kernel, by decide⟩
theorem mv_X3_readRoom : mt_v yX3_readRoom 3 := ⟨gw_in (gt_4 (List.mem_of_getElem? (i := 28) rfl)) rfl, gw_in (gt_p (q := (yX3_readRoom, 12)) (List.mem_of_getElem? (i := 11) rfl)) rfl, by decide, _, rfl, rfl⟩
theorem mt_X3_readWay : mt_ok yX3_readWay cX3_readWay 3 none 2 := ⟨gw_in (gt_4 (List.mem_of_getElem? (i := 44) rfl)) rfl, gw_in (gt_1 (List.mem_of_getElem? (i := 3) rfl)) rfl, by decide +kernel, by decide⟩
theorem mv_X3_readWay : mt_v yX3_readWay 3 := ⟨gw_in (gt_4 (List.mem_of_getElem? (i := 43) rfl)) rfl, gw_in (gt_p (q := (yX3_readWay, 12)) (List.mem_of_getElem? (i := 13) rfl)) rfl, by decide, _, rfl, rfl⟩
theorem mt_X3_readScheme : mt_ok yX3_readScheme cX3_readScheme 3 none 2 := ⟨gw_in (gt_4 (List.mem_of_getElem? (i := 53) rfl)) rfl, gw_in (gt_1 (List.mem_of_getElem? (i := 3) rfl)) rfl, by decide +kernel, by decide⟩
theorem mv_X3_readScheme : mt_v yX3_readScheme 3 := ⟨gw_in (gt_4 (List.mem_of_getElem? (i := 52) rfl)) rfl, gw_in (gt_p (q := (yX3_readScheme, 12)) (List.mem_of_getElem? (i := 14) rfl)) rfl, by decide, _, rfl, rfl⟩
theorem mt_X3_readCat : mt_ok yX3_readCat cX3_readCat 3 none 2 := ⟨gw_in (gt_4 (List.mem_of_getElem? (i := 58) rfl)) rfl, gw_in (gt_1 (List.mem_of_getElem? (i := 3) rfl)) rfl, by decide +kernel, by decide⟩
theorem mv_X3_readCat : mt_v yX3_readCat 3 := ⟨gw_in (gt_4 (List.mem_of_getElem? (i := 57) rfl)) rfl, gw_in (gt_p (q := (yX3_readCat, 12)) (List.mem_of_getElem? (i := 15) rfl)) rfl, by decide, _, rfl, rfl⟩
theorem mt_X4_forget : mt_ok yX4_forget cX4_forget 1 none 0 := ⟨gw_in (gt_4 (List.mem_of_getElem? (i := 88) rfl)) rfl, gw_in (gt_1 (List.mem_of_getElem? (i := 4) rfl)) rfl, by decide +kernel, by decide⟩
theorem mv_X4_forget : mt_v yX4_forget 4 := ⟨gw_in (gt_4 (List.mem_of_getElem? (i := 86) rfl)) rfl, gw_in (gt_4 (List.mem_of_getElem? (i := 87) rfl)) rfl, by decide, _, rfl, rfl⟩
theorem mt_X4_read : mt_ok yX4_read cX4_read 2 none 1 := ⟨gw_in (gt_4 (List.mem_of_getElem? (i := 111) rfl)) rfl, gw_in (gt_1 (List.mem_of_getElem? (i := 4) rfl)) rfl, by decide +kernel, by decide⟩
theorem mv_X4_read : mt_v yX4_read 4 := ⟨gw_in (gt_4 (List.mem_of_getElem? (i := 109) rfl)) rfl, gw_in (gt_4 (List.mem_of_getElem? (i := 110) rfl)) rfl, by decide, _, rfl, rfl⟩
theorem mt_X4_readSum : mt_ok yX4_readSum cX4_readSum 5 none 2 := ⟨gw_in (gt_4 (List.mem_of_getElem? (i := 115) rfl)) rfl, gw_in (gt_1 (List.mem_of_getElem? (i := 4) rfl)) rfl, by decide +kernel, by decide⟩
theorem mv_X4_readSum : mt_v yX4_readSum 4 := ⟨gw_in (gt_4 (List.mem_of_getElem? (i := 114) rfl)) rfl, gw_in (gt_p (q := (yX4_readSum, 6)) (List.mem_of_getElem? (i := 16) rfl)) rfl, by decide, _, rfl, rfl⟩
theorem mt_X4_readProduct : mt_ok yX4_readProduct cX4_readProduct 5 none 2 := ⟨gw_in (gt_4 (List.mem_of_getElem? (i := 119) rfl)) rfl, gw_in (gt_1 (List.mem_of_getElem? (i := 4) rfl)) rfl, by decide +kernel, by decide⟩
theorem mv_X4_readProduct : mt_v yX4_readProduct 4 := ⟨gw_in (gt_4 (List.mem_of_getElem? (i := 118) rfl)) rfl, gw_in (gt_p (q := (yX4_readProduct, 6)) (List.mem_of_getElem? (i := 17) rfl)) rfl, by decide, _, rfl, rfl⟩
theorem mt_X4_readUnit : mt_ok yX4_readUnit cX4_readUnit 5 none 2 := ⟨gw_in (gt_4 (List.mem_of_getElem? (i := 123) rfl)) rfl, gw_in (gt_1 (List.mem_of_getElem? (i := 4) rfl)) rfl, by decide +kernel, by decide⟩
theorem mv_X4_readUnit : mt_v yX4_readUnit 4 := ⟨gw_in (gt_4 (List.mem_of_getElem? (i := 122) rfl)) rfl, gw_in (gt_p (q := (yX4_readUnit, 6)) (List.mem_of_getElem? (i := 18) rfl)) rfl, by decide, _, rfl, rfl⟩
theorem mt_X4_readBracket : mt_ok yX4_readBracket cX4_readBracket 4 none 3 := ⟨gw_in (gt_4 (List.mem_of_getElem? (i := 138) rfl)) rfl, gw_in (gt_1 (List.mem_of_getElem? (i := 4) rfl)) rfl, by decide +kernel, by decide⟩
theorem mv_X4_readBracket : mt_v yX4_readBracket 4 := ⟨gw_in (gt_4 (List.mem_of_getElem? (i := 137) rfl)) rfl, gw_in (gt_p (q := (yX4_readBracket, 6)) (List.mem_of_getElem? (i := 20) rfl)) rfl, by decide, _, rfl, rfl⟩
theorem mt_X4_readPair : mt_ok yX4_readPair cX4_readPair 5 none 4 := ⟨gw_in (gt_4 (List.mem_of_getElem? (i := 146) rfl)) rfl, gw_in (gt_1 (List.mem_of_getElem? (i := 4) rfl)) rfl, by decide +kernel, by decide⟩
theorem mv_X4_readPair : mt_v yX4_readPair 4 := ⟨gw_in (gt_4 (List.mem_of_getElem? (i := 145) rfl)) rfl, gw_in (gt_p (q := (yX4_readPair, 6)) (List.mem_of_getElem? (i := 21) rfl)) rfl, by decide, _, rfl, rfl⟩
theorem mt_X4_readVariable : mt_ok yX4_readVariable cX4_readVariable 1 (some .int) 1 := ⟨gw_in (gt_4 (List.mem_of_getElem? (i := 150) rfl)) rfl, gw_in (gt_1 (List.mem_of_getElem? (i := 4) rfl)) rfl, by decide +kernel, by decide⟩
theorem ms_X4_readVariable : Cond.static yX4_readVariable ∈ gw_tbl := gw_in (gt_4 (List.mem_of_getElem? (i := 149) rfl)) rfl
theorem mt_X4_put : mt_ok yX4_put cX4_put 2 none 1 := ⟨gw_in (gt_4 (List.mem_of_getElem? (i := 133) rfl)) rfl, gw_in (gt_1 (List.mem_of_getElem? (i := 4) rfl)) rfl, by decide +kernel, by decide⟩
theorem mv_X4_put : mt_v yX4_put 4 := ⟨gw_in (gt_4 (List.mem_of_getElem? (i := 132) rfl)) rfl, gw_in (gt_p (q := (yX4_put, 6)) (List.mem_of_getElem? (i := 19) rfl)) rfl, by decide, _, rfl, rfl⟩
theorem mt_X4_growth : mt_ok yX4_growth cX4_growth 9 (some .int) 7 := ⟨gw_in (gt_3 (List.mem_of_getElem? (i := 38) rfl)) rfl, gw_in (gt_1 (List.mem_of_getElem? (i := 4) rfl)) rfl, by decide +kernel, by decide⟩
theorem mv_X4_growth : mt_v yX4_growth 4 := ⟨gw_in (gt_3 (List.mem_of_getElem? (i := 36) rfl)) rfl, gw_in (gt_3 (List.mem_of_getElem? (i := 37) rfl)) rfl, by decide, _, rfl, rfl⟩
theorem mt_X4_value : mt_ok yX4_value cX4_value 4 (some .int) 0 := ⟨gw_in (gt_3 (List.mem_of_getElem? (i := 42) rfl)) rfl, gw_in (gt_1 (List.mem_of_getElem? (i := 4) rfl)) rfl, by decide +kernel, by decide⟩
theorem mv_X4_value : mt_v yX4_value 4 := ⟨gw_in (gt_3 (List.mem_of_getElem? (i := 41) rfl)) rfl, gw_in (gt_p (q := (yX4_value, 6)) (List.mem_of_getElem? (i := 1) rfl)) rfl, by decide, _, rfl, rfl⟩
theorem mt_X4_variable : mt_ok yX4_variable cX4_variable 2 (some .int) 1 := ⟨gw_in (gt_3 (List.mem_of_getElem? (i := 49) rfl)) rfl, gw_in (gt_1 (List.mem_of_getElem? (i := 4) rfl)) rfl, by decide +kernel, by decide⟩
theorem mv_X4_variable : mt_v yX4_variable 4 := ⟨gw_in (gt_3 (List.mem_of_getElem? (i := 48) rfl)) rfl, gw_in (gt_p (q := (yX4_variable, 6)) (List.mem_of_getElem? (i := 2) rfl)) rfl, by decide, _, rfl, rfl⟩
theorem mt_X4_joined : mt_ok yX4_joined cX4_joined 3 (some .int) 3 := ⟨gw_in (gt_3 (List.mem_of_getElem? (i := 45) rfl)) rfl, gw_in (gt_1 (List.mem_of_getElem? (i := 4) rfl)) rfl, by decide +kernel, by decide⟩
theorem ms_X4_joined : Cond.static yX4_joined ∈ gw_tbl := gw_in (gt_3 (List.mem_of_getElem? (i := 44) rfl)) rfl
theorem mt_X5_forget : mt_ok yX5_forget cX5_forget 1 none 0 := ⟨gw_in (gt_4 (List.mem_of_getElem? (i := 96) rfl)) rfl, gw_in (gt_1 (List.mem_of_getElem? (i := 8) rfl)) rfl, by decide +kernel, by decide⟩
theorem mv_X5_forget : mt_v yX5_forget 5 := ⟨gw_in (gt_4 (List.mem_of_getElem? (i := 94) rfl)) rfl, gw_in (gt_4 (List.mem_of_getElem? (i := 95) rfl)) rfl, by decide, _, rfl, rfl⟩
theorem mt_X5_isFull : mt_ok yX5_isFull cX5_isFull 1 (some .boolean) 0 := ⟨gw_in (gt_4 (List.mem_of_getElem? (i := 171) rfl)) rfl, gw_in (gt_1 (List.mem_of_getElem? (i := 8) rfl)) rfl, by decide +kernel, by decide⟩
theorem mv_X5_isFull : mt_v yX5_isFull 5 := ⟨gw_in (gt_4 (List.mem_of_getElem? (i := 169) rfl)) rfl, gw_in (gt_4 (List.mem_of_getElem? (i := 170) rfl)) rfl, by decide, _, rfl, rfl⟩
theorem mt_X5_keepWork : mt_ok yX5_keepWork cX5_keepWork 2 none 1 := ⟨gw_in (gt_4 (List.mem_of_getElem? (i := 205) rfl)) rfl, gw_in (gt_1 (List.mem_of_getElem? (i := 8) rfl)) rfl, by decide +kernel, by decide⟩
theorem mv_X5_keepWork : mt_v yX5_keepWork 5 := ⟨gw_in (gt_4 (List.mem_of_getElem? (i := 203) rfl)) rfl, gw_in (gt_4 (List.mem_of_getElem? (i := 204) rfl)) rfl, by decide, _, rfl, rfl⟩
theorem mt_X5_takeBackWork : mt_ok yX5_takeBackWork cX5_takeBackWork 2 (some .boolean) 1 := ⟨gw_in (gt_2 (List.mem_of_getElem? (i := 196) rfl)) rfl, gw_in (gt_1 (List.mem_of_getElem? (i := 8) rfl)) rfl, by decide +kernel, by decide⟩
theorem mv_X5_takeBackWork : mt_v yX5_takeBackWork 5 := ⟨gw_in (gt_2 (List.mem_of_getElem? (i := 194) rfl)) rfl, gw_in (gt_2 (List.mem_of_getElem? (i := 195) rfl)) rfl, by decide, _, rfl, rfl⟩
theorem mt_X5_keepImage : mt_ok yX5_keepImage cX5_keepImage 2 (some .boolean) 1 := ⟨gw_in (gt_3 (List.mem_of_getElem? (i := 79) rfl)) rfl, gw_in (gt_1 (List.mem_of_getElem? (i := 8) rfl)) rfl, by decide +kernel, by decide⟩
theorem mv_X5_keepImage : mt_v yX5_keepImage 5 := ⟨gw_in (gt_3 (List.mem_of_getElem? (i := 77) rfl)) rfl, gw_in (gt_3 (List.mem_of_getElem? (i := 78) rfl)) rfl, by decide, _, rfl, rfl⟩
theorem mt_X5_takeBackImage : mt_ok yX5_takeBackImage cX5_takeBackImage 2 (some .boolean) 1 := ⟨gw_in (gt_3 (List.mem_of_getElem? (i := 87) rfl)) rfl, gw_in (gt_1 (List.mem_of_getElem? (i := 8) rfl)) rfl, by decide +kernel, by decide⟩
theorem mv_X5_takeBackImage : mt_v yX5_takeBackImage 5 := ⟨gw_in (gt_3 (List.mem_of_getElem? (i := 85) rfl)) rfl, gw_in (gt_3 (List.mem_of_getElem? (i := 86) rfl)) rfl, by decide, _, rfl, rfl⟩
theorem mt_X6_play : mt_ok yX6_play cX6_play 8 none 4 := ⟨gw_in (gt_6 (List.mem_of_getElem? (i := 193) rfl)) rfl, gw_in (gt_1 (List.mem_of_getElem? (i := 12) rfl)) rfl, by decide +kernel, by decide⟩
theorem mv_X6_play : mt_v yX6_play 6 := ⟨gw_in (gt_6 (List.mem_of_getElem? (i := 191) rfl)) rfl, gw_in (gt_6 (List.mem_of_getElem? (i := 192) rfl)) rfl, by decide, _, rfl, rfl⟩
theorem mt_X6_draw : mt_ok yX6_draw cX6_draw 2 (some .int) 1 := ⟨gw_in (gt_6 (List.mem_of_getElem? (i := 197) rfl)) rfl, gw_in (gt_1 (List.mem_of_getElem? (i := 12) rfl)) rfl, by decide +kernel, by decide⟩
theorem mv_X6_draw : mt_v yX6_draw 6 := ⟨gw_in (gt_6 (List.mem_of_getElem? (i := 196) rfl)) rfl, gw_in (gt_p (q := (yX6_draw, 2)) (List.mem_of_getElem? (i := 42) rfl)) rfl, by decide, _, rfl, rfl⟩
theorem mt_X7_fewestNights : mt_ok yX7_fewestNights cX7_fewestNights 6 (some .int) 3 := ⟨gw_in (gt_5 (List.mem_of_getElem? (i := 177) rfl)) rfl, gw_in (gt_1 (List.mem_of_getElem? (i := 9) rfl)) rfl, by decide +kernel, by decide⟩
theorem mv_X7_fewestNights : mt_v yX7_fewestNights 7 := ⟨gw_in (gt_5 (List.mem_of_getElem? (i := 175) rfl)) rfl, gw_in (gt_5 (List.mem_of_getElem? (i := 176) rfl)) rfl, by decide, _, rfl, rfl⟩
theorem mt_X7_spread : mt_ok yX7_spread cX7_spread 7 none 1 := ⟨gw_in (gt_5 (List.mem_of_getElem? (i := 198) rfl)) rfl, gw_in (gt_1 (List.mem_of_getElem? (i := 9) rfl)) rfl, by decide +kernel, by decide⟩
theorem mv_X7_spread : mt_v yX7_spread 7 := ⟨gw_in (gt_5 (List.mem_of_getElem? (i := 197) rfl)) rfl, gw_in (gt_p (q := (yX7_spread, 9)) (List.mem_of_getElem? (i := 29) rfl)) rfl, by decide, _, rfl, rfl⟩
theorem mt_X7_growAll : mt_ok yX7_growAll cX7_growAll 8 none 1 := ⟨gw_in (gt_5 (List.mem_of_getElem? (i := 207) rfl)) rfl, gw_in (gt_1 (List.mem_of_getElem? (i := 9) rfl)) rfl, by decide +kernel, by decide⟩
theorem mv_X7_growAll : mt_v yX7_growAll 7 := ⟨gw_in (gt_5 (List.mem_of_getElem? (i := 206) rfl)) rfl, gw_in (gt_p (q := (yX7_growAll, 9)) (List.mem_of_getElem? (i := 30) rfl)) rfl, by decide, _, rfl, rfl⟩
theorem mt_X7_growWord : mt_ok yX7_growWord cX7_growWord 10 none 4 := ⟨gw_in (gt_5 (List.mem_of_getElem? (i := 217) rfl)) rfl, gw_in (gt_1 (List.mem_of_getElem? (i := 9) rfl)) rfl, by decide +kernel, by decide⟩
theorem mv_X7_growWord : mt_v yX7_growWord 7 := ⟨gw_in (gt_5 (List.mem_of_getElem? (i := 216) rfl)) rfl, gw_in (gt_p (q := (yX7_growWord, 9)) (List.mem_of_getElem? (i := 32) rfl)) rfl, by decide, _, rfl, rfl⟩
theorem mt_X7_greatestSpared : mt_ok yX7_greatestSpared cX7_greatestSpared 8 (some .int) 2 := ⟨gw_in (gt_5 (List.mem_of_getElem? (i := 212) rfl)) rfl, gw_in (gt_1 (List.mem_of_getElem? (i := 9) rfl)) rfl, by decide +kernel, by decide⟩
theorem mv_X7_greatestSpared : mt_v yX7_greatestSpared 7 := ⟨gw_in (gt_5 (List.mem_of_getElem? (i := 211) rfl)) rfl, gw_in (gt_p (q := (yX7_greatestSpared, 9)) (List.mem_of_getElem? (i := 31) rfl)) rfl, by decide, _, rfl, rfl⟩
theorem mt_X7_add : mt_ok yX7_add cX7_add 4 none 2 := ⟨gw_in (gt_5 (List.mem_of_getElem? (i := 188) rfl)) rfl, gw_in (gt_1 (List.mem_of_getElem? (i := 9) rfl)) rfl, by decide +kernel, by decide⟩
theorem mv_X7_add : mt_v yX7_add 7 := ⟨gw_in (gt_5 (List.mem_of_getElem? (i := 187) rfl)) rfl, gw_in (gt_p (q := (yX7_add, 9)) (List.mem_of_getElem? (i := 28) rfl)) rfl, by decide, _, rfl, rfl⟩
theorem mt_X7_hasAny : mt_ok yX7_hasAny cX7_hasAny 3 (some .boolean) 1 := ⟨gw_in (gt_5 (List.mem_of_getElem? (i := 222) rfl)) rfl, gw_in (gt_1 (List.mem_of_getElem? (i := 9) rfl)) rfl, by decide +kernel, by decide⟩
theorem mv_X7_hasAny : mt_v yX7_hasAny 7 := ⟨gw_in (gt_5 (List.mem_of_getElem? (i := 221) rfl)) rfl, gw_in (gt_p (q := (yX7_hasAny, 9)) (List.mem_of_getElem? (i := 33) rfl)) rfl, by decide, _, rfl, rfl⟩
theorem mt_X7_clear : mt_ok yX7_clear cX7_clear 3 none 0 := ⟨gw_in (gt_5 (List.mem_of_getElem? (i := 183) rfl)) rfl, gw_in (gt_1 (List.mem_of_getElem? (i := 9) rfl)) rfl, by decide +kernel, by decide⟩
theorem mv_X7_clear : mt_v yX7_clear 7 := ⟨gw_in (gt_5 (List.mem_of_getElem? (i := 182) rfl)) rfl, gw_in (gt_p (q := (yX7_clear, 9)) (List.mem_of_getElem? (i := 27) rfl)) rfl, by decide, _, rfl, rfl⟩
theorem mt_X8_copyFrom : mt_ok yX8_copyFrom cX8_copyFrom 2 none 1 := ⟨gw_in (gt_3 (List.mem_of_getElem? (i := 7) rfl)) rfl, gw_in (gt_1 (List.mem_of_getElem? (i := 7) rfl)) rfl, by decide +kernel, by decide⟩
theorem mv_X8_copyFrom : mt_v yX8_copyFrom 8 := ⟨gw_in (gt_3 (List.mem_of_getElem? (i := 5) rfl)) rfl, gw_in (gt_3 (List.mem_of_getElem? (i := 6) rfl)) rfl, by decide, _, rfl, rfl⟩
theorem mt_X8_begin : mt_ok yX8_begin cX8_begin 2 none 0 := ⟨gw_in (gt_4 (List.mem_of_getElem? (i := 100) rfl)) rfl, gw_in (gt_1 (List.mem_of_getElem? (i := 7) rfl)) rfl, by decide +kernel, by decide⟩
theorem mv_X8_begin : mt_v yX8_begin 8 := ⟨gw_in (gt_4 (List.mem_of_getElem? (i := 98) rfl)) rfl, gw_in (gt_4 (List.mem_of_getElem? (i := 99) rfl)) rfl, by decide, _, rfl, rfl⟩
theorem mt_X8_night : mt_ok yX8_night cX8_night 1 (some .int) 0 := ⟨gw_in (gt_3 (List.mem_of_getElem? (i := 30) rfl)) rfl, gw_in (gt_1 (List.mem_of_getElem? (i := 7) rfl)) rfl, by decide +kernel, by decide⟩
theorem mv_X8_night : mt_v yX8_night 8 := ⟨gw_in (gt_3 (List.mem_of_getElem? (i := 28) rfl)) rfl, gw_in (gt_3 (List.mem_of_getElem? (i := 29) rfl)) rfl, by decide, _, rfl, rfl⟩
theorem mt_X8_living : mt_ok yX8_living cX8_living 1 (some .int) 0 := ⟨gw_in (gt_2 (List.mem_of_getElem? (i := 231) rfl)) rfl, gw_in (gt_1 (List.mem_of_getElem? (i := 7) rfl)) rfl, by decide +kernel, by decide⟩
theorem mv_X8_living : mt_v yX8_living 8 := ⟨gw_in (gt_2 (List.mem_of_getElem? (i := 229) rfl)) rfl, gw_in (gt_2 (List.mem_of_getElem? (i := 230) rfl)) rfl, by decide, _, rfl, rfl⟩
theorem mt_X8_onMat : mt_ok yX8_onMat cX8_onMat 1 (some .int) 0 := ⟨gw_in (gt_3 (List.mem_of_getElem? (i := 34) rfl)) rfl, gw_in (gt_1 (List.mem_of_getElem? (i := 7) rfl)) rfl, by decide +kernel, by decide⟩
theorem mv_X8_onMat : mt_v yX8_onMat 8 := ⟨gw_in (gt_3 (List.mem_of_getElem? (i := 32) rfl)) rfl, gw_in (gt_3 (List.mem_of_getElem? (i := 33) rfl)) rfl, by decide, _, rfl, rfl⟩
theorem mt_X8_joined : mt_ok yX8_joined cX8_joined 1 (some .int) 0 := ⟨gw_in (gt_5 (List.mem_of_getElem? (i := 45) rfl)) rfl, gw_in (gt_1 (List.mem_of_getElem? (i := 7) rfl)) rfl, by decide +kernel, by decide⟩
theorem mv_X8_joined : mt_v yX8_joined 8 := ⟨gw_in (gt_5 (List.mem_of_getElem? (i := 43) rfl)) rfl, gw_in (gt_5 (List.mem_of_getElem? (i := 44) rfl)) rfl, by decide, _, rfl, rfl⟩
theorem mt_X8_shutWays : mt_ok yX8_shutWays cX8_shutWays 1 (some .int) 0 := ⟨gw_in (gt_5 (List.mem_of_getElem? (i := 49) rfl)) rfl, gw_in (gt_1 (List.mem_of_getElem? (i := 7) rfl)) rfl, by decide +kernel, by decide⟩
theorem mv_X8_shutWays : mt_v yX8_shutWays 8 := ⟨gw_in (gt_5 (List.mem_of_getElem? (i := 47) rfl)) rfl, gw_in (gt_5 (List.mem_of_getElem? (i := 48) rfl)) rfl, by decide, _, rfl, rfl⟩
theorem mt_X8_roomOf : mt_ok yX8_roomOf cX8_roomOf 2 (some .int) 1 := ⟨gw_in (gt_2 (List.mem_of_getElem? (i := 219) rfl)) rfl, gw_in (gt_1 (List.mem_of_getElem? (i := 7) rfl)) rfl, by decide +kernel, by decide⟩
theorem mv_X8_roomOf : mt_v yX8_roomOf 8 := ⟨gw_in (gt_2 (List.mem_of_getElem? (i := 217) rfl)) rfl, gw_in (gt_2 (List.mem_of_getElem? (i := 218) rfl)) rfl, by decide, _, rfl, rfl⟩
theorem mt_X8_size : mt_ok yX8_size cX8_size 2 (some .int) 1 := ⟨gw_in (gt_2 (List.mem_of_getElem? (i := 223) rfl)) rfl, gw_in (gt_1 (List.mem_of_getElem? (i := 7) rfl)) rfl, by decide +kernel, by decide⟩
theorem mv_X8_size : mt_v yX8_size 8 := ⟨gw_in (gt_2 (List.mem_of_getElem? (i := 221) rfl)) rfl, gw_in (gt_2 (List.mem_of_getElem? (i := 222) rfl)) rfl, by decide, _, rfl, rfl⟩
theorem mt_X8_takenWhen : mt_ok yX8_takenWhen cX8_takenWhen 2 (some .int) 1 := ⟨gw_in (gt_5 (List.mem_of_getElem? (i := 108) rfl)) rfl, gw_in (gt_1 (List.mem_of_getElem? (i := 7) rfl)) rfl, by decide +kernel, by decide⟩
theorem mv_X8_takenWhen : mt_v yX8_takenWhen 8 := ⟨gw_in (gt_5 (List.mem_of_getElem? (i := 106) rfl)) rfl, gw_in (gt_5 (List.mem_of_getElem? (i := 107) rfl)) rfl, by decide, _, rfl, rfl⟩
theorem mt_X8_takenBy : mt_ok yX8_takenBy cX8_takenBy 2 (some .int) 1 := ⟨gw_in (gt_5 (List.mem_of_getElem? (i := 112) rfl)) rfl, gw_in (gt_1 (List.mem_of_getElem? (i := 7) rfl)) rfl, by decide +kernel, by decide⟩
theorem mv_X8_takenBy : mt_v yX8_takenBy 8 := ⟨gw_in (gt_5 (List.mem_of_getElem? (i := 110) rfl)) rfl, gw_in (gt_5 (List.mem_of_getElem? (i := 111) rfl)) rfl, by decide, _, rfl, rfl⟩
theorem mt_X8_roomOfCat : mt_ok yX8_roomOfCat cX8_roomOfCat 2 (some .int) 1 := ⟨gw_in (gt_2 (List.mem_of_getElem? (i := 211) rfl)) rfl, gw_in (gt_1 (List.mem_of_getElem? (i := 7) rfl)) rfl, by decide +kernel, by decide⟩
theorem mv_X8_roomOfCat : mt_v yX8_roomOfCat 8 := ⟨gw_in (gt_2 (List.mem_of_getElem? (i := 209) rfl)) rfl, gw_in (gt_2 (List.mem_of_getElem? (i := 210) rfl)) rfl, by decide, _, rfl, rfl⟩
theorem mt_X8_took : mt_ok yX8_took cX8_took 2 (some .int) 1 := ⟨gw_in (gt_5 (List.mem_of_getElem? (i := 124) rfl)) rfl, gw_in (gt_1 (List.mem_of_getElem? (i := 7) rfl)) rfl, by decide +kernel, by decide⟩
theorem mv_X8_took : mt_v yX8_took 8 := ⟨gw_in (gt_5 (List.mem_of_getElem? (i := 122) rfl)) rfl, gw_in (gt_5 (List.mem_of_getElem? (i := 123) rfl)) rfl, by decide, _, rfl, rfl⟩
theorem mt_X8_lives : mt_ok yX8_lives cX8_lives 2 (some .boolean) 1 := ⟨gw_in (gt_2 (List.mem_of_getElem? (i := 215) rfl)) rfl, gw_in (gt_1 (List.mem_of_getElem? (i := 7) rfl)) rfl, by decide +kernel, by decide⟩
theorem mv_X8_lives : mt_v yX8_lives 8 := ⟨gw_in (gt_2 (List.mem_of_getElem? (i := 213) rfl)) rfl, gw_in (gt_2 (List.mem_of_getElem? (i := 214) rfl)) rfl, by decide, _, rfl, rfl⟩
theorem mt_X8_putInto : mt_ok yX8_putInto cX8_putInto 3 none 2 := ⟨gw_in (gt_6 (List.mem_of_getElem? (i := 56) rfl)) rfl, gw_in (gt_1 (List.mem_of_getElem? (i := 7) rfl)) rfl, by decide +kernel, by decide⟩
theorem mv_X8_putInto : mt_v yX8_putInto 8 := ⟨gw_in (gt_6 (List.mem_of_getElem? (i := 54) rfl)) rfl, gw_in (gt_6 (List.mem_of_getElem? (i := 55) rfl)) rfl, by decide, _, rfl, rfl⟩
theorem mt_X8_leaveOut : mt_ok yX8_leaveOut cX8_leaveOut 2 none 1 := ⟨gw_in (gt_5 (List.mem_of_getElem? (i := 194) rfl)) rfl, gw_in (gt_1 (List.mem_of_getElem? (i := 7) rfl)) rfl, by decide +kernel, by decide⟩
theorem mv_X8_leaveOut : mt_v yX8_leaveOut 8 := ⟨gw_in (gt_5 (List.mem_of_getElem? (i := 192) rfl)) rfl, gw_in (gt_5 (List.mem_of_getElem? (i := 193) rfl)) rfl, by decide, _, rfl, rfl⟩
theorem mt_X8_livingIn : mt_ok yX8_livingIn cX8_livingIn 4 (some .int) 1 := ⟨gw_in (gt_5 (List.mem_of_getElem? (i := 85) rfl)) rfl, gw_in (gt_1 (List.mem_of_getElem? (i := 7) rfl)) rfl, by decide +kernel, by decide⟩
theorem mv_X8_livingIn : mt_v yX8_livingIn 8 := ⟨gw_in (gt_5 (List.mem_of_getElem? (i := 83) rfl)) rfl, gw_in (gt_5 (List.mem_of_getElem? (i := 84) rfl)) rfl, by decide, _, rfl, rfl⟩
theorem mt_X8_catsIn : mt_ok yX8_catsIn cX8_catsIn 4 (some .int) 1 := ⟨gw_in (gt_3 (List.mem_of_getElem? (i := 20) rfl)) rfl, gw_in (gt_1 (List.mem_of_getElem? (i := 7) rfl)) rfl, by decide +kernel, by decide⟩
theorem mv_X8_catsIn : mt_v yX8_catsIn 8 := ⟨gw_in (gt_3 (List.mem_of_getElem? (i := 18) rfl)) rfl, gw_in (gt_3 (List.mem_of_getElem? (i := 19) rfl)) rfl, by decide, _, rfl, rfl⟩
theorem mt_X8_sizeOf : mt_ok yX8_sizeOf cX8_sizeOf 4 (some .int) 1 := ⟨gw_in (gt_5 (List.mem_of_getElem? (i := 53) rfl)) rfl, gw_in (gt_1 (List.mem_of_getElem? (i := 7) rfl)) rfl, by decide +kernel, by decide⟩
theorem mv_X8_sizeOf : mt_v yX8_sizeOf 8 := ⟨gw_in (gt_5 (List.mem_of_getElem? (i := 51) rfl)) rfl, gw_in (gt_5 (List.mem_of_getElem? (i := 52) rfl)) rfl, by decide, _, rfl, rfl⟩
theorem mt_X8_greatestOf : mt_ok yX8_greatestOf cX8_greatestOf 4 (some .int) 1 := ⟨gw_in (gt_3 (List.mem_of_getElem? (i := 66) rfl)) rfl, gw_in (gt_1 (List.mem_of_getElem? (i := 7) rfl)) rfl, by decide +kernel, by decide⟩
theorem mv_X8_greatestOf : mt_v yX8_greatestOf 8 := ⟨gw_in (gt_3 (List.mem_of_getElem? (i := 64) rfl)) rfl, gw_in (gt_3 (List.mem_of_getElem? (i := 65) rfl)) rfl, by decide, _, rfl, rfl⟩
theorem mt_X8_catThatTookMost : mt_ok yX8_catThatTookMost cX8_catThatTookMost 4 (some .int) 0 := ⟨gw_in (gt_6 (List.mem_of_getElem? (i := 142) rfl)) rfl, gw_in (gt_1 (List.mem_of_getElem? (i := 7) rfl)) rfl, by decide +kernel, by decide⟩
theorem mv_X8_catThatTookMost : mt_v yX8_catThatTookMost 8 := ⟨gw_in (gt_6 (List.mem_of_getElem? (i := 140) rfl)) rfl, gw_in (gt_6 (List.mem_of_getElem? (i := 141) rfl)) rfl, by decide, _, rfl, rfl⟩
theorem mt_X8_wouldSee : mt_ok yX8_wouldSee cX8_wouldSee 4 (some .boolean) 3 := ⟨gw_in (gt_2 (List.mem_of_getElem? (i := 227) rfl)) rfl, gw_in (gt_1 (List.mem_of_getElem? (i := 7) rfl)) rfl, by decide +kernel, by decide⟩
theorem mv_X8_wouldSee : mt_v yX8_wouldSee 8 := ⟨gw_in (gt_2 (List.mem_of_getElem? (i := 225) rfl)) rfl, gw_in (gt_2 (List.mem_of_getElem? (i := 226) rfl)) rfl, by decide, _, rfl, rfl⟩
theorem mt_X8_seenBy : mt_ok yX8_seenBy cX8_seenBy 5 (some .int) 1 := ⟨gw_in (gt_2 (List.mem_of_getElem? (i := 207) rfl)) rfl, gw_in (gt_1 (List.mem_of_getElem? (i := 7) rfl)) rfl, by decide +kernel, by decide⟩
theorem mv_X8_seenBy : mt_v yX8_seenBy 8 := ⟨gw_in (gt_2 (List.mem_of_getElem? (i := 205) rfl)) rfl, gw_in (gt_2 (List.mem_of_getElem? (i := 206) rfl)) rfl, by decide, _, rfl, rfl⟩
theorem mt_X8_hiddenRooms : mt_ok yX8_hiddenRooms cX8_hiddenRooms 5 (some .int) 1 := ⟨gw_in (gt_6 (List.mem_of_getElem? (i := 154) rfl)) rfl, gw_in (gt_1 (List.mem_of_getElem? (i := 7) rfl)) rfl, by decide +kernel, by decide⟩
theorem mv_X8_hiddenRooms : mt_v yX8_hiddenRooms 8 := ⟨gw_in (gt_6 (List.mem_of_getElem? (i := 152) rfl)) rfl, gw_in (gt_6 (List.mem_of_getElem? (i := 153) rfl)) rfl, by decide, _, rfl, rfl⟩
theorem mt_X8_besides : mt_ok yX8_besides cX8_besides 4 (some .int) 1 := ⟨gw_in (gt_4 (List.mem_of_getElem? (i := 234) rfl)) rfl, gw_in (gt_1 (List.mem_of_getElem? (i := 7) rfl)) rfl, by decide +kernel, by decide⟩
theorem mv_X8_besides : mt_v yX8_besides 8 := ⟨gw_in (gt_4 (List.mem_of_getElem? (i := 232) rfl)) rfl, gw_in (gt_4 (List.mem_of_getElem? (i := 233) rfl)) rfl, by decide, _, rfl, rfl⟩
theorem mt_X8_distance : mt_ok yX8_distance cX8_distance 8 (some .int) 2 := ⟨gw_in (gt_5 (List.mem_of_getElem? (i := 159) rfl)) rfl, gw_in (gt_1 (List.mem_of_getElem? (i := 7) rfl)) rfl, by decide +kernel, by decide⟩
theorem mv_X8_distance : mt_v yX8_distance 8 := ⟨gw_in (gt_5 (List.mem_of_getElem? (i := 157) rfl)) rfl, gw_in (gt_5 (List.mem_of_getElem? (i := 158) rfl)) rfl, by decide, _, rfl, rfl⟩
theorem mt_X8_growthOf : mt_ok yX8_growthOf cX8_growthOf 3 (some .int) 1 := ⟨gw_in (gt_3 (List.mem_of_getElem? (i := 16) rfl)) rfl, gw_in (gt_1 (List.mem_of_getElem? (i := 7) rfl)) rfl, by decide +kernel, by decide⟩
theorem mv_X8_growthOf : mt_v yX8_growthOf 8 := ⟨gw_in (gt_3 (List.mem_of_getElem? (i := 14) rfl)) rfl, gw_in (gt_3 (List.mem_of_getElem? (i := 15) rfl)) rfl, by decide, _, rfl, rfl⟩
theorem mt_X8_hideScheme : mt_ok yX8_hideScheme cX8_hideScheme 3 (some .boolean) 2 := ⟨gw_in (gt_4 (List.mem_of_getElem? (i := 230) rfl)) rfl, gw_in (gt_1 (List.mem_of_getElem? (i := 7) rfl)) rfl, by decide +kernel, by decide⟩
theorem mv_X8_hideScheme : mt_v yX8_hideScheme 8 := ⟨gw_in (gt_4 (List.mem_of_getElem? (i := 228) rfl)) rfl, gw_in (gt_4 (List.mem_of_getElem? (i := 229) rfl)) rfl, by decide, _, rfl, rfl⟩
theorem mt_X8_callCat : mt_ok yX8_callCat cX8_callCat 3 (some .boolean) 2 := ⟨gw_in (gt_4 (List.mem_of_getElem? (i := 238) rfl)) rfl, gw_in (gt_1 (List.mem_of_getElem? (i := 7) rfl)) rfl, by decide +kernel, by decide⟩
theorem mv_X8_callCat : mt_v yX8_callCat 8 := ⟨gw_in (gt_4 (List.mem_of_getElem? (i := 236) rfl)) rfl, gw_in (gt_4 (List.mem_of_getElem? (i := 237) rfl)) rfl, by decide, _, rfl, rfl⟩
theorem mt_X8_feedScheme : mt_ok yX8_feedScheme cX8_feedScheme 3 (some .boolean) 2 := ⟨gw_in (gt_5 (List.mem_of_getElem? (i := 2) rfl)) rfl, gw_in (gt_1 (List.mem_of_getElem? (i := 7) rfl)) rfl, by decide +kernel, by decide⟩
theorem mv_X8_feedScheme : mt_v yX8_feedScheme 8 := ⟨gw_in (gt_5 (List.mem_of_getElem? (i := 0) rfl)) rfl, gw_in (gt_5 (List.mem_of_getElem? (i := 1) rfl)) rfl, by decide, _, rfl, rfl⟩
theorem mt_X8_joinSchemes : mt_ok yX8_joinSchemes cX8_joinSchemes 3 (some .boolean) 2 := ⟨gw_in (gt_5 (List.mem_of_getElem? (i := 6) rfl)) rfl, gw_in (gt_1 (List.mem_of_getElem? (i := 7) rfl)) rfl, by decide +kernel, by decide⟩
theorem mv_X8_joinSchemes : mt_v yX8_joinSchemes 8 := ⟨gw_in (gt_5 (List.mem_of_getElem? (i := 4) rfl)) rfl, gw_in (gt_5 (List.mem_of_getElem? (i := 5) rfl)) rfl, by decide, _, rfl, rfl⟩
theorem mt_X8_turnWay : mt_ok yX8_turnWay cX8_turnWay 2 (some .boolean) 1 := ⟨gw_in (gt_5 (List.mem_of_getElem? (i := 10) rfl)) rfl, gw_in (gt_1 (List.mem_of_getElem? (i := 7) rfl)) rfl, by decide +kernel, by decide⟩
theorem mv_X8_turnWay : mt_v yX8_turnWay 8 := ⟨gw_in (gt_5 (List.mem_of_getElem? (i := 8) rfl)) rfl, gw_in (gt_5 (List.mem_of_getElem? (i := 9) rfl)) rfl, by decide, _, rfl, rfl⟩
theorem mt_X8_passNight : mt_ok yX8_passNight cX8_passNight 4 (some .int) 0 := ⟨gw_in (gt_3 (List.mem_of_getElem? (i := 12) rfl)) rfl, gw_in (gt_1 (List.mem_of_getElem? (i := 7) rfl)) rfl, by decide +kernel, by decide⟩
theorem mv_X8_passNight : mt_v yX8_passNight 8 := ⟨gw_in (gt_3 (List.mem_of_getElem? (i := 10) rfl)) rfl, gw_in (gt_3 (List.mem_of_getElem? (i := 11) rfl)) rfl, by decide, _, rfl, rfl⟩
theorem mt_X8_moveToMat : mt_ok yX8_moveToMat cX8_moveToMat 3 none 2 := ⟨gw_in (gt_3 (List.mem_of_getElem? (i := 70) rfl)) rfl, gw_in (gt_1 (List.mem_of_getElem? (i := 7) rfl)) rfl, by decide +kernel, by decide⟩
theorem mv_X8_moveToMat : mt_v yX8_moveToMat 8 := ⟨gw_in (gt_3 (List.mem_of_getElem? (i := 69) rfl)) rfl, gw_in (gt_p (q := (yX8_moveToMat, 4)) (List.mem_of_getElem? (i := 4) rfl)) rfl, by decide, _, rfl, rfl⟩
theorem mt_X8_enlarge : mt_ok yX8_enlarge cX8_enlarge 3 none 2 := ⟨gw_in (gt_3 (List.mem_of_getElem? (i := 59) rfl)) rfl, gw_in (gt_1 (List.mem_of_getElem? (i := 7) rfl)) rfl, by decide +kernel, by decide⟩
theorem mv_X8_enlarge : mt_v yX8_enlarge 8 := ⟨gw_in (gt_3 (List.mem_of_getElem? (i := 58) rfl)) rfl, gw_in (gt_p (q := (yX8_enlarge, 4)) (List.mem_of_getElem? (i := 3) rfl)) rfl, by decide, _, rfl, rfl⟩
theorem mt_X9_read : mt_ok yX9_read cX9_read 4 none 2 := ⟨gw_in (gt_4 (List.mem_of_getElem? (i := 175) rfl)) rfl, gw_in (gt_1 (List.mem_of_getElem? (i := 6) rfl)) rfl, by decide +kernel, by decide⟩
theorem mv_X9_read : mt_v yX9_read 9 := ⟨gw_in (gt_4 (List.mem_of_getElem? (i := 173) rfl)) rfl, gw_in (gt_4 (List.mem_of_getElem? (i := 174) rfl)) rfl, by decide, _, rfl, rfl⟩
theorem mt_X9_readStep : mt_ok yX9_readStep cX9_readStep 5 none 3 := ⟨gw_in (gt_4 (List.mem_of_getElem? (i := 180) rfl)) rfl, gw_in (gt_1 (List.mem_of_getElem? (i := 6) rfl)) rfl, by decide +kernel, by decide⟩
theorem mv_X9_readStep : mt_v yX9_readStep 9 := ⟨gw_in (gt_4 (List.mem_of_getElem? (i := 179) rfl)) rfl, gw_in (gt_p (q := (yX9_readStep, 8)) (List.mem_of_getElem? (i := 22) rfl)) rfl, by decide, _, rfl, rfl⟩
theorem mt_X9_readAgain : mt_ok yX9_readAgain cX9_readAgain 7 none 4 := ⟨gw_in (gt_4 (List.mem_of_getElem? (i := 198) rfl)) rfl, gw_in (gt_1 (List.mem_of_getElem? (i := 6) rfl)) rfl, by decide +kernel, by decide⟩
theorem mv_X9_readAgain : mt_v yX9_readAgain 9 := ⟨gw_in (gt_4 (List.mem_of_getElem? (i := 197) rfl)) rfl, gw_in (gt_p (q := (yX9_readAgain, 8)) (List.mem_of_getElem? (i := 24) rfl)) rfl, by decide, _, rfl, rfl⟩
theorem mt_X9_put : mt_ok yX9_put cX9_put 4 none 3 := ⟨gw_in (gt_4 (List.mem_of_getElem? (i := 188) rfl)) rfl, gw_in (gt_1 (List.mem_of_getElem? (i := 6) rfl)) rfl, by decide +kernel, by decide⟩
theorem mv_X9_put : mt_v yX9_put 9 := ⟨gw_in (gt_4 (List.mem_of_getElem? (i := 187) rfl)) rfl, gw_in (gt_p (q := (yX9_put, 8)) (List.mem_of_getElem? (i := 23) rfl)) rfl, by decide, _, rfl, rfl⟩
theorem mt_X9_begin : mt_ok yX9_begin cX9_begin 1 none 0 := ⟨gw_in (gt_4 (List.mem_of_getElem? (i := 210) rfl)) rfl, gw_in (gt_1 (List.mem_of_getElem? (i := 6) rfl)) rfl, by decide +kernel, by decide⟩
theorem mv_X9_begin : mt_v yX9_begin 9 := ⟨gw_in (gt_4 (List.mem_of_getElem? (i := 208) rfl)) rfl, gw_in (gt_4 (List.mem_of_getElem? (i := 209) rfl)) rfl, by decide, _, rfl, rfl⟩
theorem mt_X9_many : mt_ok yX9_many cX9_many 1 (some .int) 0 := ⟨gw_in (gt_4 (List.mem_of_getElem? (i := 214) rfl)) rfl, gw_in (gt_1 (List.mem_of_getElem? (i := 6) rfl)) rfl, by decide +kernel, by decide⟩
theorem mv_X9_many : mt_v yX9_many 9 := ⟨gw_in (gt_4 (List.mem_of_getElem? (i := 212) rfl)) rfl, gw_in (gt_4 (List.mem_of_getElem? (i := 213) rfl)) rfl, by decide, _, rfl, rfl⟩
theorem mt_X9_run : mt_ok yX9_run cX9_run 6 none 4 := ⟨gw_in (gt_4 (List.mem_of_getElem? (i := 218) rfl)) rfl, gw_in (gt_1 (List.mem_of_getElem? (i := 6) rfl)) rfl, by decide +kernel, by decide⟩
theorem mv_X9_run : mt_v yX9_run 9 := ⟨gw_in (gt_4 (List.mem_of_getElem? (i := 216) rfl)) rfl, gw_in (gt_4 (List.mem_of_getElem? (i := 217) rfl)) rfl, by decide, _, rfl, rfl⟩
theorem mt_X9_repeatBody : mt_ok yX9_repeatBody cX9_repeatBody 5 none 3 := ⟨gw_in (gt_4 (List.mem_of_getElem? (i := 222) rfl)) rfl, gw_in (gt_1 (List.mem_of_getElem? (i := 6) rfl)) rfl, by decide +kernel, by decide⟩
theorem mv_X9_repeatBody : mt_v yX9_repeatBody 9 := ⟨gw_in (gt_4 (List.mem_of_getElem? (i := 221) rfl)) rfl, gw_in (gt_p (q := (yX9_repeatBody, 8)) (List.mem_of_getElem? (i := 25) rfl)) rfl, by decide, _, rfl, rfl⟩
theorem mt_X9_isDone : mt_ok yX9_isDone cX9_isDone 4 (some .boolean) 4 := ⟨gw_in (gt_4 (List.mem_of_getElem? (i := 226) rfl)) rfl, gw_in (gt_1 (List.mem_of_getElem? (i := 6) rfl)) rfl, by decide +kernel, by decide⟩
theorem ms_X9_isDone : Cond.static yX9_isDone ∈ gw_tbl := gw_in (gt_4 (List.mem_of_getElem? (i := 225) rfl)) rfl
theorem mt_X10_bytesOnIt : mt_ok yX10_bytesOnIt cX10_bytesOnIt 1 (some .int) 0 := ⟨gw_in (gt_2 (List.mem_of_getElem? (i := 180) rfl)) rfl, gw_in (gt_1 (List.mem_of_getElem? (i := 2) rfl)) rfl, by decide +kernel, by decide⟩
theorem mv_X10_bytesOnIt : mt_v yX10_bytesOnIt 10 := ⟨gw_in (gt_2 (List.mem_of_getElem? (i := 178) rfl)) rfl, gw_in (gt_2 (List.mem_of_getElem? (i := 179) rfl)) rfl, by decide, _, rfl, rfl⟩
theorem mt_X10_hasRoomForFive : mt_ok yX10_hasRoomForFive cX10_hasRoomForFive 1 (some .boolean) 0 := ⟨gw_in (gt_2 (List.mem_of_getElem? (i := 172) rfl)) rfl, gw_in (gt_1 (List.mem_of_getElem? (i := 2) rfl)) rfl, by decide +kernel, by decide⟩
theorem mv_X10_hasRoomForFive : mt_v yX10_hasRoomForFive 10 := ⟨gw_in (gt_2 (List.mem_of_getElem? (i := 170) rfl)) rfl, gw_in (gt_2 (List.mem_of_getElem? (i := 171) rfl)) rfl, by decide, _, rfl, rfl⟩
theorem mt_X10_put : mt_ok yX10_put cX10_put 3 none 1 := ⟨gw_in (gt_2 (List.mem_of_getElem? (i := 176) rfl)) rfl, gw_in (gt_1 (List.mem_of_getElem? (i := 2) rfl)) rfl, by decide +kernel, by decide⟩
theorem mv_X10_put : mt_v yX10_put 10 := ⟨gw_in (gt_2 (List.mem_of_getElem? (i := 174) rfl)) rfl, gw_in (gt_2 (List.mem_of_getElem? (i := 175) rfl)) rfl, by decide, _, rfl, rfl⟩
theorem mt_X10_open : mt_ok yX10_open cX10_open 2 none 1 := ⟨gw_in (gt_3 (List.mem_of_getElem? (i := 183) rfl)) rfl, gw_in (gt_1 (List.mem_of_getElem? (i := 2) rfl)) rfl, by decide +kernel, by decide⟩
theorem mv_X10_open : mt_v yX10_open 10 := ⟨gw_in (gt_3 (List.mem_of_getElem? (i := 181) rfl)) rfl, gw_in (gt_3 (List.mem_of_getElem? (i := 182) rfl)) rfl, by decide, _, rfl, rfl⟩
theorem mt_X10_failed : mt_ok yX10_failed cX10_failed 1 (some .boolean) 0 := ⟨gw_in (gt_4 (List.mem_of_getElem? (i := 75) rfl)) rfl, gw_in (gt_1 (List.mem_of_getElem? (i := 2) rfl)) rfl, by decide +kernel, by decide⟩
theorem mv_X10_failed : mt_v yX10_failed 10 := ⟨gw_in (gt_4 (List.mem_of_getElem? (i := 73) rfl)) rfl, gw_in (gt_4 (List.mem_of_getElem? (i := 74) rfl)) rfl, by decide, _, rfl, rfl⟩
theorem mt_X10_faultAnswer : mt_ok yX10_faultAnswer cX10_faultAnswer 1 (some .int) 0 := ⟨gw_in (gt_4 (List.mem_of_getElem? (i := 79) rfl)) rfl, gw_in (gt_1 (List.mem_of_getElem? (i := 2) rfl)) rfl, by decide +kernel, by decide⟩
theorem mv_X10_faultAnswer : mt_v yX10_faultAnswer 10 := ⟨gw_in (gt_4 (List.mem_of_getElem? (i := 77) rfl)) rfl, gw_in (gt_4 (List.mem_of_getElem? (i := 78) rfl)) rfl, by decide, _, rfl, rfl⟩
theorem mt_X10_faultPlace : mt_ok yX10_faultPlace cX10_faultPlace 1 (some .int) 0 := ⟨gw_in (gt_2 (List.mem_of_getElem? (i := 188) rfl)) rfl, gw_in (gt_1 (List.mem_of_getElem? (i := 2) rfl)) rfl, by decide +kernel, by decide⟩
theorem mv_X10_faultPlace : mt_v yX10_faultPlace 10 := ⟨gw_in (gt_2 (List.mem_of_getElem? (i := 186) rfl)) rfl, gw_in (gt_2 (List.mem_of_getElem? (i := 187) rfl)) rfl, by decide, _, rfl, rfl⟩
theorem mt_X10_fail : mt_ok yX10_fail cX10_fail 3 none 2 := ⟨gw_in (gt_3 (List.mem_of_getElem? (i := 204) rfl)) rfl, gw_in (gt_1 (List.mem_of_getElem? (i := 2) rfl)) rfl, by decide +kernel, by decide⟩
theorem mv_X10_fail : mt_v yX10_fail 10 := ⟨gw_in (gt_3 (List.mem_of_getElem? (i := 202) rfl)) rfl, gw_in (gt_3 (List.mem_of_getElem? (i := 203) rfl)) rfl, by decide, _, rfl, rfl⟩
theorem mt_X10_next : mt_ok yX10_next cX10_next 1 (some .int) 0 := ⟨gw_in (gt_3 (List.mem_of_getElem? (i := 200) rfl)) rfl, gw_in (gt_1 (List.mem_of_getElem? (i := 2) rfl)) rfl, by decide +kernel, by decide⟩
theorem mv_X10_next : mt_v yX10_next 10 := ⟨gw_in (gt_3 (List.mem_of_getElem? (i := 198) rfl)) rfl, gw_in (gt_3 (List.mem_of_getElem? (i := 199) rfl)) rfl, by decide, _, rfl, rfl⟩
theorem mt_X10_isOver : mt_ok yX10_isOver cX10_isOver 1 (some .boolean) 0 := ⟨gw_in (gt_3 (List.mem_of_getElem? (i := 196) rfl)) rfl, gw_in (gt_1 (List.mem_of_getElem? (i := 2) rfl)) rfl, by decide +kernel, by decide⟩
theorem mv_X10_isOver : mt_v yX10_isOver 10 := ⟨gw_in (gt_3 (List.mem_of_getElem? (i := 194) rfl)) rfl, gw_in (gt_3 (List.mem_of_getElem? (i := 195) rfl)) rfl, by decide, _, rfl, rfl⟩
theorem mt_X10_peek : mt_ok yX10_peek cX10_peek 1 (some .int) 0 := ⟨gw_in (gt_4 (List.mem_of_getElem? (i := 70) rfl)) rfl, gw_in (gt_1 (List.mem_of_getElem? (i := 2) rfl)) rfl, by decide +kernel, by decide⟩
theorem mv_X10_peek : mt_v yX10_peek 10 := ⟨gw_in (gt_4 (List.mem_of_getElem? (i := 68) rfl)) rfl, gw_in (gt_4 (List.mem_of_getElem? (i := 69) rfl)) rfl, by decide, _, rfl, rfl⟩
theorem mt_X10_takesSign : mt_ok yX10_takesSign cX10_takesSign 2 (some .boolean) 1 := ⟨gw_in (gt_4 (List.mem_of_getElem? (i := 66) rfl)) rfl, gw_in (gt_1 (List.mem_of_getElem? (i := 2) rfl)) rfl, by decide +kernel, by decide⟩
theorem mv_X10_takesSign : mt_v yX10_takesSign 10 := ⟨gw_in (gt_4 (List.mem_of_getElem? (i := 64) rfl)) rfl, gw_in (gt_4 (List.mem_of_getElem? (i := 65) rfl)) rfl, by decide, _, rfl, rfl⟩
theorem mt_X10_expect : mt_ok yX10_expect cX10_expect 2 none 1 := ⟨gw_in (gt_4 (List.mem_of_getElem? (i := 62) rfl)) rfl, gw_in (gt_1 (List.mem_of_getElem? (i := 2) rfl)) rfl, by decide +kernel, by decide⟩
theorem mv_X10_expect : mt_v yX10_expect 10 := ⟨gw_in (gt_4 (List.mem_of_getElem? (i := 60) rfl)) rfl, gw_in (gt_4 (List.mem_of_getElem? (i := 61) rfl)) rfl, by decide, _, rfl, rfl⟩
theorem mt_X10_numberIsNext : mt_ok yX10_numberIsNext cX10_numberIsNext 1 (some .boolean) 0 := ⟨gw_in (gt_4 (List.mem_of_getElem? (i := 128) rfl)) rfl, gw_in (gt_1 (List.mem_of_getElem? (i := 2) rfl)) rfl, by decide +kernel, by decide⟩
theorem mv_X10_numberIsNext : mt_v yX10_numberIsNext 10 := ⟨gw_in (gt_4 (List.mem_of_getElem? (i := 126) rfl)) rfl, gw_in (gt_4 (List.mem_of_getElem? (i := 127) rfl)) rfl, by decide, _, rfl, rfl⟩
theorem mt_X10_number : mt_ok yX10_number cX10_number 5 (some .int) 2 := ⟨gw_in (gt_4 (List.mem_of_getElem? (i := 33) rfl)) rfl, gw_in (gt_1 (List.mem_of_getElem? (i := 2) rfl)) rfl, by decide +kernel, by decide⟩
theorem mv_X10_number : mt_v yX10_number 10 := ⟨gw_in (gt_4 (List.mem_of_getElem? (i := 31) rfl)) rfl, gw_in (gt_4 (List.mem_of_getElem? (i := 32) rfl)) rfl, by decide, _, rfl, rfl⟩
theorem mt_X10_failLatestNumber : mt_ok yX10_failLatestNumber cX10_failLatestNumber 1 none 0 := ⟨gw_in (gt_4 (List.mem_of_getElem? (i := 48) rfl)) rfl, gw_in (gt_1 (List.mem_of_getElem? (i := 2) rfl)) rfl, by decide +kernel, by decide⟩
theorem mv_X10_failLatestNumber : mt_v yX10_failLatestNumber 10 := ⟨gw_in (gt_4 (List.mem_of_getElem? (i := 46) rfl)) rfl, gw_in (gt_4 (List.mem_of_getElem? (i := 47) rfl)) rfl, by decide, _, rfl, rfl⟩
theorem mt_X10_takesWord : mt_ok yX10_takesWord cX10_takesWord 4 (some .boolean) 1 := ⟨gw_in (gt_3 (List.mem_of_getElem? (i := 213) rfl)) rfl, gw_in (gt_1 (List.mem_of_getElem? (i := 2) rfl)) rfl, by decide +kernel, by decide⟩
theorem mv_X10_takesWord : mt_v yX10_takesWord 10 := ⟨gw_in (gt_3 (List.mem_of_getElem? (i := 211) rfl)) rfl, gw_in (gt_3 (List.mem_of_getElem? (i := 212) rfl)) rfl, by decide, _, rfl, rfl⟩
theorem mt_X10_moveTo : mt_ok yX10_moveTo cX10_moveTo 2 none 1 := ⟨gw_in (gt_3 (List.mem_of_getElem? (i := 188) rfl)) rfl, gw_in (gt_1 (List.mem_of_getElem? (i := 2) rfl)) rfl, by decide +kernel, by decide⟩
theorem mv_X10_moveTo : mt_v yX10_moveTo 10 := ⟨gw_in (gt_3 (List.mem_of_getElem? (i := 187) rfl)) rfl, gw_in (gt_p (q := (yX10_moveTo, 7)) (List.mem_of_getElem? (i := 8) rfl)) rfl, by decide, _, rfl, rfl⟩
theorem mt_X10_isDigit : mt_ok yX10_isDigit cX10_isDigit 2 (some .boolean) 1 := ⟨gw_in (gt_4 (List.mem_of_getElem? (i := 37) rfl)) rfl, gw_in (gt_1 (List.mem_of_getElem? (i := 2) rfl)) rfl, by decide +kernel, by decide⟩
theorem mv_X10_isDigit : mt_v yX10_isDigit 10 := ⟨gw_in (gt_4 (List.mem_of_getElem? (i := 36) rfl)) rfl, gw_in (gt_p (q := (yX10_isDigit, 7)) (List.mem_of_getElem? (i := 12) rfl)) rfl, by decide, _, rfl, rfl⟩
theorem mt_X10_isSmallLetter : mt_ok yX10_isSmallLetter cX10_isSmallLetter 2 (some .boolean) 1 := ⟨gw_in (gt_3 (List.mem_of_getElem? (i := 227) rfl)) rfl, gw_in (gt_1 (List.mem_of_getElem? (i := 2) rfl)) rfl, by decide +kernel, by decide⟩
theorem mv_X10_isSmallLetter : mt_v yX10_isSmallLetter 10 := ⟨gw_in (gt_3 (List.mem_of_getElem? (i := 226) rfl)) rfl, gw_in (gt_p (q := (yX10_isSmallLetter, 7)) (List.mem_of_getElem? (i := 10) rfl)) rfl, by decide, _, rfl, rfl⟩
theorem mt_X11_feed : mt_ok yX11_feed cX11_feed 6 (some .int) 5 := ⟨gw_in (gt_2 (List.mem_of_getElem? (i := 168) rfl)) rfl, gw_in (gt_1 (List.mem_of_getElem? (i := 1) rfl)) rfl, by decide +kernel, by decide⟩
theorem mv_X11_feed : mt_v yX11_feed 11 := ⟨gw_in (gt_2 (List.mem_of_getElem? (i := 166) rfl)) rfl, gw_in (gt_2 (List.mem_of_getElem? (i := 167) rfl)) rfl, by decide, _, rfl, rfl⟩
theorem mt_X11_house : mt_ok yX11_house cX11_house 2 (some .int) 1 := ⟨gw_in (gt_3 (List.mem_of_getElem? (i := 103) rfl)) rfl, gw_in (gt_1 (List.mem_of_getElem? (i := 1) rfl)) rfl, by decide +kernel, by decide⟩
theorem mv_X11_house : mt_v yX11_house 11 := ⟨gw_in (gt_3 (List.mem_of_getElem? (i := 101) rfl)) rfl, gw_in (gt_3 (List.mem_of_getElem? (i := 102) rfl)) rfl, by decide, _, rfl, rfl⟩
theorem mt_X11_law : mt_ok yX11_law cX11_law 2 (some .int) 1 := ⟨gw_in (gt_4 (List.mem_of_getElem? (i := 107) rfl)) rfl, gw_in (gt_1 (List.mem_of_getElem? (i := 1) rfl)) rfl, by decide +kernel, by decide⟩
theorem mv_X11_law : mt_v yX11_law 11 := ⟨gw_in (gt_4 (List.mem_of_getElem? (i := 105) rfl)) rfl, gw_in (gt_4 (List.mem_of_getElem? (i := 106) rfl)) rfl, by decide, _, rfl, rfl⟩
theorem mt_X11_work : mt_ok yX11_work cX11_work 2 (some .int) 1 := ⟨gw_in (gt_4 (List.mem_of_getElem? (i := 167) rfl)) rfl, gw_in (gt_1 (List.mem_of_getElem? (i := 1) rfl)) rfl, by decide +kernel, by decide⟩
theorem mv_X11_work : mt_v yX11_work 11 := ⟨gw_in (gt_4 (List.mem_of_getElem? (i := 165) rfl)) rfl, gw_in (gt_4 (List.mem_of_getElem? (i := 166) rfl)) rfl, by decide, _, rfl, rfl⟩
theorem mt_X11_book : mt_ok yX11_book cX11_book 2 (some .int) 1 := ⟨gw_in (gt_5 (List.mem_of_getElem? (i := 19) rfl)) rfl, gw_in (gt_1 (List.mem_of_getElem? (i := 1) rfl)) rfl, by decide +kernel, by decide⟩
theorem mv_X11_book : mt_v yX11_book 11 := ⟨gw_in (gt_5 (List.mem_of_getElem? (i := 17) rfl)) rfl, gw_in (gt_5 (List.mem_of_getElem? (i := 18) rfl)) rfl, by decide, _, rfl, rfl⟩
theorem mt_X11_fault : mt_ok yX11_fault cX11_fault 1 (some .int) 0 := ⟨gw_in (gt_2 (List.mem_of_getElem? (i := 184) rfl)) rfl, gw_in (gt_1 (List.mem_of_getElem? (i := 1) rfl)) rfl, by decide +kernel, by decide⟩
theorem mv_X11_fault : mt_v yX11_fault 11 := ⟨gw_in (gt_2 (List.mem_of_getElem? (i := 182) rfl)) rfl, gw_in (gt_2 (List.mem_of_getElem? (i := 183) rfl)) rfl, by decide, _, rfl, rfl⟩
theorem mt_X11_undo : mt_ok yX11_undo cX11_undo 1 (some .int) 0 := ⟨gw_in (gt_2 (List.mem_of_getElem? (i := 192) rfl)) rfl, gw_in (gt_1 (List.mem_of_getElem? (i := 1) rfl)) rfl, by decide +kernel, by decide⟩
theorem mv_X11_undo : mt_v yX11_undo 11 := ⟨gw_in (gt_2 (List.mem_of_getElem? (i := 190) rfl)) rfl, gw_in (gt_2 (List.mem_of_getElem? (i := 191) rfl)) rfl, by decide, _, rfl, rfl⟩
theorem mt_X11_told : mt_ok yX11_told cX11_told 2 (some .int) 1 := ⟨gw_in (gt_5 (List.mem_of_getElem? (i := 40) rfl)) rfl, gw_in (gt_1 (List.mem_of_getElem? (i := 1) rfl)) rfl, by decide +kernel, by decide⟩
theorem mv_X11_told : mt_v yX11_told 11 := ⟨gw_in (gt_5 (List.mem_of_getElem? (i := 38) rfl)) rfl, gw_in (gt_5 (List.mem_of_getElem? (i := 39) rfl)) rfl, by decide, _, rfl, rfl⟩
theorem mt_X11_room : mt_ok yX11_room cX11_room 3 (some .int) 2 := ⟨gw_in (gt_5 (List.mem_of_getElem? (i := 61) rfl)) rfl, gw_in (gt_1 (List.mem_of_getElem? (i := 1) rfl)) rfl, by decide +kernel, by decide⟩
theorem mv_X11_room : mt_v yX11_room 11 := ⟨gw_in (gt_5 (List.mem_of_getElem? (i := 59) rfl)) rfl, gw_in (gt_5 (List.mem_of_getElem? (i := 60) rfl)) rfl, by decide, _, rfl, rfl⟩
theorem mt_X11_way : mt_ok yX11_way cX11_way 3 (some .int) 2 := ⟨gw_in (gt_5 (List.mem_of_getElem? (i := 94) rfl)) rfl, gw_in (gt_1 (List.mem_of_getElem? (i := 1) rfl)) rfl, by decide +kernel, by decide⟩
theorem mv_X11_way : mt_v yX11_way 11 := ⟨gw_in (gt_5 (List.mem_of_getElem? (i := 92) rfl)) rfl, gw_in (gt_5 (List.mem_of_getElem? (i := 93) rfl)) rfl, by decide, _, rfl, rfl⟩
theorem mt_X11_scheme : mt_ok yX11_scheme cX11_scheme 3 (some .int) 2 := ⟨gw_in (gt_5 (List.mem_of_getElem? (i := 101) rfl)) rfl, gw_in (gt_1 (List.mem_of_getElem? (i := 1) rfl)) rfl, by decide +kernel, by decide⟩
theorem mv_X11_scheme : mt_v yX11_scheme 11 := ⟨gw_in (gt_5 (List.mem_of_getElem? (i := 99) rfl)) rfl, gw_in (gt_5 (List.mem_of_getElem? (i := 100) rfl)) rfl, by decide, _, rfl, rfl⟩
theorem mt_X11_cat : mt_ok yX11_cat cX11_cat 3 (some .int) 2 := ⟨gw_in (gt_5 (List.mem_of_getElem? (i := 119) rfl)) rfl, gw_in (gt_1 (List.mem_of_getElem? (i := 1) rfl)) rfl, by decide +kernel, by decide⟩
theorem mv_X11_cat : mt_v yX11_cat 11 := ⟨gw_in (gt_5 (List.mem_of_getElem? (i := 117) rfl)) rfl, gw_in (gt_5 (List.mem_of_getElem? (i := 118) rfl)) rfl, by decide, _, rfl, rfl⟩
theorem mt_X11_more : mt_ok yX11_more cX11_more 2 (some .int) 1 := ⟨gw_in (gt_5 (List.mem_of_getElem? (i := 131) rfl)) rfl, gw_in (gt_1 (List.mem_of_getElem? (i := 1) rfl)) rfl, by decide +kernel, by decide⟩
theorem mv_X11_more : mt_v yX11_more 11 := ⟨gw_in (gt_5 (List.mem_of_getElem? (i := 129) rfl)) rfl, gw_in (gt_5 (List.mem_of_getElem? (i := 130) rfl)) rfl, by decide, _, rfl, rfl⟩
theorem mt_X11_would : mt_ok yX11_would cX11_would 8 (some .int) 7 := ⟨gw_in (gt_5 (List.mem_of_getElem? (i := 139) rfl)) rfl, gw_in (gt_1 (List.mem_of_getElem? (i := 1) rfl)) rfl, by decide +kernel, by decide⟩
theorem mv_X11_would : mt_v yX11_would 11 := ⟨gw_in (gt_5 (List.mem_of_getElem? (i := 137) rfl)) rfl, gw_in (gt_5 (List.mem_of_getElem? (i := 138) rfl)) rfl, by decide, _, rfl, rfl⟩
theorem mt_X11_greatest : mt_ok yX11_greatest cX11_greatest 3 (some .int) 1 := ⟨gw_in (gt_6 (List.mem_of_getElem? (i := 130) rfl)) rfl, gw_in (gt_1 (List.mem_of_getElem? (i := 1) rfl)) rfl, by decide +kernel, by decide⟩
theorem mv_X11_greatest : mt_v yX11_greatest 11 := ⟨gw_in (gt_6 (List.mem_of_getElem? (i := 128) rfl)) rfl, gw_in (gt_6 (List.mem_of_getElem? (i := 129) rfl)) rfl, by decide, _, rfl, rfl⟩
theorem mt_X11_proudest : mt_ok yX11_proudest cX11_proudest 3 (some .int) 1 := ⟨gw_in (gt_6 (List.mem_of_getElem? (i := 138) rfl)) rfl, gw_in (gt_1 (List.mem_of_getElem? (i := 1) rfl)) rfl, by decide +kernel, by decide⟩
theorem mv_X11_proudest : mt_v yX11_proudest 11 := ⟨gw_in (gt_6 (List.mem_of_getElem? (i := 136) rfl)) rfl, gw_in (gt_6 (List.mem_of_getElem? (i := 137) rfl)) rfl, by decide, _, rfl, rfl⟩
theorem mt_X11_safe : mt_ok yX11_safe cX11_safe 3 (some .int) 0 := ⟨gw_in (gt_2 (List.mem_of_getElem? (i := 203) rfl)) rfl, gw_in (gt_1 (List.mem_of_getElem? (i := 1) rfl)) rfl, by decide +kernel, by decide⟩
theorem mv_X11_safe : mt_v yX11_safe 11 := ⟨gw_in (gt_2 (List.mem_of_getElem? (i := 201) rfl)) rfl, gw_in (gt_2 (List.mem_of_getElem? (i := 202) rfl)) rfl, by decide, _, rfl, rfl⟩
theorem mt_X11_havens : mt_ok yX11_havens cX11_havens 2 (some .int) 1 := ⟨gw_in (gt_6 (List.mem_of_getElem? (i := 150) rfl)) rfl, gw_in (gt_1 (List.mem_of_getElem? (i := 1) rfl)) rfl, by decide +kernel, by decide⟩
theorem mv_X11_havens : mt_v yX11_havens 11 := ⟨gw_in (gt_6 (List.mem_of_getElem? (i := 148) rfl)) rfl, gw_in (gt_6 (List.mem_of_getElem? (i := 149) rfl)) rfl, by decide, _, rfl, rfl⟩
theorem mt_X11_hungry : mt_ok yX11_hungry cX11_hungry 3 (some .int) 0 := ⟨gw_in (gt_2 (List.mem_of_getElem? (i := 235) rfl)) rfl, gw_in (gt_1 (List.mem_of_getElem? (i := 1) rfl)) rfl, by decide +kernel, by decide⟩
theorem mv_X11_hungry : mt_v yX11_hungry 11 := ⟨gw_in (gt_2 (List.mem_of_getElem? (i := 233) rfl)) rfl, gw_in (gt_2 (List.mem_of_getElem? (i := 234) rfl)) rfl, by decide, _, rfl, rfl⟩
theorem mt_X11_crowd : mt_ok yX11_crowd cX11_crowd 6 (some .int) 1 := ⟨gw_in (gt_6 (List.mem_of_getElem? (i := 161) rfl)) rfl, gw_in (gt_1 (List.mem_of_getElem? (i := 1) rfl)) rfl, by decide +kernel, by decide⟩
theorem mv_X11_crowd : mt_v yX11_crowd 11 := ⟨gw_in (gt_6 (List.mem_of_getElem? (i := 159) rfl)) rfl, gw_in (gt_6 (List.mem_of_getElem? (i := 160) rfl)) rfl, by decide, _, rfl, rfl⟩
theorem mt_X11_escapes : mt_ok yX11_escapes cX11_escapes 3 (some .int) 1 := ⟨gw_in (gt_6 (List.mem_of_getElem? (i := 175) rfl)) rfl, gw_in (gt_1 (List.mem_of_getElem? (i := 1) rfl)) rfl, by decide +kernel, by decide⟩
theorem mv_X11_escapes : mt_v yX11_escapes 11 := ⟨gw_in (gt_6 (List.mem_of_getElem? (i := 173) rfl)) rfl, gw_in (gt_6 (List.mem_of_getElem? (i := 174) rfl)) rfl, by decide, _, rfl, rfl⟩
theorem mt_X11_weight : mt_ok yX11_weight cX11_weight 2 (some .int) 1 := ⟨gw_in (gt_6 (List.mem_of_getElem? (i := 182) rfl)) rfl, gw_in (gt_1 (List.mem_of_getElem? (i := 1) rfl)) rfl, by decide +kernel, by decide⟩
theorem mv_X11_weight : mt_v yX11_weight 11 := ⟨gw_in (gt_6 (List.mem_of_getElem? (i := 180) rfl)) rfl, gw_in (gt_6 (List.mem_of_getElem? (i := 181) rfl)) rfl, by decide, _, rfl, rfl⟩
theorem mt_X11_ahead : mt_ok yX11_ahead cX11_ahead 3 (some .int) 2 := ⟨gw_in (gt_5 (List.mem_of_getElem? (i := 147) rfl)) rfl, gw_in (gt_1 (List.mem_of_getElem? (i := 1) rfl)) rfl, by decide +kernel, by decide⟩
theorem mv_X11_ahead : mt_v yX11_ahead 11 := ⟨gw_in (gt_5 (List.mem_of_getElem? (i := 145) rfl)) rfl, gw_in (gt_5 (List.mem_of_getElem? (i := 146) rfl)) rfl, by decide, _, rfl, rfl⟩
theorem mt_X11_grown : mt_ok yX11_grown cX11_grown 3 (some .int) 2 := ⟨gw_in (gt_6 (List.mem_of_getElem? (i := 168) rfl)) rfl, gw_in (gt_1 (List.mem_of_getElem? (i := 1) rfl)) rfl, by decide +kernel, by decide⟩
theorem mv_X11_grown : mt_v yX11_grown 11 := ⟨gw_in (gt_6 (List.mem_of_getElem? (i := 166) rfl)) rfl, gw_in (gt_6 (List.mem_of_getElem? (i := 167) rfl)) rfl, by decide, _, rfl, rfl⟩
theorem mt_X11_doomed : mt_ok yX11_doomed cX11_doomed 1 (some .int) 0 := ⟨gw_in (gt_2 (List.mem_of_getElem? (i := 239) rfl)) rfl, gw_in (gt_1 (List.mem_of_getElem? (i := 1) rfl)) rfl, by decide +kernel, by decide⟩
theorem mv_X11_doomed : mt_v yX11_doomed 11 := ⟨gw_in (gt_2 (List.mem_of_getElem? (i := 237) rfl)) rfl, gw_in (gt_2 (List.mem_of_getElem? (i := 238) rfl)) rfl, by decide, _, rfl, rfl⟩
theorem mt_X11_far : mt_ok yX11_far cX11_far 3 (some .int) 2 := ⟨gw_in (gt_5 (List.mem_of_getElem? (i := 155) rfl)) rfl, gw_in (gt_1 (List.mem_of_getElem? (i := 1) rfl)) rfl, by decide +kernel, by decide⟩
theorem mv_X11_far : mt_v yX11_far 11 := ⟨gw_in (gt_5 (List.mem_of_getElem? (i := 153) rfl)) rfl, gw_in (gt_5 (List.mem_of_getElem? (i := 154) rfl)) rfl, by decide, _, rfl, rfl⟩
theorem mt_X11_lasts : mt_ok yX11_lasts cX11_lasts 3 (some .int) 1 := ⟨gw_in (gt_5 (List.mem_of_getElem? (i := 166) rfl)) rfl, gw_in (gt_1 (List.mem_of_getElem? (i := 1) rfl)) rfl, by decide +kernel, by decide⟩
theorem mv_X11_lasts : mt_v yX11_lasts 11 := ⟨gw_in (gt_5 (List.mem_of_getElem? (i := 164) rfl)) rfl, gw_in (gt_5 (List.mem_of_getElem? (i := 165) rfl)) rfl, by decide, _, rfl, rfl⟩
theorem mt_X11_slips : mt_ok yX11_slips cX11_slips 3 (some .int) 2 := ⟨gw_in (gt_5 (List.mem_of_getElem? (i := 173) rfl)) rfl, gw_in (gt_1 (List.mem_of_getElem? (i := 1) rfl)) rfl, by decide +kernel, by decide⟩
theorem mv_X11_slips : mt_v yX11_slips 11 := ⟨gw_in (gt_5 (List.mem_of_getElem? (i := 171) rfl)) rfl, gw_in (gt_5 (List.mem_of_getElem? (i := 172) rfl)) rfl, by decide, _, rfl, rfl⟩
theorem mt_X11_hunt : mt_ok yX11_hunt cX11_hunt 2 (some .int) 1 := ⟨gw_in (gt_5 (List.mem_of_getElem? (i := 229) rfl)) rfl, gw_in (gt_1 (List.mem_of_getElem? (i := 1) rfl)) rfl, by decide +kernel, by decide⟩
theorem mv_X11_hunt : mt_v yX11_hunt 11 := ⟨gw_in (gt_5 (List.mem_of_getElem? (i := 227) rfl)) rfl, gw_in (gt_5 (List.mem_of_getElem? (i := 228) rfl)) rfl, by decide, _, rfl, rfl⟩
theorem mt_X11_prey : mt_ok yX11_prey cX11_prey 2 (some .int) 1 := ⟨gw_in (gt_6 (List.mem_of_getElem? (i := 32) rfl)) rfl, gw_in (gt_1 (List.mem_of_getElem? (i := 1) rfl)) rfl, by decide +kernel, by decide⟩
theorem mv_X11_prey : mt_v yX11_prey 11 := ⟨gw_in (gt_6 (List.mem_of_getElem? (i := 30) rfl)) rfl, gw_in (gt_6 (List.mem_of_getElem? (i := 31) rfl)) rfl, by decide, _, rfl, rfl⟩
theorem mt_X11_sums : mt_ok yX11_sums cX11_sums 6 (some .int) 2 := ⟨gw_in (gt_6 (List.mem_of_getElem? (i := 39) rfl)) rfl, gw_in (gt_1 (List.mem_of_getElem? (i := 1) rfl)) rfl, by decide +kernel, by decide⟩
theorem mv_X11_sums : mt_v yX11_sums 11 := ⟨gw_in (gt_6 (List.mem_of_getElem? (i := 37) rfl)) rfl, gw_in (gt_6 (List.mem_of_getElem? (i := 38) rfl)) rfl, by decide, _, rfl, rfl⟩
theorem mt_X11_fits : mt_ok yX11_fits cX11_fits 2 (some .int) 1 := ⟨gw_in (gt_6 (List.mem_of_getElem? (i := 46) rfl)) rfl, gw_in (gt_1 (List.mem_of_getElem? (i := 1) rfl)) rfl, by decide +kernel, by decide⟩
theorem mv_X11_fits : mt_v yX11_fits 11 := ⟨gw_in (gt_6 (List.mem_of_getElem? (i := 44) rfl)) rfl, gw_in (gt_6 (List.mem_of_getElem? (i := 45) rfl)) rfl, by decide, _, rfl, rfl⟩
theorem mt_X11_look : mt_ok yX11_look cX11_look 3 (some .int) 1 := ⟨gw_in (gt_6 (List.mem_of_getElem? (i := 72) rfl)) rfl, gw_in (gt_1 (List.mem_of_getElem? (i := 1) rfl)) rfl, by decide +kernel, by decide⟩
theorem mv_X11_look : mt_v yX11_look 11 := ⟨gw_in (gt_6 (List.mem_of_getElem? (i := 70) rfl)) rfl, gw_in (gt_6 (List.mem_of_getElem? (i := 71) rfl)) rfl, by decide, _, rfl, rfl⟩
theorem mt_X11_season : mt_ok yX11_season cX11_season 5 (some .int) 4 := ⟨gw_in (gt_6 (List.mem_of_getElem? (i := 189) rfl)) rfl, gw_in (gt_1 (List.mem_of_getElem? (i := 1) rfl)) rfl, by decide +kernel, by decide⟩
theorem mv_X11_season : mt_v yX11_season 11 := ⟨gw_in (gt_6 (List.mem_of_getElem? (i := 187) rfl)) rfl, gw_in (gt_6 (List.mem_of_getElem? (i := 188) rfl)) rfl, by decide, _, rfl, rfl⟩
theorem mt_X11_span : mt_ok yX11_span cX11_span 12 (some .int) 6 := ⟨gw_in (gt_6 (List.mem_of_getElem? (i := 208) rfl)) rfl, gw_in (gt_1 (List.mem_of_getElem? (i := 1) rfl)) rfl, by decide +kernel, by decide⟩
theorem mv_X11_span : mt_v yX11_span 11 := ⟨gw_in (gt_6 (List.mem_of_getElem? (i := 206) rfl)) rfl, gw_in (gt_6 (List.mem_of_getElem? (i := 207) rfl)) rfl, by decide, _, rfl, rfl⟩
theorem mt_X11_uncle : mt_ok yX11_uncle cX11_uncle 9 (some .int) 3 := ⟨gw_in (gt_6 (List.mem_of_getElem? (i := 93) rfl)) rfl, gw_in (gt_1 (List.mem_of_getElem? (i := 1) rfl)) rfl, by decide +kernel, by decide⟩
theorem mv_X11_uncle : mt_v yX11_uncle 11 := ⟨gw_in (gt_6 (List.mem_of_getElem? (i := 91) rfl)) rfl, gw_in (gt_6 (List.mem_of_getElem? (i := 92) rfl)) rfl, by decide, _, rfl, rfl⟩
theorem mt_X11_boat : mt_ok yX11_boat cX11_boat 13 (some .long) 4 := ⟨gw_in (gt_6 (List.mem_of_getElem? (i := 106) rfl)) rfl, gw_in (gt_1 (List.mem_of_getElem? (i := 1) rfl)) rfl, by decide +kernel, by decide⟩
theorem mv_X11_boat : mt_v yX11_boat 11 := ⟨gw_in (gt_6 (List.mem_of_getElem? (i := 104) rfl)) rfl, gw_in (gt_6 (List.mem_of_getElem? (i := 105) rfl)) rfl, by decide, _, rfl, rfl⟩
theorem mt_X11_crumbs : mt_ok yX11_crumbs cX11_crumbs 7 (some .int) 3 := ⟨gw_in (gt_6 (List.mem_of_getElem? (i := 119) rfl)) rfl, gw_in (gt_1 (List.mem_of_getElem? (i := 1) rfl)) rfl, by decide +kernel, by decide⟩
theorem mv_X11_crumbs : mt_v yX11_crumbs 11 := ⟨gw_in (gt_6 (List.mem_of_getElem? (i := 117) rfl)) rfl, gw_in (gt_6 (List.mem_of_getElem? (i := 118) rfl)) rfl, by decide, _, rfl, rfl⟩
theorem mt_X11_image : mt_ok yX11_image cX11_image 1 (some .int) 0 := ⟨gw_in (gt_3 (List.mem_of_getElem? (i := 75) rfl)) rfl, gw_in (gt_1 (List.mem_of_getElem? (i := 1) rfl)) rfl, by decide +kernel, by decide⟩
theorem mv_X11_image : mt_v yX11_image 11 := ⟨gw_in (gt_3 (List.mem_of_getElem? (i := 73) rfl)) rfl, gw_in (gt_3 (List.mem_of_getElem? (i := 74) rfl)) rfl, by decide, _, rfl, rfl⟩
theorem mt_X11_restore : mt_ok yX11_restore cX11_restore 1 (some .int) 0 := ⟨gw_in (gt_3 (List.mem_of_getElem? (i := 83) rfl)) rfl, gw_in (gt_1 (List.mem_of_getElem? (i := 1) rfl)) rfl, by decide +kernel, by decide⟩
theorem mv_X11_restore : mt_v yX11_restore 11 := ⟨gw_in (gt_3 (List.mem_of_getElem? (i := 81) rfl)) rfl, gw_in (gt_3 (List.mem_of_getElem? (i := 82) rfl)) rfl, by decide, _, rfl, rfl⟩
theorem mt_X11_status : mt_ok yX11_status cX11_status 2 (some .int) 1 := ⟨gw_in (gt_3 (List.mem_of_getElem? (i := 91) rfl)) rfl, gw_in (gt_1 (List.mem_of_getElem? (i := 1) rfl)) rfl, by decide +kernel, by decide⟩
theorem mv_X11_status : mt_v yX11_status 11 := ⟨gw_in (gt_3 (List.mem_of_getElem? (i := 89) rfl)) rfl, gw_in (gt_3 (List.mem_of_getElem? (i := 90) rfl)) rfl, by decide, _, rfl, rfl⟩
theorem mt_X11_count : mt_ok yX11_count cX11_count 2 (some .int) 1 := ⟨gw_in (gt_3 (List.mem_of_getElem? (i := 95) rfl)) rfl, gw_in (gt_1 (List.mem_of_getElem? (i := 1) rfl)) rfl, by decide +kernel, by decide⟩
theorem mv_X11_count : mt_v yX11_count 11 := ⟨gw_in (gt_3 (List.mem_of_getElem? (i := 93) rfl)) rfl, gw_in (gt_3 (List.mem_of_getElem? (i := 94) rfl)) rfl, by decide, _, rfl, rfl⟩
theorem mt_X11_demandOneOf : mt_ok yX11_demandOneOf cX11_demandOneOf 3 none 2 := ⟨gw_in (gt_5 (List.mem_of_getElem? (i := 65) rfl)) rfl, gw_in (gt_1 (List.mem_of_getElem? (i := 1) rfl)) rfl, by decide +kernel, by decide⟩
theorem mv_X11_demandOneOf : mt_v yX11_demandOneOf 11 := ⟨gw_in (gt_5 (List.mem_of_getElem? (i := 64) rfl)) rfl, gw_in (gt_p (q := (yX11_demandOneOf, 16)) (List.mem_of_getElem? (i := 26) rfl)) rfl, by decide, _, rfl, rfl⟩
theorem mt_X11_demandWithin : mt_ok yX11_demandWithin cX11_demandWithin 4 none 3 := ⟨gw_in (gt_3 (List.mem_of_getElem? (i := 112) rfl)) rfl, gw_in (gt_1 (List.mem_of_getElem? (i := 1) rfl)) rfl, by decide +kernel, by decide⟩
theorem mv_X11_demandWithin : mt_v yX11_demandWithin 11 := ⟨gw_in (gt_3 (List.mem_of_getElem? (i := 111) rfl)) rfl, gw_in (gt_p (q := (yX11_demandWithin, 16)) (List.mem_of_getElem? (i := 6) rfl)) rfl, by decide, _, rfl, rfl⟩
theorem mt_X11_openText : mt_ok yX11_openText cX11_openText 3 none 2 := ⟨gw_in (gt_3 (List.mem_of_getElem? (i := 107) rfl)) rfl, gw_in (gt_1 (List.mem_of_getElem? (i := 1) rfl)) rfl, by decide +kernel, by decide⟩
theorem mv_X11_openText : mt_v yX11_openText 11 := ⟨gw_in (gt_3 (List.mem_of_getElem? (i := 106) rfl)) rfl, gw_in (gt_p (q := (yX11_openText, 16)) (List.mem_of_getElem? (i := 5) rfl)) rfl, by decide, _, rfl, rfl⟩
theorem mt_X11_tryNights : mt_ok yX11_tryNights cX11_tryNights 3 none 1 := ⟨gw_in (gt_3 (List.mem_of_getElem? (i := 3) rfl)) rfl, gw_in (gt_1 (List.mem_of_getElem? (i := 1) rfl)) rfl, by decide +kernel, by decide⟩
theorem mv_X11_tryNights : mt_v yX11_tryNights 11 := ⟨gw_in (gt_3 (List.mem_of_getElem? (i := 2) rfl)) rfl, gw_in (gt_p (q := (yX11_tryNights, 16)) (List.mem_of_getElem? (i := 0) rfl)) rfl, by decide, _, rfl, rfl⟩
theorem mt_X11_givenBelow : mt_ok yX11_givenBelow cX11_givenBelow 5 (some .int) 2 := ⟨gw_in (gt_6 (List.mem_of_getElem? (i := 123) rfl)) rfl, gw_in (gt_1 (List.mem_of_getElem? (i := 1) rfl)) rfl, by decide +kernel, by decide⟩
theorem mv_X11_givenBelow : mt_v yX11_givenBelow 11 := ⟨gw_in (gt_6 (List.mem_of_getElem? (i := 122) rfl)) rfl, gw_in (gt_p (q := (yX11_givenBelow, 16)) (List.mem_of_getElem? (i := 41) rfl)) rfl, by decide, _, rfl, rfl⟩
theorem mt_X11_gain : mt_ok yX11_gain cX11_gain 4 (some .int) 4 := ⟨gw_in (gt_6 (List.mem_of_getElem? (i := 99) rfl)) rfl, gw_in (gt_1 (List.mem_of_getElem? (i := 1) rfl)) rfl, by decide +kernel, by decide⟩
theorem ms_X11_gain : Cond.static yX11_gain ∈ gw_tbl := gw_in (gt_6 (List.mem_of_getElem? (i := 98) rfl)) rfl
theorem mt_X11_isRest : mt_ok yX11_isRest cX11_isRest 4 (some .boolean) 4 := ⟨gw_in (gt_6 (List.mem_of_getElem? (i := 96) rfl)) rfl, gw_in (gt_1 (List.mem_of_getElem? (i := 1) rfl)) rfl, by decide +kernel, by decide⟩
theorem ms_X11_isRest : Cond.static yX11_isRest ∈ gw_tbl := gw_in (gt_6 (List.mem_of_getElem? (i := 95) rfl)) rfl
theorem mt_X11_power : mt_ok yX11_power cX11_power 5 (some .long) 2 := ⟨gw_in (gt_6 (List.mem_of_getElem? (i := 109) rfl)) rfl, gw_in (gt_1 (List.mem_of_getElem? (i := 1) rfl)) rfl, by decide +kernel, by decide⟩
theorem ms_X11_power : Cond.static yX11_power ∈ gw_tbl := gw_in (gt_6 (List.mem_of_getElem? (i := 108) rfl)) rfl
theorem mt_X11_commonDivisor : mt_ok yX11_commonDivisor cX11_commonDivisor 11 (some .long) 2 := ⟨gw_in (gt_6 (List.mem_of_getElem? (i := 112) rfl)) rfl, gw_in (gt_1 (List.mem_of_getElem? (i := 1) rfl)) rfl, by decide +kernel, by decide⟩
theorem ms_X11_commonDivisor : Cond.static yX11_commonDivisor ∈ gw_tbl := gw_in (gt_6 (List.mem_of_getElem? (i := 111) rfl)) rfl
theorem mt_X12_tellsNothing : mt_ok yX12_tellsNothing cX12_tellsNothing 2 none 0 := ⟨gw_in (gt_6 (List.mem_of_getElem? (i := 221) rfl)) rfl, gw_in (gt_1 (List.mem_of_getElem? (i := 13) rfl)) rfl, by decide +kernel, by decide⟩
theorem mv_X12_tellsNothing : mt_v yX12_tellsNothing 12 := ⟨gw_in (gt_6 (List.mem_of_getElem? (i := 220) rfl)) rfl, gw_in (gt_p (q := (yX12_tellsNothing, 45)) (List.mem_of_getElem? (i := 43) rfl)) rfl, by decide, _, rfl, rfl⟩
theorem mt_X12_thrown : mt_ok yX12_thrown cX12_thrown 1 (some .int) 0 := ⟨gw_in (gt_7 (List.mem_of_getElem? (i := 133) rfl)) rfl, gw_in (gt_1 (List.mem_of_getElem? (i := 13) rfl)) rfl, by decide +kernel, by decide⟩
theorem mv_X12_thrown : mt_v yX12_thrown 12 := ⟨gw_in (gt_7 (List.mem_of_getElem? (i := 131) rfl)) rfl, gw_in (gt_7 (List.mem_of_getElem? (i := 132) rfl)) rfl, by decide, _, rfl, rfl⟩
theorem mt_X12_bad : mt_ok yX12_bad cX12_bad 4 (some .boolean) 3 := ⟨gw_in (gt_7 (List.mem_of_getElem? (i := 148) rfl)) rfl, gw_in (gt_1 (List.mem_of_getElem? (i := 13) rfl)) rfl, by decide +kernel, by decide⟩
theorem mv_X12_bad : mt_v yX12_bad 12 := ⟨gw_in (gt_7 (List.mem_of_getElem? (i := 147) rfl)) rfl, gw_in (gt_p (q := (yX12_bad, 45)) (List.mem_of_getElem? (i := 45) rfl)) rfl, by decide, _, rfl, rfl⟩
theorem mt_X12_in : mt_ok yX12_in cX12_in 3 (some .boolean) 3 := ⟨gw_in (gt_7 (List.mem_of_getElem? (i := 144) rfl)) rfl, gw_in (gt_1 (List.mem_of_getElem? (i := 13) rfl)) rfl, by decide +kernel, by decide⟩
theorem ms_X12_in : Cond.static yX12_in ∈ gw_tbl := gw_in (gt_7 (List.mem_of_getElem? (i := 143) rfl)) rfl
theorem mt_X12_less : mt_ok yX12_less cX12_less 2 (some .int) 2 := ⟨gw_in (gt_8 (List.mem_of_getElem? (i := 60) rfl)) rfl, gw_in (gt_1 (List.mem_of_getElem? (i := 13) rfl)) rfl, by decide +kernel, by decide⟩
theorem ms_X12_less : Cond.static yX12_less ∈ gw_tbl := gw_in (gt_8 (List.mem_of_getElem? (i := 59) rfl)) rfl
theorem mt_X12_more2 : mt_ok yX12_more2 cX12_more2 2 (some .int) 2 := ⟨gw_in (gt_8 (List.mem_of_getElem? (i := 101) rfl)) rfl, gw_in (gt_1 (List.mem_of_getElem? (i := 13) rfl)) rfl, by decide +kernel, by decide⟩
theorem ms_X12_more2 : Cond.static yX12_more2 ∈ gw_tbl := gw_in (gt_8 (List.mem_of_getElem? (i := 100) rfl)) rfl
theorem mt_X12_has : mt_ok yX12_has cX12_has 2 (some .boolean) 2 := ⟨gw_in (gt_8 (List.mem_of_getElem? (i := 12) rfl)) rfl, gw_in (gt_1 (List.mem_of_getElem? (i := 13) rfl)) rfl, by decide +kernel, by decide⟩
theorem ms_X12_has : Cond.static yX12_has ∈ gw_tbl := gw_in (gt_8 (List.mem_of_getElem? (i := 11) rfl)) rfl
theorem mt_X12_feed : mt_ok yX12_feed cX12_feed 8 (some .int) 5 := ⟨gw_in (gt_7 (List.mem_of_getElem? (i := 137) rfl)) rfl, gw_in (gt_1 (List.mem_of_getElem? (i := 13) rfl)) rfl, by decide +kernel, by decide⟩
theorem mv_X12_feed : mt_v yX12_feed 12 := ⟨gw_in (gt_7 (List.mem_of_getElem? (i := 135) rfl)) rfl, gw_in (gt_7 (List.mem_of_getElem? (i := 136) rfl)) rfl, by decide, _, rfl, rfl⟩
theorem mt_X12_byteAt : mt_ok yX12_byteAt cX12_byteAt 2 (some .int) 1 := ⟨gw_in (gt_7 (List.mem_of_getElem? (i := 160) rfl)) rfl, gw_in (gt_1 (List.mem_of_getElem? (i := 13) rfl)) rfl, by decide +kernel, by decide⟩
theorem mv_X12_byteAt : mt_v yX12_byteAt 12 := ⟨gw_in (gt_7 (List.mem_of_getElem? (i := 159) rfl)) rfl, gw_in (gt_p (q := (yX12_byteAt, 45)) (List.mem_of_getElem? (i := 48) rfl)) rfl, by decide, _, rfl, rfl⟩
theorem mt_X12_blanks : mt_ok yX12_blanks cX12_blanks 1 none 0 := ⟨gw_in (gt_7 (List.mem_of_getElem? (i := 156) rfl)) rfl, gw_in (gt_1 (List.mem_of_getElem? (i := 13) rfl)) rfl, by decide +kernel, by decide⟩
theorem mv_X12_blanks : mt_v yX12_blanks 12 := ⟨gw_in (gt_7 (List.mem_of_getElem? (i := 155) rfl)) rfl, gw_in (gt_p (q := (yX12_blanks, 45)) (List.mem_of_getElem? (i := 47) rfl)) rfl, by decide, _, rfl, rfl⟩
theorem mt_X12_wrong : mt_ok yX12_wrong cX12_wrong 3 none 2 := ⟨gw_in (gt_7 (List.mem_of_getElem? (i := 186) rfl)) rfl, gw_in (gt_1 (List.mem_of_getElem? (i := 13) rfl)) rfl, by decide +kernel, by decide⟩
theorem mv_X12_wrong : mt_v yX12_wrong 12 := ⟨gw_in (gt_7 (List.mem_of_getElem? (i := 185) rfl)) rfl, gw_in (gt_p (q := (yX12_wrong, 45)) (List.mem_of_getElem? (i := 53) rfl)) rfl, by decide, _, rfl, rfl⟩
theorem mt_X12_isDigit : mt_ok yX12_isDigit cX12_isDigit 1 (some .boolean) 1 := ⟨gw_in (gt_7 (List.mem_of_getElem? (i := 200) rfl)) rfl, gw_in (gt_1 (List.mem_of_getElem? (i := 13) rfl)) rfl, by decide +kernel, by decide⟩
theorem ms_X12_isDigit : Cond.static yX12_isDigit ∈ gw_tbl := gw_in (gt_7 (List.mem_of_getElem? (i := 199) rfl)) rfl
theorem mt_X12_isSmall : mt_ok yX12_isSmall cX12_isSmall 1 (some .boolean) 1 := ⟨gw_in (gt_7 (List.mem_of_getElem? (i := 179) rfl)) rfl, gw_in (gt_1 (List.mem_of_getElem? (i := 13) rfl)) rfl, by decide +kernel, by decide⟩
theorem ms_X12_isSmall : Cond.static yX12_isSmall ∈ gw_tbl := gw_in (gt_7 (List.mem_of_getElem? (i := 178) rfl)) rfl
theorem mt_X12_number : mt_ok yX12_number cX12_number 5 (some .int) 2 := ⟨gw_in (gt_7 (List.mem_of_getElem? (i := 197) rfl)) rfl, gw_in (gt_1 (List.mem_of_getElem? (i := 13) rfl)) rfl, by decide +kernel, by decide⟩
theorem mv_X12_number : mt_v yX12_number 12 := ⟨gw_in (gt_7 (List.mem_of_getElem? (i := 196) rfl)) rfl, gw_in (gt_p (q := (yX12_number, 45)) (List.mem_of_getElem? (i := 55) rfl)) rfl, by decide, _, rfl, rfl⟩
theorem mt_X12_wordHere : mt_ok yX12_wordHere cX12_wordHere 3 (some .int) 0 := ⟨gw_in (gt_7 (List.mem_of_getElem? (i := 176) rfl)) rfl, gw_in (gt_1 (List.mem_of_getElem? (i := 13) rfl)) rfl, by decide +kernel, by decide⟩
theorem mv_X12_wordHere : mt_v yX12_wordHere 12 := ⟨gw_in (gt_7 (List.mem_of_getElem? (i := 175) rfl)) rfl, gw_in (gt_p (q := (yX12_wordHere, 45)) (List.mem_of_getElem? (i := 52) rfl)) rfl, by decide, _, rfl, rfl⟩
theorem mt_X12_six : mt_ok yX12_six cX12_six 7 (some .int) 6 := ⟨gw_in (gt_7 (List.mem_of_getElem? (i := 182) rfl)) rfl, gw_in (gt_1 (List.mem_of_getElem? (i := 13) rfl)) rfl, by decide +kernel, by decide⟩
theorem ms_X12_six : Cond.static yX12_six ∈ gw_tbl := gw_in (gt_7 (List.mem_of_getElem? (i := 181) rfl)) rfl
theorem mt_X12_isWord : mt_ok yX12_isWord cX12_isWord 7 (some .boolean) 6 := ⟨gw_in (gt_7 (List.mem_of_getElem? (i := 172) rfl)) rfl, gw_in (gt_1 (List.mem_of_getElem? (i := 13) rfl)) rfl, by decide +kernel, by decide⟩
theorem mv_X12_isWord : mt_v yX12_isWord 12 := ⟨gw_in (gt_7 (List.mem_of_getElem? (i := 171) rfl)) rfl, gw_in (gt_p (q := (yX12_isWord, 45)) (List.mem_of_getElem? (i := 51) rfl)) rfl, by decide, _, rfl, rfl⟩
theorem mt_X12_skipWord : mt_ok yX12_skipWord cX12_skipWord 1 none 0 := ⟨gw_in (gt_7 (List.mem_of_getElem? (i := 193) rfl)) rfl, gw_in (gt_1 (List.mem_of_getElem? (i := 13) rfl)) rfl, by decide +kernel, by decide⟩
theorem mv_X12_skipWord : mt_v yX12_skipWord 12 := ⟨gw_in (gt_7 (List.mem_of_getElem? (i := 192) rfl)) rfl, gw_in (gt_p (q := (yX12_skipWord, 45)) (List.mem_of_getElem? (i := 54) rfl)) rfl, by decide, _, rfl, rfl⟩
theorem mt_X12_takes : mt_ok yX12_takes cX12_takes 8 (some .boolean) 6 := ⟨gw_in (gt_8 (List.mem_of_getElem? (i := 1) rfl)) rfl, gw_in (gt_1 (List.mem_of_getElem? (i := 13) rfl)) rfl, by decide +kernel, by decide⟩
theorem mv_X12_takes : mt_v yX12_takes 12 := ⟨gw_in (gt_8 (List.mem_of_getElem? (i := 0) rfl)) rfl, gw_in (gt_p (q := (yX12_takes, 45)) (List.mem_of_getElem? (i := 64) rfl)) rfl, by decide, _, rfl, rfl⟩
theorem mt_X12_sign : mt_ok yX12_sign cX12_sign 2 none 1 := ⟨gw_in (gt_7 (List.mem_of_getElem? (i := 205) rfl)) rfl, gw_in (gt_1 (List.mem_of_getElem? (i := 13) rfl)) rfl, by decide +kernel, by decide⟩
theorem mv_X12_sign : mt_v yX12_sign 12 := ⟨gw_in (gt_7 (List.mem_of_getElem? (i := 204) rfl)) rfl, gw_in (gt_p (q := (yX12_sign, 45)) (List.mem_of_getElem? (i := 56) rfl)) rfl, by decide, _, rfl, rfl⟩
theorem mt_X12_takesSign : mt_ok yX12_takesSign cX12_takesSign 3 (some .boolean) 1 := ⟨gw_in (gt_8 (List.mem_of_getElem? (i := 5) rfl)) rfl, gw_in (gt_1 (List.mem_of_getElem? (i := 13) rfl)) rfl, by decide +kernel, by decide⟩
theorem mv_X12_takesSign : mt_v yX12_takesSign 12 := ⟨gw_in (gt_8 (List.mem_of_getElem? (i := 4) rfl)) rfl, gw_in (gt_p (q := (yX12_takesSign, 45)) (List.mem_of_getElem? (i := 65) rfl)) rfl, by decide, _, rfl, rfl⟩
theorem mt_X12_starts : mt_ok yX12_starts cX12_starts 2 none 1 := ⟨gw_in (gt_7 (List.mem_of_getElem? (i := 152) rfl)) rfl, gw_in (gt_1 (List.mem_of_getElem? (i := 13) rfl)) rfl, by decide +kernel, by decide⟩
theorem mv_X12_starts : mt_v yX12_starts 12 := ⟨gw_in (gt_7 (List.mem_of_getElem? (i := 151) rfl)) rfl, gw_in (gt_p (q := (yX12_starts, 45)) (List.mem_of_getElem? (i := 46) rfl)) rfl, by decide, _, rfl, rfl⟩
theorem mt_X12_ends : mt_ok yX12_ends cX12_ends 1 (some .int) 0 := ⟨gw_in (gt_7 (List.mem_of_getElem? (i := 209) rfl)) rfl, gw_in (gt_1 (List.mem_of_getElem? (i := 13) rfl)) rfl, by decide +kernel, by decide⟩
theorem mv_X12_ends : mt_v yX12_ends 12 := ⟨gw_in (gt_7 (List.mem_of_getElem? (i := 208) rfl)) rfl, gw_in (gt_p (q := (yX12_ends, 45)) (List.mem_of_getElem? (i := 57) rfl)) rfl, by decide, _, rfl, rfl⟩
theorem mt_X12_kindHere : mt_ok yX12_kindHere cX12_kindHere 1 (some .int) 0 := ⟨gw_in (gt_7 (List.mem_of_getElem? (i := 168) rfl)) rfl, gw_in (gt_1 (List.mem_of_getElem? (i := 13) rfl)) rfl, by decide +kernel, by decide⟩
theorem mv_X12_kindHere : mt_v yX12_kindHere 12 := ⟨gw_in (gt_7 (List.mem_of_getElem? (i := 167) rfl)) rfl, gw_in (gt_p (q := (yX12_kindHere, 45)) (List.mem_of_getElem? (i := 50) rfl)) rfl, by decide, _, rfl, rfl⟩
theorem mt_X12_mostOf : mt_ok yX12_mostOf cX12_mostOf 1 (some .int) 1 := ⟨gw_in (gt_7 (List.mem_of_getElem? (i := 189) rfl)) rfl, gw_in (gt_1 (List.mem_of_getElem? (i := 13) rfl)) rfl, by decide +kernel, by decide⟩
theorem ms_X12_mostOf : Cond.static yX12_mostOf ∈ gw_tbl := gw_in (gt_7 (List.mem_of_getElem? (i := 188) rfl)) rfl
theorem mt_X12_placeOf : mt_ok yX12_placeOf cX12_placeOf 2 (some .int) 2 := ⟨gw_in (gt_6 (List.mem_of_getElem? (i := 231) rfl)) rfl, gw_in (gt_1 (List.mem_of_getElem? (i := 13) rfl)) rfl, by decide +kernel, by decide⟩
theorem ms_X12_placeOf : Cond.static yX12_placeOf ∈ gw_tbl := gw_in (gt_6 (List.mem_of_getElem? (i := 230) rfl)) rfl
theorem mt_X12_clause : mt_ok yX12_clause cX12_clause 4 none 0 := ⟨gw_in (gt_7 (List.mem_of_getElem? (i := 164) rfl)) rfl, gw_in (gt_1 (List.mem_of_getElem? (i := 13) rfl)) rfl, by decide +kernel, by decide⟩
theorem mv_X12_clause : mt_v yX12_clause 12 := ⟨gw_in (gt_7 (List.mem_of_getElem? (i := 163) rfl)) rfl, gw_in (gt_p (q := (yX12_clause, 45)) (List.mem_of_getElem? (i := 49) rfl)) rfl, by decide, _, rfl, rfl⟩
theorem mt_X12_house : mt_ok yX12_house cX12_house 2 (some .int) 1 := ⟨gw_in (gt_7 (List.mem_of_getElem? (i := 141) rfl)) rfl, gw_in (gt_1 (List.mem_of_getElem? (i := 13) rfl)) rfl, by decide +kernel, by decide⟩
theorem mv_X12_house : mt_v yX12_house 12 := ⟨gw_in (gt_7 (List.mem_of_getElem? (i := 139) rfl)) rfl, gw_in (gt_7 (List.mem_of_getElem? (i := 140) rfl)) rfl, by decide, _, rfl, rfl⟩
theorem mt_X12_lays : mt_ok yX12_lays cX12_lays 5 none 3 := ⟨gw_in (gt_6 (List.mem_of_getElem? (i := 228) rfl)) rfl, gw_in (gt_1 (List.mem_of_getElem? (i := 13) rfl)) rfl, by decide +kernel, by decide⟩
theorem ms_X12_lays : Cond.static yX12_lays ∈ gw_tbl := gw_in (gt_6 (List.mem_of_getElem? (i := 227) rfl)) rfl
theorem mt_X12_copies : mt_ok yX12_copies cX12_copies 3 none 2 := ⟨gw_in (gt_8 (List.mem_of_getElem? (i := 31) rfl)) rfl, gw_in (gt_1 (List.mem_of_getElem? (i := 13) rfl)) rfl, by decide +kernel, by decide⟩
theorem ms_X12_copies : Cond.static yX12_copies ∈ gw_tbl := gw_in (gt_8 (List.mem_of_getElem? (i := 30) rfl)) rfl
theorem mt_X12_hide : mt_ok yX12_hide cX12_hide 2 (some .int) 1 := ⟨gw_in (gt_8 (List.mem_of_getElem? (i := 80) rfl)) rfl, gw_in (gt_1 (List.mem_of_getElem? (i := 13) rfl)) rfl, by decide +kernel, by decide⟩
theorem mv_X12_hide : mt_v yX12_hide 12 := ⟨gw_in (gt_8 (List.mem_of_getElem? (i := 79) rfl)) rfl, gw_in (gt_p (q := (yX12_hide, 45)) (List.mem_of_getElem? (i := 77) rfl)) rfl, by decide, _, rfl, rfl⟩
theorem mt_X12_wayEnd : mt_ok yX12_wayEnd cX12_wayEnd 3 (some .int) 2 := ⟨gw_in (gt_8 (List.mem_of_getElem? (i := 54) rfl)) rfl, gw_in (gt_1 (List.mem_of_getElem? (i := 13) rfl)) rfl, by decide +kernel, by decide⟩
theorem mv_X12_wayEnd : mt_v yX12_wayEnd 12 := ⟨gw_in (gt_8 (List.mem_of_getElem? (i := 53) rfl)) rfl, gw_in (gt_p (q := (yX12_wayEnd, 45)) (List.mem_of_getElem? (i := 72) rfl)) rfl, by decide, _, rfl, rfl⟩
theorem mt_X12_grow : mt_ok yX12_grow cX12_grow 2 (some .int) 1 := ⟨gw_in (gt_8 (List.mem_of_getElem? (i := 76) rfl)) rfl, gw_in (gt_1 (List.mem_of_getElem? (i := 13) rfl)) rfl, by decide +kernel, by decide⟩
theorem mv_X12_grow : mt_v yX12_grow 12 := ⟨gw_in (gt_8 (List.mem_of_getElem? (i := 75) rfl)) rfl, gw_in (gt_p (q := (yX12_grow, 45)) (List.mem_of_getElem? (i := 76) rfl)) rfl, by decide, _, rfl, rfl⟩
theorem mt_X12_nose : mt_ok yX12_nose cX12_nose 2 (some .int) 1 := ⟨gw_in (gt_8 (List.mem_of_getElem? (i := 117) rfl)) rfl, gw_in (gt_1 (List.mem_of_getElem? (i := 13) rfl)) rfl, by decide +kernel, by decide⟩
theorem mv_X12_nose : mt_v yX12_nose 12 := ⟨gw_in (gt_8 (List.mem_of_getElem? (i := 116) rfl)) rfl, gw_in (gt_p (q := (yX12_nose, 45)) (List.mem_of_getElem? (i := 84) rfl)) rfl, by decide, _, rfl, rfl⟩
theorem mt_X12_beginsAnew : mt_ok yX12_beginsAnew cX12_beginsAnew 2 none 0 := ⟨gw_in (gt_6 (List.mem_of_getElem? (i := 225) rfl)) rfl, gw_in (gt_1 (List.mem_of_getElem? (i := 13) rfl)) rfl, by decide +kernel, by decide⟩
theorem mv_X12_beginsAnew : mt_v yX12_beginsAnew 12 := ⟨gw_in (gt_6 (List.mem_of_getElem? (i := 224) rfl)) rfl, gw_in (gt_p (q := (yX12_beginsAnew, 45)) (List.mem_of_getElem? (i := 44) rfl)) rfl, by decide, _, rfl, rfl⟩
theorem mt_X12_notes : mt_ok yX12_notes cX12_notes 3 none 2 := ⟨gw_in (gt_7 (List.mem_of_getElem? (i := 233) rfl)) rfl, gw_in (gt_1 (List.mem_of_getElem? (i := 13) rfl)) rfl, by decide +kernel, by decide⟩
theorem mv_X12_notes : mt_v yX12_notes 12 := ⟨gw_in (gt_7 (List.mem_of_getElem? (i := 232) rfl)) rfl, gw_in (gt_p (q := (yX12_notes, 45)) (List.mem_of_getElem? (i := 62) rfl)) rfl, by decide, _, rfl, rfl⟩
theorem mt_X12_opensOne : mt_ok yX12_opensOne cX12_opensOne 1 (some .boolean) 0 := ⟨gw_in (gt_7 (List.mem_of_getElem? (i := 229) rfl)) rfl, gw_in (gt_1 (List.mem_of_getElem? (i := 13) rfl)) rfl, by decide +kernel, by decide⟩
theorem mv_X12_opensOne : mt_v yX12_opensOne 12 := ⟨gw_in (gt_7 (List.mem_of_getElem? (i := 228) rfl)) rfl, gw_in (gt_p (q := (yX12_opensOne, 45)) (List.mem_of_getElem? (i := 61) rfl)) rfl, by decide, _, rfl, rfl⟩
theorem mt_X12_sum : mt_ok yX12_sum cX12_sum 2 none 0 := ⟨gw_in (gt_7 (List.mem_of_getElem? (i := 217) rfl)) rfl, gw_in (gt_1 (List.mem_of_getElem? (i := 13) rfl)) rfl, by decide +kernel, by decide⟩
theorem mv_X12_sum : mt_v yX12_sum 12 := ⟨gw_in (gt_7 (List.mem_of_getElem? (i := 216) rfl)) rfl, gw_in (gt_p (q := (yX12_sum, 45)) (List.mem_of_getElem? (i := 58) rfl)) rfl, by decide, _, rfl, rfl⟩
theorem mt_X12_product : mt_ok yX12_product cX12_product 2 none 0 := ⟨gw_in (gt_7 (List.mem_of_getElem? (i := 221) rfl)) rfl, gw_in (gt_1 (List.mem_of_getElem? (i := 13) rfl)) rfl, by decide +kernel, by decide⟩
theorem mv_X12_product : mt_v yX12_product 12 := ⟨gw_in (gt_7 (List.mem_of_getElem? (i := 220) rfl)) rfl, gw_in (gt_p (q := (yX12_product, 45)) (List.mem_of_getElem? (i := 59) rfl)) rfl, by decide, _, rfl, rfl⟩
theorem mt_X12_knownHere : mt_ok yX12_knownHere cX12_knownHere 1 (some .int) 0 := ⟨gw_in (gt_7 (List.mem_of_getElem? (i := 237) rfl)) rfl, gw_in (gt_1 (List.mem_of_getElem? (i := 13) rfl)) rfl, by decide +kernel, by decide⟩
theorem mv_X12_knownHere : mt_v yX12_knownHere 12 := ⟨gw_in (gt_7 (List.mem_of_getElem? (i := 236) rfl)) rfl, gw_in (gt_p (q := (yX12_knownHere, 45)) (List.mem_of_getElem? (i := 63) rfl)) rfl, by decide, _, rfl, rfl⟩
theorem mt_X12_one : mt_ok yX12_one cX12_one 3 none 0 := ⟨gw_in (gt_7 (List.mem_of_getElem? (i := 225) rfl)) rfl, gw_in (gt_1 (List.mem_of_getElem? (i := 13) rfl)) rfl, by decide +kernel, by decide⟩
theorem mv_X12_one : mt_v yX12_one 12 := ⟨gw_in (gt_7 (List.mem_of_getElem? (i := 224) rfl)) rfl, gw_in (gt_p (q := (yX12_one, 45)) (List.mem_of_getElem? (i := 60) rfl)) rfl, by decide, _, rfl, rfl⟩
theorem mt_X12_law : mt_ok yX12_law cX12_law 2 (some .int) 1 := ⟨gw_in (gt_7 (List.mem_of_getElem? (i := 213) rfl)) rfl, gw_in (gt_1 (List.mem_of_getElem? (i := 13) rfl)) rfl, by decide +kernel, by decide⟩
theorem mv_X12_law : mt_v yX12_law 12 := ⟨gw_in (gt_7 (List.mem_of_getElem? (i := 211) rfl)) rfl, gw_in (gt_7 (List.mem_of_getElem? (i := 212) rfl)) rfl, by decide, _, rfl, rfl⟩
theorem mt_X12_by : mt_ok yX12_by cX12_by 3 (some .int) 3 := ⟨gw_in (gt_8 (List.mem_of_getElem? (i := 98) rfl)) rfl, gw_in (gt_1 (List.mem_of_getElem? (i := 13) rfl)) rfl, by decide +kernel, by decide⟩
theorem ms_X12_by : Cond.static yX12_by ∈ gw_tbl := gw_in (gt_8 (List.mem_of_getElem? (i := 97) rfl)) rfl
theorem mt_X12_byLaw : mt_ok yX12_byLaw cX12_byLaw 3 (some .int) 0 := ⟨gw_in (gt_8 (List.mem_of_getElem? (i := 95) rfl)) rfl, gw_in (gt_1 (List.mem_of_getElem? (i := 13) rfl)) rfl, by decide +kernel, by decide⟩
theorem mv_X12_byLaw : mt_v yX12_byLaw 12 := ⟨gw_in (gt_8 (List.mem_of_getElem? (i := 94) rfl)) rfl, gw_in (gt_p (q := (yX12_byLaw, 45)) (List.mem_of_getElem? (i := 80) rfl)) rfl, by decide, _, rfl, rfl⟩
theorem mt_X12_stepHere : mt_ok yX12_stepHere cX12_stepHere 1 (some .int) 0 := ⟨gw_in (gt_8 (List.mem_of_getElem? (i := 28) rfl)) rfl, gw_in (gt_1 (List.mem_of_getElem? (i := 13) rfl)) rfl, by decide +kernel, by decide⟩
theorem mv_X12_stepHere : mt_v yX12_stepHere 12 := ⟨gw_in (gt_8 (List.mem_of_getElem? (i := 27) rfl)) rfl, gw_in (gt_p (q := (yX12_stepHere, 45)) (List.mem_of_getElem? (i := 67) rfl)) rfl, by decide, _, rfl, rfl⟩
theorem mt_X12_readsStep : mt_ok yX12_readsStep cX12_readsStep 3 none 0 := ⟨gw_in (gt_8 (List.mem_of_getElem? (i := 24) rfl)) rfl, gw_in (gt_1 (List.mem_of_getElem? (i := 13) rfl)) rfl, by decide +kernel, by decide⟩
theorem mv_X12_readsStep : mt_v yX12_readsStep 12 := ⟨gw_in (gt_8 (List.mem_of_getElem? (i := 23) rfl)) rfl, gw_in (gt_p (q := (yX12_readsStep, 45)) (List.mem_of_getElem? (i := 66) rfl)) rfl, by decide, _, rfl, rfl⟩
theorem mt_X12_book : mt_ok yX12_book cX12_book 7 (some .int) 1 := ⟨gw_in (gt_8 (List.mem_of_getElem? (i := 9) rfl)) rfl, gw_in (gt_1 (List.mem_of_getElem? (i := 13) rfl)) rfl, by decide +kernel, by decide⟩
theorem mv_X12_book : mt_v yX12_book 12 := ⟨gw_in (gt_8 (List.mem_of_getElem? (i := 7) rfl)) rfl, gw_in (gt_8 (List.mem_of_getElem? (i := 8) rfl)) rfl, by decide, _, rfl, rfl⟩
theorem mt_X12_fault : mt_ok yX12_fault cX12_fault 1 (some .int) 0 := ⟨gw_in (gt_8 (List.mem_of_getElem? (i := 16) rfl)) rfl, gw_in (gt_1 (List.mem_of_getElem? (i := 13) rfl)) rfl, by decide +kernel, by decide⟩
theorem mv_X12_fault : mt_v yX12_fault 12 := ⟨gw_in (gt_8 (List.mem_of_getElem? (i := 14) rfl)) rfl, gw_in (gt_8 (List.mem_of_getElem? (i := 15) rfl)) rfl, by decide, _, rfl, rfl⟩
theorem mt_X12_moreBy : mt_ok yX12_moreBy cX12_moreBy 8 (some .int) 7 := ⟨gw_in (gt_8 (List.mem_of_getElem? (i := 91) rfl)) rfl, gw_in (gt_1 (List.mem_of_getElem? (i := 13) rfl)) rfl, by decide +kernel, by decide⟩
theorem mv_X12_moreBy : mt_v yX12_moreBy 12 := ⟨gw_in (gt_8 (List.mem_of_getElem? (i := 90) rfl)) rfl, gw_in (gt_p (q := (yX12_moreBy, 45)) (List.mem_of_getElem? (i := 79) rfl)) rfl, by decide, _, rfl, rfl⟩
theorem mt_X12_ones : mt_ok yX12_ones cX12_ones 3 (some .int) 1 := ⟨gw_in (gt_8 (List.mem_of_getElem? (i := 87) rfl)) rfl, gw_in (gt_1 (List.mem_of_getElem? (i := 13) rfl)) rfl, by decide +kernel, by decide⟩
theorem ms_X12_ones : Cond.static yX12_ones ∈ gw_tbl := gw_in (gt_8 (List.mem_of_getElem? (i := 86) rfl)) rfl
theorem mt_X12_catsIn : mt_ok yX12_catsIn cX12_catsIn 5 (some .int) 2 := ⟨gw_in (gt_8 (List.mem_of_getElem? (i := 84) rfl)) rfl, gw_in (gt_1 (List.mem_of_getElem? (i := 13) rfl)) rfl, by decide +kernel, by decide⟩
theorem mv_X12_catsIn : mt_v yX12_catsIn 12 := ⟨gw_in (gt_8 (List.mem_of_getElem? (i := 83) rfl)) rfl, gw_in (gt_p (q := (yX12_catsIn, 45)) (List.mem_of_getElem? (i := 78) rfl)) rfl, by decide, _, rfl, rfl⟩
theorem mt_X12_moreOf : mt_ok yX12_moreOf cX12_moreOf 3 (some .int) 2 := ⟨gw_in (gt_8 (List.mem_of_getElem? (i := 72) rfl)) rfl, gw_in (gt_1 (List.mem_of_getElem? (i := 13) rfl)) rfl, by decide +kernel, by decide⟩
theorem mv_X12_moreOf : mt_v yX12_moreOf 12 := ⟨gw_in (gt_8 (List.mem_of_getElem? (i := 71) rfl)) rfl, gw_in (gt_p (q := (yX12_moreOf, 45)) (List.mem_of_getElem? (i := 75) rfl)) rfl, by decide, _, rfl, rfl⟩
theorem mt_X12_lives : mt_ok yX12_lives cX12_lives 2 (some .boolean) 2 := ⟨gw_in (gt_8 (List.mem_of_getElem? (i := 42) rfl)) rfl, gw_in (gt_1 (List.mem_of_getElem? (i := 13) rfl)) rfl, by decide +kernel, by decide⟩
theorem ms_X12_lives : Cond.static yX12_lives ∈ gw_tbl := gw_in (gt_8 (List.mem_of_getElem? (i := 41) rfl)) rfl
theorem mt_X12_sees : mt_ok yX12_sees cX12_sees 4 (some .boolean) 3 := ⟨gw_in (gt_8 (List.mem_of_getElem? (i := 113) rfl)) rfl, gw_in (gt_1 (List.mem_of_getElem? (i := 13) rfl)) rfl, by decide +kernel, by decide⟩
theorem mv_X12_sees : mt_v yX12_sees 12 := ⟨gw_in (gt_8 (List.mem_of_getElem? (i := 112) rfl)) rfl, gw_in (gt_p (q := (yX12_sees, 45)) (List.mem_of_getElem? (i := 83) rfl)) rfl, by decide, _, rfl, rfl⟩
theorem mt_X12_seen : mt_ok yX12_seen cX12_seen 5 (some .int) 2 := ⟨gw_in (gt_8 (List.mem_of_getElem? (i := 109) rfl)) rfl, gw_in (gt_1 (List.mem_of_getElem? (i := 13) rfl)) rfl, by decide +kernel, by decide⟩
theorem mv_X12_seen : mt_v yX12_seen 12 := ⟨gw_in (gt_8 (List.mem_of_getElem? (i := 108) rfl)) rfl, gw_in (gt_p (q := (yX12_seen, 45)) (List.mem_of_getElem? (i := 82) rfl)) rfl, by decide, _, rfl, rfl⟩
theorem mt_X12_beside : mt_ok yX12_beside cX12_beside 5 (some .int) 2 := ⟨gw_in (gt_8 (List.mem_of_getElem? (i := 50) rfl)) rfl, gw_in (gt_1 (List.mem_of_getElem? (i := 13) rfl)) rfl, by decide +kernel, by decide⟩
theorem mv_X12_beside : mt_v yX12_beside 12 := ⟨gw_in (gt_8 (List.mem_of_getElem? (i := 49) rfl)) rfl, gw_in (gt_p (q := (yX12_beside, 45)) (List.mem_of_getElem? (i := 71) rfl)) rfl, by decide, _, rfl, rfl⟩
theorem mt_X12_takes2 : mt_ok yX12_takes2 cX12_takes2 6 none 2 := ⟨gw_in (gt_8 (List.mem_of_getElem? (i := 105) rfl)) rfl, gw_in (gt_1 (List.mem_of_getElem? (i := 13) rfl)) rfl, by decide +kernel, by decide⟩
theorem mv_X12_takes2 : mt_v yX12_takes2 12 := ⟨gw_in (gt_8 (List.mem_of_getElem? (i := 104) rfl)) rfl, gw_in (gt_p (q := (yX12_takes2, 45)) (List.mem_of_getElem? (i := 81) rfl)) rfl, by decide, _, rfl, rfl⟩
theorem mt_X12_nightEnds : mt_ok yX12_nightEnds cX12_nightEnds 3 none 1 := ⟨gw_in (gt_8 (List.mem_of_getElem? (i := 68) rfl)) rfl, gw_in (gt_1 (List.mem_of_getElem? (i := 13) rfl)) rfl, by decide +kernel, by decide⟩
theorem mv_X12_nightEnds : mt_v yX12_nightEnds 12 := ⟨gw_in (gt_8 (List.mem_of_getElem? (i := 67) rfl)) rfl, gw_in (gt_p (q := (yX12_nightEnds, 45)) (List.mem_of_getElem? (i := 74) rfl)) rfl, by decide, _, rfl, rfl⟩
theorem mt_X12_becomes : mt_ok yX12_becomes cX12_becomes 3 (some .boolean) 3 := ⟨gw_in (gt_8 (List.mem_of_getElem? (i := 57) rfl)) rfl, gw_in (gt_1 (List.mem_of_getElem? (i := 13) rfl)) rfl, by decide +kernel, by decide⟩
theorem ms_X12_becomes : Cond.static yX12_becomes ∈ gw_tbl := gw_in (gt_8 (List.mem_of_getElem? (i := 56) rfl)) rfl
theorem mt_X12_goesTo : mt_ok yX12_goesTo cX12_goesTo 4 (some .boolean) 3 := ⟨gw_in (gt_8 (List.mem_of_getElem? (i := 46) rfl)) rfl, gw_in (gt_1 (List.mem_of_getElem? (i := 13) rfl)) rfl, by decide +kernel, by decide⟩
theorem mv_X12_goesTo : mt_v yX12_goesTo 12 := ⟨gw_in (gt_8 (List.mem_of_getElem? (i := 45) rfl)) rfl, gw_in (gt_p (q := (yX12_goesTo, 45)) (List.mem_of_getElem? (i := 70) rfl)) rfl, by decide, _, rfl, rfl⟩
theorem mt_X12_joins : mt_ok yX12_joins cX12_joins 4 (some .boolean) 3 := ⟨gw_in (gt_8 (List.mem_of_getElem? (i := 64) rfl)) rfl, gw_in (gt_1 (List.mem_of_getElem? (i := 13) rfl)) rfl, by decide +kernel, by decide⟩
theorem mv_X12_joins : mt_v yX12_joins 12 := ⟨gw_in (gt_8 (List.mem_of_getElem? (i := 63) rfl)) rfl, gw_in (gt_p (q := (yX12_joins, 45)) (List.mem_of_getElem? (i := 73) rfl)) rfl, by decide, _, rfl, rfl⟩
theorem mt_X12_does : mt_ok yX12_does cX12_does 4 (some .boolean) 2 := ⟨gw_in (gt_8 (List.mem_of_getElem? (i := 39) rfl)) rfl, gw_in (gt_1 (List.mem_of_getElem? (i := 13) rfl)) rfl, by decide +kernel, by decide⟩
theorem mv_X12_does : mt_v yX12_does 12 := ⟨gw_in (gt_8 (List.mem_of_getElem? (i := 38) rfl)) rfl, gw_in (gt_p (q := (yX12_does, 45)) (List.mem_of_getElem? (i := 69) rfl)) rfl, by decide, _, rfl, rfl⟩
theorem mt_X12_goes : mt_ok yX12_goes cX12_goes 5 none 2 := ⟨gw_in (gt_8 (List.mem_of_getElem? (i := 35) rfl)) rfl, gw_in (gt_1 (List.mem_of_getElem? (i := 13) rfl)) rfl, by decide +kernel, by decide⟩
theorem mv_X12_goes : mt_v yX12_goes 12 := ⟨gw_in (gt_8 (List.mem_of_getElem? (i := 34) rfl)) rfl, gw_in (gt_p (q := (yX12_goes, 45)) (List.mem_of_getElem? (i := 68) rfl)) rfl, by decide, _, rfl, rfl⟩
theorem mt_X12_work : mt_ok yX12_work cX12_work 2 (some .int) 1 := ⟨gw_in (gt_8 (List.mem_of_getElem? (i := 20) rfl)) rfl, gw_in (gt_1 (List.mem_of_getElem? (i := 13) rfl)) rfl, by decide +kernel, by decide⟩
theorem mv_X12_work : mt_v yX12_work 12 := ⟨gw_in (gt_8 (List.mem_of_getElem? (i := 18) rfl)) rfl, gw_in (gt_8 (List.mem_of_getElem? (i := 19) rfl)) rfl, by decide, _, rfl, rfl⟩
theorem mt_X12_undo : mt_ok yX12_undo cX12_undo 1 (some .int) 0 := ⟨gw_in (gt_8 (List.mem_of_getElem? (i := 121) rfl)) rfl, gw_in (gt_1 (List.mem_of_getElem? (i := 13) rfl)) rfl, by decide +kernel, by decide⟩
theorem mv_X12_undo : mt_v yX12_undo 12 := ⟨gw_in (gt_8 (List.mem_of_getElem? (i := 119) rfl)) rfl, gw_in (gt_8 (List.mem_of_getElem? (i := 120) rfl)) rfl, by decide, _, rfl, rfl⟩
theorem mt_X12_sizes : mt_ok yX12_sizes cX12_sizes 4 (some .int) 1 := ⟨gw_in (gt_8 (List.mem_of_getElem? (i := 129) rfl)) rfl, gw_in (gt_1 (List.mem_of_getElem? (i := 13) rfl)) rfl, by decide +kernel, by decide⟩
theorem mv_X12_sizes : mt_v yX12_sizes 12 := ⟨gw_in (gt_8 (List.mem_of_getElem? (i := 128) rfl)) rfl, gw_in (gt_p (q := (yX12_sizes, 45)) (List.mem_of_getElem? (i := 85) rfl)) rfl, by decide, _, rfl, rfl⟩
theorem mt_X12_told : mt_ok yX12_told cX12_told 2 (some .int) 1 := ⟨gw_in (gt_8 (List.mem_of_getElem? (i := 125) rfl)) rfl, gw_in (gt_1 (List.mem_of_getElem? (i := 13) rfl)) rfl, by decide +kernel, by decide⟩
theorem mv_X12_told : mt_v yX12_told 12 := ⟨gw_in (gt_8 (List.mem_of_getElem? (i := 123) rfl)) rfl, gw_in (gt_8 (List.mem_of_getElem? (i := 124) rfl)) rfl, by decide, _, rfl, rfl⟩
theorem mt_X12_isThing : mt_ok yX12_isThing cX12_isThing 3 (some .boolean) 2 := ⟨gw_in (gt_8 (List.mem_of_getElem? (i := 137) rfl)) rfl, gw_in (gt_1 (List.mem_of_getElem? (i := 13) rfl)) rfl, by decide +kernel, by decide⟩
theorem mv_X12_isThing : mt_v yX12_isThing 12 := ⟨gw_in (gt_8 (List.mem_of_getElem? (i := 136) rfl)) rfl, gw_in (gt_p (q := (yX12_isThing, 45)) (List.mem_of_getElem? (i := 86) rfl)) rfl, by decide, _, rfl, rfl⟩
theorem mt_X12_room : mt_ok yX12_room cX12_room 5 (some .int) 2 := ⟨gw_in (gt_8 (List.mem_of_getElem? (i := 133) rfl)) rfl, gw_in (gt_1 (List.mem_of_getElem? (i := 13) rfl)) rfl, by decide +kernel, by decide⟩
theorem mv_X12_room : mt_v yX12_room 12 := ⟨gw_in (gt_8 (List.mem_of_getElem? (i := 131) rfl)) rfl, gw_in (gt_8 (List.mem_of_getElem? (i := 132) rfl)) rfl, by decide, _, rfl, rfl⟩
theorem mt_X12_way : mt_ok yX12_way cX12_way 3 (some .int) 2 := ⟨gw_in (gt_8 (List.mem_of_getElem? (i := 141) rfl)) rfl, gw_in (gt_1 (List.mem_of_getElem? (i := 13) rfl)) rfl, by decide +kernel, by decide⟩
theorem mv_X12_way : mt_v yX12_way 12 := ⟨gw_in (gt_8 (List.mem_of_getElem? (i := 139) rfl)) rfl, gw_in (gt_8 (List.mem_of_getElem? (i := 140) rfl)) rfl, by decide, _, rfl, rfl⟩
theorem mt_X12_scheme : mt_ok yX12_scheme cX12_scheme 3 (some .int) 2 := ⟨gw_in (gt_8 (List.mem_of_getElem? (i := 145) rfl)) rfl, gw_in (gt_1 (List.mem_of_getElem? (i := 13) rfl)) rfl, by decide +kernel, by decide⟩
theorem mv_X12_scheme : mt_v yX12_scheme 12 := ⟨gw_in (gt_8 (List.mem_of_getElem? (i := 143) rfl)) rfl, gw_in (gt_8 (List.mem_of_getElem? (i := 144) rfl)) rfl, by decide, _, rfl, rfl⟩
theorem mt_X12_cat : mt_ok yX12_cat cX12_cat 3 (some .int) 2 := ⟨gw_in (gt_8 (List.mem_of_getElem? (i := 149) rfl)) rfl, gw_in (gt_1 (List.mem_of_getElem? (i := 13) rfl)) rfl, by decide +kernel, by decide⟩
theorem mv_X12_cat : mt_v yX12_cat 12 := ⟨gw_in (gt_8 (List.mem_of_getElem? (i := 147) rfl)) rfl, gw_in (gt_8 (List.mem_of_getElem? (i := 148) rfl)) rfl, by decide, _, rfl, rfl⟩
theorem mt_X12_more : mt_ok yX12_more cX12_more 2 (some .int) 1 := ⟨gw_in (gt_8 (List.mem_of_getElem? (i := 153) rfl)) rfl, gw_in (gt_1 (List.mem_of_getElem? (i := 13) rfl)) rfl, by decide +kernel, by decide⟩
theorem mv_X12_more : mt_v yX12_more 12 := ⟨gw_in (gt_8 (List.mem_of_getElem? (i := 151) rfl)) rfl, gw_in (gt_8 (List.mem_of_getElem? (i := 152) rfl)) rfl, by decide, _, rfl, rfl⟩
theorem mt_X12_would : mt_ok yX12_would cX12_would 8 (some .int) 7 := ⟨gw_in (gt_8 (List.mem_of_getElem? (i := 157) rfl)) rfl, gw_in (gt_1 (List.mem_of_getElem? (i := 13) rfl)) rfl, by decide +kernel, by decide⟩
theorem mv_X12_would : mt_v yX12_would 12 := ⟨gw_in (gt_8 (List.mem_of_getElem? (i := 155) rfl)) rfl, gw_in (gt_8 (List.mem_of_getElem? (i := 156) rfl)) rfl, by decide, _, rfl, rfl⟩
theorem mt_X12_ahead : mt_ok yX12_ahead cX12_ahead 4 (some .int) 2 := ⟨gw_in (gt_8 (List.mem_of_getElem? (i := 161) rfl)) rfl, gw_in (gt_1 (List.mem_of_getElem? (i := 13) rfl)) rfl, by decide +kernel, by decide⟩
theorem mv_X12_ahead : mt_v yX12_ahead 12 := ⟨gw_in (gt_8 (List.mem_of_getElem? (i := 159) rfl)) rfl, gw_in (gt_8 (List.mem_of_getElem? (i := 160) rfl)) rfl, by decide, _, rfl, rfl⟩
theorem mt_X12_farOf : mt_ok yX12_farOf cX12_farOf 7 (some .int) 2 := ⟨gw_in (gt_8 (List.mem_of_getElem? (i := 169) rfl)) rfl, gw_in (gt_1 (List.mem_of_getElem? (i := 13) rfl)) rfl, by decide +kernel, by decide⟩
theorem mv_X12_farOf : mt_v yX12_farOf 12 := ⟨gw_in (gt_8 (List.mem_of_getElem? (i := 168) rfl)) rfl, gw_in (gt_p (q := (yX12_farOf, 45)) (List.mem_of_getElem? (i := 87) rfl)) rfl, by decide, _, rfl, rfl⟩
theorem mt_X12_far : mt_ok yX12_far cX12_far 3 (some .int) 2 := ⟨gw_in (gt_8 (List.mem_of_getElem? (i := 165) rfl)) rfl, gw_in (gt_1 (List.mem_of_getElem? (i := 13) rfl)) rfl, by decide +kernel, by decide⟩
theorem mv_X12_far : mt_v yX12_far 12 := ⟨gw_in (gt_8 (List.mem_of_getElem? (i := 163) rfl)) rfl, gw_in (gt_8 (List.mem_of_getElem? (i := 164) rfl)) rfl, by decide, _, rfl, rfl⟩
theorem mt_X12_lasts : mt_ok yX12_lasts cX12_lasts 3 (some .int) 1 := ⟨gw_in (gt_8 (List.mem_of_getElem? (i := 173) rfl)) rfl, gw_in (gt_1 (List.mem_of_getElem? (i := 13) rfl)) rfl, by decide +kernel, by decide⟩
theorem mv_X12_lasts : mt_v yX12_lasts 12 := ⟨gw_in (gt_8 (List.mem_of_getElem? (i := 171) rfl)) rfl, gw_in (gt_8 (List.mem_of_getElem? (i := 172) rfl)) rfl, by decide, _, rfl, rfl⟩
theorem mt_X12_slipsFrom : mt_ok yX12_slipsFrom cX12_slipsFrom 6 none 3 := ⟨gw_in (gt_8 (List.mem_of_getElem? (i := 185) rfl)) rfl, gw_in (gt_1 (List.mem_of_getElem? (i := 13) rfl)) rfl, by decide +kernel, by decide⟩
theorem mv_X12_slipsFrom : mt_v yX12_slipsFrom 12 := ⟨gw_in (gt_8 (List.mem_of_getElem? (i := 184) rfl)) rfl, gw_in (gt_p (q := (yX12_slipsFrom, 45)) (List.mem_of_getElem? (i := 89) rfl)) rfl, by decide, _, rfl, rfl⟩
theorem mt_X12_mayBeIn : mt_ok yX12_mayBeIn cX12_mayBeIn 3 (some .boolean) 1 := ⟨gw_in (gt_8 (List.mem_of_getElem? (i := 181) rfl)) rfl, gw_in (gt_1 (List.mem_of_getElem? (i := 13) rfl)) rfl, by decide +kernel, by decide⟩
theorem mv_X12_mayBeIn : mt_v yX12_mayBeIn 12 := ⟨gw_in (gt_8 (List.mem_of_getElem? (i := 180) rfl)) rfl, gw_in (gt_p (q := (yX12_mayBeIn, 45)) (List.mem_of_getElem? (i := 88) rfl)) rfl, by decide, _, rfl, rfl⟩
theorem mt_X12_slips : mt_ok yX12_slips cX12_slips 5 (some .int) 2 := ⟨gw_in (gt_8 (List.mem_of_getElem? (i := 177) rfl)) rfl, gw_in (gt_1 (List.mem_of_getElem? (i := 13) rfl)) rfl, by decide +kernel, by decide⟩
theorem mv_X12_slips : mt_v yX12_slips 12 := ⟨gw_in (gt_8 (List.mem_of_getElem? (i := 175) rfl)) rfl, gw_in (gt_8 (List.mem_of_getElem? (i := 176) rfl)) rfl, by decide, _, rfl, rfl⟩
theorem mt_X12_hunts : mt_ok yX12_hunts cX12_hunts 7 none 4 := ⟨gw_in (gt_8 (List.mem_of_getElem? (i := 197) rfl)) rfl, gw_in (gt_1 (List.mem_of_getElem? (i := 13) rfl)) rfl, by decide +kernel, by decide⟩
theorem mv_X12_hunts : mt_v yX12_hunts 12 := ⟨gw_in (gt_8 (List.mem_of_getElem? (i := 196) rfl)) rfl, gw_in (gt_p (q := (yX12_hunts, 45)) (List.mem_of_getElem? (i := 91) rfl)) rfl, by decide, _, rfl, rfl⟩
theorem mt_X12_laysHunt : mt_ok yX12_laysHunt cX12_laysHunt 1 none 0 := ⟨gw_in (gt_8 (List.mem_of_getElem? (i := 193) rfl)) rfl, gw_in (gt_1 (List.mem_of_getElem? (i := 13) rfl)) rfl, by decide +kernel, by decide⟩
theorem mv_X12_laysHunt : mt_v yX12_laysHunt 12 := ⟨gw_in (gt_8 (List.mem_of_getElem? (i := 192) rfl)) rfl, gw_in (gt_p (q := (yX12_laysHunt, 45)) (List.mem_of_getElem? (i := 90) rfl)) rfl, by decide, _, rfl, rfl⟩
theorem mt_X12_hunt : mt_ok yX12_hunt cX12_hunt 2 (some .int) 1 := ⟨gw_in (gt_8 (List.mem_of_getElem? (i := 189) rfl)) rfl, gw_in (gt_1 (List.mem_of_getElem? (i := 13) rfl)) rfl, by decide +kernel, by decide⟩
theorem mv_X12_hunt : mt_v yX12_hunt 12 := ⟨gw_in (gt_8 (List.mem_of_getElem? (i := 187) rfl)) rfl, gw_in (gt_8 (List.mem_of_getElem? (i := 188) rfl)) rfl, by decide, _, rfl, rfl⟩
theorem mt_X12_prey : mt_ok yX12_prey cX12_prey 2 (some .int) 1 := ⟨gw_in (gt_8 (List.mem_of_getElem? (i := 201) rfl)) rfl, gw_in (gt_1 (List.mem_of_getElem? (i := 13) rfl)) rfl, by decide +kernel, by decide⟩
theorem mv_X12_prey : mt_v yX12_prey 12 := ⟨gw_in (gt_8 (List.mem_of_getElem? (i := 199) rfl)) rfl, gw_in (gt_8 (List.mem_of_getElem? (i := 200) rfl)) rfl, by decide, _, rfl, rfl⟩
theorem mt_X12_sums : mt_ok yX12_sums cX12_sums 7 (some .int) 2 := ⟨gw_in (gt_8 (List.mem_of_getElem? (i := 205) rfl)) rfl, gw_in (gt_1 (List.mem_of_getElem? (i := 13) rfl)) rfl, by decide +kernel, by decide⟩
theorem mv_X12_sums : mt_v yX12_sums 12 := ⟨gw_in (gt_8 (List.mem_of_getElem? (i := 203) rfl)) rfl, gw_in (gt_8 (List.mem_of_getElem? (i := 204) rfl)) rfl, by decide, _, rfl, rfl⟩
theorem mt_X12_isSo : mt_ok yX12_isSo cX12_isSo 4 (some .boolean) 2 := ⟨gw_in (gt_8 (List.mem_of_getElem? (i := 213) rfl)) rfl, gw_in (gt_1 (List.mem_of_getElem? (i := 13) rfl)) rfl, by decide +kernel, by decide⟩
theorem mv_X12_isSo : mt_v yX12_isSo 12 := ⟨gw_in (gt_8 (List.mem_of_getElem? (i := 212) rfl)) rfl, gw_in (gt_p (q := (yX12_isSo, 45)) (List.mem_of_getElem? (i := 92) rfl)) rfl, by decide, _, rfl, rfl⟩
theorem mt_X12_fits : mt_ok yX12_fits cX12_fits 6 (some .int) 1 := ⟨gw_in (gt_8 (List.mem_of_getElem? (i := 209) rfl)) rfl, gw_in (gt_1 (List.mem_of_getElem? (i := 13) rfl)) rfl, by decide +kernel, by decide⟩
theorem mv_X12_fits : mt_v yX12_fits 12 := ⟨gw_in (gt_8 (List.mem_of_getElem? (i := 207) rfl)) rfl, gw_in (gt_8 (List.mem_of_getElem? (i := 208) rfl)) rfl, by decide, _, rfl, rfl⟩
theorem mt_X12_isTold : mt_ok yX12_isTold cX12_isTold 3 (some .boolean) 1 := ⟨gw_in (gt_8 (List.mem_of_getElem? (i := 221) rfl)) rfl, gw_in (gt_1 (List.mem_of_getElem? (i := 13) rfl)) rfl, by decide +kernel, by decide⟩
theorem mv_X12_isTold : mt_v yX12_isTold 12 := ⟨gw_in (gt_8 (List.mem_of_getElem? (i := 220) rfl)) rfl, gw_in (gt_p (q := (yX12_isTold, 45)) (List.mem_of_getElem? (i := 93) rfl)) rfl, by decide, _, rfl, rfl⟩
theorem mt_X12_worstAt : mt_ok yX12_worstAt cX12_worstAt 6 (some .int) 1 := ⟨gw_in (gt_8 (List.mem_of_getElem? (i := 225) rfl)) rfl, gw_in (gt_1 (List.mem_of_getElem? (i := 13) rfl)) rfl, by decide +kernel, by decide⟩
theorem mv_X12_worstAt : mt_v yX12_worstAt 12 := ⟨gw_in (gt_8 (List.mem_of_getElem? (i := 224) rfl)) rfl, gw_in (gt_p (q := (yX12_worstAt, 45)) (List.mem_of_getElem? (i := 94) rfl)) rfl, by decide, _, rfl, rfl⟩
theorem mt_X12_look : mt_ok yX12_look cX12_look 6 (some .int) 1 := ⟨gw_in (gt_8 (List.mem_of_getElem? (i := 217) rfl)) rfl, gw_in (gt_1 (List.mem_of_getElem? (i := 13) rfl)) rfl, by decide +kernel, by decide⟩
theorem mv_X12_look : mt_v yX12_look 12 := ⟨gw_in (gt_8 (List.mem_of_getElem? (i := 215) rfl)) rfl, gw_in (gt_8 (List.mem_of_getElem? (i := 216) rfl)) rfl, by decide, _, rfl, rfl⟩
theorem mt_X12_hasBy : mt_ok yX12_hasBy cX12_hasBy 4 (some .int) 4 := ⟨gw_in (gt_8 (List.mem_of_getElem? (i := 235) rfl)) rfl, gw_in (gt_1 (List.mem_of_getElem? (i := 13) rfl)) rfl, by decide +kernel, by decide⟩
theorem ms_X12_hasBy : Cond.static yX12_hasBy ∈ gw_tbl := gw_in (gt_8 (List.mem_of_getElem? (i := 234) rfl)) rfl
theorem mt_X12_isBest : mt_ok yX12_isBest cX12_isBest 4 (some .boolean) 4 := ⟨gw_in (gt_8 (List.mem_of_getElem? (i := 232) rfl)) rfl, gw_in (gt_1 (List.mem_of_getElem? (i := 13) rfl)) rfl, by decide +kernel, by decide⟩
theorem ms_X12_isBest : Cond.static yX12_isBest ∈ gw_tbl := gw_in (gt_8 (List.mem_of_getElem? (i := 231) rfl)) rfl
theorem mt_X12_uncle : mt_ok yX12_uncle cX12_uncle 9 (some .int) 3 := ⟨gw_in (gt_8 (List.mem_of_getElem? (i := 229) rfl)) rfl, gw_in (gt_1 (List.mem_of_getElem? (i := 13) rfl)) rfl, by decide +kernel, by decide⟩
theorem mv_X12_uncle : mt_v yX12_uncle 12 := ⟨gw_in (gt_8 (List.mem_of_getElem? (i := 227) rfl)) rfl, gw_in (gt_8 (List.mem_of_getElem? (i := 228) rfl)) rfl, by decide, _, rfl, rfl⟩
theorem mt_X12_boat : mt_ok yX12_boat cX12_boat 15 (some .long) 4 := ⟨gw_in (gt_8 (List.mem_of_getElem? (i := 239) rfl)) rfl, gw_in (gt_1 (List.mem_of_getElem? (i := 13) rfl)) rfl, by decide +kernel, by decide⟩
theorem mv_X12_boat : mt_v yX12_boat 12 := ⟨gw_in (gt_8 (List.mem_of_getElem? (i := 237) rfl)) rfl, gw_in (gt_8 (List.mem_of_getElem? (i := 238) rfl)) rfl, by decide, _, rfl, rfl⟩
theorem mt_X12_sizeNow : mt_ok yX12_sizeNow cX12_sizeNow 2 (some .int) 1 := ⟨gw_in (gt_9 (List.mem_of_getElem? (i := 11) rfl)) rfl, gw_in (gt_1 (List.mem_of_getElem? (i := 13) rfl)) rfl, by decide +kernel, by decide⟩
theorem mv_X12_sizeNow : mt_v yX12_sizeNow 12 := ⟨gw_in (gt_9 (List.mem_of_getElem? (i := 10) rfl)) rfl, gw_in (gt_p (q := (yX12_sizeNow, 45)) (List.mem_of_getElem? (i := 96) rfl)) rfl, by decide, _, rfl, rfl⟩
theorem mt_X12_givenBy : mt_ok yX12_givenBy cX12_givenBy 5 (some .int) 2 := ⟨gw_in (gt_9 (List.mem_of_getElem? (i := 7) rfl)) rfl, gw_in (gt_1 (List.mem_of_getElem? (i := 13) rfl)) rfl, by decide +kernel, by decide⟩
theorem mv_X12_givenBy : mt_v yX12_givenBy 12 := ⟨gw_in (gt_9 (List.mem_of_getElem? (i := 6) rfl)) rfl, gw_in (gt_p (q := (yX12_givenBy, 45)) (List.mem_of_getElem? (i := 95) rfl)) rfl, by decide, _, rfl, rfl⟩
theorem mt_X12_crumbs : mt_ok yX12_crumbs cX12_crumbs 5 (some .int) 3 := ⟨gw_in (gt_9 (List.mem_of_getElem? (i := 3) rfl)) rfl, gw_in (gt_1 (List.mem_of_getElem? (i := 13) rfl)) rfl, by decide +kernel, by decide⟩
theorem mv_X12_crumbs : mt_v yX12_crumbs 12 := ⟨gw_in (gt_9 (List.mem_of_getElem? (i := 1) rfl)) rfl, gw_in (gt_9 (List.mem_of_getElem? (i := 2) rfl)) rfl, by decide, _, rfl, rfl⟩
theorem mt_X12_greatest : mt_ok yX12_greatest cX12_greatest 4 (some .int) 1 := ⟨gw_in (gt_9 (List.mem_of_getElem? (i := 15) rfl)) rfl, gw_in (gt_1 (List.mem_of_getElem? (i := 13) rfl)) rfl, by decide +kernel, by decide⟩
theorem mv_X12_greatest : mt_v yX12_greatest 12 := ⟨gw_in (gt_9 (List.mem_of_getElem? (i := 13) rfl)) rfl, gw_in (gt_9 (List.mem_of_getElem? (i := 14) rfl)) rfl, by decide, _, rfl, rfl⟩
theorem mt_X12_proud : mt_ok yX12_proud cX12_proud 5 (some .int) 1 := ⟨gw_in (gt_9 (List.mem_of_getElem? (i := 23) rfl)) rfl, gw_in (gt_1 (List.mem_of_getElem? (i := 13) rfl)) rfl, by decide +kernel, by decide⟩
theorem mv_X12_proud : mt_v yX12_proud 12 := ⟨gw_in (gt_9 (List.mem_of_getElem? (i := 22) rfl)) rfl, gw_in (gt_p (q := (yX12_proud, 45)) (List.mem_of_getElem? (i := 97) rfl)) rfl, by decide, _, rfl, rfl⟩
theorem mt_X12_proudest : mt_ok yX12_proudest cX12_proudest 3 (some .int) 1 := ⟨gw_in (gt_9 (List.mem_of_getElem? (i := 19) rfl)) rfl, gw_in (gt_1 (List.mem_of_getElem? (i := 13) rfl)) rfl, by decide +kernel, by decide⟩
theorem mv_X12_proudest : mt_v yX12_proudest 12 := ⟨gw_in (gt_9 (List.mem_of_getElem? (i := 17) rfl)) rfl, gw_in (gt_9 (List.mem_of_getElem? (i := 18) rfl)) rfl, by decide, _, rfl, rfl⟩
theorem mt_X12_safe : mt_ok yX12_safe cX12_safe 3 (some .int) 0 := ⟨gw_in (gt_9 (List.mem_of_getElem? (i := 27) rfl)) rfl, gw_in (gt_1 (List.mem_of_getElem? (i := 13) rfl)) rfl, by decide +kernel, by decide⟩
theorem mv_X12_safe : mt_v yX12_safe 12 := ⟨gw_in (gt_9 (List.mem_of_getElem? (i := 25) rfl)) rfl, gw_in (gt_9 (List.mem_of_getElem? (i := 26) rfl)) rfl, by decide, _, rfl, rfl⟩
theorem mt_X12_doomed : mt_ok yX12_doomed cX12_doomed 1 (some .int) 0 := ⟨gw_in (gt_9 (List.mem_of_getElem? (i := 31) rfl)) rfl, gw_in (gt_1 (List.mem_of_getElem? (i := 13) rfl)) rfl, by decide +kernel, by decide⟩
theorem mv_X12_doomed : mt_v yX12_doomed 12 := ⟨gw_in (gt_9 (List.mem_of_getElem? (i := 29) rfl)) rfl, gw_in (gt_9 (List.mem_of_getElem? (i := 30) rfl)) rfl, by decide, _, rfl, rfl⟩
theorem mt_X12_havens : mt_ok yX12_havens cX12_havens 4 (some .int) 1 := ⟨gw_in (gt_9 (List.mem_of_getElem? (i := 35) rfl)) rfl, gw_in (gt_1 (List.mem_of_getElem? (i := 13) rfl)) rfl, by decide +kernel, by decide⟩
theorem mv_X12_havens : mt_v yX12_havens 12 := ⟨gw_in (gt_9 (List.mem_of_getElem? (i := 33) rfl)) rfl, gw_in (gt_9 (List.mem_of_getElem? (i := 34) rfl)) rfl, by decide, _, rfl, rfl⟩
theorem mt_X12_hungry : mt_ok yX12_hungry cX12_hungry 3 (some .int) 0 := ⟨gw_in (gt_9 (List.mem_of_getElem? (i := 39) rfl)) rfl, gw_in (gt_1 (List.mem_of_getElem? (i := 13) rfl)) rfl, by decide +kernel, by decide⟩
theorem mv_X12_hungry : mt_v yX12_hungry 12 := ⟨gw_in (gt_9 (List.mem_of_getElem? (i := 37) rfl)) rfl, gw_in (gt_9 (List.mem_of_getElem? (i := 38) rfl)) rfl, by decide, _, rfl, rfl⟩
theorem mt_X12_crowd : mt_ok yX12_crowd cX12_crowd 7 (some .int) 1 := ⟨gw_in (gt_9 (List.mem_of_getElem? (i := 43) rfl)) rfl, gw_in (gt_1 (List.mem_of_getElem? (i := 13) rfl)) rfl, by decide +kernel, by decide⟩
theorem mv_X12_crowd : mt_v yX12_crowd 12 := ⟨gw_in (gt_9 (List.mem_of_getElem? (i := 41) rfl)) rfl, gw_in (gt_9 (List.mem_of_getElem? (i := 42) rfl)) rfl, by decide, _, rfl, rfl⟩
theorem mt_X12_grown : mt_ok yX12_grown cX12_grown 4 (some .int) 2 := ⟨gw_in (gt_9 (List.mem_of_getElem? (i := 47) rfl)) rfl, gw_in (gt_1 (List.mem_of_getElem? (i := 13) rfl)) rfl, by decide +kernel, by decide⟩
theorem mv_X12_grown : mt_v yX12_grown 12 := ⟨gw_in (gt_9 (List.mem_of_getElem? (i := 45) rfl)) rfl, gw_in (gt_9 (List.mem_of_getElem? (i := 46) rfl)) rfl, by decide, _, rfl, rfl⟩
theorem mt_X12_escapes : mt_ok yX12_escapes cX12_escapes 4 (some .int) 1 := ⟨gw_in (gt_9 (List.mem_of_getElem? (i := 51) rfl)) rfl, gw_in (gt_1 (List.mem_of_getElem? (i := 13) rfl)) rfl, by decide +kernel, by decide⟩
theorem mv_X12_escapes : mt_v yX12_escapes 12 := ⟨gw_in (gt_9 (List.mem_of_getElem? (i := 49) rfl)) rfl, gw_in (gt_9 (List.mem_of_getElem? (i := 50) rfl)) rfl, by decide, _, rfl, rfl⟩
theorem mt_X12_weight : mt_ok yX12_weight cX12_weight 4 (some .int) 1 := ⟨gw_in (gt_9 (List.mem_of_getElem? (i := 55) rfl)) rfl, gw_in (gt_1 (List.mem_of_getElem? (i := 13) rfl)) rfl, by decide +kernel, by decide⟩
theorem mv_X12_weight : mt_v yX12_weight 12 := ⟨gw_in (gt_9 (List.mem_of_getElem? (i := 53) rfl)) rfl, gw_in (gt_9 (List.mem_of_getElem? (i := 54) rfl)) rfl, by decide, _, rfl, rfl⟩
theorem mt_X12_draw : mt_ok yX12_draw cX12_draw 2 (some .int) 1 := ⟨gw_in (gt_9 (List.mem_of_getElem? (i := 70) rfl)) rfl, gw_in (gt_1 (List.mem_of_getElem? (i := 13) rfl)) rfl, by decide +kernel, by decide⟩
theorem mv_X12_draw : mt_v yX12_draw 12 := ⟨gw_in (gt_9 (List.mem_of_getElem? (i := 69) rfl)) rfl, gw_in (gt_p (q := (yX12_draw, 45)) (List.mem_of_getElem? (i := 99) rfl)) rfl, by decide, _, rfl, rfl⟩
theorem mt_X12_seasonBy : mt_ok yX12_seasonBy cX12_seasonBy 7 none 3 := ⟨gw_in (gt_9 (List.mem_of_getElem? (i := 66) rfl)) rfl, gw_in (gt_1 (List.mem_of_getElem? (i := 13) rfl)) rfl, by decide +kernel, by decide⟩
theorem mv_X12_seasonBy : mt_v yX12_seasonBy 12 := ⟨gw_in (gt_9 (List.mem_of_getElem? (i := 65) rfl)) rfl, gw_in (gt_p (q := (yX12_seasonBy, 45)) (List.mem_of_getElem? (i := 98) rfl)) rfl, by decide, _, rfl, rfl⟩
theorem mt_X12_isSeason : mt_ok yX12_isSeason cX12_isSeason 2 (some .boolean) 2 := ⟨gw_in (gt_9 (List.mem_of_getElem? (i := 62) rfl)) rfl, gw_in (gt_1 (List.mem_of_getElem? (i := 13) rfl)) rfl, by decide +kernel, by decide⟩
theorem ms_X12_isSeason : Cond.static yX12_isSeason ∈ gw_tbl := gw_in (gt_9 (List.mem_of_getElem? (i := 61) rfl)) rfl
theorem mt_X12_season : mt_ok yX12_season cX12_season 5 (some .int) 4 := ⟨gw_in (gt_9 (List.mem_of_getElem? (i := 59) rfl)) rfl, gw_in (gt_1 (List.mem_of_getElem? (i := 13) rfl)) rfl, by decide +kernel, by decide⟩
theorem mv_X12_season : mt_v yX12_season 12 := ⟨gw_in (gt_9 (List.mem_of_getElem? (i := 57) rfl)) rfl, gw_in (gt_9 (List.mem_of_getElem? (i := 58) rfl)) rfl, by decide, _, rfl, rfl⟩
theorem mt_X12_span : mt_ok yX12_span cX12_span 12 (some .int) 6 := ⟨gw_in (gt_9 (List.mem_of_getElem? (i := 75) rfl)) rfl, gw_in (gt_1 (List.mem_of_getElem? (i := 13) rfl)) rfl, by decide +kernel, by decide⟩
theorem mv_X12_span : mt_v yX12_span 12 := ⟨gw_in (gt_9 (List.mem_of_getElem? (i := 73) rfl)) rfl, gw_in (gt_9 (List.mem_of_getElem? (i := 74) rfl)) rfl, by decide, _, rfl, rfl⟩
theorem mt_X12_puts : mt_ok yX12_puts cX12_puts 4 (some .int) 3 := ⟨gw_in (gt_9 (List.mem_of_getElem? (i := 87) rfl)) rfl, gw_in (gt_1 (List.mem_of_getElem? (i := 13) rfl)) rfl, by decide +kernel, by decide⟩
theorem mv_X12_puts : mt_v yX12_puts 12 := ⟨gw_in (gt_9 (List.mem_of_getElem? (i := 86) rfl)) rfl, gw_in (gt_p (q := (yX12_puts, 45)) (List.mem_of_getElem? (i := 101) rfl)) rfl, by decide, _, rfl, rfl⟩
theorem mt_X12_putsAll : mt_ok yX12_putsAll cX12_putsAll 5 none 2 := ⟨gw_in (gt_9 (List.mem_of_getElem? (i := 83) rfl)) rfl, gw_in (gt_1 (List.mem_of_getElem? (i := 13) rfl)) rfl, by decide +kernel, by decide⟩
theorem mv_X12_putsAll : mt_v yX12_putsAll 12 := ⟨gw_in (gt_9 (List.mem_of_getElem? (i := 82) rfl)) rfl, gw_in (gt_p (q := (yX12_putsAll, 45)) (List.mem_of_getElem? (i := 100) rfl)) rfl, by decide, _, rfl, rfl⟩
theorem mt_X12_image : mt_ok yX12_image cX12_image 1 (some .int) 0 := ⟨gw_in (gt_9 (List.mem_of_getElem? (i := 79) rfl)) rfl, gw_in (gt_1 (List.mem_of_getElem? (i := 13) rfl)) rfl, by decide +kernel, by decide⟩
theorem mv_X12_image : mt_v yX12_image 12 := ⟨gw_in (gt_9 (List.mem_of_getElem? (i := 77) rfl)) rfl, gw_in (gt_9 (List.mem_of_getElem? (i := 78) rfl)) rfl, by decide, _, rfl, rfl⟩
theorem mt_X12_restore : mt_ok yX12_restore cX12_restore 1 (some .int) 0 := ⟨gw_in (gt_9 (List.mem_of_getElem? (i := 91) rfl)) rfl, gw_in (gt_1 (List.mem_of_getElem? (i := 13) rfl)) rfl, by decide +kernel, by decide⟩
theorem mv_X12_restore : mt_v yX12_restore 12 := ⟨gw_in (gt_9 (List.mem_of_getElem? (i := 89) rfl)) rfl, gw_in (gt_9 (List.mem_of_getElem? (i := 90) rfl)) rfl, by decide, _, rfl, rfl⟩
theorem mt_X12_status : mt_ok yX12_status cX12_status 2 (some .int) 1 := ⟨gw_in (gt_9 (List.mem_of_getElem? (i := 95) rfl)) rfl, gw_in (gt_1 (List.mem_of_getElem? (i := 13) rfl)) rfl, by decide +kernel, by decide⟩
theorem mv_X12_status : mt_v yX12_status 12 := ⟨gw_in (gt_9 (List.mem_of_getElem? (i := 93) rfl)) rfl, gw_in (gt_9 (List.mem_of_getElem? (i := 94) rfl)) rfl, by decide, _, rfl, rfl⟩
theorem mt_X12_count : mt_ok yX12_count cX12_count 2 (some .int) 1 := ⟨gw_in (gt_9 (List.mem_of_getElem? (i := 99) rfl)) rfl, gw_in (gt_1 (List.mem_of_getElem? (i := 13) rfl)) rfl, by decide +kernel, by decide⟩
theorem mv_X12_count : mt_v yX12_count 12 := ⟨gw_in (gt_9 (List.mem_of_getElem? (i := 97) rfl)) rfl, gw_in (gt_9 (List.mem_of_getElem? (i := 98) rfl)) rfl, by decide, _, rfl, rfl⟩
theorem mt_J6_bitCount_0f7a4 : mt_ok yJ6_bitCount_0f7a4 cJ6_bitCount_0f7a4 1 (some .int) 1 := ⟨gw_in (gt_3 (List.mem_of_getElem? (i := 23) rfl)) rfl, gw_in (gt_1 (List.mem_of_getElem? (i := 24) rfl)) rfl, by decide +kernel, by decide⟩
theorem ms_J6_bitCount_0f7a4 : Cond.static yJ6_bitCount_0f7a4 ∈ gw_tbl := gw_in (gt_3 (List.mem_of_getElem? (i := 22) rfl)) rfl
theorem lk_X11_96 : Cond.methodLink RX11 96 yX10_hasRoomForFive ∈ gw_tbl := gw_in (gt_2 (List.mem_of_getElem? (i := 169) rfl)) rfl
theorem lk_X11_100 : Cond.methodLink RX11 100 yX10_put ∈ gw_tbl := gw_in (gt_2 (List.mem_of_getElem? (i := 173) rfl)) rfl
theorem lk_X11_104 : Cond.methodLink RX11 104 yX10_bytesOnIt ∈ gw_tbl := gw_in (gt_2 (List.mem_of_getElem? (i := 177) rfl)) rfl
theorem lk_X11_108 : Cond.methodLink RX11 108 yX11_openText ∈ gw_tbl := gw_in (gt_3 (List.mem_of_getElem? (i := 104) rfl)) rfl
theorem lk_X11_112 : Cond.methodLink RX11 112 yX3_read ∈ gw_tbl := gw_in (gt_3 (List.mem_of_getElem? (i := 189) rfl)) rfl
theorem lk_X11_116 : Cond.methodLink RX11 116 yX10_failed ∈ gw_tbl := gw_in (gt_4 (List.mem_of_getElem? (i := 72) rfl)) rfl
theorem lk_X11_119 : Cond.methodLink RX11 119 yX10_faultAnswer ∈ gw_tbl := gw_in (gt_4 (List.mem_of_getElem? (i := 76) rfl)) rfl
theorem lk_X11_122 : Cond.methodLink RX11 122 yX3_copyFrom ∈ gw_tbl := gw_in (gt_4 (List.mem_of_getElem? (i := 80) rfl)) rfl
theorem lk_X11_125 : Cond.methodLink RX11 125 yX4_forget ∈ gw_tbl := gw_in (gt_4 (List.mem_of_getElem? (i := 85) rfl)) rfl
theorem lk_X11_128 : Cond.methodLink RX11 128 yX0_forget ∈ gw_tbl := gw_in (gt_4 (List.mem_of_getElem? (i := 89) rfl)) rfl
theorem lk_X11_129 : Cond.methodLink RX11 129 yX5_forget ∈ gw_tbl := gw_in (gt_4 (List.mem_of_getElem? (i := 93) rfl)) rfl
theorem lk_X11_130 : Cond.methodLink RX11 130 yX8_begin ∈ gw_tbl := gw_in (gt_4 (List.mem_of_getElem? (i := 97) rfl)) rfl
theorem lk_X11_140 : Cond.methodLink RX11 140 yX4_read ∈ gw_tbl := gw_in (gt_4 (List.mem_of_getElem? (i := 108) rfl)) rfl
theorem lk_X11_141 : Cond.methodLink RX11 141 yX5_isFull ∈ gw_tbl := gw_in (gt_4 (List.mem_of_getElem? (i := 168) rfl)) rfl
theorem lk_X11_144 : Cond.methodLink RX11 144 yX9_read ∈ gw_tbl := gw_in (gt_4 (List.mem_of_getElem? (i := 172) rfl)) rfl
theorem lk_X11_147 : Cond.methodLink RX11 147 yX5_keepWork ∈ gw_tbl := gw_in (gt_4 (List.mem_of_getElem? (i := 202) rfl)) rfl
theorem lk_X11_151 : Cond.methodLink RX11 151 yX9_begin ∈ gw_tbl := gw_in (gt_4 (List.mem_of_getElem? (i := 207) rfl)) rfl
theorem lk_X11_152 : Cond.methodLink RX11 152 yX9_many ∈ gw_tbl := gw_in (gt_4 (List.mem_of_getElem? (i := 211) rfl)) rfl
theorem lk_X11_155 : Cond.methodLink RX11 155 yX9_run ∈ gw_tbl := gw_in (gt_4 (List.mem_of_getElem? (i := 215) rfl)) rfl
theorem lk_X11_168 : Cond.methodLink RX11 168 yX0_read ∈ gw_tbl := gw_in (gt_5 (List.mem_of_getElem? (i := 20) rfl)) rfl
theorem lk_X11_171 : Cond.methodLink RX11 171 yX0_many ∈ gw_tbl := gw_in (gt_5 (List.mem_of_getElem? (i := 29) rfl)) rfl
theorem lk_X11_172 : Cond.methodLink RX11 172 yX10_faultPlace ∈ gw_tbl := gw_in (gt_2 (List.mem_of_getElem? (i := 185) rfl)) rfl
theorem lk_X11_175 : Cond.methodLink RX11 175 yX5_takeBackWork ∈ gw_tbl := gw_in (gt_2 (List.mem_of_getElem? (i := 193) rfl)) rfl
theorem lk_X11_182 : Cond.methodLink RX11 182 yX11_demandWithin ∈ gw_tbl := gw_in (gt_3 (List.mem_of_getElem? (i := 109) rfl)) rfl
theorem lk_X11_192 : Cond.methodLink RX11 192 yX8_night ∈ gw_tbl := gw_in (gt_5 (List.mem_of_getElem? (i := 41) rfl)) rfl
theorem lk_X11_195 : Cond.methodLink RX11 195 yX8_living ∈ gw_tbl := gw_in (gt_2 (List.mem_of_getElem? (i := 228) rfl)) rfl
theorem lk_X11_198 : Cond.methodLink RX11 198 yX8_onMat ∈ gw_tbl := gw_in (gt_3 (List.mem_of_getElem? (i := 71) rfl)) rfl
theorem lk_X11_201 : Cond.methodLink RX11 201 yX8_joined ∈ gw_tbl := gw_in (gt_5 (List.mem_of_getElem? (i := 42) rfl)) rfl
theorem lk_X11_204 : Cond.methodLink RX11 204 yX8_shutWays ∈ gw_tbl := gw_in (gt_5 (List.mem_of_getElem? (i := 46) rfl)) rfl
theorem lk_X11_207 : Cond.methodLink RX11 207 yX8_sizeOf ∈ gw_tbl := gw_in (gt_5 (List.mem_of_getElem? (i := 50) rfl)) rfl
theorem lk_X11_211 : Cond.methodLink RX11 211 yX11_demandOneOf ∈ gw_tbl := gw_in (gt_5 (List.mem_of_getElem? (i := 62) rfl)) rfl
theorem lk_X11_218 : Cond.methodLink RX11 218 yX8_livingIn ∈ gw_tbl := gw_in (gt_5 (List.mem_of_getElem? (i := 82) rfl)) rfl
theorem lk_X11_221 : Cond.methodLink RX11 221 yX8_catsIn ∈ gw_tbl := gw_in (gt_5 (List.mem_of_getElem? (i := 86) rfl)) rfl
theorem lk_X11_224 : Cond.methodLink RX11 224 yX8_besides ∈ gw_tbl := gw_in (gt_5 (List.mem_of_getElem? (i := 87) rfl)) rfl
theorem lk_X11_233 : Cond.methodLink RX11 233 yX8_roomOf ∈ gw_tbl := gw_in (gt_5 (List.mem_of_getElem? (i := 102) rfl)) rfl
theorem lk_X11_236 : Cond.methodLink RX11 236 yX8_size ∈ gw_tbl := gw_in (gt_5 (List.mem_of_getElem? (i := 103) rfl)) rfl
theorem lk_X11_242 : Cond.methodLink RX11 242 yX8_lives ∈ gw_tbl := gw_in (gt_5 (List.mem_of_getElem? (i := 104) rfl)) rfl
theorem lk_X11_246 : Cond.methodLink RX11 246 yX8_takenWhen ∈ gw_tbl := gw_in (gt_5 (List.mem_of_getElem? (i := 105) rfl)) rfl
theorem lk_X11_249 : Cond.methodLink RX11 249 yX8_takenBy ∈ gw_tbl := gw_in (gt_5 (List.mem_of_getElem? (i := 109) rfl)) rfl
theorem lk_X11_252 : Cond.methodLink RX11 252 yX8_roomOfCat ∈ gw_tbl := gw_in (gt_5 (List.mem_of_getElem? (i := 120) rfl)) rfl
theorem lk_X11_258 : Cond.methodLink RX11 258 yX8_took ∈ gw_tbl := gw_in (gt_5 (List.mem_of_getElem? (i := 121) rfl)) rfl
theorem lk_X11_261 : Cond.methodLink RX11 261 yX8_seenBy ∈ gw_tbl := gw_in (gt_2 (List.mem_of_getElem? (i := 204) rfl)) rfl
theorem lk_X11_264 : Cond.methodLink RX11 264 yX8_growthOf ∈ gw_tbl := gw_in (gt_5 (List.mem_of_getElem? (i := 132) rfl)) rfl
theorem lk_X11_267 : Cond.methodLink RX11 267 yX4_growth ∈ gw_tbl := gw_in (gt_5 (List.mem_of_getElem? (i := 140) rfl)) rfl
theorem lk_X11_271 : Cond.methodLink RX11 271 yX8_greatestOf ∈ gw_tbl := gw_in (gt_6 (List.mem_of_getElem? (i := 131) rfl)) rfl
theorem lk_X11_274 : Cond.methodLink RX11 274 yX8_catThatTookMost ∈ gw_tbl := gw_in (gt_6 (List.mem_of_getElem? (i := 139) rfl)) rfl
theorem lk_X11_277 : Cond.methodLink RX11 277 yX8_hiddenRooms ∈ gw_tbl := gw_in (gt_6 (List.mem_of_getElem? (i := 151) rfl)) rfl
theorem lk_X11_280 : Cond.methodLink RX11 280 yJ6_bitCount_0f7a4 ∈ gw_tbl := gw_in (gt_5 (List.mem_of_getElem? (i := 148) rfl)) rfl
theorem lk_X11_285 : Cond.methodLink RX11 285 yX11_tryNights ∈ gw_tbl := gw_in (gt_3 (List.mem_of_getElem? (i := 0) rfl)) rfl
theorem lk_X11_288 : Cond.methodLink RX11 288 yX8_distance ∈ gw_tbl := gw_in (gt_5 (List.mem_of_getElem? (i := 156) rfl)) rfl
theorem lk_X11_292 : Cond.methodLink RX11 292 yX8_copyFrom ∈ gw_tbl := gw_in (gt_3 (List.mem_of_getElem? (i := 4) rfl)) rfl
theorem lk_X11_294 : Cond.methodLink RX11 294 yX8_passNight ∈ gw_tbl := gw_in (gt_3 (List.mem_of_getElem? (i := 9) rfl)) rfl
theorem lk_X11_297 : Cond.methodLink RX11 297 yX7_fewestNights ∈ gw_tbl := gw_in (gt_5 (List.mem_of_getElem? (i := 174) rfl)) rfl
theorem lk_X11_301 : Cond.methodLink RX11 301 yX1_solve ∈ gw_tbl := gw_in (gt_5 (List.mem_of_getElem? (i := 230) rfl)) rfl
theorem lk_X11_313 : Cond.methodLink RX11 313 yX2_weigh ∈ gw_tbl := gw_in (gt_6 (List.mem_of_getElem? (i := 47) rfl)) rfl
theorem lk_X11_323 : Cond.methodLink RX11 323 yX2_bestToWatch ∈ gw_tbl := gw_in (gt_6 (List.mem_of_getElem? (i := 73) rfl)) rfl
theorem lk_X11_327 : Cond.methodLink RX11 327 yX2_leftAtWorst ∈ gw_tbl := gw_in (gt_6 (List.mem_of_getElem? (i := 86) rfl)) rfl
theorem lk_X11_330 : Cond.methodLink RX11 330 yX6_play ∈ gw_tbl := gw_in (gt_6 (List.mem_of_getElem? (i := 190) rfl)) rfl
theorem lk_X11_333 : Cond.methodLink RX11 333 Lib.Math.min.name ∈ gw_tbl := gw_in (gt_3 (List.mem_of_getElem? (i := 108) rfl)) rfl
theorem lk_X11_338 : Cond.methodLink RX11 338 Lib.Math.max.name ∈ gw_tbl := gw_in (gt_6 (List.mem_of_getElem? (i := 209) rfl)) rfl
theorem lk_X11_341 : Cond.methodLink RX11 341 yX11_isRest ∈ gw_tbl := gw_in (gt_6 (List.mem_of_getElem? (i := 94) rfl)) rfl
theorem lk_X11_345 : Cond.methodLink RX11 345 yX11_gain ∈ gw_tbl := gw_in (gt_6 (List.mem_of_getElem? (i := 97) rfl)) rfl
theorem lk_X11_349 : Cond.methodLink RX11 349 yX11_power ∈ gw_tbl := gw_in (gt_6 (List.mem_of_getElem? (i := 107) rfl)) rfl
theorem lk_X11_353 : Cond.methodLink RX11 353 yX11_commonDivisor ∈ gw_tbl := gw_in (gt_6 (List.mem_of_getElem? (i := 110) rfl)) rfl
theorem lk_X11_357 : Cond.methodLink RX11 357 yX11_givenBelow ∈ gw_tbl := gw_in (gt_6 (List.mem_of_getElem? (i := 120) rfl)) rfl
theorem lk_X11_360 : Cond.methodLink RX11 360 yX5_keepImage ∈ gw_tbl := gw_in (gt_3 (List.mem_of_getElem? (i := 76) rfl)) rfl
theorem lk_X11_366 : Cond.methodLink RX11 366 yX5_takeBackImage ∈ gw_tbl := gw_in (gt_3 (List.mem_of_getElem? (i := 84) rfl)) rfl
theorem lk_X11_387 : Cond.methodLink RX11 387 yX10_open ∈ gw_tbl := gw_in (gt_3 (List.mem_of_getElem? (i := 180) rfl)) rfl
theorem lk_X0_18 : Cond.methodLink RX0 18 yX10_isOver ∈ gw_tbl := gw_in (gt_5 (List.mem_of_getElem? (i := 24) rfl)) rfl
theorem lk_X0_24 : Cond.methodLink RX0 24 yX10_number ∈ gw_tbl := gw_in (gt_5 (List.mem_of_getElem? (i := 25) rfl)) rfl
theorem lk_X0_28 : Cond.methodLink RX0 28 yX10_failed ∈ gw_tbl := gw_in (gt_5 (List.mem_of_getElem? (i := 26) rfl)) rfl
theorem lk_X0_31 : Cond.methodLink RX0 31 yX10_failLatestNumber ∈ gw_tbl := gw_in (gt_5 (List.mem_of_getElem? (i := 27) rfl)) rfl
theorem lk_X0_34 : Cond.methodLink RX0 34 yX10_expect ∈ gw_tbl := gw_in (gt_5 (List.mem_of_getElem? (i := 28) rfl)) rfl
theorem lk_X0_38 : Cond.methodLink RX0 38 yJ6_bitCount_0f7a4 ∈ gw_tbl := gw_in (gt_5 (List.mem_of_getElem? (i := 33) rfl)) rfl
theorem lk_X1_25 : Cond.methodLink RX1 25 yX1_measurePaths ∈ gw_tbl := gw_in (gt_5 (List.mem_of_getElem? (i := 234) rfl)) rfl
theorem lk_X1_38 : Cond.methodLink RX1 38 yJ6_bitCount_0f7a4 ∈ gw_tbl := gw_in (gt_6 (List.mem_of_getElem? (i := 4) rfl)) rfl
theorem lk_X1_44 : Cond.methodLink RX1 44 yX1_bestFor ∈ gw_tbl := gw_in (gt_6 (List.mem_of_getElem? (i := 5) rfl)) rfl
theorem lk_X1_48 : Cond.methodLink RX1 48 yX1_choose ∈ gw_tbl := gw_in (gt_6 (List.mem_of_getElem? (i := 18) rfl)) rfl
theorem lk_X1_51 : Cond.methodLink RX1 51 yX8_roomOf ∈ gw_tbl := gw_in (gt_5 (List.mem_of_getElem? (i := 238) rfl)) rfl
theorem lk_X1_56 : Cond.methodLink RX1 56 yX8_lives ∈ gw_tbl := gw_in (gt_5 (List.mem_of_getElem? (i := 239) rfl)) rfl
theorem lk_X1_60 : Cond.methodLink RX1 60 yX8_size ∈ gw_tbl := gw_in (gt_6 (List.mem_of_getElem? (i := 0) rfl)) rfl
theorem lk_X1_63 : Cond.methodLink RX1 63 yX8_wouldSee ∈ gw_tbl := gw_in (gt_6 (List.mem_of_getElem? (i := 1) rfl)) rfl
theorem lk_X1_67 : Cond.methodLink RX1 67 yX8_roomOfCat ∈ gw_tbl := gw_in (gt_6 (List.mem_of_getElem? (i := 2) rfl)) rfl
theorem lk_X1_70 : Cond.methodLink RX1 70 yX8_distance ∈ gw_tbl := gw_in (gt_6 (List.mem_of_getElem? (i := 3) rfl)) rfl
theorem lk_X1_73 : Cond.methodLink RX1 73 yX1_isFree ∈ gw_tbl := gw_in (gt_6 (List.mem_of_getElem? (i := 9) rfl)) rfl
theorem lk_X1_76 : Cond.methodLink RX1 76 yX1_worth ∈ gw_tbl := gw_in (gt_6 (List.mem_of_getElem? (i := 13) rfl)) rfl
theorem lk_X1_80 : Cond.methodLink RX1 80 Lib.Math.max.name ∈ gw_tbl := gw_in (gt_6 (List.mem_of_getElem? (i := 17) rfl)) rfl
theorem lk_X1_91 : Cond.methodLink RX1 91 yX1_firstBest ∈ gw_tbl := gw_in (gt_6 (List.mem_of_getElem? (i := 22) rfl)) rfl
theorem lk_X2_31 : Cond.methodLink RX2 31 yX8_lives ∈ gw_tbl := gw_in (gt_6 (List.mem_of_getElem? (i := 51) rfl)) rfl
theorem lk_X2_40 : Cond.methodLink RX2 40 yX8_copyFrom ∈ gw_tbl := gw_in (gt_6 (List.mem_of_getElem? (i := 52) rfl)) rfl
theorem lk_X2_44 : Cond.methodLink RX2 44 yX8_putInto ∈ gw_tbl := gw_in (gt_6 (List.mem_of_getElem? (i := 53) rfl)) rfl
theorem lk_X2_48 : Cond.methodLink RX2 48 yX8_passNight ∈ gw_tbl := gw_in (gt_6 (List.mem_of_getElem? (i := 57) rfl)) rfl
theorem lk_X2_52 : Cond.methodLink RX2 52 yX0_agreesWith ∈ gw_tbl := gw_in (gt_6 (List.mem_of_getElem? (i := 58) rfl)) rfl
theorem lk_X2_57 : Cond.methodLink RX2 57 yX2_countPair ∈ gw_tbl := gw_in (gt_6 (List.mem_of_getElem? (i := 62) rfl)) rfl
theorem lk_X2_63 : Cond.methodLink RX2 63 Lib.Math.max.name ∈ gw_tbl := gw_in (gt_6 (List.mem_of_getElem? (i := 85) rfl)) rfl
theorem lk_X2_69 : Cond.methodLink RX2 69 yX0_hasLineOf ∈ gw_tbl := gw_in (gt_6 (List.mem_of_getElem? (i := 77) rfl)) rfl
theorem lk_X2_72 : Cond.methodLink RX2 72 yX2_leftAtWorst ∈ gw_tbl := gw_in (gt_6 (List.mem_of_getElem? (i := 81) rfl)) rfl
theorem lk_X3_49 : Cond.methodLink RX3 49 arraycopyName ∈ gw_tbl := gw_in (gt_4 (List.mem_of_getElem? (i := 84) rfl)) rfl
theorem lk_X3_55 : Cond.methodLink RX3 55 yX10_isOver ∈ gw_tbl := gw_in (gt_3 (List.mem_of_getElem? (i := 193) rfl)) rfl
theorem lk_X3_61 : Cond.methodLink RX3 61 yX10_next ∈ gw_tbl := gw_in (gt_3 (List.mem_of_getElem? (i := 197) rfl)) rfl
theorem lk_X3_65 : Cond.methodLink RX3 65 yX10_fail ∈ gw_tbl := gw_in (gt_3 (List.mem_of_getElem? (i := 201) rfl)) rfl
theorem lk_X3_69 : Cond.methodLink RX3 69 yX3_readClause ∈ gw_tbl := gw_in (gt_3 (List.mem_of_getElem? (i := 205) rfl)) rfl
theorem lk_X3_75 : Cond.methodLink RX3 75 yX10_takesWord ∈ gw_tbl := gw_in (gt_3 (List.mem_of_getElem? (i := 210) rfl)) rfl
theorem lk_X3_79 : Cond.methodLink RX3 79 yX3_readRoom ∈ gw_tbl := gw_in (gt_4 (List.mem_of_getElem? (i := 26) rfl)) rfl
theorem lk_X3_85 : Cond.methodLink RX3 85 yX3_readWay ∈ gw_tbl := gw_in (gt_4 (List.mem_of_getElem? (i := 41) rfl)) rfl
theorem lk_X3_90 : Cond.methodLink RX3 90 yX3_readScheme ∈ gw_tbl := gw_in (gt_4 (List.mem_of_getElem? (i := 50) rfl)) rfl
theorem lk_X3_95 : Cond.methodLink RX3 95 yX3_readCat ∈ gw_tbl := gw_in (gt_4 (List.mem_of_getElem? (i := 55) rfl)) rfl
theorem lk_X3_98 : Cond.methodLink RX3 98 yX10_expect ∈ gw_tbl := gw_in (gt_4 (List.mem_of_getElem? (i := 59) rfl)) rfl
theorem lk_X3_102 : Cond.methodLink RX3 102 yX10_number ∈ gw_tbl := gw_in (gt_4 (List.mem_of_getElem? (i := 30) rfl)) rfl
theorem lk_X3_106 : Cond.methodLink RX3 106 yX10_failLatestNumber ∈ gw_tbl := gw_in (gt_4 (List.mem_of_getElem? (i := 45) rfl)) rfl
theorem lk_X4_31 : Cond.methodLink RX4 31 yX4_readSum ∈ gw_tbl := gw_in (gt_4 (List.mem_of_getElem? (i := 112) rfl)) rfl
theorem lk_X4_35 : Cond.methodLink RX4 35 yX10_isOver ∈ gw_tbl := gw_in (gt_4 (List.mem_of_getElem? (i := 158) rfl)) rfl
theorem lk_X4_41 : Cond.methodLink RX4 41 yX10_next ∈ gw_tbl := gw_in (gt_4 (List.mem_of_getElem? (i := 124) rfl)) rfl
theorem lk_X4_45 : Cond.methodLink RX4 45 yX10_fail ∈ gw_tbl := gw_in (gt_4 (List.mem_of_getElem? (i := 139) rfl)) rfl
theorem lk_X4_49 : Cond.methodLink RX4 49 yX10_failed ∈ gw_tbl := gw_in (gt_4 (List.mem_of_getElem? (i := 159) rfl)) rfl
theorem lk_X4_52 : Cond.methodLink RX4 52 arraycopyName ∈ gw_tbl := gw_in (gt_4 (List.mem_of_getElem? (i := 160) rfl)) rfl
theorem lk_X4_58 : Cond.methodLink RX4 58 yX4_readProduct ∈ gw_tbl := gw_in (gt_4 (List.mem_of_getElem? (i := 116) rfl)) rfl
theorem lk_X4_61 : Cond.methodLink RX4 61 yX10_takesSign ∈ gw_tbl := gw_in (gt_4 (List.mem_of_getElem? (i := 134) rfl)) rfl
theorem lk_X4_65 : Cond.methodLink RX4 65 yX4_put ∈ gw_tbl := gw_in (gt_4 (List.mem_of_getElem? (i := 130) rfl)) rfl
theorem lk_X4_69 : Cond.methodLink RX4 69 yX4_readUnit ∈ gw_tbl := gw_in (gt_4 (List.mem_of_getElem? (i := 120) rfl)) rfl
theorem lk_X4_72 : Cond.methodLink RX4 72 yX10_numberIsNext ∈ gw_tbl := gw_in (gt_4 (List.mem_of_getElem? (i := 125) rfl)) rfl
theorem lk_X4_75 : Cond.methodLink RX4 75 yX10_number ∈ gw_tbl := gw_in (gt_4 (List.mem_of_getElem? (i := 129) rfl)) rfl
theorem lk_X4_79 : Cond.methodLink RX4 79 yX4_readBracket ∈ gw_tbl := gw_in (gt_4 (List.mem_of_getElem? (i := 135) rfl)) rfl
theorem lk_X4_85 : Cond.methodLink RX4 85 yX10_takesWord ∈ gw_tbl := gw_in (gt_4 (List.mem_of_getElem? (i := 142) rfl)) rfl
theorem lk_X4_89 : Cond.methodLink RX4 89 yX4_readPair ∈ gw_tbl := gw_in (gt_4 (List.mem_of_getElem? (i := 143) rfl)) rfl
theorem lk_X4_95 : Cond.methodLink RX4 95 yX4_readVariable ∈ gw_tbl := gw_in (gt_4 (List.mem_of_getElem? (i := 148) rfl)) rfl
theorem lk_X4_99 : Cond.methodLink RX4 99 yX10_expect ∈ gw_tbl := gw_in (gt_4 (List.mem_of_getElem? (i := 140) rfl)) rfl
theorem lk_X4_117 : Cond.methodLink RX4 117 yX4_value ∈ gw_tbl := gw_in (gt_3 (List.mem_of_getElem? (i := 39) rfl)) rfl
theorem lk_X4_120 : Cond.methodLink RX4 120 Lib.Math.min.name ∈ gw_tbl := gw_in (gt_3 (List.mem_of_getElem? (i := 50) rfl)) rfl
theorem lk_X4_125 : Cond.methodLink RX4 125 Lib.Math.max.name ∈ gw_tbl := gw_in (gt_3 (List.mem_of_getElem? (i := 53) rfl)) rfl
theorem lk_X4_128 : Cond.methodLink RX4 128 yX4_joined ∈ gw_tbl := gw_in (gt_3 (List.mem_of_getElem? (i := 43) rfl)) rfl
theorem lk_X4_132 : Cond.methodLink RX4 132 yX4_variable ∈ gw_tbl := gw_in (gt_3 (List.mem_of_getElem? (i := 46) rfl)) rfl
theorem lk_X5_28 : Cond.methodLink RX5 28 yX5_isFull ∈ gw_tbl := gw_in (gt_4 (List.mem_of_getElem? (i := 206) rfl)) rfl
theorem lk_X5_35 : Cond.methodLink RX5 35 arraycopyName ∈ gw_tbl := gw_in (gt_2 (List.mem_of_getElem? (i := 197) rfl)) rfl
theorem lk_X6_24 : Cond.methodLink RX6 24 yX6_draw ∈ gw_tbl := gw_in (gt_6 (List.mem_of_getElem? (i := 194) rfl)) rfl
theorem lk_X6_31 : Cond.methodLink RX6 31 yX8_hideScheme ∈ gw_tbl := gw_in (gt_6 (List.mem_of_getElem? (i := 199) rfl)) rfl
theorem lk_X6_40 : Cond.methodLink RX6 40 yX8_callCat ∈ gw_tbl := gw_in (gt_6 (List.mem_of_getElem? (i := 200) rfl)) rfl
theorem lk_X6_43 : Cond.methodLink RX6 43 yX8_passNight ∈ gw_tbl := gw_in (gt_6 (List.mem_of_getElem? (i := 201) rfl)) rfl
theorem lc_X6_47 : Cond.constant RX6 47 (1103515245) ∈ gw_tbl := gw_in (gt_6 (List.mem_of_getElem? (i := 198) rfl)) rfl
theorem lk_X7_33 : Cond.methodLink RX7 33 yX8_lives ∈ gw_tbl := gw_in (gt_5 (List.mem_of_getElem? (i := 178) rfl)) rfl
theorem lk_X7_39 : Cond.methodLink RX7 39 yX8_roomOf ∈ gw_tbl := gw_in (gt_5 (List.mem_of_getElem? (i := 179) rfl)) rfl
theorem lk_X7_46 : Cond.methodLink RX7 46 yX7_clear ∈ gw_tbl := gw_in (gt_5 (List.mem_of_getElem? (i := 180) rfl)) rfl
theorem lk_X7_49 : Cond.methodLink RX7 49 yX8_size ∈ gw_tbl := gw_in (gt_5 (List.mem_of_getElem? (i := 184) rfl)) rfl
theorem lk_X7_52 : Cond.methodLink RX7 52 yX7_add ∈ gw_tbl := gw_in (gt_5 (List.mem_of_getElem? (i := 185) rfl)) rfl
theorem lk_X7_56 : Cond.methodLink RX7 56 yX8_leaveOut ∈ gw_tbl := gw_in (gt_5 (List.mem_of_getElem? (i := 191) rfl)) rfl
theorem lk_X7_60 : Cond.methodLink RX7 60 yX7_spread ∈ gw_tbl := gw_in (gt_5 (List.mem_of_getElem? (i := 195) rfl)) rfl
theorem lk_X7_64 : Cond.methodLink RX7 64 yX8_night ∈ gw_tbl := gw_in (gt_5 (List.mem_of_getElem? (i := 200) rfl)) rfl
theorem lk_X7_70 : Cond.methodLink RX7 70 yX8_onMat ∈ gw_tbl := gw_in (gt_5 (List.mem_of_getElem? (i := 201) rfl)) rfl
theorem lk_X7_73 : Cond.methodLink RX7 73 yJ6_bitCount_0f7a4 ∈ gw_tbl := gw_in (gt_5 (List.mem_of_getElem? (i := 202) rfl)) rfl
theorem lk_X7_81 : Cond.methodLink RX7 81 yX8_passNight ∈ gw_tbl := gw_in (gt_5 (List.mem_of_getElem? (i := 203) rfl)) rfl
theorem lk_X7_84 : Cond.methodLink RX7 84 yX7_growAll ∈ gw_tbl := gw_in (gt_5 (List.mem_of_getElem? (i := 204) rfl)) rfl
theorem lk_X7_87 : Cond.methodLink RX7 87 yX7_hasAny ∈ gw_tbl := gw_in (gt_5 (List.mem_of_getElem? (i := 219) rfl)) rfl
theorem lk_X7_95 : Cond.methodLink RX7 95 yX8_besides ∈ gw_tbl := gw_in (gt_5 (List.mem_of_getElem? (i := 199) rfl)) rfl
theorem lk_X7_98 : Cond.methodLink RX7 98 yX8_catsIn ∈ gw_tbl := gw_in (gt_5 (List.mem_of_getElem? (i := 208) rfl)) rfl
theorem lk_X7_101 : Cond.methodLink RX7 101 yX7_greatestSpared ∈ gw_tbl := gw_in (gt_5 (List.mem_of_getElem? (i := 209) rfl)) rfl
theorem lk_X7_105 : Cond.methodLink RX7 105 yX7_growWord ∈ gw_tbl := gw_in (gt_5 (List.mem_of_getElem? (i := 214) rfl)) rfl
theorem lk_X7_115 : Cond.methodLink RX7 115 yX4_growth ∈ gw_tbl := gw_in (gt_5 (List.mem_of_getElem? (i := 218) rfl)) rfl
theorem lk_X7_121 : Cond.methodLink RX7 121 Lib.Math.min.name ∈ gw_tbl := gw_in (gt_5 (List.mem_of_getElem? (i := 189) rfl)) rfl
theorem lk_X7_130 : Cond.methodLink RX7 130 yX8_roomOfCat ∈ gw_tbl := gw_in (gt_5 (List.mem_of_getElem? (i := 213) rfl)) rfl
theorem lk_X7_139 : Cond.methodLink RX7 139 Lib.Math.max.name ∈ gw_tbl := gw_in (gt_5 (List.mem_of_getElem? (i := 190) rfl)) rfl
theorem lk_X8_26 : Cond.methodLink RX8 26 arraycopyName ∈ gw_tbl := gw_in (gt_3 (List.mem_of_getElem? (i := 8) rfl)) rfl
theorem lk_X8_50 : Cond.methodLink RX8 50 yX8_lives ∈ gw_tbl := gw_in (gt_2 (List.mem_of_getElem? (i := 212) rfl)) rfl
theorem lk_X8_54 : Cond.methodLink RX8 54 yX8_roomOf ∈ gw_tbl := gw_in (gt_2 (List.mem_of_getElem? (i := 216) rfl)) rfl
theorem lk_X8_58 : Cond.methodLink RX8 58 yX8_roomOfCat ∈ gw_tbl := gw_in (gt_2 (List.mem_of_getElem? (i := 208) rfl)) rfl
theorem lk_X8_61 : Cond.methodLink RX8 61 yX8_size ∈ gw_tbl := gw_in (gt_2 (List.mem_of_getElem? (i := 220) rfl)) rfl
theorem lk_X8_64 : Cond.methodLink RX8 64 yX8_took ∈ gw_tbl := gw_in (gt_6 (List.mem_of_getElem? (i := 143) rfl)) rfl
theorem lk_X8_73 : Cond.methodLink RX8 73 yX8_wouldSee ∈ gw_tbl := gw_in (gt_2 (List.mem_of_getElem? (i := 224) rfl)) rfl
theorem lk_X8_89 : Cond.methodLink RX8 89 yX8_besides ∈ gw_tbl := gw_in (gt_4 (List.mem_of_getElem? (i := 231) rfl)) rfl
theorem lk_X8_95 : Cond.methodLink RX8 95 yX8_catsIn ∈ gw_tbl := gw_in (gt_3 (List.mem_of_getElem? (i := 17) rfl)) rfl
theorem lk_X8_98 : Cond.methodLink RX8 98 yJ6_bitCount_0f7a4 ∈ gw_tbl := gw_in (gt_3 (List.mem_of_getElem? (i := 21) rfl)) rfl
theorem lk_X8_103 : Cond.methodLink RX8 103 yX8_night ∈ gw_tbl := gw_in (gt_3 (List.mem_of_getElem? (i := 27) rfl)) rfl
theorem lk_X8_107 : Cond.methodLink RX8 107 yX8_onMat ∈ gw_tbl := gw_in (gt_3 (List.mem_of_getElem? (i := 31) rfl)) rfl
theorem lk_X8_110 : Cond.methodLink RX8 110 yX4_growth ∈ gw_tbl := gw_in (gt_3 (List.mem_of_getElem? (i := 35) rfl)) rfl
theorem lk_X8_116 : Cond.methodLink RX8 116 yX8_enlarge ∈ gw_tbl := gw_in (gt_3 (List.mem_of_getElem? (i := 56) rfl)) rfl
theorem lk_X8_120 : Cond.methodLink RX8 120 yX8_growthOf ∈ gw_tbl := gw_in (gt_3 (List.mem_of_getElem? (i := 13) rfl)) rfl
theorem lk_X8_123 : Cond.methodLink RX8 123 yX8_living ∈ gw_tbl := gw_in (gt_3 (List.mem_of_getElem? (i := 61) rfl)) rfl
theorem lk_X8_126 : Cond.methodLink RX8 126 yX8_seenBy ∈ gw_tbl := gw_in (gt_3 (List.mem_of_getElem? (i := 62) rfl)) rfl
theorem lk_X8_129 : Cond.methodLink RX8 129 yX8_greatestOf ∈ gw_tbl := gw_in (gt_3 (List.mem_of_getElem? (i := 63) rfl)) rfl
theorem lk_X8_132 : Cond.methodLink RX8 132 yX8_moveToMat ∈ gw_tbl := gw_in (gt_3 (List.mem_of_getElem? (i := 67) rfl)) rfl
theorem lk_X8_135 : Cond.methodLink RX8 135 Lib.Math.min.name ∈ gw_tbl := gw_in (gt_3 (List.mem_of_getElem? (i := 60) rfl)) rfl
theorem lk_X9_28 : Cond.methodLink RX9 28 yX10_isOver ∈ gw_tbl := gw_in (gt_4 (List.mem_of_getElem? (i := 176) rfl)) rfl
theorem lk_X9_34 : Cond.methodLink RX9 34 yX9_readStep ∈ gw_tbl := gw_in (gt_4 (List.mem_of_getElem? (i := 177) rfl)) rfl
theorem lk_X9_38 : Cond.methodLink RX9 38 yX10_next ∈ gw_tbl := gw_in (gt_4 (List.mem_of_getElem? (i := 181) rfl)) rfl
theorem lk_X9_44 : Cond.methodLink RX9 44 yX10_takesWord ∈ gw_tbl := gw_in (gt_4 (List.mem_of_getElem? (i := 183) rfl)) rfl
theorem lk_X9_53 : Cond.methodLink RX9 53 yX10_number ∈ gw_tbl := gw_in (gt_4 (List.mem_of_getElem? (i := 184) rfl)) rfl
theorem lk_X9_60 : Cond.methodLink RX9 60 yX9_put ∈ gw_tbl := gw_in (gt_4 (List.mem_of_getElem? (i := 185) rfl)) rfl
theorem lk_X9_82 : Cond.methodLink RX9 82 yX9_readAgain ∈ gw_tbl := gw_in (gt_4 (List.mem_of_getElem? (i := 195) rfl)) rfl
theorem lk_X9_86 : Cond.methodLink RX9 86 yX10_fail ∈ gw_tbl := gw_in (gt_4 (List.mem_of_getElem? (i := 199) rfl)) rfl
theorem lk_X9_90 : Cond.methodLink RX9 90 yX10_expect ∈ gw_tbl := gw_in (gt_4 (List.mem_of_getElem? (i := 200) rfl)) rfl
theorem lk_X9_94 : Cond.methodLink RX9 94 yX10_peek ∈ gw_tbl := gw_in (gt_4 (List.mem_of_getElem? (i := 201) rfl)) rfl
theorem lk_X9_106 : Cond.methodLink RX9 106 yX9_repeatBody ∈ gw_tbl := gw_in (gt_4 (List.mem_of_getElem? (i := 219) rfl)) rfl
theorem lk_X9_110 : Cond.methodLink RX9 110 yX9_isDone ∈ gw_tbl := gw_in (gt_4 (List.mem_of_getElem? (i := 224) rfl)) rfl
theorem lk_X9_114 : Cond.methodLink RX9 114 yX9_run ∈ gw_tbl := gw_in (gt_4 (List.mem_of_getElem? (i := 223) rfl)) rfl
theorem lk_X9_118 : Cond.methodLink RX9 118 yX8_hideScheme ∈ gw_tbl := gw_in (gt_4 (List.mem_of_getElem? (i := 227) rfl)) rfl
theorem lk_X9_124 : Cond.methodLink RX9 124 yX8_callCat ∈ gw_tbl := gw_in (gt_4 (List.mem_of_getElem? (i := 235) rfl)) rfl
theorem lk_X9_127 : Cond.methodLink RX9 127 yX8_feedScheme ∈ gw_tbl := gw_in (gt_4 (List.mem_of_getElem? (i := 239) rfl)) rfl
theorem lk_X9_130 : Cond.methodLink RX9 130 yX8_joinSchemes ∈ gw_tbl := gw_in (gt_5 (List.mem_of_getElem? (i := 3) rfl)) rfl
theorem lk_X9_133 : Cond.methodLink RX9 133 yX8_turnWay ∈ gw_tbl := gw_in (gt_5 (List.mem_of_getElem? (i := 7) rfl)) rfl
theorem lk_X9_137 : Cond.methodLink RX9 137 yX8_night ∈ gw_tbl := gw_in (gt_5 (List.mem_of_getElem? (i := 11) rfl)) rfl
theorem lk_X9_139 : Cond.methodLink RX9 139 yX8_passNight ∈ gw_tbl := gw_in (gt_5 (List.mem_of_getElem? (i := 12) rfl)) rfl
theorem lk_X10_22 : Cond.methodLink RX10 22 Lib.Math.min.name ∈ gw_tbl := gw_in (gt_3 (List.mem_of_getElem? (i := 184) rfl)) rfl
theorem lk_X10_34 : Cond.methodLink RX10 34 yX10_moveTo ∈ gw_tbl := gw_in (gt_3 (List.mem_of_getElem? (i := 185) rfl)) rfl
theorem lk_X10_41 : Cond.methodLink RX10 41 yX10_isOver ∈ gw_tbl := gw_in (gt_4 (List.mem_of_getElem? (i := 71) rfl)) rfl
theorem lk_X10_45 : Cond.methodLink RX10 45 yX10_peek ∈ gw_tbl := gw_in (gt_4 (List.mem_of_getElem? (i := 67) rfl)) rfl
theorem lk_X10_49 : Cond.methodLink RX10 49 yX10_takesSign ∈ gw_tbl := gw_in (gt_4 (List.mem_of_getElem? (i := 63) rfl)) rfl
theorem lk_X10_53 : Cond.methodLink RX10 53 yX10_fail ∈ gw_tbl := gw_in (gt_4 (List.mem_of_getElem? (i := 39) rfl)) rfl
theorem lk_X10_57 : Cond.methodLink RX10 57 yX10_isDigit ∈ gw_tbl := gw_in (gt_4 (List.mem_of_getElem? (i := 34) rfl)) rfl
theorem lc_X10_64 : Cond.constant RX10 64 (100000) ∈ gw_tbl := gw_in (gt_4 (List.mem_of_getElem? (i := 38) rfl)) rfl
theorem lk_X10_65 : Cond.methodLink RX10 65 yJ0_length_8abf5 ∈ gw_tbl := gw_in (gt_3 (List.mem_of_getElem? (i := 214) rfl)) rfl
theorem lk_X10_69 : Cond.methodLink RX10 69 yX10_isSmallLetter ∈ gw_tbl := gw_in (gt_3 (List.mem_of_getElem? (i := 224) rfl)) rfl
theorem lk_X10_72 : Cond.methodLink RX10 72 yJ0_charAt_5068e ∈ gw_tbl := gw_in (gt_3 (List.mem_of_getElem? (i := 228) rfl)) rfl
theorem lk_L_7 : Cond.methodLink RL 7 yX11_house ∈ gw_tbl := gw_in (gt_3 (List.mem_of_getElem? (i := 100) rfl)) rfl
theorem lk_L_15 : Cond.methodLink RL 15 yX11_law ∈ gw_tbl := gw_in (gt_4 (List.mem_of_getElem? (i := 104) rfl)) rfl
theorem lk_L_18 : Cond.methodLink RL 18 yX11_work ∈ gw_tbl := gw_in (gt_4 (List.mem_of_getElem? (i := 164) rfl)) rfl
theorem lk_L_21 : Cond.methodLink RL 21 yX11_book ∈ gw_tbl := gw_in (gt_5 (List.mem_of_getElem? (i := 16) rfl)) rfl
theorem lk_L_24 : Cond.methodLink RL 24 yX11_told ∈ gw_tbl := gw_in (gt_5 (List.mem_of_getElem? (i := 37) rfl)) rfl
theorem lk_L_27 : Cond.methodLink RL 27 yX11_room ∈ gw_tbl := gw_in (gt_5 (List.mem_of_getElem? (i := 58) rfl)) rfl
theorem lk_L_33 : Cond.methodLink RL 33 yX11_way ∈ gw_tbl := gw_in (gt_5 (List.mem_of_getElem? (i := 91) rfl)) rfl
theorem lk_L_36 : Cond.methodLink RL 36 yX11_scheme ∈ gw_tbl := gw_in (gt_5 (List.mem_of_getElem? (i := 98) rfl)) rfl
theorem lk_L_39 : Cond.methodLink RL 39 yX11_cat ∈ gw_tbl := gw_in (gt_5 (List.mem_of_getElem? (i := 116) rfl)) rfl
theorem lk_L_42 : Cond.methodLink RL 42 yX11_more ∈ gw_tbl := gw_in (gt_5 (List.mem_of_getElem? (i := 128) rfl)) rfl
theorem lk_L_45 : Cond.methodLink RL 45 yX11_would ∈ gw_tbl := gw_in (gt_5 (List.mem_of_getElem? (i := 136) rfl)) rfl
theorem lk_L_49 : Cond.methodLink RL 49 yX11_ahead ∈ gw_tbl := gw_in (gt_5 (List.mem_of_getElem? (i := 144) rfl)) rfl
theorem lk_L_52 : Cond.methodLink RL 52 yX11_far ∈ gw_tbl := gw_in (gt_5 (List.mem_of_getElem? (i := 152) rfl)) rfl
theorem lk_L_55 : Cond.methodLink RL 55 yX11_lasts ∈ gw_tbl := gw_in (gt_5 (List.mem_of_getElem? (i := 163) rfl)) rfl
theorem lk_L_58 : Cond.methodLink RL 58 yX11_slips ∈ gw_tbl := gw_in (gt_5 (List.mem_of_getElem? (i := 170) rfl)) rfl
theorem lk_L_61 : Cond.methodLink RL 61 yX11_hunt ∈ gw_tbl := gw_in (gt_5 (List.mem_of_getElem? (i := 226) rfl)) rfl
theorem lk_L_64 : Cond.methodLink RL 64 yX11_prey ∈ gw_tbl := gw_in (gt_6 (List.mem_of_getElem? (i := 29) rfl)) rfl
theorem lk_L_67 : Cond.methodLink RL 67 yX11_sums ∈ gw_tbl := gw_in (gt_6 (List.mem_of_getElem? (i := 36) rfl)) rfl
theorem lk_L_70 : Cond.methodLink RL 70 yX11_fits ∈ gw_tbl := gw_in (gt_6 (List.mem_of_getElem? (i := 43) rfl)) rfl
theorem lk_L_73 : Cond.methodLink RL 73 yX11_look ∈ gw_tbl := gw_in (gt_6 (List.mem_of_getElem? (i := 69) rfl)) rfl
theorem lk_L_76 : Cond.methodLink RL 76 yX11_uncle ∈ gw_tbl := gw_in (gt_6 (List.mem_of_getElem? (i := 90) rfl)) rfl
theorem lk_L_80 : Cond.methodLink RL 80 yX11_boat ∈ gw_tbl := gw_in (gt_6 (List.mem_of_getElem? (i := 103) rfl)) rfl
theorem lk_L_84 : Cond.methodLink RL 84 yX11_crumbs ∈ gw_tbl := gw_in (gt_6 (List.mem_of_getElem? (i := 116) rfl)) rfl
theorem lk_L_87 : Cond.methodLink RL 87 yX11_greatest ∈ gw_tbl := gw_in (gt_6 (List.mem_of_getElem? (i := 127) rfl)) rfl
theorem lk_L_90 : Cond.methodLink RL 90 yX11_proudest ∈ gw_tbl := gw_in (gt_6 (List.mem_of_getElem? (i := 135) rfl)) rfl
theorem lk_L_93 : Cond.methodLink RL 93 yX11_havens ∈ gw_tbl := gw_in (gt_6 (List.mem_of_getElem? (i := 147) rfl)) rfl
theorem lk_L_96 : Cond.methodLink RL 96 yX11_crowd ∈ gw_tbl := gw_in (gt_6 (List.mem_of_getElem? (i := 158) rfl)) rfl
theorem lk_L_99 : Cond.methodLink RL 99 yX11_grown ∈ gw_tbl := gw_in (gt_6 (List.mem_of_getElem? (i := 165) rfl)) rfl
theorem lk_L_102 : Cond.methodLink RL 102 yX11_escapes ∈ gw_tbl := gw_in (gt_6 (List.mem_of_getElem? (i := 172) rfl)) rfl
theorem lk_L_105 : Cond.methodLink RL 105 yX11_weight ∈ gw_tbl := gw_in (gt_6 (List.mem_of_getElem? (i := 179) rfl)) rfl
theorem lk_L_108 : Cond.methodLink RL 108 yX11_season ∈ gw_tbl := gw_in (gt_6 (List.mem_of_getElem? (i := 186) rfl)) rfl
theorem lk_L_112 : Cond.methodLink RL 112 yX11_span ∈ gw_tbl := gw_in (gt_6 (List.mem_of_getElem? (i := 205) rfl)) rfl
theorem lk_L_120 : Cond.methodLink RL 120 yX11_feed ∈ gw_tbl := gw_in (gt_2 (List.mem_of_getElem? (i := 165) rfl)) rfl
theorem lk_L_124 : Cond.methodLink RL 124 yX12_feed ∈ gw_tbl := gw_in (gt_7 (List.mem_of_getElem? (i := 134) rfl)) rfl
theorem lk_L_125 : Cond.methodLink RL 125 yL_house ∈ gw_tbl := gw_in (gt_3 (List.mem_of_getElem? (i := 96) rfl)) rfl
theorem lk_L_130 : Cond.methodLink RL 130 yX12_house ∈ gw_tbl := gw_in (gt_7 (List.mem_of_getElem? (i := 138) rfl)) rfl
theorem lk_L_131 : Cond.methodLink RL 131 yX12_thrown ∈ gw_tbl := gw_in (gt_7 (List.mem_of_getElem? (i := 130) rfl)) rfl
theorem lk_L_135 : Cond.methodLink RL 135 yL_law ∈ gw_tbl := gw_in (gt_4 (List.mem_of_getElem? (i := 101) rfl)) rfl
theorem lk_L_137 : Cond.methodLink RL 137 yX12_law ∈ gw_tbl := gw_in (gt_7 (List.mem_of_getElem? (i := 210) rfl)) rfl
theorem lk_L_138 : Cond.methodLink RL 138 yL_work ∈ gw_tbl := gw_in (gt_4 (List.mem_of_getElem? (i := 161) rfl)) rfl
theorem lk_L_140 : Cond.methodLink RL 140 yX12_work ∈ gw_tbl := gw_in (gt_8 (List.mem_of_getElem? (i := 17) rfl)) rfl
theorem lk_L_141 : Cond.methodLink RL 141 yL_book ∈ gw_tbl := gw_in (gt_5 (List.mem_of_getElem? (i := 13) rfl)) rfl
theorem lk_L_143 : Cond.methodLink RL 143 yX12_book ∈ gw_tbl := gw_in (gt_8 (List.mem_of_getElem? (i := 6) rfl)) rfl
theorem lk_L_144 : Cond.methodLink RL 144 yX11_fault ∈ gw_tbl := gw_in (gt_2 (List.mem_of_getElem? (i := 181) rfl)) rfl
theorem lk_L_147 : Cond.methodLink RL 147 yX12_fault ∈ gw_tbl := gw_in (gt_8 (List.mem_of_getElem? (i := 13) rfl)) rfl
theorem lk_L_148 : Cond.methodLink RL 148 yX11_undo ∈ gw_tbl := gw_in (gt_2 (List.mem_of_getElem? (i := 189) rfl)) rfl
theorem lk_L_151 : Cond.methodLink RL 151 yX12_undo ∈ gw_tbl := gw_in (gt_8 (List.mem_of_getElem? (i := 118) rfl)) rfl
theorem lk_L_152 : Cond.methodLink RL 152 yL_told ∈ gw_tbl := gw_in (gt_5 (List.mem_of_getElem? (i := 34) rfl)) rfl
theorem lk_L_154 : Cond.methodLink RL 154 yX12_told ∈ gw_tbl := gw_in (gt_8 (List.mem_of_getElem? (i := 122) rfl)) rfl
theorem lk_L_155 : Cond.methodLink RL 155 yL_room ∈ gw_tbl := gw_in (gt_5 (List.mem_of_getElem? (i := 54) rfl)) rfl
theorem lk_L_158 : Cond.methodLink RL 158 yX12_room ∈ gw_tbl := gw_in (gt_8 (List.mem_of_getElem? (i := 130) rfl)) rfl
theorem lk_L_159 : Cond.methodLink RL 159 yL_way ∈ gw_tbl := gw_in (gt_5 (List.mem_of_getElem? (i := 88) rfl)) rfl
theorem lk_L_161 : Cond.methodLink RL 161 yX12_way ∈ gw_tbl := gw_in (gt_8 (List.mem_of_getElem? (i := 138) rfl)) rfl
theorem lk_L_162 : Cond.methodLink RL 162 yL_scheme ∈ gw_tbl := gw_in (gt_5 (List.mem_of_getElem? (i := 95) rfl)) rfl
theorem lk_L_164 : Cond.methodLink RL 164 yX12_scheme ∈ gw_tbl := gw_in (gt_8 (List.mem_of_getElem? (i := 142) rfl)) rfl
theorem lk_L_165 : Cond.methodLink RL 165 yL_cat ∈ gw_tbl := gw_in (gt_5 (List.mem_of_getElem? (i := 113) rfl)) rfl
theorem lk_L_167 : Cond.methodLink RL 167 yX12_cat ∈ gw_tbl := gw_in (gt_8 (List.mem_of_getElem? (i := 146) rfl)) rfl
theorem lk_L_168 : Cond.methodLink RL 168 yL_more ∈ gw_tbl := gw_in (gt_5 (List.mem_of_getElem? (i := 125) rfl)) rfl
theorem lk_L_170 : Cond.methodLink RL 170 yX12_more ∈ gw_tbl := gw_in (gt_8 (List.mem_of_getElem? (i := 150) rfl)) rfl
theorem lk_L_171 : Cond.methodLink RL 171 yL_would ∈ gw_tbl := gw_in (gt_5 (List.mem_of_getElem? (i := 133) rfl)) rfl
theorem lk_L_174 : Cond.methodLink RL 174 yX12_would ∈ gw_tbl := gw_in (gt_8 (List.mem_of_getElem? (i := 154) rfl)) rfl
theorem lk_L_175 : Cond.methodLink RL 175 yL_ahead ∈ gw_tbl := gw_in (gt_5 (List.mem_of_getElem? (i := 141) rfl)) rfl
theorem lk_L_177 : Cond.methodLink RL 177 yX12_ahead ∈ gw_tbl := gw_in (gt_8 (List.mem_of_getElem? (i := 158) rfl)) rfl
theorem lk_L_178 : Cond.methodLink RL 178 yL_far ∈ gw_tbl := gw_in (gt_5 (List.mem_of_getElem? (i := 149) rfl)) rfl
theorem lk_L_180 : Cond.methodLink RL 180 yX12_far ∈ gw_tbl := gw_in (gt_8 (List.mem_of_getElem? (i := 162) rfl)) rfl
theorem lk_L_181 : Cond.methodLink RL 181 yL_lasts ∈ gw_tbl := gw_in (gt_5 (List.mem_of_getElem? (i := 160) rfl)) rfl
theorem lk_L_183 : Cond.methodLink RL 183 yX12_lasts ∈ gw_tbl := gw_in (gt_8 (List.mem_of_getElem? (i := 170) rfl)) rfl
theorem lk_L_184 : Cond.methodLink RL 184 yL_slips ∈ gw_tbl := gw_in (gt_5 (List.mem_of_getElem? (i := 167) rfl)) rfl
theorem lk_L_186 : Cond.methodLink RL 186 yX12_slips ∈ gw_tbl := gw_in (gt_8 (List.mem_of_getElem? (i := 174) rfl)) rfl
theorem lk_L_187 : Cond.methodLink RL 187 yL_hunt ∈ gw_tbl := gw_in (gt_5 (List.mem_of_getElem? (i := 223) rfl)) rfl
theorem lk_L_189 : Cond.methodLink RL 189 yX12_hunt ∈ gw_tbl := gw_in (gt_8 (List.mem_of_getElem? (i := 186) rfl)) rfl
theorem lk_L_190 : Cond.methodLink RL 190 yL_prey ∈ gw_tbl := gw_in (gt_6 (List.mem_of_getElem? (i := 26) rfl)) rfl
theorem lk_L_192 : Cond.methodLink RL 192 yX12_prey ∈ gw_tbl := gw_in (gt_8 (List.mem_of_getElem? (i := 198) rfl)) rfl
theorem lk_L_193 : Cond.methodLink RL 193 yL_sums ∈ gw_tbl := gw_in (gt_6 (List.mem_of_getElem? (i := 33) rfl)) rfl
theorem lk_L_195 : Cond.methodLink RL 195 yX12_sums ∈ gw_tbl := gw_in (gt_8 (List.mem_of_getElem? (i := 202) rfl)) rfl
theorem lk_L_196 : Cond.methodLink RL 196 yL_fits ∈ gw_tbl := gw_in (gt_6 (List.mem_of_getElem? (i := 40) rfl)) rfl
theorem lk_L_198 : Cond.methodLink RL 198 yX12_fits ∈ gw_tbl := gw_in (gt_8 (List.mem_of_getElem? (i := 206) rfl)) rfl
theorem lk_L_199 : Cond.methodLink RL 199 yL_look ∈ gw_tbl := gw_in (gt_6 (List.mem_of_getElem? (i := 66) rfl)) rfl
theorem lk_L_201 : Cond.methodLink RL 201 yX12_look ∈ gw_tbl := gw_in (gt_8 (List.mem_of_getElem? (i := 214) rfl)) rfl
theorem lk_L_202 : Cond.methodLink RL 202 yL_uncle ∈ gw_tbl := gw_in (gt_6 (List.mem_of_getElem? (i := 87) rfl)) rfl
theorem lk_L_205 : Cond.methodLink RL 205 yX12_uncle ∈ gw_tbl := gw_in (gt_8 (List.mem_of_getElem? (i := 226) rfl)) rfl
theorem lk_L_206 : Cond.methodLink RL 206 yL_boat ∈ gw_tbl := gw_in (gt_6 (List.mem_of_getElem? (i := 100) rfl)) rfl
theorem lk_L_209 : Cond.methodLink RL 209 yX12_boat ∈ gw_tbl := gw_in (gt_8 (List.mem_of_getElem? (i := 236) rfl)) rfl
theorem lk_L_210 : Cond.methodLink RL 210 yL_crumbs ∈ gw_tbl := gw_in (gt_6 (List.mem_of_getElem? (i := 113) rfl)) rfl
theorem lk_L_212 : Cond.methodLink RL 212 yX12_crumbs ∈ gw_tbl := gw_in (gt_9 (List.mem_of_getElem? (i := 0) rfl)) rfl
theorem lk_L_213 : Cond.methodLink RL 213 yL_greatest ∈ gw_tbl := gw_in (gt_6 (List.mem_of_getElem? (i := 124) rfl)) rfl
theorem lk_L_215 : Cond.methodLink RL 215 yX12_greatest ∈ gw_tbl := gw_in (gt_9 (List.mem_of_getElem? (i := 12) rfl)) rfl
theorem lk_L_216 : Cond.methodLink RL 216 yL_proudest ∈ gw_tbl := gw_in (gt_6 (List.mem_of_getElem? (i := 132) rfl)) rfl
theorem lk_L_218 : Cond.methodLink RL 218 yX12_proudest ∈ gw_tbl := gw_in (gt_9 (List.mem_of_getElem? (i := 16) rfl)) rfl
theorem lk_L_219 : Cond.methodLink RL 219 yX11_safe ∈ gw_tbl := gw_in (gt_2 (List.mem_of_getElem? (i := 200) rfl)) rfl
theorem lk_L_222 : Cond.methodLink RL 222 yX12_safe ∈ gw_tbl := gw_in (gt_9 (List.mem_of_getElem? (i := 24) rfl)) rfl
theorem lk_L_223 : Cond.methodLink RL 223 yX11_doomed ∈ gw_tbl := gw_in (gt_2 (List.mem_of_getElem? (i := 236) rfl)) rfl
theorem lk_L_226 : Cond.methodLink RL 226 yX12_doomed ∈ gw_tbl := gw_in (gt_9 (List.mem_of_getElem? (i := 28) rfl)) rfl
theorem lk_L_227 : Cond.methodLink RL 227 yL_havens ∈ gw_tbl := gw_in (gt_6 (List.mem_of_getElem? (i := 144) rfl)) rfl
theorem lk_L_229 : Cond.methodLink RL 229 yX12_havens ∈ gw_tbl := gw_in (gt_9 (List.mem_of_getElem? (i := 32) rfl)) rfl
theorem lk_L_230 : Cond.methodLink RL 230 yX11_hungry ∈ gw_tbl := gw_in (gt_2 (List.mem_of_getElem? (i := 232) rfl)) rfl
theorem lk_L_233 : Cond.methodLink RL 233 yX12_hungry ∈ gw_tbl := gw_in (gt_9 (List.mem_of_getElem? (i := 36) rfl)) rfl
theorem lk_L_234 : Cond.methodLink RL 234 yL_crowd ∈ gw_tbl := gw_in (gt_6 (List.mem_of_getElem? (i := 155) rfl)) rfl
theorem lk_L_236 : Cond.methodLink RL 236 yX12_crowd ∈ gw_tbl := gw_in (gt_9 (List.mem_of_getElem? (i := 40) rfl)) rfl
theorem lk_L_237 : Cond.methodLink RL 237 yL_grown ∈ gw_tbl := gw_in (gt_6 (List.mem_of_getElem? (i := 162) rfl)) rfl
theorem lk_L_239 : Cond.methodLink RL 239 yX12_grown ∈ gw_tbl := gw_in (gt_9 (List.mem_of_getElem? (i := 44) rfl)) rfl
theorem lk_L_240 : Cond.methodLink RL 240 yL_escapes ∈ gw_tbl := gw_in (gt_6 (List.mem_of_getElem? (i := 169) rfl)) rfl
theorem lk_L_242 : Cond.methodLink RL 242 yX12_escapes ∈ gw_tbl := gw_in (gt_9 (List.mem_of_getElem? (i := 48) rfl)) rfl
theorem lk_L_243 : Cond.methodLink RL 243 yL_weight ∈ gw_tbl := gw_in (gt_6 (List.mem_of_getElem? (i := 176) rfl)) rfl
theorem lk_L_245 : Cond.methodLink RL 245 yX12_weight ∈ gw_tbl := gw_in (gt_9 (List.mem_of_getElem? (i := 52) rfl)) rfl
theorem lk_L_246 : Cond.methodLink RL 246 yL_season ∈ gw_tbl := gw_in (gt_6 (List.mem_of_getElem? (i := 183) rfl)) rfl
theorem lk_L_248 : Cond.methodLink RL 248 yX12_season ∈ gw_tbl := gw_in (gt_9 (List.mem_of_getElem? (i := 56) rfl)) rfl
theorem lk_L_249 : Cond.methodLink RL 249 yL_span ∈ gw_tbl := gw_in (gt_6 (List.mem_of_getElem? (i := 202) rfl)) rfl
theorem lk_L_252 : Cond.methodLink RL 252 yX12_span ∈ gw_tbl := gw_in (gt_9 (List.mem_of_getElem? (i := 72) rfl)) rfl
theorem lk_L_253 : Cond.methodLink RL 253 yX11_image ∈ gw_tbl := gw_in (gt_3 (List.mem_of_getElem? (i := 72) rfl)) rfl
theorem lk_L_256 : Cond.methodLink RL 256 yX12_image ∈ gw_tbl := gw_in (gt_9 (List.mem_of_getElem? (i := 76) rfl)) rfl
theorem lk_L_257 : Cond.methodLink RL 257 yX11_restore ∈ gw_tbl := gw_in (gt_3 (List.mem_of_getElem? (i := 80) rfl)) rfl
theorem lk_L_260 : Cond.methodLink RL 260 yX12_restore ∈ gw_tbl := gw_in (gt_9 (List.mem_of_getElem? (i := 88) rfl)) rfl
theorem lk_L_261 : Cond.methodLink RL 261 yX11_status ∈ gw_tbl := gw_in (gt_3 (List.mem_of_getElem? (i := 88) rfl)) rfl
theorem lk_L_264 : Cond.methodLink RL 264 yX12_status ∈ gw_tbl := gw_in (gt_9 (List.mem_of_getElem? (i := 92) rfl)) rfl
theorem lk_L_265 : Cond.methodLink RL 265 yX11_count ∈ gw_tbl := gw_in (gt_3 (List.mem_of_getElem? (i := 92) rfl)) rfl
theorem lk_L_268 : Cond.methodLink RL 268 yX12_count ∈ gw_tbl := gw_in (gt_9 (List.mem_of_getElem? (i := 96) rfl)) rfl
theorem lk_X12_87 : Cond.methodLink RX12 87 yX12_tellsNothing ∈ gw_tbl := gw_in (gt_6 (List.mem_of_getElem? (i := 218) rfl)) rfl
theorem lk_X12_90 : Cond.methodLink RX12 90 yX12_beginsAnew ∈ gw_tbl := gw_in (gt_6 (List.mem_of_getElem? (i := 222) rfl)) rfl
theorem lk_X12_105 : Cond.methodLink RX12 105 yX12_byteAt ∈ gw_tbl := gw_in (gt_7 (List.mem_of_getElem? (i := 157) rfl)) rfl
theorem lk_X12_115 : Cond.methodLink RX12 115 yX12_blanks ∈ gw_tbl := gw_in (gt_7 (List.mem_of_getElem? (i := 153) rfl)) rfl
theorem lk_X12_118 : Cond.methodLink RX12 118 yX12_isDigit ∈ gw_tbl := gw_in (gt_7 (List.mem_of_getElem? (i := 198) rfl)) rfl
theorem lk_X12_122 : Cond.methodLink RX12 122 yX12_wrong ∈ gw_tbl := gw_in (gt_7 (List.mem_of_getElem? (i := 183) rfl)) rfl
theorem lc_X12_126 : Cond.constant RX12 126 (100000) ∈ gw_tbl := gw_in (gt_7 (List.mem_of_getElem? (i := 201) rfl)) rfl
theorem lk_X12_127 : Cond.methodLink RX12 127 yX12_in ∈ gw_tbl := gw_in (gt_7 (List.mem_of_getElem? (i := 142) rfl)) rfl
theorem lk_X12_131 : Cond.methodLink RX12 131 yX12_isSmall ∈ gw_tbl := gw_in (gt_7 (List.mem_of_getElem? (i := 177) rfl)) rfl
theorem lk_X12_134 : Cond.methodLink RX12 134 yX12_wordHere ∈ gw_tbl := gw_in (gt_7 (List.mem_of_getElem? (i := 173) rfl)) rfl
theorem lk_X12_138 : Cond.methodLink RX12 138 yX12_six ∈ gw_tbl := gw_in (gt_7 (List.mem_of_getElem? (i := 180) rfl)) rfl
theorem lk_X12_142 : Cond.methodLink RX12 142 yX12_isWord ∈ gw_tbl := gw_in (gt_7 (List.mem_of_getElem? (i := 169) rfl)) rfl
theorem lk_X12_146 : Cond.methodLink RX12 146 yX12_skipWord ∈ gw_tbl := gw_in (gt_7 (List.mem_of_getElem? (i := 190) rfl)) rfl
theorem lk_X12_155 : Cond.methodLink RX12 155 yX12_kindHere ∈ gw_tbl := gw_in (gt_7 (List.mem_of_getElem? (i := 165) rfl)) rfl
theorem lk_X12_158 : Cond.methodLink RX12 158 yX12_mostOf ∈ gw_tbl := gw_in (gt_7 (List.mem_of_getElem? (i := 187) rfl)) rfl
theorem lk_X12_161 : Cond.methodLink RX12 161 yX12_placeOf ∈ gw_tbl := gw_in (gt_6 (List.mem_of_getElem? (i := 229) rfl)) rfl
theorem lk_X12_165 : Cond.methodLink RX12 165 yX12_number ∈ gw_tbl := gw_in (gt_7 (List.mem_of_getElem? (i := 194) rfl)) rfl
theorem lk_X12_168 : Cond.methodLink RX12 168 yX12_sign ∈ gw_tbl := gw_in (gt_7 (List.mem_of_getElem? (i := 202) rfl)) rfl
theorem lk_X12_172 : Cond.methodLink RX12 172 yX12_bad ∈ gw_tbl := gw_in (gt_7 (List.mem_of_getElem? (i := 145) rfl)) rfl
theorem lk_X12_176 : Cond.methodLink RX12 176 yX12_starts ∈ gw_tbl := gw_in (gt_7 (List.mem_of_getElem? (i := 149) rfl)) rfl
theorem lk_X12_179 : Cond.methodLink RX12 179 yX12_clause ∈ gw_tbl := gw_in (gt_7 (List.mem_of_getElem? (i := 161) rfl)) rfl
theorem lk_X12_182 : Cond.methodLink RX12 182 yX12_ends ∈ gw_tbl := gw_in (gt_7 (List.mem_of_getElem? (i := 206) rfl)) rfl
theorem lk_X12_185 : Cond.methodLink RX12 185 yX12_lays ∈ gw_tbl := gw_in (gt_6 (List.mem_of_getElem? (i := 226) rfl)) rfl
theorem lk_X12_207 : Cond.methodLink RX12 207 yX12_product ∈ gw_tbl := gw_in (gt_7 (List.mem_of_getElem? (i := 218) rfl)) rfl
theorem lk_X12_210 : Cond.methodLink RX12 210 yX12_takesSign ∈ gw_tbl := gw_in (gt_8 (List.mem_of_getElem? (i := 2) rfl)) rfl
theorem lk_X12_213 : Cond.methodLink RX12 213 yX12_notes ∈ gw_tbl := gw_in (gt_7 (List.mem_of_getElem? (i := 230) rfl)) rfl
theorem lk_X12_216 : Cond.methodLink RX12 216 yX12_one ∈ gw_tbl := gw_in (gt_7 (List.mem_of_getElem? (i := 222) rfl)) rfl
theorem lk_X12_219 : Cond.methodLink RX12 219 yX12_takes ∈ gw_tbl := gw_in (gt_7 (List.mem_of_getElem? (i := 238) rfl)) rfl
theorem lk_X12_222 : Cond.methodLink RX12 222 yX12_opensOne ∈ gw_tbl := gw_in (gt_7 (List.mem_of_getElem? (i := 226) rfl)) rfl
theorem lk_X12_226 : Cond.methodLink RX12 226 yX12_sum ∈ gw_tbl := gw_in (gt_7 (List.mem_of_getElem? (i := 214) rfl)) rfl
theorem lk_X12_229 : Cond.methodLink RX12 229 yX12_knownHere ∈ gw_tbl := gw_in (gt_7 (List.mem_of_getElem? (i := 234) rfl)) rfl
theorem lk_X12_232 : Cond.methodLink RX12 232 yX12_less ∈ gw_tbl := gw_in (gt_8 (List.mem_of_getElem? (i := 58) rfl)) rfl
theorem lk_X12_235 : Cond.methodLink RX12 235 yX12_more2 ∈ gw_tbl := gw_in (gt_8 (List.mem_of_getElem? (i := 99) rfl)) rfl
theorem lk_X12_238 : Cond.methodLink RX12 238 yX12_by ∈ gw_tbl := gw_in (gt_8 (List.mem_of_getElem? (i := 96) rfl)) rfl
theorem lk_X12_242 : Cond.methodLink RX12 242 yX12_stepHere ∈ gw_tbl := gw_in (gt_8 (List.mem_of_getElem? (i := 25) rfl)) rfl
theorem lk_X12_248 : Cond.methodLink RX12 248 yX12_readsStep ∈ gw_tbl := gw_in (gt_8 (List.mem_of_getElem? (i := 21) rfl)) rfl
theorem lk_X12_251 : Cond.methodLink RX12 251 yX12_has ∈ gw_tbl := gw_in (gt_8 (List.mem_of_getElem? (i := 10) rfl)) rfl
theorem lk_X12_255 : Cond.methodLink RX12 255 yX12_byLaw ∈ gw_tbl := gw_in (gt_8 (List.mem_of_getElem? (i := 92) rfl)) rfl
theorem lk_X12_258 : Cond.methodLink RX12 258 yX12_grow ∈ gw_tbl := gw_in (gt_8 (List.mem_of_getElem? (i := 73) rfl)) rfl
theorem lk_X12_261 : Cond.methodLink RX12 261 yX12_hide ∈ gw_tbl := gw_in (gt_8 (List.mem_of_getElem? (i := 77) rfl)) rfl
theorem lk_X12_264 : Cond.methodLink RX12 264 yX12_catsIn ∈ gw_tbl := gw_in (gt_8 (List.mem_of_getElem? (i := 81) rfl)) rfl
theorem lk_X12_268 : Cond.methodLink RX12 268 yX12_ones ∈ gw_tbl := gw_in (gt_8 (List.mem_of_getElem? (i := 85) rfl)) rfl
theorem lk_X12_271 : Cond.methodLink RX12 271 yX12_moreBy ∈ gw_tbl := gw_in (gt_8 (List.mem_of_getElem? (i := 88) rfl)) rfl
theorem lk_X12_275 : Cond.methodLink RX12 275 yX12_lives ∈ gw_tbl := gw_in (gt_8 (List.mem_of_getElem? (i := 40) rfl)) rfl
theorem lk_X12_279 : Cond.methodLink RX12 279 yX12_nose ∈ gw_tbl := gw_in (gt_8 (List.mem_of_getElem? (i := 114) rfl)) rfl
theorem lk_X12_282 : Cond.methodLink RX12 282 yX12_sees ∈ gw_tbl := gw_in (gt_8 (List.mem_of_getElem? (i := 110) rfl)) rfl
theorem lk_X12_286 : Cond.methodLink RX12 286 yX12_wayEnd ∈ gw_tbl := gw_in (gt_8 (List.mem_of_getElem? (i := 51) rfl)) rfl
theorem lk_X12_289 : Cond.methodLink RX12 289 yX12_seen ∈ gw_tbl := gw_in (gt_8 (List.mem_of_getElem? (i := 106) rfl)) rfl
theorem lk_X12_292 : Cond.methodLink RX12 292 yX12_moreOf ∈ gw_tbl := gw_in (gt_8 (List.mem_of_getElem? (i := 69) rfl)) rfl
theorem lk_X12_295 : Cond.methodLink RX12 295 yX12_takes2 ∈ gw_tbl := gw_in (gt_8 (List.mem_of_getElem? (i := 102) rfl)) rfl
theorem lk_X12_299 : Cond.methodLink RX12 299 yX12_beside ∈ gw_tbl := gw_in (gt_8 (List.mem_of_getElem? (i := 47) rfl)) rfl
theorem lk_X12_302 : Cond.methodLink RX12 302 yX12_becomes ∈ gw_tbl := gw_in (gt_8 (List.mem_of_getElem? (i := 55) rfl)) rfl
theorem lk_X12_305 : Cond.methodLink RX12 305 yX12_goesTo ∈ gw_tbl := gw_in (gt_8 (List.mem_of_getElem? (i := 43) rfl)) rfl
theorem lk_X12_308 : Cond.methodLink RX12 308 yX12_joins ∈ gw_tbl := gw_in (gt_8 (List.mem_of_getElem? (i := 61) rfl)) rfl
theorem lk_X12_311 : Cond.methodLink RX12 311 yX12_nightEnds ∈ gw_tbl := gw_in (gt_8 (List.mem_of_getElem? (i := 65) rfl)) rfl
theorem lk_X12_318 : Cond.methodLink RX12 318 yX12_goes ∈ gw_tbl := gw_in (gt_8 (List.mem_of_getElem? (i := 32) rfl)) rfl
theorem lk_X12_321 : Cond.methodLink RX12 321 yX12_does ∈ gw_tbl := gw_in (gt_8 (List.mem_of_getElem? (i := 36) rfl)) rfl
theorem lk_X12_328 : Cond.methodLink RX12 328 yX12_copies ∈ gw_tbl := gw_in (gt_8 (List.mem_of_getElem? (i := 29) rfl)) rfl
theorem lk_X12_332 : Cond.methodLink RX12 332 yX12_sizes ∈ gw_tbl := gw_in (gt_8 (List.mem_of_getElem? (i := 126) rfl)) rfl
theorem lk_X12_336 : Cond.methodLink RX12 336 yX12_isThing ∈ gw_tbl := gw_in (gt_8 (List.mem_of_getElem? (i := 134) rfl)) rfl
theorem lk_X12_339 : Cond.methodLink RX12 339 yX12_farOf ∈ gw_tbl := gw_in (gt_8 (List.mem_of_getElem? (i := 166) rfl)) rfl
theorem lk_X12_342 : Cond.methodLink RX12 342 yX12_mayBeIn ∈ gw_tbl := gw_in (gt_8 (List.mem_of_getElem? (i := 178) rfl)) rfl
theorem lk_X12_345 : Cond.methodLink RX12 345 yX12_slipsFrom ∈ gw_tbl := gw_in (gt_8 (List.mem_of_getElem? (i := 182) rfl)) rfl
theorem lk_X12_355 : Cond.methodLink RX12 355 yX12_hunts ∈ gw_tbl := gw_in (gt_8 (List.mem_of_getElem? (i := 194) rfl)) rfl
theorem lk_X12_359 : Cond.methodLink RX12 359 yX12_laysHunt ∈ gw_tbl := gw_in (gt_8 (List.mem_of_getElem? (i := 190) rfl)) rfl
theorem lk_X12_362 : Cond.methodLink RX12 362 yX12_isSo ∈ gw_tbl := gw_in (gt_8 (List.mem_of_getElem? (i := 210) rfl)) rfl
theorem lk_X12_365 : Cond.methodLink RX12 365 yX12_isTold ∈ gw_tbl := gw_in (gt_8 (List.mem_of_getElem? (i := 218) rfl)) rfl
theorem lk_X12_368 : Cond.methodLink RX12 368 yX12_worstAt ∈ gw_tbl := gw_in (gt_8 (List.mem_of_getElem? (i := 222) rfl)) rfl
theorem lk_X12_371 : Cond.methodLink RX12 371 yX12_hasBy ∈ gw_tbl := gw_in (gt_8 (List.mem_of_getElem? (i := 233) rfl)) rfl
theorem lk_X12_375 : Cond.methodLink RX12 375 yX12_isBest ∈ gw_tbl := gw_in (gt_8 (List.mem_of_getElem? (i := 230) rfl)) rfl
theorem lk_X12_379 : Cond.methodLink RX12 379 yX12_sizeNow ∈ gw_tbl := gw_in (gt_9 (List.mem_of_getElem? (i := 8) rfl)) rfl
theorem lk_X12_382 : Cond.methodLink RX12 382 yX12_givenBy ∈ gw_tbl := gw_in (gt_9 (List.mem_of_getElem? (i := 4) rfl)) rfl
theorem lk_X12_385 : Cond.methodLink RX12 385 yX12_proud ∈ gw_tbl := gw_in (gt_9 (List.mem_of_getElem? (i := 20) rfl)) rfl
theorem lc_X12_391 : Cond.constant RX12 391 (1103515245) ∈ gw_tbl := gw_in (gt_9 (List.mem_of_getElem? (i := 71) rfl)) rfl
theorem lk_X12_392 : Cond.methodLink RX12 392 yX12_draw ∈ gw_tbl := gw_in (gt_9 (List.mem_of_getElem? (i := 67) rfl)) rfl
theorem lk_X12_395 : Cond.methodLink RX12 395 yX12_isSeason ∈ gw_tbl := gw_in (gt_9 (List.mem_of_getElem? (i := 60) rfl)) rfl
theorem lk_X12_398 : Cond.methodLink RX12 398 yX12_seasonBy ∈ gw_tbl := gw_in (gt_9 (List.mem_of_getElem? (i := 63) rfl)) rfl
theorem lk_X12_404 : Cond.methodLink RX12 404 yX12_puts ∈ gw_tbl := gw_in (gt_9 (List.mem_of_getElem? (i := 84) rfl)) rfl
theorem lk_X12_408 : Cond.methodLink RX12 408 yX12_putsAll ∈ gw_tbl := gw_in (gt_9 (List.mem_of_getElem? (i := 80) rfl)) rfl
theorem lc_J6_265 : Cond.constant RJ6 265 (1431655765) ∈ gw_tbl := gw_in (gt_3 (List.mem_of_getElem? (i := 24) rfl)) rfl
theorem lc_J6_266 : Cond.constant RJ6 266 (858993459) ∈ gw_tbl := gw_in (gt_3 (List.mem_of_getElem? (i := 25) rfl)) rfl
theorem lc_J6_267 : Cond.constant RJ6 267 (252645135) ∈ gw_tbl := gw_in (gt_3 (List.mem_of_getElem? (i := 26) rfl)) rfl
theorem fw_0 : ∀ w ∈ u_ws RX0 TX0 2, w ∈ gw_tbl := by
  intro w hw
  obtain ⟨j, hj, rfl⟩ := List.mem_map.mp hw
  have hj := List.mem_range.mp hj
  match j, hj with
  | 0, _ => exact gw_in (gt_1 (List.mem_of_getElem? (i := 177) rfl)) rfl
  | 1, _ => exact gw_in (gt_1 (List.mem_of_getElem? (i := 179) rfl)) rfl
  | j + 2, hj => exact absurd hj (by omega)
theorem fw_1 : ∀ w ∈ u_ws RX1 TX1 6, w ∈ gw_tbl := by
  intro w hw
  obtain ⟨j, hj, rfl⟩ := List.mem_map.mp hw
  have hj := List.mem_range.mp hj
  match j, hj with
  | 0, _ => exact gw_in (gt_2 (List.mem_of_getElem? (i := 69) rfl)) rfl
  | 1, _ => exact gw_in (gt_2 (List.mem_of_getElem? (i := 71) rfl)) rfl
  | 2, _ => exact gw_in (gt_2 (List.mem_of_getElem? (i := 73) rfl)) rfl
  | 3, _ => exact gw_in (gt_2 (List.mem_of_getElem? (i := 75) rfl)) rfl
  | 4, _ => exact gw_in (gt_2 (List.mem_of_getElem? (i := 77) rfl)) rfl
  | 5, _ => exact gw_in (gt_2 (List.mem_of_getElem? (i := 79) rfl)) rfl
  | j + 6, hj => exact absurd hj (by omega)
theorem fw_2 : ∀ w ∈ u_ws RX2 TX2 4, w ∈ gw_tbl := by
  intro w hw
  obtain ⟨j, hj, rfl⟩ := List.mem_map.mp hw
  have hj := List.mem_range.mp hj
  match j, hj with
  | 0, _ => exact gw_in (gt_2 (List.mem_of_getElem? (i := 94) rfl)) rfl
  | 1, _ => exact gw_in (gt_2 (List.mem_of_getElem? (i := 96) rfl)) rfl
  | 2, _ => exact gw_in (gt_2 (List.mem_of_getElem? (i := 98) rfl)) rfl
  | 3, _ => exact gw_in (gt_2 (List.mem_of_getElem? (i := 100) rfl)) rfl
  | j + 4, hj => exact absurd hj (by omega)
theorem fw_3 : ∀ w ∈ u_ws RX3 TX3 12, w ∈ gw_tbl := by
  intro w hw
  obtain ⟨j, hj, rfl⟩ := List.mem_map.mp hw
  have hj := List.mem_range.mp hj
  match j, hj with
  | 0, _ => exact gw_in (gt_1 (List.mem_of_getElem? (i := 119) rfl)) rfl
  | 1, _ => exact gw_in (gt_1 (List.mem_of_getElem? (i := 121) rfl)) rfl
  | 2, _ => exact gw_in (gt_1 (List.mem_of_getElem? (i := 123) rfl)) rfl
  | 3, _ => exact gw_in (gt_1 (List.mem_of_getElem? (i := 125) rfl)) rfl
  | 4, _ => exact gw_in (gt_1 (List.mem_of_getElem? (i := 127) rfl)) rfl
  | 5, _ => exact gw_in (gt_1 (List.mem_of_getElem? (i := 129) rfl)) rfl
  | 6, _ => exact gw_in (gt_1 (List.mem_of_getElem? (i := 131) rfl)) rfl
  | 7, _ => exact gw_in (gt_1 (List.mem_of_getElem? (i := 133) rfl)) rfl
  | 8, _ => exact gw_in (gt_1 (List.mem_of_getElem? (i := 135) rfl)) rfl
  | 9, _ => exact gw_in (gt_1 (List.mem_of_getElem? (i := 137) rfl)) rfl
  | 10, _ => exact gw_in (gt_1 (List.mem_of_getElem? (i := 139) rfl)) rfl
  | 11, _ => exact gw_in (gt_1 (List.mem_of_getElem? (i := 141) rfl)) rfl
  | j + 12, hj => exact absurd hj (by omega)
theorem fw_4 : ∀ w ∈ u_ws RX4 TX4 6, w ∈ gw_tbl := by
  intro w hw
  obtain ⟨j, hj, rfl⟩ := List.mem_map.mp hw
  have hj := List.mem_range.mp hj
  match j, hj with
  | 0, _ => exact gw_in (gt_1 (List.mem_of_getElem? (i := 156) rfl)) rfl
  | 1, _ => exact gw_in (gt_1 (List.mem_of_getElem? (i := 158) rfl)) rfl
  | 2, _ => exact gw_in (gt_1 (List.mem_of_getElem? (i := 160) rfl)) rfl
  | 3, _ => exact gw_in (gt_1 (List.mem_of_getElem? (i := 162) rfl)) rfl
  | 4, _ => exact gw_in (gt_1 (List.mem_of_getElem? (i := 164) rfl)) rfl
  | 5, _ => exact gw_in (gt_1 (List.mem_of_getElem? (i := 166) rfl)) rfl
  | j + 6, hj => exact absurd hj (by omega)
theorem fw_5 : ∀ w ∈ u_ws RX5 TX5 5, w ∈ gw_tbl := by
  intro w hw
  obtain ⟨j, hj, rfl⟩ := List.mem_map.mp hw
  have hj := List.mem_range.mp hj
  match j, hj with
  | 0, _ => exact gw_in (gt_2 (List.mem_of_getElem? (i := 9) rfl)) rfl
  | 1, _ => exact gw_in (gt_2 (List.mem_of_getElem? (i := 11) rfl)) rfl
  | 2, _ => exact gw_in (gt_2 (List.mem_of_getElem? (i := 13) rfl)) rfl
  | 3, _ => exact gw_in (gt_2 (List.mem_of_getElem? (i := 15) rfl)) rfl
  | 4, _ => exact gw_in (gt_2 (List.mem_of_getElem? (i := 17) rfl)) rfl
  | j + 5, hj => exact absurd hj (by omega)
theorem fw_6 : ∀ w ∈ u_ws RX6 TX6 2, w ∈ gw_tbl := by
  intro w hw
  obtain ⟨j, hj, rfl⟩ := List.mem_map.mp hw
  have hj := List.mem_range.mp hj
  match j, hj with
  | 0, _ => exact gw_in (gt_2 (List.mem_of_getElem? (i := 111) rfl)) rfl
  | 1, _ => exact gw_in (gt_2 (List.mem_of_getElem? (i := 113) rfl)) rfl
  | j + 2, hj => exact absurd hj (by omega)
theorem fw_7 : ∀ w ∈ u_ws RX7 TX7 9, w ∈ gw_tbl := by
  intro w hw
  obtain ⟨j, hj, rfl⟩ := List.mem_map.mp hw
  have hj := List.mem_range.mp hj
  match j, hj with
  | 0, _ => exact gw_in (gt_2 (List.mem_of_getElem? (i := 35) rfl)) rfl
  | 1, _ => exact gw_in (gt_2 (List.mem_of_getElem? (i := 37) rfl)) rfl
  | 2, _ => exact gw_in (gt_2 (List.mem_of_getElem? (i := 39) rfl)) rfl
  | 3, _ => exact gw_in (gt_2 (List.mem_of_getElem? (i := 41) rfl)) rfl
  | 4, _ => exact gw_in (gt_2 (List.mem_of_getElem? (i := 43) rfl)) rfl
  | 5, _ => exact gw_in (gt_2 (List.mem_of_getElem? (i := 45) rfl)) rfl
  | 6, _ => exact gw_in (gt_2 (List.mem_of_getElem? (i := 47) rfl)) rfl
  | 7, _ => exact gw_in (gt_2 (List.mem_of_getElem? (i := 49) rfl)) rfl
  | 8, _ => exact gw_in (gt_2 (List.mem_of_getElem? (i := 51) rfl)) rfl
  | j + 9, hj => exact absurd hj (by omega)
theorem fw_8 : ∀ w ∈ u_ws RX8 TX8 4, w ∈ gw_tbl := by
  intro w hw
  obtain ⟨j, hj, rfl⟩ := List.mem_map.mp hw
  have hj := List.mem_range.mp hj
  match j, hj with
  | 0, _ => exact gw_in (gt_1 (List.mem_of_getElem? (i := 227) rfl)) rfl
  | 1, _ => exact gw_in (gt_1 (List.mem_of_getElem? (i := 229) rfl)) rfl
  | 2, _ => exact gw_in (gt_1 (List.mem_of_getElem? (i := 231) rfl)) rfl
  | 3, _ => exact gw_in (gt_1 (List.mem_of_getElem? (i := 233) rfl)) rfl
  | j + 4, hj => exact absurd hj (by omega)
theorem fw_9 : ∀ w ∈ u_ws RX9 TX9 8, w ∈ gw_tbl := by
  intro w hw
  obtain ⟨j, hj, rfl⟩ := List.mem_map.mp hw
  have hj := List.mem_range.mp hj
  match j, hj with
  | 0, _ => exact gw_in (gt_1 (List.mem_of_getElem? (i := 198) rfl)) rfl
  | 1, _ => exact gw_in (gt_1 (List.mem_of_getElem? (i := 200) rfl)) rfl
  | 2, _ => exact gw_in (gt_1 (List.mem_of_getElem? (i := 202) rfl)) rfl
  | 3, _ => exact gw_in (gt_1 (List.mem_of_getElem? (i := 204) rfl)) rfl
  | 4, _ => exact gw_in (gt_1 (List.mem_of_getElem? (i := 206) rfl)) rfl
  | 5, _ => exact gw_in (gt_1 (List.mem_of_getElem? (i := 208) rfl)) rfl
  | 6, _ => exact gw_in (gt_1 (List.mem_of_getElem? (i := 210) rfl)) rfl
  | 7, _ => exact gw_in (gt_1 (List.mem_of_getElem? (i := 212) rfl)) rfl
  | j + 8, hj => exact absurd hj (by omega)
theorem fw_10 : ∀ w ∈ u_ws RX10 TX10 7, w ∈ gw_tbl := by
  intro w hw
  obtain ⟨j, hj, rfl⟩ := List.mem_map.mp hw
  have hj := List.mem_range.mp hj
  match j, hj with
  | 0, _ => exact gw_in (gt_1 (List.mem_of_getElem? (i := 47) rfl)) rfl
  | 1, _ => exact gw_in (gt_1 (List.mem_of_getElem? (i := 49) rfl)) rfl
  | 2, _ => exact gw_in (gt_1 (List.mem_of_getElem? (i := 51) rfl)) rfl
  | 3, _ => exact gw_in (gt_1 (List.mem_of_getElem? (i := 53) rfl)) rfl
  | 4, _ => exact gw_in (gt_1 (List.mem_of_getElem? (i := 55) rfl)) rfl
  | 5, _ => exact gw_in (gt_1 (List.mem_of_getElem? (i := 57) rfl)) rfl
  | 6, _ => exact gw_in (gt_1 (List.mem_of_getElem? (i := 59) rfl)) rfl
  | j + 7, hj => exact absurd hj (by omega)
theorem fw_11 : ∀ w ∈ u_ws RX11 TX11 16, w ∈ gw_tbl := by
  intro w hw
  obtain ⟨j, hj, rfl⟩ := List.mem_map.mp hw
  have hj := List.mem_range.mp hj
  match j, hj with
  | 0, _ => exact gw_in (gt_2 (List.mem_of_getElem? (i := 132) rfl)) rfl
  | 1, _ => exact gw_in (gt_2 (List.mem_of_getElem? (i := 134) rfl)) rfl
  | 2, _ => exact gw_in (gt_2 (List.mem_of_getElem? (i := 136) rfl)) rfl
  | 3, _ => exact gw_in (gt_2 (List.mem_of_getElem? (i := 138) rfl)) rfl
  | 4, _ => exact gw_in (gt_2 (List.mem_of_getElem? (i := 140) rfl)) rfl
  | 5, _ => exact gw_in (gt_2 (List.mem_of_getElem? (i := 142) rfl)) rfl
  | 6, _ => exact gw_in (gt_2 (List.mem_of_getElem? (i := 144) rfl)) rfl
  | 7, _ => exact gw_in (gt_2 (List.mem_of_getElem? (i := 146) rfl)) rfl
  | 8, _ => exact gw_in (gt_2 (List.mem_of_getElem? (i := 148) rfl)) rfl
  | 9, _ => exact gw_in (gt_2 (List.mem_of_getElem? (i := 150) rfl)) rfl
  | 10, _ => exact gw_in (gt_2 (List.mem_of_getElem? (i := 152) rfl)) rfl
  | 11, _ => exact gw_in (gt_2 (List.mem_of_getElem? (i := 154) rfl)) rfl
  | 12, _ => exact gw_in (gt_2 (List.mem_of_getElem? (i := 156) rfl)) rfl
  | 13, _ => exact gw_in (gt_2 (List.mem_of_getElem? (i := 158) rfl)) rfl
  | 14, _ => exact gw_in (gt_2 (List.mem_of_getElem? (i := 160) rfl)) rfl
  | 15, _ => exact gw_in (gt_2 (List.mem_of_getElem? (i := 162) rfl)) rfl
  | j + 16, hj => exact absurd hj (by omega)
theorem fw_12 : ∀ w ∈ u_ws RX12 TX12 45, w ∈ gw_tbl := by
  intro w hw
  obtain ⟨j, hj, rfl⟩ := List.mem_map.mp hw
  have hj := List.mem_range.mp hj
  match j, hj with
  | 0, _ => exact gw_in (gt_7 (List.mem_of_getElem? (i := 37) rfl)) rfl
  | 1, _ => exact gw_in (gt_7 (List.mem_of_getElem? (i := 39) rfl)) rfl
  | 2, _ => exact gw_in (gt_7 (List.mem_of_getElem? (i := 41) rfl)) rfl
  | 3, _ => exact gw_in (gt_7 (List.mem_of_getElem? (i := 43) rfl)) rfl
  | 4, _ => exact gw_in (gt_7 (List.mem_of_getElem? (i := 45) rfl)) rfl
  | 5, _ => exact gw_in (gt_7 (List.mem_of_getElem? (i := 47) rfl)) rfl
  | 6, _ => exact gw_in (gt_7 (List.mem_of_getElem? (i := 49) rfl)) rfl
  | 7, _ => exact gw_in (gt_7 (List.mem_of_getElem? (i := 51) rfl)) rfl
  | 8, _ => exact gw_in (gt_7 (List.mem_of_getElem? (i := 53) rfl)) rfl
  | 9, _ => exact gw_in (gt_7 (List.mem_of_getElem? (i := 55) rfl)) rfl
  | 10, _ => exact gw_in (gt_7 (List.mem_of_getElem? (i := 57) rfl)) rfl
  | 11, _ => exact gw_in (gt_7 (List.mem_of_getElem? (i := 59) rfl)) rfl
  | 12, _ => exact gw_in (gt_7 (List.mem_of_getElem? (i := 61) rfl)) rfl
  | 13, _ => exact gw_in (gt_7 (List.mem_of_getElem? (i := 63) rfl)) rfl
  | 14, _ => exact gw_in (gt_7 (List.mem_of_getElem? (i := 65) rfl)) rfl
  | 15, _ => exact gw_in (gt_7 (List.mem_of_getElem? (i := 67) rfl)) rfl
  | 16, _ => exact gw_in (gt_7 (List.mem_of_getElem? (i := 69) rfl)) rfl
  | 17, _ => exact gw_in (gt_7 (List.mem_of_getElem? (i := 71) rfl)) rfl
  | 18, _ => exact gw_in (gt_7 (List.mem_of_getElem? (i := 73) rfl)) rfl
  | 19, _ => exact gw_in (gt_7 (List.mem_of_getElem? (i := 75) rfl)) rfl
  | 20, _ => exact gw_in (gt_7 (List.mem_of_getElem? (i := 77) rfl)) rfl
  | 21, _ => exact gw_in (gt_7 (List.mem_of_getElem? (i := 79) rfl)) rfl
  | 22, _ => exact gw_in (gt_7 (List.mem_of_getElem? (i := 81) rfl)) rfl
  | 23, _ => exact gw_in (gt_7 (List.mem_of_getElem? (i := 83) rfl)) rfl
  | 24, _ => exact gw_in (gt_7 (List.mem_of_getElem? (i := 85) rfl)) rfl
  | 25, _ => exact gw_in (gt_7 (List.mem_of_getElem? (i := 87) rfl)) rfl
  | 26, _ => exact gw_in (gt_7 (List.mem_of_getElem? (i := 89) rfl)) rfl
  | 27, _ => exact gw_in (gt_7 (List.mem_of_getElem? (i := 91) rfl)) rfl
  | 28, _ => exact gw_in (gt_7 (List.mem_of_getElem? (i := 93) rfl)) rfl
  | 29, _ => exact gw_in (gt_7 (List.mem_of_getElem? (i := 95) rfl)) rfl
  | 30, _ => exact gw_in (gt_7 (List.mem_of_getElem? (i := 97) rfl)) rfl
  | 31, _ => exact gw_in (gt_7 (List.mem_of_getElem? (i := 99) rfl)) rfl
  | 32, _ => exact gw_in (gt_7 (List.mem_of_getElem? (i := 101) rfl)) rfl
  | 33, _ => exact gw_in (gt_7 (List.mem_of_getElem? (i := 103) rfl)) rfl
  | 34, _ => exact gw_in (gt_7 (List.mem_of_getElem? (i := 105) rfl)) rfl
  | 35, _ => exact gw_in (gt_7 (List.mem_of_getElem? (i := 107) rfl)) rfl
  | 36, _ => exact gw_in (gt_7 (List.mem_of_getElem? (i := 109) rfl)) rfl
  | 37, _ => exact gw_in (gt_7 (List.mem_of_getElem? (i := 111) rfl)) rfl
  | 38, _ => exact gw_in (gt_7 (List.mem_of_getElem? (i := 113) rfl)) rfl
  | 39, _ => exact gw_in (gt_7 (List.mem_of_getElem? (i := 115) rfl)) rfl
  | 40, _ => exact gw_in (gt_7 (List.mem_of_getElem? (i := 117) rfl)) rfl
  | 41, _ => exact gw_in (gt_7 (List.mem_of_getElem? (i := 119) rfl)) rfl
  | 42, _ => exact gw_in (gt_7 (List.mem_of_getElem? (i := 121) rfl)) rfl
  | 43, _ => exact gw_in (gt_7 (List.mem_of_getElem? (i := 123) rfl)) rfl
  | 44, _ => exact gw_in (gt_7 (List.mem_of_getElem? (i := 125) rfl)) rfl
  | j + 45, hj => exact absurd hj (by omega)
theorem fd_X11_10 : fd_ok RX11 10 11 0 true := ⟨_, rfl, fw_11, by decide, gw_in (gt_2 (List.mem_of_getElem? (i := 116) rfl)) rfl, rfl, rfl, by decide⟩
theorem fd_X11_19 : fd_ok RX11 19 11 1 true := ⟨_, rfl, fw_11, by decide, gw_in (gt_2 (List.mem_of_getElem? (i := 117) rfl)) rfl, rfl, rfl, by decide⟩
theorem fd_X11_23 : fd_ok RX11 23 11 2 true := ⟨_, rfl, fw_11, by decide, gw_in (gt_2 (List.mem_of_getElem? (i := 118) rfl)) rfl, rfl, rfl, by decide⟩
theorem fd_X11_29 : fd_ok RX11 29 11 3 true := ⟨_, rfl, fw_11, by decide, gw_in (gt_2 (List.mem_of_getElem? (i := 119) rfl)) rfl, rfl, rfl, by decide⟩
theorem fd_X11_36 : fd_ok RX11 36 11 4 true := ⟨_, rfl, fw_11, by decide, gw_in (gt_2 (List.mem_of_getElem? (i := 120) rfl)) rfl, rfl, rfl, by decide⟩
theorem fd_X11_43 : fd_ok RX11 43 11 5 true := ⟨_, rfl, fw_11, by decide, gw_in (gt_2 (List.mem_of_getElem? (i := 121) rfl)) rfl, rfl, rfl, by decide⟩
theorem fd_X11_52 : fd_ok RX11 52 11 6 true := ⟨_, rfl, fw_11, by decide, gw_in (gt_2 (List.mem_of_getElem? (i := 122) rfl)) rfl, rfl, rfl, by decide⟩
theorem fd_X11_56 : fd_ok RX11 56 11 7 true := ⟨_, rfl, fw_11, by decide, gw_in (gt_2 (List.mem_of_getElem? (i := 123) rfl)) rfl, rfl, rfl, by decide⟩
theorem fd_X11_62 : fd_ok RX11 62 11 8 true := ⟨_, rfl, fw_11, by decide, gw_in (gt_2 (List.mem_of_getElem? (i := 124) rfl)) rfl, rfl, rfl, by decide⟩
theorem fd_X11_69 : fd_ok RX11 69 11 9 true := ⟨_, rfl, fw_11, by decide, gw_in (gt_2 (List.mem_of_getElem? (i := 125) rfl)) rfl, rfl, rfl, by decide⟩
theorem fd_X11_78 : fd_ok RX11 78 11 10 true := ⟨_, rfl, fw_11, by decide, gw_in (gt_2 (List.mem_of_getElem? (i := 126) rfl)) rfl, rfl, rfl, by decide⟩
theorem fd_X11_85 : fd_ok RX11 85 11 11 true := ⟨_, rfl, fw_11, by decide, gw_in (gt_2 (List.mem_of_getElem? (i := 127) rfl)) rfl, rfl, rfl, by decide⟩
theorem fd_X11_92 : fd_ok RX11 92 11 12 true := ⟨_, rfl, fw_11, by decide, gw_in (gt_2 (List.mem_of_getElem? (i := 128) rfl)) rfl, rfl, rfl, by decide⟩
theorem fd_X11_133 : fd_ok RX11 133 11 13 false := ⟨_, rfl, fw_11, by decide, gw_in (gt_2 (List.mem_of_getElem? (i := 129) rfl)) rfl, rfl, rfl, by decide⟩
theorem fp_X11_133 : fd_pt RX11 133 11 13 := ⟨_, tyX11, rfl, fw_11, by decide, gw_in (gt_2 (List.mem_of_getElem? (i := 129) rfl)) rfl, rfl, rfl, by decide, tyX11_ok, nmX11, rfl, by decide +kernel⟩
theorem fd_X11_137 : fd_ok RX11 137 3 2 false := ⟨_, rfl, fw_3, by decide, gw_in (gt_1 (List.mem_of_getElem? (i := 86) rfl)) rfl, rfl, rfl, by decide⟩
theorem fp_X11_137 : fd_pt RX11 137 3 2 := ⟨_, tyX3, rfl, fw_3, by decide, gw_in (gt_1 (List.mem_of_getElem? (i := 86) rfl)) rfl, rfl, rfl, by decide, tyX3_ok, nmX3, rfl, by decide +kernel⟩
theorem fd_X11_159 : fd_ok RX11 159 9 7 false := ⟨_, rfl, fw_9, by decide, gw_in (gt_1 (List.mem_of_getElem? (i := 196) rfl)) rfl, rfl, rfl, by decide⟩
theorem fp_X11_159 : fd_pt RX11 159 9 7 := ⟨_, tyX9, rfl, fw_9, by decide, gw_in (gt_1 (List.mem_of_getElem? (i := 196) rfl)) rfl, rfl, rfl, by decide, tyX9_ok, nmX9, rfl, by decide +kernel⟩
theorem fd_X11_162 : fd_ok RX11 162 9 6 false := ⟨_, rfl, fw_9, by decide, gw_in (gt_1 (List.mem_of_getElem? (i := 194) rfl)) rfl, rfl, rfl, by decide⟩
theorem fp_X11_162 : fd_pt RX11 162 9 6 := ⟨_, tyX9, rfl, fw_9, by decide, gw_in (gt_1 (List.mem_of_getElem? (i := 194) rfl)) rfl, rfl, rfl, by decide, tyX9_ok, nmX9, rfl, by decide +kernel⟩
theorem fd_X11_165 : fd_ok RX11 165 3 3 false := ⟨_, rfl, fw_3, by decide, gw_in (gt_1 (List.mem_of_getElem? (i := 94) rfl)) rfl, rfl, rfl, by decide⟩
theorem fp_X11_165 : fd_pt RX11 165 3 3 := ⟨_, tyX3, rfl, fw_3, by decide, gw_in (gt_1 (List.mem_of_getElem? (i := 94) rfl)) rfl, rfl, rfl, by decide, tyX3_ok, nmX3, rfl, by decide +kernel⟩
theorem fd_X11_179 : fd_ok RX11 179 5 0 false := ⟨_, rfl, fw_5, by decide, gw_in (gt_2 (List.mem_of_getElem? (i := 3) rfl)) rfl, rfl, rfl, by decide⟩
theorem fp_X11_179 : fd_pt RX11 179 5 0 := ⟨_, tyX5, rfl, fw_5, by decide, gw_in (gt_2 (List.mem_of_getElem? (i := 3) rfl)) rfl, rfl, rfl, by decide, tyX5_ok, nmX5, rfl, by decide +kernel⟩
theorem fd_X11_186 : fd_ok RX11 186 3 0 false := ⟨_, rfl, fw_3, by decide, gw_in (gt_1 (List.mem_of_getElem? (i := 74) rfl)) rfl, rfl, rfl, by decide⟩
theorem fp_X11_186 : fd_pt RX11 186 3 0 := ⟨_, tyX3, rfl, fw_3, by decide, gw_in (gt_1 (List.mem_of_getElem? (i := 74) rfl)) rfl, rfl, rfl, by decide, tyX3_ok, nmX3, rfl, by decide +kernel⟩
theorem fd_X11_189 : fd_ok RX11 189 3 1 false := ⟨_, rfl, fw_3, by decide, gw_in (gt_1 (List.mem_of_getElem? (i := 78) rfl)) rfl, rfl, rfl, by decide⟩
theorem fp_X11_189 : fd_pt RX11 189 3 1 := ⟨_, tyX3, rfl, fw_3, by decide, gw_in (gt_1 (List.mem_of_getElem? (i := 78) rfl)) rfl, rfl, rfl, by decide, tyX3_ok, nmX3, rfl, by decide +kernel⟩
theorem fd_X11_214 : fd_ok RX11 214 3 4 true := ⟨_, rfl, fw_3, by decide, gw_in (gt_1 (List.mem_of_getElem? (i := 97) rfl)) rfl, rfl, rfl, by decide⟩
theorem fd_X11_227 : fd_ok RX11 227 3 5 true := ⟨_, rfl, fw_3, by decide, gw_in (gt_1 (List.mem_of_getElem? (i := 100) rfl)) rfl, rfl, rfl, by decide⟩
theorem fd_X11_230 : fd_ok RX11 230 3 6 true := ⟨_, rfl, fw_3, by decide, gw_in (gt_1 (List.mem_of_getElem? (i := 103) rfl)) rfl, rfl, rfl, by decide⟩
theorem fd_X11_239 : fd_ok RX11 239 3 9 true := ⟨_, rfl, fw_3, by decide, gw_in (gt_1 (List.mem_of_getElem? (i := 111) rfl)) rfl, rfl, rfl, by decide⟩
theorem fd_X11_255 : fd_ok RX11 255 3 11 true := ⟨_, rfl, fw_3, by decide, gw_in (gt_1 (List.mem_of_getElem? (i := 117) rfl)) rfl, rfl, rfl, by decide⟩
theorem fd_X11_304 : fd_ok RX11 304 1 4 false := ⟨_, rfl, fw_1, by decide, gw_in (gt_2 (List.mem_of_getElem? (i := 66) rfl)) rfl, rfl, rfl, by decide⟩
theorem fp_X11_304 : fd_pt RX11 304 1 4 := ⟨_, tyX1, rfl, fw_1, by decide, gw_in (gt_2 (List.mem_of_getElem? (i := 66) rfl)) rfl, rfl, rfl, by decide, tyX1_ok, nmX1, rfl, by decide +kernel⟩
theorem fd_X11_307 : fd_ok RX11 307 1 5 false := ⟨_, rfl, fw_1, by decide, gw_in (gt_2 (List.mem_of_getElem? (i := 68) rfl)) rfl, rfl, rfl, by decide⟩
theorem fp_X11_307 : fd_pt RX11 307 1 5 := ⟨_, tyX1, rfl, fw_1, by decide, gw_in (gt_2 (List.mem_of_getElem? (i := 68) rfl)) rfl, rfl, rfl, by decide, tyX1_ok, nmX1, rfl, by decide +kernel⟩
theorem fd_X11_310 : fd_ok RX11 310 1 3 true := ⟨_, rfl, fw_1, by decide, gw_in (gt_2 (List.mem_of_getElem? (i := 64) rfl)) rfl, rfl, rfl, by decide⟩
theorem fd_X11_317 : fd_ok RX11 317 2 2 false := ⟨_, rfl, fw_2, by decide, gw_in (gt_2 (List.mem_of_getElem? (i := 91) rfl)) rfl, rfl, rfl, by decide⟩
theorem fp_X11_317 : fd_pt RX11 317 2 2 := ⟨_, tyX2, rfl, fw_2, by decide, gw_in (gt_2 (List.mem_of_getElem? (i := 91) rfl)) rfl, rfl, rfl, by decide, tyX2_ok, nmX2, rfl, by decide +kernel⟩
theorem fd_X11_320 : fd_ok RX11 320 2 3 false := ⟨_, rfl, fw_2, by decide, gw_in (gt_2 (List.mem_of_getElem? (i := 93) rfl)) rfl, rfl, rfl, by decide⟩
theorem fp_X11_320 : fd_pt RX11 320 2 3 := ⟨_, tyX2, rfl, fw_2, by decide, gw_in (gt_2 (List.mem_of_getElem? (i := 93) rfl)) rfl, rfl, rfl, by decide, tyX2_ok, nmX2, rfl, by decide +kernel⟩
theorem fd_X11_363 : fd_ok RX11 363 5 1 false := ⟨_, rfl, fw_5, by decide, gw_in (gt_2 (List.mem_of_getElem? (i := 5) rfl)) rfl, rfl, rfl, by decide⟩
theorem fp_X11_363 : fd_pt RX11 363 5 1 := ⟨_, tyX5, rfl, fw_5, by decide, gw_in (gt_2 (List.mem_of_getElem? (i := 5) rfl)) rfl, rfl, rfl, by decide, tyX5_ok, nmX5, rfl, by decide +kernel⟩
theorem fd_X11_369 : fd_ok RX11 369 11 14 false := ⟨_, rfl, fw_11, by decide, gw_in (gt_2 (List.mem_of_getElem? (i := 130) rfl)) rfl, rfl, rfl, by decide⟩
theorem fp_X11_369 : fd_pt RX11 369 11 14 := ⟨_, tyX11, rfl, fw_11, by decide, gw_in (gt_2 (List.mem_of_getElem? (i := 130) rfl)) rfl, rfl, rfl, by decide, tyX11_ok, nmX11, rfl, by decide +kernel⟩
theorem fd_X11_372 : fd_ok RX11 372 11 15 false := ⟨_, rfl, fw_11, by decide, gw_in (gt_2 (List.mem_of_getElem? (i := 131) rfl)) rfl, rfl, rfl, by decide⟩
theorem fp_X11_372 : fd_pt RX11 372 11 15 := ⟨_, tyX11, rfl, fw_11, by decide, gw_in (gt_2 (List.mem_of_getElem? (i := 131) rfl)) rfl, rfl, rfl, by decide, tyX11_ok, nmX11, rfl, by decide +kernel⟩
theorem fd_X0_9 : fd_ok RX0 9 0 0 false := ⟨_, rfl, fw_0, by decide, gw_in (gt_1 (List.mem_of_getElem? (i := 175) rfl)) rfl, rfl, rfl, by decide⟩
theorem fp_X0_9 : fd_pt RX0 9 0 0 := ⟨_, tyX0, rfl, fw_0, by decide, gw_in (gt_1 (List.mem_of_getElem? (i := 175) rfl)) rfl, rfl, rfl, by decide, tyX0_ok, nmX0, rfl, by decide +kernel⟩
theorem fd_X0_15 : fd_ok RX0 15 0 1 false := ⟨_, rfl, fw_0, by decide, gw_in (gt_1 (List.mem_of_getElem? (i := 176) rfl)) rfl, rfl, rfl, by decide⟩
theorem fp_X0_15 : fd_pt RX0 15 0 1 := ⟨_, tyX0, rfl, fw_0, by decide, gw_in (gt_1 (List.mem_of_getElem? (i := 176) rfl)) rfl, rfl, rfl, by decide, tyX0_ok, nmX0, rfl, by decide +kernel⟩
theorem fd_X1_11 : fd_ok RX1 11 1 1 true := ⟨_, rfl, fw_1, by decide, gw_in (gt_2 (List.mem_of_getElem? (i := 61) rfl)) rfl, rfl, rfl, by decide⟩
theorem fd_X1_15 : fd_ok RX1 15 1 2 true := ⟨_, rfl, fw_1, by decide, gw_in (gt_2 (List.mem_of_getElem? (i := 62) rfl)) rfl, rfl, rfl, by decide⟩
theorem fd_X1_18 : fd_ok RX1 18 1 3 true := ⟨_, rfl, fw_1, by decide, gw_in (gt_2 (List.mem_of_getElem? (i := 63) rfl)) rfl, rfl, rfl, by decide⟩
theorem fd_X1_21 : fd_ok RX1 21 1 0 true := ⟨_, rfl, fw_1, by decide, gw_in (gt_2 (List.mem_of_getElem? (i := 60) rfl)) rfl, rfl, rfl, by decide⟩
theorem fd_X1_29 : fd_ok RX1 29 3 3 false := ⟨_, rfl, fw_3, by decide, gw_in (gt_1 (List.mem_of_getElem? (i := 87) rfl)) rfl, rfl, rfl, by decide⟩
theorem fp_X1_29 : fd_pt RX1 29 3 3 := ⟨_, tyX3, rfl, fw_3, by decide, gw_in (gt_1 (List.mem_of_getElem? (i := 87) rfl)) rfl, rfl, rfl, by decide, tyX3_ok, nmX3, rfl, by decide +kernel⟩
theorem fd_X1_35 : fd_ok RX1 35 3 2 false := ⟨_, rfl, fw_3, by decide, gw_in (gt_1 (List.mem_of_getElem? (i := 83) rfl)) rfl, rfl, rfl, by decide⟩
theorem fp_X1_35 : fd_pt RX1 35 3 2 := ⟨_, tyX3, rfl, fw_3, by decide, gw_in (gt_1 (List.mem_of_getElem? (i := 83) rfl)) rfl, rfl, rfl, by decide, tyX3_ok, nmX3, rfl, by decide +kernel⟩
theorem fd_X1_85 : fd_ok RX1 85 1 4 false := ⟨_, rfl, fw_1, by decide, gw_in (gt_2 (List.mem_of_getElem? (i := 65) rfl)) rfl, rfl, rfl, by decide⟩
theorem fp_X1_85 : fd_pt RX1 85 1 4 := ⟨_, tyX1, rfl, fw_1, by decide, gw_in (gt_2 (List.mem_of_getElem? (i := 65) rfl)) rfl, rfl, rfl, by decide, tyX1_ok, nmX1, rfl, by decide +kernel⟩
theorem fd_X1_88 : fd_ok RX1 88 1 5 false := ⟨_, rfl, fw_1, by decide, gw_in (gt_2 (List.mem_of_getElem? (i := 67) rfl)) rfl, rfl, rfl, by decide⟩
theorem fp_X1_88 : fd_pt RX1 88 1 5 := ⟨_, tyX1, rfl, fw_1, by decide, gw_in (gt_2 (List.mem_of_getElem? (i := 67) rfl)) rfl, rfl, rfl, by decide, tyX1_ok, nmX1, rfl, by decide +kernel⟩
theorem fd_X2_9 : fd_ok RX2 9 2 1 true := ⟨_, rfl, fw_2, by decide, gw_in (gt_2 (List.mem_of_getElem? (i := 89) rfl)) rfl, rfl, rfl, by decide⟩
theorem fd_X2_15 : fd_ok RX2 15 2 0 true := ⟨_, rfl, fw_2, by decide, gw_in (gt_2 (List.mem_of_getElem? (i := 88) rfl)) rfl, rfl, rfl, by decide⟩
theorem fd_X2_19 : fd_ok RX2 19 2 2 false := ⟨_, rfl, fw_2, by decide, gw_in (gt_2 (List.mem_of_getElem? (i := 90) rfl)) rfl, rfl, rfl, by decide⟩
theorem fp_X2_19 : fd_pt RX2 19 2 2 := ⟨_, tyX2, rfl, fw_2, by decide, gw_in (gt_2 (List.mem_of_getElem? (i := 90) rfl)) rfl, rfl, rfl, by decide, tyX2_ok, nmX2, rfl, by decide +kernel⟩
theorem fd_X2_23 : fd_ok RX2 23 2 3 false := ⟨_, rfl, fw_2, by decide, gw_in (gt_2 (List.mem_of_getElem? (i := 92) rfl)) rfl, rfl, rfl, by decide⟩
theorem fp_X2_23 : fd_pt RX2 23 2 3 := ⟨_, tyX2, rfl, fw_2, by decide, gw_in (gt_2 (List.mem_of_getElem? (i := 92) rfl)) rfl, rfl, rfl, by decide, tyX2_ok, nmX2, rfl, by decide +kernel⟩
theorem fd_X2_26 : fd_ok RX2 26 3 2 false := ⟨_, rfl, fw_3, by decide, gw_in (gt_1 (List.mem_of_getElem? (i := 82) rfl)) rfl, rfl, rfl, by decide⟩
theorem fp_X2_26 : fd_pt RX2 26 3 2 := ⟨_, tyX3, rfl, fw_3, by decide, gw_in (gt_1 (List.mem_of_getElem? (i := 82) rfl)) rfl, rfl, rfl, by decide, tyX3_ok, nmX3, rfl, by decide +kernel⟩
theorem fd_X2_37 : fd_ok RX2 37 3 0 false := ⟨_, rfl, fw_3, by decide, gw_in (gt_1 (List.mem_of_getElem? (i := 71) rfl)) rfl, rfl, rfl, by decide⟩
theorem fp_X2_37 : fd_pt RX2 37 3 0 := ⟨_, tyX3, rfl, fw_3, by decide, gw_in (gt_1 (List.mem_of_getElem? (i := 71) rfl)) rfl, rfl, rfl, by decide, tyX3_ok, nmX3, rfl, by decide +kernel⟩
theorem fd_X2_60 : fd_ok RX2 60 3 3 false := ⟨_, rfl, fw_3, by decide, gw_in (gt_1 (List.mem_of_getElem? (i := 90) rfl)) rfl, rfl, rfl, by decide⟩
theorem fp_X2_60 : fd_pt RX2 60 3 3 := ⟨_, tyX3, rfl, fw_3, by decide, gw_in (gt_1 (List.mem_of_getElem? (i := 90) rfl)) rfl, rfl, rfl, by decide, tyX3_ok, nmX3, rfl, by decide +kernel⟩
theorem fd_X3_9 : fd_ok RX3 9 3 4 true := ⟨_, rfl, fw_3, by decide, gw_in (gt_1 (List.mem_of_getElem? (i := 95) rfl)) rfl, rfl, rfl, by decide⟩
theorem fd_X3_15 : fd_ok RX3 15 3 5 true := ⟨_, rfl, fw_3, by decide, gw_in (gt_1 (List.mem_of_getElem? (i := 99) rfl)) rfl, rfl, rfl, by decide⟩
theorem fd_X3_18 : fd_ok RX3 18 3 6 true := ⟨_, rfl, fw_3, by decide, gw_in (gt_1 (List.mem_of_getElem? (i := 102) rfl)) rfl, rfl, rfl, by decide⟩
theorem fd_X3_21 : fd_ok RX3 21 3 7 true := ⟨_, rfl, fw_3, by decide, gw_in (gt_1 (List.mem_of_getElem? (i := 105) rfl)) rfl, rfl, rfl, by decide⟩
theorem fd_X3_24 : fd_ok RX3 24 3 8 true := ⟨_, rfl, fw_3, by decide, gw_in (gt_1 (List.mem_of_getElem? (i := 107) rfl)) rfl, rfl, rfl, by decide⟩
theorem fd_X3_27 : fd_ok RX3 27 3 9 true := ⟨_, rfl, fw_3, by decide, gw_in (gt_1 (List.mem_of_getElem? (i := 109) rfl)) rfl, rfl, rfl, by decide⟩
theorem fd_X3_30 : fd_ok RX3 30 3 10 true := ⟨_, rfl, fw_3, by decide, gw_in (gt_1 (List.mem_of_getElem? (i := 113) rfl)) rfl, rfl, rfl, by decide⟩
theorem fd_X3_33 : fd_ok RX3 33 3 11 true := ⟨_, rfl, fw_3, by decide, gw_in (gt_1 (List.mem_of_getElem? (i := 115) rfl)) rfl, rfl, rfl, by decide⟩
theorem fd_X3_36 : fd_ok RX3 36 3 0 false := ⟨_, rfl, fw_3, by decide, gw_in (gt_1 (List.mem_of_getElem? (i := 69) rfl)) rfl, rfl, rfl, by decide⟩
theorem fp_X3_36 : fd_pt RX3 36 3 0 := ⟨_, tyX3, rfl, fw_3, by decide, gw_in (gt_1 (List.mem_of_getElem? (i := 69) rfl)) rfl, rfl, rfl, by decide, tyX3_ok, nmX3, rfl, by decide +kernel⟩
theorem fd_X3_40 : fd_ok RX3 40 3 1 false := ⟨_, rfl, fw_3, by decide, gw_in (gt_1 (List.mem_of_getElem? (i := 76) rfl)) rfl, rfl, rfl, by decide⟩
theorem fp_X3_40 : fd_pt RX3 40 3 1 := ⟨_, tyX3, rfl, fw_3, by decide, gw_in (gt_1 (List.mem_of_getElem? (i := 76) rfl)) rfl, rfl, rfl, by decide, tyX3_ok, nmX3, rfl, by decide +kernel⟩
theorem fd_X3_43 : fd_ok RX3 43 3 2 false := ⟨_, rfl, fw_3, by decide, gw_in (gt_1 (List.mem_of_getElem? (i := 80) rfl)) rfl, rfl, rfl, by decide⟩
theorem fp_X3_43 : fd_pt RX3 43 3 2 := ⟨_, tyX3, rfl, fw_3, by decide, gw_in (gt_1 (List.mem_of_getElem? (i := 80) rfl)) rfl, rfl, rfl, by decide, tyX3_ok, nmX3, rfl, by decide +kernel⟩
theorem fd_X3_46 : fd_ok RX3 46 3 3 false := ⟨_, rfl, fw_3, by decide, gw_in (gt_1 (List.mem_of_getElem? (i := 88) rfl)) rfl, rfl, rfl, by decide⟩
theorem fp_X3_46 : fd_pt RX3 46 3 3 := ⟨_, tyX3, rfl, fw_3, by decide, gw_in (gt_1 (List.mem_of_getElem? (i := 88) rfl)) rfl, rfl, rfl, by decide, tyX3_ok, nmX3, rfl, by decide +kernel⟩
theorem fd_X4_9 : fd_ok RX4 9 4 0 true := ⟨_, rfl, fw_4, by decide, gw_in (gt_1 (List.mem_of_getElem? (i := 150) rfl)) rfl, rfl, rfl, by decide⟩
theorem fd_X4_15 : fd_ok RX4 15 4 2 true := ⟨_, rfl, fw_4, by decide, gw_in (gt_1 (List.mem_of_getElem? (i := 152) rfl)) rfl, rfl, rfl, by decide⟩
theorem fd_X4_18 : fd_ok RX4 18 4 4 true := ⟨_, rfl, fw_4, by decide, gw_in (gt_1 (List.mem_of_getElem? (i := 154) rfl)) rfl, rfl, rfl, by decide⟩
theorem fd_X4_21 : fd_ok RX4 21 4 5 true := ⟨_, rfl, fw_4, by decide, gw_in (gt_1 (List.mem_of_getElem? (i := 155) rfl)) rfl, rfl, rfl, by decide⟩
theorem fd_X4_24 : fd_ok RX4 24 4 1 false := ⟨_, rfl, fw_4, by decide, gw_in (gt_1 (List.mem_of_getElem? (i := 151) rfl)) rfl, rfl, rfl, by decide⟩
theorem fp_X4_24 : fd_pt RX4 24 4 1 := ⟨_, tyX4, rfl, fw_4, by decide, gw_in (gt_1 (List.mem_of_getElem? (i := 151) rfl)) rfl, rfl, rfl, by decide, tyX4_ok, nmX4, rfl, by decide +kernel⟩
theorem fd_X4_28 : fd_ok RX4 28 4 3 false := ⟨_, rfl, fw_4, by decide, gw_in (gt_1 (List.mem_of_getElem? (i := 153) rfl)) rfl, rfl, rfl, by decide⟩
theorem fp_X4_28 : fd_pt RX4 28 4 3 := ⟨_, tyX4, rfl, fw_4, by decide, gw_in (gt_1 (List.mem_of_getElem? (i := 153) rfl)) rfl, rfl, rfl, by decide, tyX4_ok, nmX4, rfl, by decide +kernel⟩
theorem fd_X5_11 : fd_ok RX5 11 5 2 true := ⟨_, rfl, fw_5, by decide, gw_in (gt_2 (List.mem_of_getElem? (i := 6) rfl)) rfl, rfl, rfl, by decide⟩
theorem fd_X5_15 : fd_ok RX5 15 5 3 true := ⟨_, rfl, fw_5, by decide, gw_in (gt_2 (List.mem_of_getElem? (i := 7) rfl)) rfl, rfl, rfl, by decide⟩
theorem fd_X5_18 : fd_ok RX5 18 5 4 true := ⟨_, rfl, fw_5, by decide, gw_in (gt_2 (List.mem_of_getElem? (i := 8) rfl)) rfl, rfl, rfl, by decide⟩
theorem fd_X5_21 : fd_ok RX5 21 5 0 false := ⟨_, rfl, fw_5, by decide, gw_in (gt_2 (List.mem_of_getElem? (i := 2) rfl)) rfl, rfl, rfl, by decide⟩
theorem fp_X5_21 : fd_pt RX5 21 5 0 := ⟨_, tyX5, rfl, fw_5, by decide, gw_in (gt_2 (List.mem_of_getElem? (i := 2) rfl)) rfl, rfl, rfl, by decide, tyX5_ok, nmX5, rfl, by decide +kernel⟩
theorem fd_X5_25 : fd_ok RX5 25 5 1 false := ⟨_, rfl, fw_5, by decide, gw_in (gt_2 (List.mem_of_getElem? (i := 4) rfl)) rfl, rfl, rfl, by decide⟩
theorem fp_X5_25 : fd_pt RX5 25 5 1 := ⟨_, tyX5, rfl, fw_5, by decide, gw_in (gt_2 (List.mem_of_getElem? (i := 4) rfl)) rfl, rfl, rfl, by decide, tyX5_ok, nmX5, rfl, by decide +kernel⟩
theorem fd_X5_32 : fd_ok RX5 32 8 2 true := ⟨_, rfl, fw_8, by decide, gw_in (gt_1 (List.mem_of_getElem? (i := 224) rfl)) rfl, rfl, rfl, by decide⟩
theorem fd_X6_9 : fd_ok RX6 9 6 0 true := ⟨_, rfl, fw_6, by decide, gw_in (gt_2 (List.mem_of_getElem? (i := 109) rfl)) rfl, rfl, rfl, by decide⟩
theorem fd_X6_15 : fd_ok RX6 15 6 1 false := ⟨_, rfl, fw_6, by decide, gw_in (gt_2 (List.mem_of_getElem? (i := 110) rfl)) rfl, rfl, rfl, by decide⟩
theorem fp_X6_15 : fd_pt RX6 15 6 1 := ⟨_, tyX6, rfl, fw_6, by decide, gw_in (gt_2 (List.mem_of_getElem? (i := 110) rfl)) rfl, rfl, rfl, by decide, tyX6_ok, nmX6, rfl, by decide +kernel⟩
theorem fd_X6_19 : fd_ok RX6 19 3 2 false := ⟨_, rfl, fw_3, by decide, gw_in (gt_1 (List.mem_of_getElem? (i := 81) rfl)) rfl, rfl, rfl, by decide⟩
theorem fp_X6_19 : fd_pt RX6 19 3 2 := ⟨_, tyX3, rfl, fw_3, by decide, gw_in (gt_1 (List.mem_of_getElem? (i := 81) rfl)) rfl, rfl, rfl, by decide, tyX3_ok, nmX3, rfl, by decide +kernel⟩
theorem fd_X6_28 : fd_ok RX6 28 3 0 false := ⟨_, rfl, fw_3, by decide, gw_in (gt_1 (List.mem_of_getElem? (i := 70) rfl)) rfl, rfl, rfl, by decide⟩
theorem fp_X6_28 : fd_pt RX6 28 3 0 := ⟨_, tyX3, rfl, fw_3, by decide, gw_in (gt_1 (List.mem_of_getElem? (i := 70) rfl)) rfl, rfl, rfl, by decide, tyX3_ok, nmX3, rfl, by decide +kernel⟩
theorem fd_X6_37 : fd_ok RX6 37 3 3 false := ⟨_, rfl, fw_3, by decide, gw_in (gt_1 (List.mem_of_getElem? (i := 89) rfl)) rfl, rfl, rfl, by decide⟩
theorem fp_X6_37 : fd_pt RX6 37 3 3 := ⟨_, tyX3, rfl, fw_3, by decide, gw_in (gt_1 (List.mem_of_getElem? (i := 89) rfl)) rfl, rfl, rfl, by decide, tyX3_ok, nmX3, rfl, by decide +kernel⟩
theorem fd_X7_11 : fd_ok RX7 11 7 2 true := ⟨_, rfl, fw_7, by decide, gw_in (gt_2 (List.mem_of_getElem? (i := 28) rfl)) rfl, rfl, rfl, by decide⟩
theorem fd_X7_15 : fd_ok RX7 15 7 3 true := ⟨_, rfl, fw_7, by decide, gw_in (gt_2 (List.mem_of_getElem? (i := 29) rfl)) rfl, rfl, rfl, by decide⟩
theorem fd_X7_18 : fd_ok RX7 18 7 7 false := ⟨_, rfl, fw_7, by decide, gw_in (gt_2 (List.mem_of_getElem? (i := 33) rfl)) rfl, rfl, rfl, by decide⟩
theorem fp_X7_18 : fd_pt RX7 18 7 7 := ⟨_, tyX7, rfl, fw_7, by decide, gw_in (gt_2 (List.mem_of_getElem? (i := 33) rfl)) rfl, rfl, rfl, by decide, tyX7_ok, nmX7, rfl, by decide +kernel⟩
theorem fd_X7_22 : fd_ok RX7 22 7 8 false := ⟨_, rfl, fw_7, by decide, gw_in (gt_2 (List.mem_of_getElem? (i := 34) rfl)) rfl, rfl, rfl, by decide⟩
theorem fp_X7_22 : fd_pt RX7 22 7 8 := ⟨_, tyX7, rfl, fw_7, by decide, gw_in (gt_2 (List.mem_of_getElem? (i := 34) rfl)) rfl, rfl, rfl, by decide, tyX7_ok, nmX7, rfl, by decide +kernel⟩
theorem fd_X7_25 : fd_ok RX7 25 7 0 true := ⟨_, rfl, fw_7, by decide, gw_in (gt_2 (List.mem_of_getElem? (i := 26) rfl)) rfl, rfl, rfl, by decide⟩
theorem fd_X7_29 : fd_ok RX7 29 7 1 true := ⟨_, rfl, fw_7, by decide, gw_in (gt_2 (List.mem_of_getElem? (i := 27) rfl)) rfl, rfl, rfl, by decide⟩
theorem fd_X7_43 : fd_ok RX7 43 7 4 false := ⟨_, rfl, fw_7, by decide, gw_in (gt_2 (List.mem_of_getElem? (i := 30) rfl)) rfl, rfl, rfl, by decide⟩
theorem fp_X7_43 : fd_pt RX7 43 7 4 := ⟨_, tyX7, rfl, fw_7, by decide, gw_in (gt_2 (List.mem_of_getElem? (i := 30) rfl)) rfl, rfl, rfl, by decide, tyX7_ok, nmX7, rfl, by decide +kernel⟩
theorem fd_X7_68 : fd_ok RX7 68 7 5 false := ⟨_, rfl, fw_7, by decide, gw_in (gt_2 (List.mem_of_getElem? (i := 31) rfl)) rfl, rfl, rfl, by decide⟩
theorem fp_X7_68 : fd_pt RX7 68 7 5 := ⟨_, tyX7, rfl, fw_7, by decide, gw_in (gt_2 (List.mem_of_getElem? (i := 31) rfl)) rfl, rfl, rfl, by decide, tyX7_ok, nmX7, rfl, by decide +kernel⟩
theorem fd_X7_78 : fd_ok RX7 78 7 6 false := ⟨_, rfl, fw_7, by decide, gw_in (gt_2 (List.mem_of_getElem? (i := 32) rfl)) rfl, rfl, rfl, by decide⟩
theorem fp_X7_78 : fd_pt RX7 78 7 6 := ⟨_, tyX7, rfl, fw_7, by decide, gw_in (gt_2 (List.mem_of_getElem? (i := 32) rfl)) rfl, rfl, rfl, by decide, tyX7_ok, nmX7, rfl, by decide +kernel⟩
theorem fd_X7_90 : fd_ok RX7 90 3 0 false := ⟨_, rfl, fw_3, by decide, gw_in (gt_1 (List.mem_of_getElem? (i := 72) rfl)) rfl, rfl, rfl, by decide⟩
theorem fp_X7_90 : fd_pt RX7 90 3 0 := ⟨_, tyX3, rfl, fw_3, by decide, gw_in (gt_1 (List.mem_of_getElem? (i := 72) rfl)) rfl, rfl, rfl, by decide, tyX3_ok, nmX3, rfl, by decide +kernel⟩
theorem fd_X7_109 : fd_ok RX7 109 3 9 true := ⟨_, rfl, fw_3, by decide, gw_in (gt_1 (List.mem_of_getElem? (i := 110) rfl)) rfl, rfl, rfl, by decide⟩
theorem fd_X7_112 : fd_ok RX7 112 3 4 true := ⟨_, rfl, fw_3, by decide, gw_in (gt_1 (List.mem_of_getElem? (i := 96) rfl)) rfl, rfl, rfl, by decide⟩
theorem fd_X7_127 : fd_ok RX7 127 3 3 false := ⟨_, rfl, fw_3, by decide, gw_in (gt_1 (List.mem_of_getElem? (i := 93) rfl)) rfl, rfl, rfl, by decide⟩
theorem fp_X7_127 : fd_pt RX7 127 3 3 := ⟨_, tyX3, rfl, fw_3, by decide, gw_in (gt_1 (List.mem_of_getElem? (i := 93) rfl)) rfl, rfl, rfl, by decide, tyX3_ok, nmX3, rfl, by decide +kernel⟩
theorem fd_X7_133 : fd_ok RX7 133 3 11 true := ⟨_, rfl, fw_3, by decide, gw_in (gt_1 (List.mem_of_getElem? (i := 116) rfl)) rfl, rfl, rfl, by decide⟩
theorem fd_X7_136 : fd_ok RX7 136 8 3 true := ⟨_, rfl, fw_8, by decide, gw_in (gt_1 (List.mem_of_getElem? (i := 226) rfl)) rfl, rfl, rfl, by decide⟩
theorem fd_X8_11 : fd_ok RX8 11 8 2 true := ⟨_, rfl, fw_8, by decide, gw_in (gt_1 (List.mem_of_getElem? (i := 223) rfl)) rfl, rfl, rfl, by decide⟩
theorem fd_X8_15 : fd_ok RX8 15 8 3 true := ⟨_, rfl, fw_8, by decide, gw_in (gt_1 (List.mem_of_getElem? (i := 225) rfl)) rfl, rfl, rfl, by decide⟩
theorem fd_X8_18 : fd_ok RX8 18 8 0 true := ⟨_, rfl, fw_8, by decide, gw_in (gt_1 (List.mem_of_getElem? (i := 221) rfl)) rfl, rfl, rfl, by decide⟩
theorem fd_X8_22 : fd_ok RX8 22 8 1 true := ⟨_, rfl, fw_8, by decide, gw_in (gt_1 (List.mem_of_getElem? (i := 222) rfl)) rfl, rfl, rfl, by decide⟩
theorem fd_X8_32 : fd_ok RX8 32 3 2 false := ⟨_, rfl, fw_3, by decide, gw_in (gt_1 (List.mem_of_getElem? (i := 84) rfl)) rfl, rfl, rfl, by decide⟩
theorem fp_X8_32 : fd_pt RX8 32 3 2 := ⟨_, tyX3, rfl, fw_3, by decide, gw_in (gt_1 (List.mem_of_getElem? (i := 84) rfl)) rfl, rfl, rfl, by decide, tyX3_ok, nmX3, rfl, by decide +kernel⟩
theorem fd_X8_38 : fd_ok RX8 38 3 7 true := ⟨_, rfl, fw_3, by decide, gw_in (gt_1 (List.mem_of_getElem? (i := 106) rfl)) rfl, rfl, rfl, by decide⟩
theorem fd_X8_41 : fd_ok RX8 41 3 8 true := ⟨_, rfl, fw_3, by decide, gw_in (gt_1 (List.mem_of_getElem? (i := 108) rfl)) rfl, rfl, rfl, by decide⟩
theorem fd_X8_44 : fd_ok RX8 44 3 3 false := ⟨_, rfl, fw_3, by decide, gw_in (gt_1 (List.mem_of_getElem? (i := 92) rfl)) rfl, rfl, rfl, by decide⟩
theorem fp_X8_44 : fd_pt RX8 44 3 3 := ⟨_, tyX3, rfl, fw_3, by decide, gw_in (gt_1 (List.mem_of_getElem? (i := 92) rfl)) rfl, rfl, rfl, by decide, tyX3_ok, nmX3, rfl, by decide +kernel⟩
theorem fd_X8_47 : fd_ok RX8 47 3 10 true := ⟨_, rfl, fw_3, by decide, gw_in (gt_1 (List.mem_of_getElem? (i := 114) rfl)) rfl, rfl, rfl, by decide⟩
theorem fd_X8_67 : fd_ok RX8 67 3 11 true := ⟨_, rfl, fw_3, by decide, gw_in (gt_1 (List.mem_of_getElem? (i := 118) rfl)) rfl, rfl, rfl, by decide⟩
theorem fd_X8_70 : fd_ok RX8 70 3 4 true := ⟨_, rfl, fw_3, by decide, gw_in (gt_1 (List.mem_of_getElem? (i := 98) rfl)) rfl, rfl, rfl, by decide⟩
theorem fd_X8_77 : fd_ok RX8 77 3 0 false := ⟨_, rfl, fw_3, by decide, gw_in (gt_1 (List.mem_of_getElem? (i := 75) rfl)) rfl, rfl, rfl, by decide⟩
theorem fp_X8_77 : fd_pt RX8 77 3 0 := ⟨_, tyX3, rfl, fw_3, by decide, gw_in (gt_1 (List.mem_of_getElem? (i := 75) rfl)) rfl, rfl, rfl, by decide, tyX3_ok, nmX3, rfl, by decide +kernel⟩
theorem fd_X8_80 : fd_ok RX8 80 3 1 false := ⟨_, rfl, fw_3, by decide, gw_in (gt_1 (List.mem_of_getElem? (i := 79) rfl)) rfl, rfl, rfl, by decide⟩
theorem fp_X8_80 : fd_pt RX8 80 3 1 := ⟨_, tyX3, rfl, fw_3, by decide, gw_in (gt_1 (List.mem_of_getElem? (i := 79) rfl)) rfl, rfl, rfl, by decide, tyX3_ok, nmX3, rfl, by decide +kernel⟩
theorem fd_X8_83 : fd_ok RX8 83 3 5 true := ⟨_, rfl, fw_3, by decide, gw_in (gt_1 (List.mem_of_getElem? (i := 101) rfl)) rfl, rfl, rfl, by decide⟩
theorem fd_X8_86 : fd_ok RX8 86 3 6 true := ⟨_, rfl, fw_3, by decide, gw_in (gt_1 (List.mem_of_getElem? (i := 104) rfl)) rfl, rfl, rfl, by decide⟩
theorem fd_X8_92 : fd_ok RX8 92 3 9 true := ⟨_, rfl, fw_3, by decide, gw_in (gt_1 (List.mem_of_getElem? (i := 112) rfl)) rfl, rfl, rfl, by decide⟩
theorem fd_X9_11 : fd_ok RX9 11 9 0 true := ⟨_, rfl, fw_9, by decide, gw_in (gt_1 (List.mem_of_getElem? (i := 188) rfl)) rfl, rfl, rfl, by decide⟩
theorem fd_X9_15 : fd_ok RX9 15 9 1 true := ⟨_, rfl, fw_9, by decide, gw_in (gt_1 (List.mem_of_getElem? (i := 189) rfl)) rfl, rfl, rfl, by decide⟩
theorem fd_X9_18 : fd_ok RX9 18 9 2 true := ⟨_, rfl, fw_9, by decide, gw_in (gt_1 (List.mem_of_getElem? (i := 190) rfl)) rfl, rfl, rfl, by decide⟩
theorem fd_X9_21 : fd_ok RX9 21 9 3 true := ⟨_, rfl, fw_9, by decide, gw_in (gt_1 (List.mem_of_getElem? (i := 191) rfl)) rfl, rfl, rfl, by decide⟩
theorem fd_X9_24 : fd_ok RX9 24 9 4 false := ⟨_, rfl, fw_9, by decide, gw_in (gt_1 (List.mem_of_getElem? (i := 192) rfl)) rfl, rfl, rfl, by decide⟩
theorem fp_X9_24 : fd_pt RX9 24 9 4 := ⟨_, tyX9, rfl, fw_9, by decide, gw_in (gt_1 (List.mem_of_getElem? (i := 192) rfl)) rfl, rfl, rfl, by decide, tyX9_ok, nmX9, rfl, by decide +kernel⟩
theorem fd_X9_48 : fd_ok RX9 48 3 2 false := ⟨_, rfl, fw_3, by decide, gw_in (gt_1 (List.mem_of_getElem? (i := 85) rfl)) rfl, rfl, rfl, by decide⟩
theorem fp_X9_48 : fd_pt RX9 48 3 2 := ⟨_, tyX3, rfl, fw_3, by decide, gw_in (gt_1 (List.mem_of_getElem? (i := 85) rfl)) rfl, rfl, rfl, by decide, tyX3_ok, nmX3, rfl, by decide +kernel⟩
theorem fd_X9_57 : fd_ok RX9 57 3 0 false := ⟨_, rfl, fw_3, by decide, gw_in (gt_1 (List.mem_of_getElem? (i := 73) rfl)) rfl, rfl, rfl, by decide⟩
theorem fp_X9_57 : fd_pt RX9 57 3 0 := ⟨_, tyX3, rfl, fw_3, by decide, gw_in (gt_1 (List.mem_of_getElem? (i := 73) rfl)) rfl, rfl, rfl, by decide, tyX3_ok, nmX3, rfl, by decide +kernel⟩
theorem fd_X9_66 : fd_ok RX9 66 3 3 false := ⟨_, rfl, fw_3, by decide, gw_in (gt_1 (List.mem_of_getElem? (i := 91) rfl)) rfl, rfl, rfl, by decide⟩
theorem fp_X9_66 : fd_pt RX9 66 3 3 := ⟨_, tyX3, rfl, fw_3, by decide, gw_in (gt_1 (List.mem_of_getElem? (i := 91) rfl)) rfl, rfl, rfl, by decide, tyX3_ok, nmX3, rfl, by decide +kernel⟩
theorem fd_X9_75 : fd_ok RX9 75 3 1 false := ⟨_, rfl, fw_3, by decide, gw_in (gt_1 (List.mem_of_getElem? (i := 77) rfl)) rfl, rfl, rfl, by decide⟩
theorem fp_X9_75 : fd_pt RX9 75 3 1 := ⟨_, tyX3, rfl, fw_3, by decide, gw_in (gt_1 (List.mem_of_getElem? (i := 77) rfl)) rfl, rfl, rfl, by decide, tyX3_ok, nmX3, rfl, by decide +kernel⟩
theorem fd_X9_97 : fd_ok RX9 97 9 5 false := ⟨_, rfl, fw_9, by decide, gw_in (gt_1 (List.mem_of_getElem? (i := 193) rfl)) rfl, rfl, rfl, by decide⟩
theorem fp_X9_97 : fd_pt RX9 97 9 5 := ⟨_, tyX9, rfl, fw_9, by decide, gw_in (gt_1 (List.mem_of_getElem? (i := 193) rfl)) rfl, rfl, rfl, by decide, tyX9_ok, nmX9, rfl, by decide +kernel⟩
theorem fd_X9_100 : fd_ok RX9 100 9 6 false := ⟨_, rfl, fw_9, by decide, gw_in (gt_1 (List.mem_of_getElem? (i := 195) rfl)) rfl, rfl, rfl, by decide⟩
theorem fp_X9_100 : fd_pt RX9 100 9 6 := ⟨_, tyX9, rfl, fw_9, by decide, gw_in (gt_1 (List.mem_of_getElem? (i := 195) rfl)) rfl, rfl, rfl, by decide, tyX9_ok, nmX9, rfl, by decide +kernel⟩
theorem fd_X9_103 : fd_ok RX9 103 9 7 false := ⟨_, rfl, fw_9, by decide, gw_in (gt_1 (List.mem_of_getElem? (i := 197) rfl)) rfl, rfl, rfl, by decide⟩
theorem fp_X9_103 : fd_pt RX9 103 9 7 := ⟨_, tyX9, rfl, fw_9, by decide, gw_in (gt_1 (List.mem_of_getElem? (i := 197) rfl)) rfl, rfl, rfl, by decide, tyX9_ok, nmX9, rfl, by decide +kernel⟩
theorem fd_X10_9 : fd_ok RX10 9 10 0 true := ⟨_, rfl, fw_10, by decide, gw_in (gt_1 (List.mem_of_getElem? (i := 40) rfl)) rfl, rfl, rfl, by decide⟩
theorem fd_X10_15 : fd_ok RX10 15 10 5 false := ⟨_, rfl, fw_10, by decide, gw_in (gt_1 (List.mem_of_getElem? (i := 45) rfl)) rfl, rfl, rfl, by decide⟩
theorem fp_X10_15 : fd_pt RX10 15 10 5 := ⟨_, tyX10, rfl, fw_10, by decide, gw_in (gt_1 (List.mem_of_getElem? (i := 45) rfl)) rfl, rfl, rfl, by decide, tyX10_ok, nmX10, rfl, by decide +kernel⟩
theorem fd_X10_19 : fd_ok RX10 19 10 1 false := ⟨_, rfl, fw_10, by decide, gw_in (gt_1 (List.mem_of_getElem? (i := 41) rfl)) rfl, rfl, rfl, by decide⟩
theorem fp_X10_19 : fd_pt RX10 19 10 1 := ⟨_, tyX10, rfl, fw_10, by decide, gw_in (gt_1 (List.mem_of_getElem? (i := 41) rfl)) rfl, rfl, rfl, by decide, tyX10_ok, nmX10, rfl, by decide +kernel⟩
theorem fd_X10_28 : fd_ok RX10 28 10 2 false := ⟨_, rfl, fw_10, by decide, gw_in (gt_1 (List.mem_of_getElem? (i := 42) rfl)) rfl, rfl, rfl, by decide⟩
theorem fp_X10_28 : fd_pt RX10 28 10 2 := ⟨_, tyX10, rfl, fw_10, by decide, gw_in (gt_1 (List.mem_of_getElem? (i := 42) rfl)) rfl, rfl, rfl, by decide, tyX10_ok, nmX10, rfl, by decide +kernel⟩
theorem fd_X10_31 : fd_ok RX10 31 10 4 false := ⟨_, rfl, fw_10, by decide, gw_in (gt_1 (List.mem_of_getElem? (i := 44) rfl)) rfl, rfl, rfl, by decide⟩
theorem fp_X10_31 : fd_pt RX10 31 10 4 := ⟨_, tyX10, rfl, fw_10, by decide, gw_in (gt_1 (List.mem_of_getElem? (i := 44) rfl)) rfl, rfl, rfl, by decide, tyX10_ok, nmX10, rfl, by decide +kernel⟩
theorem fd_X10_38 : fd_ok RX10 38 10 3 false := ⟨_, rfl, fw_10, by decide, gw_in (gt_1 (List.mem_of_getElem? (i := 43) rfl)) rfl, rfl, rfl, by decide⟩
theorem fp_X10_38 : fd_pt RX10 38 10 3 := ⟨_, tyX10, rfl, fw_10, by decide, gw_in (gt_1 (List.mem_of_getElem? (i := 43) rfl)) rfl, rfl, rfl, by decide, tyX10_ok, nmX10, rfl, by decide +kernel⟩
theorem fd_X10_61 : fd_ok RX10 61 10 6 false := ⟨_, rfl, fw_10, by decide, gw_in (gt_1 (List.mem_of_getElem? (i := 46) rfl)) rfl, rfl, rfl, by decide⟩
theorem fp_X10_61 : fd_pt RX10 61 10 6 := ⟨_, tyX10, rfl, fw_10, by decide, gw_in (gt_1 (List.mem_of_getElem? (i := 46) rfl)) rfl, rfl, rfl, by decide, tyX10_ok, nmX10, rfl, by decide +kernel⟩
theorem fd_X12_9 : fd_ok RX12 9 12 3 false := ⟨_, rfl, fw_12, by decide, gw_in (gt_6 (List.mem_of_getElem? (i := 235) rfl)) rfl, rfl, rfl, by decide⟩
theorem fp_X12_9 : fd_pt RX12 9 12 3 := ⟨_, tyX12, rfl, fw_12, by decide, gw_in (gt_6 (List.mem_of_getElem? (i := 235) rfl)) rfl, rfl, rfl, by decide, tyX12_ok, nmX12, rfl, by decide +kernel⟩
theorem fd_X12_13 : fd_ok RX12 13 12 9 true := ⟨_, rfl, fw_12, by decide, gw_in (gt_7 (List.mem_of_getElem? (i := 1) rfl)) rfl, rfl, rfl, by decide⟩
theorem fd_X12_17 : fd_ok RX12 17 12 10 true := ⟨_, rfl, fw_12, by decide, gw_in (gt_7 (List.mem_of_getElem? (i := 2) rfl)) rfl, rfl, rfl, by decide⟩
theorem fd_X12_20 : fd_ok RX12 20 12 11 true := ⟨_, rfl, fw_12, by decide, gw_in (gt_7 (List.mem_of_getElem? (i := 3) rfl)) rfl, rfl, rfl, by decide⟩
theorem fd_X12_23 : fd_ok RX12 23 12 12 true := ⟨_, rfl, fw_12, by decide, gw_in (gt_7 (List.mem_of_getElem? (i := 4) rfl)) rfl, rfl, rfl, by decide⟩
theorem fd_X12_28 : fd_ok RX12 28 12 13 true := ⟨_, rfl, fw_12, by decide, gw_in (gt_7 (List.mem_of_getElem? (i := 5) rfl)) rfl, rfl, rfl, by decide⟩
theorem fd_X12_31 : fd_ok RX12 31 12 14 true := ⟨_, rfl, fw_12, by decide, gw_in (gt_7 (List.mem_of_getElem? (i := 6) rfl)) rfl, rfl, rfl, by decide⟩
theorem fd_X12_34 : fd_ok RX12 34 12 17 true := ⟨_, rfl, fw_12, by decide, gw_in (gt_7 (List.mem_of_getElem? (i := 9) rfl)) rfl, rfl, rfl, by decide⟩
theorem fd_X12_37 : fd_ok RX12 37 12 18 true := ⟨_, rfl, fw_12, by decide, gw_in (gt_7 (List.mem_of_getElem? (i := 10) rfl)) rfl, rfl, rfl, by decide⟩
theorem fd_X12_40 : fd_ok RX12 40 12 19 true := ⟨_, rfl, fw_12, by decide, gw_in (gt_7 (List.mem_of_getElem? (i := 11) rfl)) rfl, rfl, rfl, by decide⟩
theorem fd_X12_43 : fd_ok RX12 43 12 20 true := ⟨_, rfl, fw_12, by decide, gw_in (gt_7 (List.mem_of_getElem? (i := 12) rfl)) rfl, rfl, rfl, by decide⟩
theorem fd_X12_46 : fd_ok RX12 46 12 21 true := ⟨_, rfl, fw_12, by decide, gw_in (gt_7 (List.mem_of_getElem? (i := 13) rfl)) rfl, rfl, rfl, by decide⟩
theorem fd_X12_49 : fd_ok RX12 49 12 22 true := ⟨_, rfl, fw_12, by decide, gw_in (gt_7 (List.mem_of_getElem? (i := 14) rfl)) rfl, rfl, rfl, by decide⟩
theorem fd_X12_52 : fd_ok RX12 52 12 23 true := ⟨_, rfl, fw_12, by decide, gw_in (gt_7 (List.mem_of_getElem? (i := 15) rfl)) rfl, rfl, rfl, by decide⟩
theorem fd_X12_55 : fd_ok RX12 55 12 25 true := ⟨_, rfl, fw_12, by decide, gw_in (gt_7 (List.mem_of_getElem? (i := 17) rfl)) rfl, rfl, rfl, by decide⟩
theorem fd_X12_58 : fd_ok RX12 58 12 26 true := ⟨_, rfl, fw_12, by decide, gw_in (gt_7 (List.mem_of_getElem? (i := 18) rfl)) rfl, rfl, rfl, by decide⟩
theorem fd_X12_61 : fd_ok RX12 61 12 27 true := ⟨_, rfl, fw_12, by decide, gw_in (gt_7 (List.mem_of_getElem? (i := 19) rfl)) rfl, rfl, rfl, by decide⟩
theorem fd_X12_64 : fd_ok RX12 64 12 28 true := ⟨_, rfl, fw_12, by decide, gw_in (gt_7 (List.mem_of_getElem? (i := 20) rfl)) rfl, rfl, rfl, by decide⟩
theorem fd_X12_67 : fd_ok RX12 67 12 29 true := ⟨_, rfl, fw_12, by decide, gw_in (gt_7 (List.mem_of_getElem? (i := 21) rfl)) rfl, rfl, rfl, by decide⟩
theorem fd_X12_70 : fd_ok RX12 70 12 37 true := ⟨_, rfl, fw_12, by decide, gw_in (gt_7 (List.mem_of_getElem? (i := 29) rfl)) rfl, rfl, rfl, by decide⟩
theorem fd_X12_74 : fd_ok RX12 74 12 38 true := ⟨_, rfl, fw_12, by decide, gw_in (gt_7 (List.mem_of_getElem? (i := 30) rfl)) rfl, rfl, rfl, by decide⟩
theorem fd_X12_77 : fd_ok RX12 77 12 39 true := ⟨_, rfl, fw_12, by decide, gw_in (gt_7 (List.mem_of_getElem? (i := 31) rfl)) rfl, rfl, rfl, by decide⟩
theorem fd_X12_80 : fd_ok RX12 80 12 40 true := ⟨_, rfl, fw_12, by decide, gw_in (gt_7 (List.mem_of_getElem? (i := 32) rfl)) rfl, rfl, rfl, by decide⟩
theorem fd_X12_83 : fd_ok RX12 83 12 43 true := ⟨_, rfl, fw_12, by decide, gw_in (gt_7 (List.mem_of_getElem? (i := 35) rfl)) rfl, rfl, rfl, by decide⟩
theorem fd_X12_93 : fd_ok RX12 93 12 0 false := ⟨_, rfl, fw_12, by decide, gw_in (gt_6 (List.mem_of_getElem? (i := 232) rfl)) rfl, rfl, rfl, by decide⟩
theorem fp_X12_93 : fd_pt RX12 93 12 0 := ⟨_, tyX12, rfl, fw_12, by decide, gw_in (gt_6 (List.mem_of_getElem? (i := 232) rfl)) rfl, rfl, rfl, by decide, tyX12_ok, nmX12, rfl, by decide +kernel⟩
theorem fd_X12_96 : fd_ok RX12 96 12 1 false := ⟨_, rfl, fw_12, by decide, gw_in (gt_6 (List.mem_of_getElem? (i := 233) rfl)) rfl, rfl, rfl, by decide⟩
theorem fp_X12_96 : fd_pt RX12 96 12 1 := ⟨_, tyX12, rfl, fw_12, by decide, gw_in (gt_6 (List.mem_of_getElem? (i := 233) rfl)) rfl, rfl, rfl, by decide, tyX12_ok, nmX12, rfl, by decide +kernel⟩
theorem fd_X12_99 : fd_ok RX12 99 12 2 false := ⟨_, rfl, fw_12, by decide, gw_in (gt_6 (List.mem_of_getElem? (i := 234) rfl)) rfl, rfl, rfl, by decide⟩
theorem fp_X12_99 : fd_pt RX12 99 12 2 := ⟨_, tyX12, rfl, fw_12, by decide, gw_in (gt_6 (List.mem_of_getElem? (i := 234) rfl)) rfl, rfl, rfl, by decide, tyX12_ok, nmX12, rfl, by decide +kernel⟩
theorem fd_X12_102 : fd_ok RX12 102 12 4 false := ⟨_, rfl, fw_12, by decide, gw_in (gt_6 (List.mem_of_getElem? (i := 236) rfl)) rfl, rfl, rfl, by decide⟩
theorem fp_X12_102 : fd_pt RX12 102 12 4 := ⟨_, tyX12, rfl, fw_12, by decide, gw_in (gt_6 (List.mem_of_getElem? (i := 236) rfl)) rfl, rfl, rfl, by decide, tyX12_ok, nmX12, rfl, by decide +kernel⟩
theorem fd_X12_109 : fd_ok RX12 109 12 5 false := ⟨_, rfl, fw_12, by decide, gw_in (gt_6 (List.mem_of_getElem? (i := 237) rfl)) rfl, rfl, rfl, by decide⟩
theorem fp_X12_109 : fd_pt RX12 109 12 5 := ⟨_, tyX12, rfl, fw_12, by decide, gw_in (gt_6 (List.mem_of_getElem? (i := 237) rfl)) rfl, rfl, rfl, by decide, tyX12_ok, nmX12, rfl, by decide +kernel⟩
theorem fd_X12_112 : fd_ok RX12 112 12 6 false := ⟨_, rfl, fw_12, by decide, gw_in (gt_6 (List.mem_of_getElem? (i := 238) rfl)) rfl, rfl, rfl, by decide⟩
theorem fp_X12_112 : fd_pt RX12 112 12 6 := ⟨_, tyX12, rfl, fw_12, by decide, gw_in (gt_6 (List.mem_of_getElem? (i := 238) rfl)) rfl, rfl, rfl, by decide, tyX12_ok, nmX12, rfl, by decide +kernel⟩
theorem fd_X12_149 : fd_ok RX12 149 12 7 false := ⟨_, rfl, fw_12, by decide, gw_in (gt_6 (List.mem_of_getElem? (i := 239) rfl)) rfl, rfl, rfl, by decide⟩
theorem fp_X12_149 : fd_pt RX12 149 12 7 := ⟨_, tyX12, rfl, fw_12, by decide, gw_in (gt_6 (List.mem_of_getElem? (i := 239) rfl)) rfl, rfl, rfl, by decide, tyX12_ok, nmX12, rfl, by decide +kernel⟩
theorem fd_X12_152 : fd_ok RX12 152 12 8 false := ⟨_, rfl, fw_12, by decide, gw_in (gt_7 (List.mem_of_getElem? (i := 0) rfl)) rfl, rfl, rfl, by decide⟩
theorem fp_X12_152 : fd_pt RX12 152 12 8 := ⟨_, tyX12, rfl, fw_12, by decide, gw_in (gt_7 (List.mem_of_getElem? (i := 0) rfl)) rfl, rfl, rfl, by decide, tyX12_ok, nmX12, rfl, by decide +kernel⟩
theorem fd_X12_189 : fd_ok RX12 189 12 15 false := ⟨_, rfl, fw_12, by decide, gw_in (gt_7 (List.mem_of_getElem? (i := 7) rfl)) rfl, rfl, rfl, by decide⟩
theorem fp_X12_189 : fd_pt RX12 189 12 15 := ⟨_, tyX12, rfl, fw_12, by decide, gw_in (gt_7 (List.mem_of_getElem? (i := 7) rfl)) rfl, rfl, rfl, by decide, tyX12_ok, nmX12, rfl, by decide +kernel⟩
theorem fd_X12_192 : fd_ok RX12 192 12 30 false := ⟨_, rfl, fw_12, by decide, gw_in (gt_7 (List.mem_of_getElem? (i := 22) rfl)) rfl, rfl, rfl, by decide⟩
theorem fp_X12_192 : fd_pt RX12 192 12 30 := ⟨_, tyX12, rfl, fw_12, by decide, gw_in (gt_7 (List.mem_of_getElem? (i := 22) rfl)) rfl, rfl, rfl, by decide, tyX12_ok, nmX12, rfl, by decide +kernel⟩
theorem fd_X12_195 : fd_ok RX12 195 12 31 false := ⟨_, rfl, fw_12, by decide, gw_in (gt_7 (List.mem_of_getElem? (i := 23) rfl)) rfl, rfl, rfl, by decide⟩
theorem fp_X12_195 : fd_pt RX12 195 12 31 := ⟨_, tyX12, rfl, fw_12, by decide, gw_in (gt_7 (List.mem_of_getElem? (i := 23) rfl)) rfl, rfl, rfl, by decide, tyX12_ok, nmX12, rfl, by decide +kernel⟩
theorem fd_X12_198 : fd_ok RX12 198 12 32 false := ⟨_, rfl, fw_12, by decide, gw_in (gt_7 (List.mem_of_getElem? (i := 24) rfl)) rfl, rfl, rfl, by decide⟩
theorem fp_X12_198 : fd_pt RX12 198 12 32 := ⟨_, tyX12, rfl, fw_12, by decide, gw_in (gt_7 (List.mem_of_getElem? (i := 24) rfl)) rfl, rfl, rfl, by decide, tyX12_ok, nmX12, rfl, by decide +kernel⟩
theorem fd_X12_201 : fd_ok RX12 201 12 33 false := ⟨_, rfl, fw_12, by decide, gw_in (gt_7 (List.mem_of_getElem? (i := 25) rfl)) rfl, rfl, rfl, by decide⟩
theorem fp_X12_201 : fd_pt RX12 201 12 33 := ⟨_, tyX12, rfl, fw_12, by decide, gw_in (gt_7 (List.mem_of_getElem? (i := 25) rfl)) rfl, rfl, rfl, by decide, tyX12_ok, nmX12, rfl, by decide +kernel⟩
theorem fd_X12_204 : fd_ok RX12 204 12 16 false := ⟨_, rfl, fw_12, by decide, gw_in (gt_7 (List.mem_of_getElem? (i := 8) rfl)) rfl, rfl, rfl, by decide⟩
theorem fp_X12_204 : fd_pt RX12 204 12 16 := ⟨_, tyX12, rfl, fw_12, by decide, gw_in (gt_7 (List.mem_of_getElem? (i := 8) rfl)) rfl, rfl, rfl, by decide, tyX12_ok, nmX12, rfl, by decide +kernel⟩
theorem fd_X12_245 : fd_ok RX12 245 12 24 false := ⟨_, rfl, fw_12, by decide, gw_in (gt_7 (List.mem_of_getElem? (i := 16) rfl)) rfl, rfl, rfl, by decide⟩
theorem fp_X12_245 : fd_pt RX12 245 12 24 := ⟨_, tyX12, rfl, fw_12, by decide, gw_in (gt_7 (List.mem_of_getElem? (i := 16) rfl)) rfl, rfl, rfl, by decide, tyX12_ok, nmX12, rfl, by decide +kernel⟩
theorem fd_X12_315 : fd_ok RX12 315 12 35 false := ⟨_, rfl, fw_12, by decide, gw_in (gt_7 (List.mem_of_getElem? (i := 27) rfl)) rfl, rfl, rfl, by decide⟩
theorem fp_X12_315 : fd_pt RX12 315 12 35 := ⟨_, tyX12, rfl, fw_12, by decide, gw_in (gt_7 (List.mem_of_getElem? (i := 27) rfl)) rfl, rfl, rfl, by decide, tyX12_ok, nmX12, rfl, by decide +kernel⟩
theorem fd_X12_325 : fd_ok RX12 325 12 36 false := ⟨_, rfl, fw_12, by decide, gw_in (gt_7 (List.mem_of_getElem? (i := 28) rfl)) rfl, rfl, rfl, by decide⟩
theorem fp_X12_325 : fd_pt RX12 325 12 36 := ⟨_, tyX12, rfl, fw_12, by decide, gw_in (gt_7 (List.mem_of_getElem? (i := 28) rfl)) rfl, rfl, rfl, by decide, tyX12_ok, nmX12, rfl, by decide +kernel⟩
theorem fd_X12_349 : fd_ok RX12 349 12 41 false := ⟨_, rfl, fw_12, by decide, gw_in (gt_7 (List.mem_of_getElem? (i := 33) rfl)) rfl, rfl, rfl, by decide⟩
theorem fp_X12_349 : fd_pt RX12 349 12 41 := ⟨_, tyX12, rfl, fw_12, by decide, gw_in (gt_7 (List.mem_of_getElem? (i := 33) rfl)) rfl, rfl, rfl, by decide, tyX12_ok, nmX12, rfl, by decide +kernel⟩
theorem fd_X12_352 : fd_ok RX12 352 12 42 false := ⟨_, rfl, fw_12, by decide, gw_in (gt_7 (List.mem_of_getElem? (i := 34) rfl)) rfl, rfl, rfl, by decide⟩
theorem fp_X12_352 : fd_pt RX12 352 12 42 := ⟨_, tyX12, rfl, fw_12, by decide, gw_in (gt_7 (List.mem_of_getElem? (i := 34) rfl)) rfl, rfl, rfl, by decide, tyX12_ok, nmX12, rfl, by decide +kernel⟩
theorem fd_X12_388 : fd_ok RX12 388 12 44 false := ⟨_, rfl, fw_12, by decide, gw_in (gt_7 (List.mem_of_getElem? (i := 36) rfl)) rfl, rfl, rfl, by decide⟩
theorem fp_X12_388 : fd_pt RX12 388 12 44 := ⟨_, tyX12, rfl, fw_12, by decide, gw_in (gt_7 (List.mem_of_getElem? (i := 36) rfl)) rfl, rfl, rfl, by decide, tyX12_ok, nmX12, rfl, by decide +kernel⟩
theorem fd_X12_401 : fd_ok RX12 401 12 34 false := ⟨_, rfl, fw_12, by decide, gw_in (gt_7 (List.mem_of_getElem? (i := 26) rfl)) rfl, rfl, rfl, by decide⟩
theorem fp_X12_401 : fd_pt RX12 401 12 34 := ⟨_, tyX12, rfl, fw_12, by decide, gw_in (gt_7 (List.mem_of_getElem? (i := 26) rfl)) rfl, rfl, rfl, by decide, tyX12_ok, nmX12, rfl, by decide +kernel⟩
theorem mm_all : mm_ok := ⟨gw_in (gt_3 (List.mem_of_getElem? (i := 54) rfl)) rfl, gw_in (gt_3 (List.mem_of_getElem? (i := 51) rfl)) rfl, gw_in (gt_1 (List.mem_of_getElem? (i := 14) rfl)) rfl, gw_in (gt_3 (List.mem_of_getElem? (i := 55) rfl)) rfl, gw_in (gt_3 (List.mem_of_getElem? (i := 52) rfl)) rfl⟩
theorem ac_all : ac_ok := ⟨gw_in (gt_2 (List.mem_of_getElem? (i := 199) rfl)) rfl, gw_in (gt_2 (List.mem_of_getElem? (i := 198) rfl)) rfl, gw_in (gt_1 (List.mem_of_getElem? (i := 23) rfl)) rfl⟩
theorem ic_i_m1 : Int32.ofInt (-1) = (-1 : Int32) := by decide
theorem ic_i_0 : Int32.ofInt (0) = (0 : Int32) := by decide
theorem ic_i_1 : Int32.ofInt (1) = (1 : Int32) := by decide
theorem ic_i_2 : Int32.ofInt (2) = (2 : Int32) := by decide
theorem ic_i_3 : Int32.ofInt (3) = (3 : Int32) := by decide
theorem ic_i_4 : Int32.ofInt (4) = (4 : Int32) := by decide
theorem ic_i_5 : Int32.ofInt (5) = (5 : Int32) := by decide
theorem ic_b_m20 : (Int8.ofInt (-20)).toInt32 = (-20 : Int32) := by decide
theorem ic_b_6 : (Int8.ofInt (6)).toInt32 = (6 : Int32) := by decide
theorem ic_b_7 : (Int8.ofInt (7)).toInt32 = (7 : Int32) := by decide
theorem ic_b_8 : (Int8.ofInt (8)).toInt32 = (8 : Int32) := by decide
theorem ic_b_9 : (Int8.ofInt (9)).toInt32 = (9 : Int32) := by decide
theorem ic_b_10 : (Int8.ofInt (10)).toInt32 = (10 : Int32) := by decide
theorem ic_b_11 : (Int8.ofInt (11)).toInt32 = (11 : Int32) := by decide
theorem ic_b_12 : (Int8.ofInt (12)).toInt32 = (12 : Int32) := by decide
theorem ic_b_13 : (Int8.ofInt (13)).toInt32 = (13 : Int32) := by decide
theorem ic_b_14 : (Int8.ofInt (14)).toInt32 = (14 : Int32) := by decide
theorem ic_b_15 : (Int8.ofInt (15)).toInt32 = (15 : Int32) := by decide
theorem ic_b_16 : (Int8.ofInt (16)).toInt32 = (16 : Int32) := by decide
theorem ic_b_18 : (Int8.ofInt (18)).toInt32 = (18 : Int32) := by decide
theorem ic_b_19 : (Int8.ofInt (19)).toInt32 = (19 : Int32) := by decide
theorem ic_b_20 : (Int8.ofInt (20)).toInt32 = (20 : Int32) := by decide
theorem ic_b_21 : (Int8.ofInt (21)).toInt32 = (21 : Int32) := by decide
theorem ic_b_23 : (Int8.ofInt (23)).toInt32 = (23 : Int32) := by decide
theorem ic_b_24 : (Int8.ofInt (24)).toInt32 = (24 : Int32) := by decide
theorem ic_b_25 : (Int8.ofInt (25)).toInt32 = (25 : Int32) := by decide
theorem ic_b_26 : (Int8.ofInt (26)).toInt32 = (26 : Int32) := by decide
theorem ic_b_27 : (Int8.ofInt (27)).toInt32 = (27 : Int32) := by decide
theorem ic_b_29 : (Int8.ofInt (29)).toInt32 = (29 : Int32) := by decide
theorem ic_b_32 : (Int8.ofInt (32)).toInt32 = (32 : Int32) := by decide
theorem ic_b_37 : (Int8.ofInt (37)).toInt32 = (37 : Int32) := by decide
theorem ic_b_40 : (Int8.ofInt (40)).toInt32 = (40 : Int32) := by decide
theorem ic_b_41 : (Int8.ofInt (41)).toInt32 = (41 : Int32) := by decide
theorem ic_b_42 : (Int8.ofInt (42)).toInt32 = (42 : Int32) := by decide
theorem ic_b_43 : (Int8.ofInt (43)).toInt32 = (43 : Int32) := by decide
theorem ic_b_44 : (Int8.ofInt (44)).toInt32 = (44 : Int32) := by decide
theorem ic_b_45 : (Int8.ofInt (45)).toInt32 = (45 : Int32) := by decide
theorem ic_b_46 : (Int8.ofInt (46)).toInt32 = (46 : Int32) := by decide
theorem ic_b_47 : (Int8.ofInt (47)).toInt32 = (47 : Int32) := by decide
theorem ic_b_48 : (Int8.ofInt (48)).toInt32 = (48 : Int32) := by decide
theorem ic_b_57 : (Int8.ofInt (57)).toInt32 = (57 : Int32) := by decide
theorem ic_b_59 : (Int8.ofInt (59)).toInt32 = (59 : Int32) := by decide
theorem ic_b_60 : (Int8.ofInt (60)).toInt32 = (60 : Int32) := by decide
theorem ic_b_63 : (Int8.ofInt (63)).toInt32 = (63 : Int32) := by decide
theorem ic_b_80 : (Int8.ofInt (80)).toInt32 = (80 : Int32) := by decide
theorem ic_b_91 : (Int8.ofInt (91)).toInt32 = (91 : Int32) := by decide
theorem ic_b_93 : (Int8.ofInt (93)).toInt32 = (93 : Int32) := by decide
theorem ic_b_96 : (Int8.ofInt (96)).toInt32 = (96 : Int32) := by decide
theorem ic_b_97 : (Int8.ofInt (97)).toInt32 = (97 : Int32) := by decide
theorem ic_b_99 : (Int8.ofInt (99)).toInt32 = (99 : Int32) := by decide
theorem ic_b_100 : (Int8.ofInt (100)).toInt32 = (100 : Int32) := by decide
theorem ic_b_122 : (Int8.ofInt (122)).toInt32 = (122 : Int32) := by decide
theorem ic_s_150 : (Int16.ofInt (150)).toInt32 = (150 : Int32) := by decide
theorem ic_s_160 : (Int16.ofInt (160)).toInt32 = (160 : Int32) := by decide
theorem ic_s_200 : (Int16.ofInt (200)).toInt32 = (200 : Int32) := by decide
theorem ic_s_255 : (Int16.ofInt (255)).toInt32 = (255 : Int32) := by decide
theorem ic_s_256 : (Int16.ofInt (256)).toInt32 = (256 : Int32) := by decide
theorem ic_s_512 : (Int16.ofInt (512)).toInt32 = (512 : Int32) := by decide
theorem ic_s_600 : (Int16.ofInt (600)).toInt32 = (600 : Int32) := by decide
theorem ic_s_752 : (Int16.ofInt (752)).toInt32 = (752 : Int32) := by decide
theorem ic_s_799 : (Int16.ofInt (799)).toInt32 = (799 : Int32) := by decide
theorem ic_s_800 : (Int16.ofInt (800)).toInt32 = (800 : Int32) := by decide
theorem ic_s_900 : (Int16.ofInt (900)).toInt32 = (900 : Int32) := by decide
theorem ic_s_999 : (Int16.ofInt (999)).toInt32 = (999 : Int32) := by decide
theorem ic_s_1000 : (Int16.ofInt (1000)).toInt32 = (1000 : Int32) := by decide
theorem ic_s_1010 : (Int16.ofInt (1010)).toInt32 = (1010 : Int32) := by decide
theorem ic_s_1011 : (Int16.ofInt (1011)).toInt32 = (1011 : Int32) := by decide
theorem ic_s_1012 : (Int16.ofInt (1012)).toInt32 = (1012 : Int32) := by decide
theorem ic_s_1013 : (Int16.ofInt (1013)).toInt32 = (1013 : Int32) := by decide
theorem ic_s_1014 : (Int16.ofInt (1014)).toInt32 = (1014 : Int32) := by decide
theorem ic_s_1015 : (Int16.ofInt (1015)).toInt32 = (1015 : Int32) := by decide
theorem ic_s_1016 : (Int16.ofInt (1016)).toInt32 = (1016 : Int32) := by decide
theorem ic_s_1536 : (Int16.ofInt (1536)).toInt32 = (1536 : Int32) := by decide
theorem ic_s_2397 : (Int16.ofInt (2397)).toInt32 = (2397 : Int32) := by decide
theorem ic_s_8000 : (Int16.ofInt (8000)).toInt32 = (8000 : Int32) := by decide
theorem ic_s_12345 : (Int16.ofInt (12345)).toInt32 = (12345 : Int32) := by decide
theorem ic_s_32767 : (Int16.ofInt (32767)).toInt32 = (32767 : Int32) := by decide
