def z_sg {γ : Type} (σ : St) (k : St → Option γ) : Option γ := k σ
theorem ya_0_1 : ∀ k, k < 259 → kdX k = 0 → kdX (k + 1) = 9 ∧ lnX (k + 1) = 32 := by decide +kernel
theorem yk_0_1 {k : Nat} (h : kdX k = 0) : kdX (k + 1) = 9 := (ya_0_1 k (kd_lt h (by decide)) h).1
theorem yl_0_1 {k : Nat} (h : kdX k = 0) : lnX (k + 1) = 32 := (ya_0_1 k (kd_lt h (by decide)) h).2
theorem ya_1_8 : ∀ k, k < 259 → kdX k = 1 → kdX (k + 1) = 9 ∧ lnX (k + 1) = 32 := by decide +kernel
theorem yk_1_8 {k : Nat} (h : kdX k = 1) : kdX (k + 1) = 9 := (ya_1_8 k (kd_lt h (by decide)) h).1
theorem yl_1_8 {k : Nat} (h : kdX k = 1) : lnX (k + 1) = 32 := (ya_1_8 k (kd_lt h (by decide)) h).2
theorem ya_1_9 : ∀ k, k < 259 → kdX k = 1 → kdX (k + 2) = 9 ∧ lnX (k + 2) = 32 := by decide +kernel
theorem yk_1_9 {k : Nat} (h : kdX k = 1) : kdX (k + 2) = 9 := (ya_1_9 k (kd_lt h (by decide)) h).1
theorem yl_1_9 {k : Nat} (h : kdX k = 1) : lnX (k + 2) = 32 := (ya_1_9 k (kd_lt h (by decide)) h).2
theorem ya_2_3 : ∀ k, k < 259 → kdX k = 2 → kdX (k + 1) = 8 ∧ lnX (k + 1) = 700 := by decide +kernel
theorem yk_2_3 {k : Nat} (h : kdX k = 2) : kdX (k + 1) = 8 := (ya_2_3 k (kd_lt h (by decide)) h).1
theorem yl_2_3 {k : Nat} (h : kdX k = 2) : lnX (k + 1) = 700 := (ya_2_3 k (kd_lt h (by decide)) h).2
theorem ya_2_4 : ∀ k, k < 259 → kdX k = 2 → kdX (k + 2) = 9 ∧ lnX (k + 2) = 3 := by decide +kernel
theorem yk_2_4 {k : Nat} (h : kdX k = 2) : kdX (k + 2) = 9 := (ya_2_4 k (kd_lt h (by decide)) h).1
theorem yl_2_4 {k : Nat} (h : kdX k = 2) : lnX (k + 2) = 3 := (ya_2_4 k (kd_lt h (by decide)) h).2
theorem ya_3_0 : ∀ k, k < 259 → kdX k = 3 → kdX (k + 1) = 0 ∧ lnX (k + 1) = 0 := by decide +kernel
theorem yk_3_0 {k : Nat} (h : kdX k = 3) : kdX (k + 1) = 0 := (ya_3_0 k (kd_lt h (by decide)) h).1
theorem ya_3_11 : ∀ k, k < 259 → kdX k = 3 → kdX (k + 3) = 0 ∧ lnX (k + 3) = 0 := by decide +kernel
theorem yk_3_11 {k : Nat} (h : kdX k = 3) : kdX (k + 3) = 0 := (ya_3_11 k (kd_lt h (by decide)) h).1
theorem ya_3_12 : ∀ k, k < 259 → kdX k = 3 → kdX (k + 5) = 9 ∧ lnX (k + 5) = 32 := by decide +kernel
theorem yk_3_12 {k : Nat} (h : kdX k = 3) : kdX (k + 5) = 9 := (ya_3_12 k (kd_lt h (by decide)) h).1
theorem yl_3_12 {k : Nat} (h : kdX k = 3) : lnX (k + 5) = 32 := (ya_3_12 k (kd_lt h (by decide)) h).2
theorem ya_3_13 : ∀ k, k < 259 → kdX k = 3 → kdX (k + 6) = 9 ∧ lnX (k + 6) = 60 := by decide +kernel
theorem yk_3_13 {k : Nat} (h : kdX k = 3) : kdX (k + 6) = 9 := (ya_3_13 k (kd_lt h (by decide)) h).1
theorem yl_3_13 {k : Nat} (h : kdX k = 3) : lnX (k + 6) = 60 := (ya_3_13 k (kd_lt h (by decide)) h).2
theorem ya_3_14 : ∀ k, k < 259 → kdX k = 3 → kdX (k + 7) = 12 ∧ lnX (k + 7) = 30 := by decide +kernel
theorem yk_3_14 {k : Nat} (h : kdX k = 3) : kdX (k + 7) = 12 := (ya_3_14 k (kd_lt h (by decide)) h).1
theorem yl_3_14 {k : Nat} (h : kdX k = 3) : lnX (k + 7) = 30 := (ya_3_14 k (kd_lt h (by decide)) h).2
theorem ya_4_6 : ∀ k, k < 259 → kdX k = 4 → kdX (k + 1) = 9 ∧ lnX (k + 1) = 60 := by decide +kernel
theorem yk_4_6 {k : Nat} (h : kdX k = 4) : kdX (k + 1) = 9 := (ya_4_6 k (kd_lt h (by decide)) h).1
theorem yl_4_6 {k : Nat} (h : kdX k = 4) : lnX (k + 1) = 60 := (ya_4_6 k (kd_lt h (by decide)) h).2
theorem ya_4_7 : ∀ k, k < 259 → kdX k = 4 → kdX (k + 2) = 9 ∧ lnX (k + 2) = 180 := by decide +kernel
theorem yk_4_7 {k : Nat} (h : kdX k = 4) : kdX (k + 2) = 9 := (ya_4_7 k (kd_lt h (by decide)) h).1
theorem yl_4_7 {k : Nat} (h : kdX k = 4) : lnX (k + 2) = 180 := (ya_4_7 k (kd_lt h (by decide)) h).2
theorem ya_5_3 : ∀ k, k < 259 → kdX k = 5 → kdX (k + 1) = 10 ∧ lnX (k + 1) = 60 := by decide +kernel
theorem yk_5_3 {k : Nat} (h : kdX k = 5) : kdX (k + 1) = 10 := (ya_5_3 k (kd_lt h (by decide)) h).1
theorem yl_5_3 {k : Nat} (h : kdX k = 5) : lnX (k + 1) = 60 := (ya_5_3 k (kd_lt h (by decide)) h).2
theorem ya_6_0 : ∀ k, k < 259 → kdX k = 6 → kdX (k + 1) = 2 ∧ lnX (k + 1) = 0 := by decide +kernel
theorem yk_6_0 {k : Nat} (h : kdX k = 6) : kdX (k + 1) = 2 := (ya_6_0 k (kd_lt h (by decide)) h).1
theorem ya_6_1 : ∀ k, k < 259 → kdX k = 6 → kdX (k + 4) = 4 ∧ lnX (k + 4) = 0 := by decide +kernel
theorem yk_6_1 {k : Nat} (h : kdX k = 6) : kdX (k + 4) = 4 := (ya_6_1 k (kd_lt h (by decide)) h).1
theorem ya_6_2 : ∀ k, k < 259 → kdX k = 6 → kdX (k + 7) = 4 ∧ lnX (k + 7) = 0 := by decide +kernel
theorem yk_6_2 {k : Nat} (h : kdX k = 6) : kdX (k + 7) = 4 := (ya_6_2 k (kd_lt h (by decide)) h).1
theorem ya_6_3 : ∀ k, k < 259 → kdX k = 6 → kdX (k + 10) = 13 ∧ lnX (k + 10) = 3 := by decide +kernel
theorem yk_6_3 {k : Nat} (h : kdX k = 6) : kdX (k + 10) = 13 := (ya_6_3 k (kd_lt h (by decide)) h).1
theorem yl_6_3 {k : Nat} (h : kdX k = 6) : lnX (k + 10) = 3 := (ya_6_3 k (kd_lt h (by decide)) h).2
theorem ya_6_4 : ∀ k, k < 259 → kdX k = 6 → kdX (k + 11) = 14 ∧ lnX (k + 11) = 4 := by decide +kernel
theorem yk_6_4 {k : Nat} (h : kdX k = 6) : kdX (k + 11) = 14 := (ya_6_4 k (kd_lt h (by decide)) h).1
theorem yl_6_4 {k : Nat} (h : kdX k = 6) : lnX (k + 11) = 4 := (ya_6_4 k (kd_lt h (by decide)) h).2
theorem ya_6_5 : ∀ k, k < 259 → kdX k = 6 → kdX (k + 12) = 3 ∧ lnX (k + 12) = 0 := by decide +kernel
theorem yk_6_5 {k : Nat} (h : kdX k = 6) : kdX (k + 12) = 3 := (ya_6_5 k (kd_lt h (by decide)) h).1
theorem ya_6_6 : ∀ k, k < 259 → kdX k = 6 → kdX (k + 110) = 3 ∧ lnX (k + 110) = 0 := by decide +kernel
theorem yk_6_6 {k : Nat} (h : kdX k = 6) : kdX (k + 110) = 3 := (ya_6_6 k (kd_lt h (by decide)) h).1
theorem ya_6_7 : ∀ k, k < 259 → kdX k = 6 → kdX (k + 208) = 0 ∧ lnX (k + 208) = 0 := by decide +kernel
theorem yk_6_7 {k : Nat} (h : kdX k = 6) : kdX (k + 208) = 0 := (ya_6_7 k (kd_lt h (by decide)) h).1
theorem ya_6_8 : ∀ k, k < 259 → kdX k = 6 → kdX (k + 210) = 0 ∧ lnX (k + 210) = 0 := by decide +kernel
theorem yk_6_8 {k : Nat} (h : kdX k = 6) : kdX (k + 210) = 0 := (ya_6_8 k (kd_lt h (by decide)) h).1
theorem ya_6_9 : ∀ k, k < 259 → kdX k = 6 → kdX (k + 212) = 9 ∧ lnX (k + 212) = 256 := by decide +kernel
theorem yk_6_9 {k : Nat} (h : kdX k = 6) : kdX (k + 212) = 9 := (ya_6_9 k (kd_lt h (by decide)) h).1
theorem yl_6_9 {k : Nat} (h : kdX k = 6) : lnX (k + 212) = 256 := (ya_6_9 k (kd_lt h (by decide)) h).2
theorem ya_6_10 : ∀ k, k < 259 → kdX k = 6 → kdX (k + 213) = 9 ∧ lnX (k + 213) = 4 := by decide +kernel
theorem yk_6_10 {k : Nat} (h : kdX k = 6) : kdX (k + 213) = 9 := (ya_6_10 k (kd_lt h (by decide)) h).1
theorem yl_6_10 {k : Nat} (h : kdX k = 6) : lnX (k + 213) = 4 := (ya_6_10 k (kd_lt h (by decide)) h).2
theorem ya_7_1 : ∀ k, k < 259 → kdX k = 7 → kdX (k + 1) = 9 ∧ lnX (k + 1) = 246 := by decide +kernel
theorem yk_7_1 {k : Nat} (h : kdX k = 7) : kdX (k + 1) = 9 := (ya_7_1 k (kd_lt h (by decide)) h).1
theorem yl_7_1 {k : Nat} (h : kdX k = 7) : lnX (k + 1) = 246 := (ya_7_1 k (kd_lt h (by decide)) h).2
theorem ya_7_2 : ∀ k, k < 259 → kdX k = 7 → kdX (k + 2) = 9 ∧ lnX (k + 2) = 738 := by decide +kernel
theorem yk_7_2 {k : Nat} (h : kdX k = 7) : kdX (k + 2) = 9 := (ya_7_2 k (kd_lt h (by decide)) h).1
theorem yl_7_2 {k : Nat} (h : kdX k = 7) : lnX (k + 2) = 738 := (ya_7_2 k (kd_lt h (by decide)) h).2
theorem ya_7_3 : ∀ k, k < 259 → kdX k = 7 → kdX (k + 3) = 11 ∧ lnX (k + 3) = 3 := by decide +kernel
theorem yk_7_3 {k : Nat} (h : kdX k = 7) : kdX (k + 3) = 11 := (ya_7_3 k (kd_lt h (by decide)) h).1
theorem yl_7_3 {k : Nat} (h : kdX k = 7) : lnX (k + 3) = 3 := (ya_7_3 k (kd_lt h (by decide)) h).2
theorem ya_7_4 : ∀ k, k < 259 → kdX k = 7 → kdX (k + 4) = 8 ∧ lnX (k + 4) = 700 := by decide +kernel
theorem yk_7_4 {k : Nat} (h : kdX k = 7) : kdX (k + 4) = 8 := (ya_7_4 k (kd_lt h (by decide)) h).1
theorem yl_7_4 {k : Nat} (h : kdX k = 7) : lnX (k + 4) = 700 := (ya_7_4 k (kd_lt h (by decide)) h).2
theorem ya_7_6 : ∀ k, k < 259 → kdX k = 7 → kdX (k + 5) = 9 ∧ lnX (k + 5) = 5 := by decide +kernel
theorem yk_7_6 {k : Nat} (h : kdX k = 7) : kdX (k + 5) = 9 := (ya_7_6 k (kd_lt h (by decide)) h).1
theorem yl_7_6 {k : Nat} (h : kdX k = 7) : lnX (k + 5) = 5 := (ya_7_6 k (kd_lt h (by decide)) h).2
theorem ya_7_14 : ∀ k, k < 259 → kdX k = 7 → kdX (k + 6) = 9 ∧ lnX (k + 6) = 246 := by decide +kernel
theorem yk_7_14 {k : Nat} (h : kdX k = 7) : kdX (k + 6) = 9 := (ya_7_14 k (kd_lt h (by decide)) h).1
theorem yl_7_14 {k : Nat} (h : kdX k = 7) : lnX (k + 6) = 246 := (ya_7_14 k (kd_lt h (by decide)) h).2
theorem ya_7_15 : ∀ k, k < 259 → kdX k = 7 → kdX (k + 7) = 11 ∧ lnX (k + 7) = 60 := by decide +kernel
theorem yk_7_15 {k : Nat} (h : kdX k = 7) : kdX (k + 7) = 11 := (ya_7_15 k (kd_lt h (by decide)) h).1
theorem yl_7_15 {k : Nat} (h : kdX k = 7) : lnX (k + 7) = 60 := (ya_7_15 k (kd_lt h (by decide)) h).2
theorem ya_7_16 : ∀ k, k < 259 → kdX k = 7 → kdX (k + 8) = 9 ∧ lnX (k + 8) = 1952 := by decide +kernel
theorem yk_7_16 {k : Nat} (h : kdX k = 7) : kdX (k + 8) = 9 := (ya_7_16 k (kd_lt h (by decide)) h).1
theorem yl_7_16 {k : Nat} (h : kdX k = 7) : lnX (k + 8) = 1952 := (ya_7_16 k (kd_lt h (by decide)) h).2
theorem ya_7_17 : ∀ k, k < 259 → kdX k = 7 → kdX (k + 9) = 11 ∧ lnX (k + 9) = 1920 := by decide +kernel
theorem yk_7_17 {k : Nat} (h : kdX k = 7) : kdX (k + 9) = 11 := (ya_7_17 k (kd_lt h (by decide)) h).1
theorem yl_7_17 {k : Nat} (h : kdX k = 7) : lnX (k + 9) = 1920 := (ya_7_17 k (kd_lt h (by decide)) h).2
theorem ya_7_18 : ∀ k, k < 259 → kdX k = 7 → kdX (k + 10) = 9 ∧ lnX (k + 10) = 60 := by decide +kernel
theorem yk_7_18 {k : Nat} (h : kdX k = 7) : kdX (k + 10) = 9 := (ya_7_18 k (kd_lt h (by decide)) h).1
theorem yl_7_18 {k : Nat} (h : kdX k = 7) : lnX (k + 10) = 60 := (ya_7_18 k (kd_lt h (by decide)) h).2
theorem ya_7_19 : ∀ k, k < 259 → kdX k = 7 → kdX (k + 11) = 9 ∧ lnX (k + 11) = 60 := by decide +kernel
theorem yk_7_19 {k : Nat} (h : kdX k = 7) : kdX (k + 11) = 9 := (ya_7_19 k (kd_lt h (by decide)) h).1
theorem yl_7_19 {k : Nat} (h : kdX k = 7) : lnX (k + 11) = 60 := (ya_7_19 k (kd_lt h (by decide)) h).2
theorem ya_7_20 : ∀ k, k < 259 → kdX k = 7 → kdX (k + 12) = 9 ∧ lnX (k + 12) = 60 := by decide +kernel
theorem yk_7_20 {k : Nat} (h : kdX k = 7) : kdX (k + 12) = 9 := (ya_7_20 k (kd_lt h (by decide)) h).1
theorem yl_7_20 {k : Nat} (h : kdX k = 7) : lnX (k + 12) = 60 := (ya_7_20 k (kd_lt h (by decide)) h).2
theorem ya_7_21 : ∀ k, k < 259 → kdX k = 7 → kdX (k + 13) = 9 ∧ lnX (k + 13) = 60 := by decide +kernel
theorem yk_7_21 {k : Nat} (h : kdX k = 7) : kdX (k + 13) = 9 := (ya_7_21 k (kd_lt h (by decide)) h).1
theorem yl_7_21 {k : Nat} (h : kdX k = 7) : lnX (k + 13) = 60 := (ya_7_21 k (kd_lt h (by decide)) h).2
theorem ya_7_22 : ∀ k, k < 259 → kdX k = 7 → kdX (k + 14) = 9 ∧ lnX (k + 14) = 60 := by decide +kernel
theorem yk_7_22 {k : Nat} (h : kdX k = 7) : kdX (k + 14) = 9 := (ya_7_22 k (kd_lt h (by decide)) h).1
theorem yl_7_22 {k : Nat} (h : kdX k = 7) : lnX (k + 14) = 60 := (ya_7_22 k (kd_lt h (by decide)) h).2
theorem ya_7_23 : ∀ k, k < 259 → kdX k = 7 → kdX (k + 15) = 11 ∧ lnX (k + 15) = 1920 := by decide +kernel
theorem yk_7_23 {k : Nat} (h : kdX k = 7) : kdX (k + 15) = 11 := (ya_7_23 k (kd_lt h (by decide)) h).1
theorem yl_7_23 {k : Nat} (h : kdX k = 7) : lnX (k + 15) = 1920 := (ya_7_23 k (kd_lt h (by decide)) h).2
theorem ya_7_24 : ∀ k, k < 259 → kdX k = 7 → kdX (k + 16) = 11 ∧ lnX (k + 16) = 1920 := by decide +kernel
theorem yk_7_24 {k : Nat} (h : kdX k = 7) : kdX (k + 16) = 11 := (ya_7_24 k (kd_lt h (by decide)) h).1
theorem yl_7_24 {k : Nat} (h : kdX k = 7) : lnX (k + 16) = 1920 := (ya_7_24 k (kd_lt h (by decide)) h).2
theorem ya_7_25 : ∀ k, k < 259 → kdX k = 7 → kdX (k + 17) = 9 ∧ lnX (k + 17) = 1920 := by decide +kernel
theorem yk_7_25 {k : Nat} (h : kdX k = 7) : kdX (k + 17) = 9 := (ya_7_25 k (kd_lt h (by decide)) h).1
theorem yl_7_25 {k : Nat} (h : kdX k = 7) : lnX (k + 17) = 1920 := (ya_7_25 k (kd_lt h (by decide)) h).2
theorem ya_7_26 : ∀ k, k < 259 → kdX k = 7 → kdX (k + 18) = 9 ∧ lnX (k + 18) = 1920 := by decide +kernel
theorem yk_7_26 {k : Nat} (h : kdX k = 7) : kdX (k + 18) = 9 := (ya_7_26 k (kd_lt h (by decide)) h).1
theorem yl_7_26 {k : Nat} (h : kdX k = 7) : lnX (k + 18) = 1920 := (ya_7_26 k (kd_lt h (by decide)) h).2
theorem ya_7_27 : ∀ k, k < 259 → kdX k = 7 → kdX (k + 19) = 9 ∧ lnX (k + 19) = 60 := by decide +kernel
theorem yk_7_27 {k : Nat} (h : kdX k = 7) : kdX (k + 19) = 9 := (ya_7_27 k (kd_lt h (by decide)) h).1
theorem yl_7_27 {k : Nat} (h : kdX k = 7) : lnX (k + 19) = 60 := (ya_7_27 k (kd_lt h (by decide)) h).2
theorem ya_7_30 : ∀ k, k < 259 → kdX k = 7 → kdX (k + 20) = 9 ∧ lnX (k + 20) = 32 := by decide +kernel
theorem yk_7_30 {k : Nat} (h : kdX k = 7) : kdX (k + 20) = 9 := (ya_7_30 k (kd_lt h (by decide)) h).1
theorem yl_7_30 {k : Nat} (h : kdX k = 7) : lnX (k + 20) = 32 := (ya_7_30 k (kd_lt h (by decide)) h).2
theorem ya_7_31 : ∀ k, k < 259 → kdX k = 7 → kdX (k + 21) = 9 ∧ lnX (k + 21) = 60 := by decide +kernel
theorem yk_7_31 {k : Nat} (h : kdX k = 7) : kdX (k + 21) = 9 := (ya_7_31 k (kd_lt h (by decide)) h).1
theorem yl_7_31 {k : Nat} (h : kdX k = 7) : lnX (k + 21) = 60 := (ya_7_31 k (kd_lt h (by decide)) h).2
theorem ya_7_32 : ∀ k, k < 259 → kdX k = 7 → kdX (k + 22) = 9 ∧ lnX (k + 22) = 32 := by decide +kernel
theorem yk_7_32 {k : Nat} (h : kdX k = 7) : kdX (k + 22) = 9 := (ya_7_32 k (kd_lt h (by decide)) h).1
theorem yl_7_32 {k : Nat} (h : kdX k = 7) : lnX (k + 22) = 32 := (ya_7_32 k (kd_lt h (by decide)) h).2
theorem ya_7_36 : ∀ k, k < 259 → kdX k = 7 → kdX (k + 23) = 9 ∧ lnX (k + 23) = 256 := by decide +kernel
theorem yk_7_36 {k : Nat} (h : kdX k = 7) : kdX (k + 23) = 9 := (ya_7_36 k (kd_lt h (by decide)) h).1
theorem yl_7_36 {k : Nat} (h : kdX k = 7) : lnX (k + 23) = 256 := (ya_7_36 k (kd_lt h (by decide)) h).2
theorem ya_7_40 : ∀ k, k < 259 → kdX k = 7 → kdX (k + 24) = 9 ∧ lnX (k + 24) = 4 := by decide +kernel
theorem yk_7_40 {k : Nat} (h : kdX k = 7) : kdX (k + 24) = 9 := (ya_7_40 k (kd_lt h (by decide)) h).1
theorem yl_7_40 {k : Nat} (h : kdX k = 7) : lnX (k + 24) = 4 := (ya_7_40 k (kd_lt h (by decide)) h).2
theorem ya_7_41 : ∀ k, k < 259 → kdX k = 7 → kdX (k + 25) = 9 ∧ lnX (k + 25) = 4 := by decide +kernel
theorem yk_7_41 {k : Nat} (h : kdX k = 7) : kdX (k + 25) = 9 := (ya_7_41 k (kd_lt h (by decide)) h).1
theorem yl_7_41 {k : Nat} (h : kdX k = 7) : lnX (k + 25) = 4 := (ya_7_41 k (kd_lt h (by decide)) h).2
theorem ya_7_42 : ∀ k, k < 259 → kdX k = 7 → kdX (k + 26) = 10 ∧ lnX (k + 26) = 240 := by decide +kernel
theorem yk_7_42 {k : Nat} (h : kdX k = 7) : kdX (k + 26) = 10 := (ya_7_42 k (kd_lt h (by decide)) h).1
theorem yl_7_42 {k : Nat} (h : kdX k = 7) : lnX (k + 26) = 240 := (ya_7_42 k (kd_lt h (by decide)) h).2
theorem ya_7_43 : ∀ k, k < 259 → kdX k = 7 → kdX (k + 27) = 10 ∧ lnX (k + 27) = 60 := by decide +kernel
theorem yk_7_43 {k : Nat} (h : kdX k = 7) : kdX (k + 27) = 10 := (ya_7_43 k (kd_lt h (by decide)) h).1
theorem yl_7_43 {k : Nat} (h : kdX k = 7) : lnX (k + 27) = 60 := (ya_7_43 k (kd_lt h (by decide)) h).2
theorem yb_12 : ∀ k, k < 259 → kdX k = 12 → ∀ i, i < 30 → kdX (k + 1 + 3 * i) = 1 := by decide +kernel
theorem ye_12 {k i : Nat} (h : kdX k = 12) (hi : i < 30) : kdX (k + 1 + 3 * i) = 1 := yb_12 k (kd_lt h (by decide)) h i hi
theorem yb_13 : ∀ k, k < 259 → kdX k = 13 → ∀ i, i < 3 → kdX (k + 204 + 3 * i) = 4 := by decide +kernel
theorem ye_13 {k i : Nat} (h : kdX k = 13) (hi : i < 3) : kdX (k + 204 + 3 * i) = 4 := yb_13 k (kd_lt h (by decide)) h i hi
theorem yb_14 : ∀ k, k < 259 → kdX k = 14 → ∀ i, i < 4 → kdX (k + 212 + 2 * i) = 5 := by decide +kernel
theorem ye_14 {k i : Nat} (h : kdX k = 14) (hi : i < 4) : kdX (k + 212 + 2 * i) = 5 := yb_14 k (kd_lt h (by decide)) h i hi
theorem ln_all : ∀ k, k < 259 → (Int32.ofNat (lnX k)).toInt = (lnX k : Int) := by decide +kernel
section SM
variable {G : GG} {A : Nat → Prop} {nc ns : Nat} {p : Program} {l : Launch} {e : Env} {R : Room} {s : State} {m : MethodId} {args : Array Value} {below : List Frame} {meth : Method} {c : Code} {α : Type} {Q : α → State → Prop} {σ : St} {cc : ByteArray} {nL : Nat} {own : String} {pc : Nat} {ls : Array Slot} {st : List Value} {f f1 f2 : Option α} {kf : Int → Option α}
theorem q_sg {ks : St → Option α} {g : JFrame} (kk : ∀ σ' : St, Sim G A nc ns p l e R s m args below meth c Q σ' (ks σ') g) : Sim G A nc ns p l e R s m args below meth c Q σ (z_sg σ ks) g := kk σ
theorem q_null (C : CX G A p m c cc nL s args own) (hdg : decode cc pc = .ok (.aconst_null, 1)) (kk : Sim G A nc ns p l e R s m args below meth c Q σ f (F0 m (pc + 1) ls (.null :: st))) : Sim G A nc ns p l e R s m args below meth c Q σ f (F0 m pc ls st) := fun o ho H locs hP hS => lv_null C.1 C.2.1 hdg (kk o ho H locs hP hS)
theorem a_len9 (C : CX G A p m c cc nL s args own) {k : Nat} (hk : kdX k = 9) (hdg : decode cc pc = .ok (.arraylength, 1)) (kk : ∀ x : Int32, Sim G A nc ns p l e R s m args below meth c Q σ (kf x.toInt) (F0 m (pc + 1) ls (.int x :: st))) : Sim G A nc ns p l e R s m args below meth c Q σ (z_gt (lnX k) kf) (F0 m pc ls (.ref (gad G k) :: st)) := fun o ho H locs hP hS => va_alen (D := gD G) C.1 C.2.1 C.2.2.2.2.2.1.1 hP.1 k 1 ((wd_at (kd_lt hk (by omega))).trans (by rw [cf_9 hk])) rfl rfl hdg (kk (Int32.ofNat (lnX k)) o (by rw [ln_all k (kd_lt hk (by omega))]; exact ho) H locs hP hS)
theorem a_len10 (C : CX G A p m c cc nL s args own) {k : Nat} (hk : kdX k = 10) (hdg : decode cc pc = .ok (.arraylength, 1)) (kk : ∀ x : Int32, Sim G A nc ns p l e R s m args below meth c Q σ (kf x.toInt) (F0 m (pc + 1) ls (.int x :: st))) : Sim G A nc ns p l e R s m args below meth c Q σ (z_gt (lnX k) kf) (F0 m pc ls (.ref (gad G k) :: st)) := fun o ho H locs hP hS => va_alen (D := gD G) C.1 C.2.1 C.2.2.2.2.2.1.1 hP.1 k 2 ((wd_at (kd_lt hk (by omega))).trans (by rw [cf_10 hk])) rfl rfl hdg (kk (Int32.ofNat (lnX k)) o (by rw [ln_all k (kd_lt hk (by omega))]; exact ho) H locs hP hS)
end SM
section SB8
variable {G : GG} {p : Program} {l : Launch} {e : Env} {R : Room} {s : State} {m : MethodId} {args : Array Value} {below : List Frame} {meth : Method} {c : Code} {σ : St} {cc : ByteArray} {nL : Nat} {own : String} {pc : Nat} {ls : Array Slot}
theorem q_bret (C : CX G (AG G) p m c cc nL s args own) {x : Int32} (hr : meth.sig.returnType = some .byte) (hlo : meth.locks = false) (hdg : decode cc pc = .ok (.ireturn, 1)) : Sim G (AG G) 0 0 p l e R s m args below meth c (fun r : Int => MQ below (QC G (vI r) (σ)) args s 0 0 (AG G)) σ (z_by x.toInt (some x.toInt)) (F0 m pc ls [.int x]) := by
  intro o ho H locs hP hS
  obtain ⟨q1, q2⟩ := by_some ho
  cases q2
  refine W.zret C.1 C.2.1 hr ?_ (fun t ht hW => ⟨⟨_, rfl, ⟨x, rfl, rfl⟩, by rw [ht]; exact hP⟩, hS.F ht⟩) hS.2.2 hdg hlo
  have h1 : vp_nar .byte x = x := by rw [vp_nar_byte]; exact x8_of q1
  have h4 : narrow .byte (.int x) = .int (vp_nar .byte x) := rfl
  rw [h4, h1]
end SB8
