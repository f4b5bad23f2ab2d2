theorem ok_0 : okd 0 = 9 := rfl
theorem ok_1 : okd 1 = 8 := rfl
theorem ok_2 : okd 2 = 2 := rfl
theorem ok_3 : okd 3 = 20 := rfl
theorem ol_3 : oln 3 = 6 := rfl
theorem ok_4 : okd 4 = 21 := rfl
theorem ol_4 : oln 4 = 8 := rfl
theorem ok_5 : okd 5 = 20 := rfl
theorem ol_5 : oln 5 = 64 := rfl
theorem ok_6 : okd 6 = 7 := rfl
theorem ok_7 : okd 7 = 20 := rfl
theorem ol_7 : oln 7 = 20 := rfl
theorem ok_8 : okd 8 = 20 := rfl
theorem ol_8 : oln 8 = 20 := rfl
theorem ok_9 : okd 9 = 23 := rfl
theorem ol_9 : oln 9 = 20 := rfl
theorem ok_10 : okd 10 = 20 := rfl
theorem ol_10 : oln 10 = 6 := rfl
theorem ok_11 : okd 11 = 3 := rfl
theorem ok_12 : okd 12 = 21 := rfl
theorem ol_12 : oln 12 = 6 := rfl
theorem ok_13 : okd 13 = 21 := rfl
theorem ol_13 : oln 13 = 6 := rfl
theorem ok_14 : okd 14 = 24 := rfl
theorem ol_14 : oln 14 = 6 := rfl
theorem ok_15 : okd 15 = 1 := rfl
theorem ok_16 : okd 16 = 1 := rfl
theorem ok_17 : okd 17 = 1 := rfl
theorem ok_18 : okd 18 = 1 := rfl
theorem ok_19 : okd 19 = 1 := rfl
theorem ok_20 : okd 20 = 1 := rfl
theorem ok_21 : okd 21 = 20 := rfl
theorem ol_21 : oln 21 = 6 := rfl
theorem ok_22 : okd 22 = 8 := rfl
theorem ok_23 : okd 23 = 2 := rfl
theorem ok_24 : okd 24 = 20 := rfl
theorem ol_24 : oln 24 = 6 := rfl
theorem ok_25 : okd 25 = 21 := rfl
theorem ol_25 : oln 25 = 8 := rfl
theorem ok_26 : okd 26 = 20 := rfl
theorem ol_26 : oln 26 = 64 := rfl
theorem ok_27 : okd 27 = 7 := rfl
theorem ok_28 : okd 28 = 20 := rfl
theorem ol_28 : oln 28 = 20 := rfl
theorem ok_29 : okd 29 = 20 := rfl
theorem ol_29 : oln 29 = 20 := rfl
theorem ok_30 : okd 30 = 23 := rfl
theorem ol_30 : oln 30 = 20 := rfl
theorem ok_31 : okd 31 = 20 := rfl
theorem ol_31 : oln 31 = 6 := rfl
theorem ok_32 : okd 32 = 3 := rfl
theorem ok_33 : okd 33 = 21 := rfl
theorem ol_33 : oln 33 = 6 := rfl
theorem ok_34 : okd 34 = 21 := rfl
theorem ol_34 : oln 34 = 6 := rfl
theorem ok_35 : okd 35 = 24 := rfl
theorem ol_35 : oln 35 = 6 := rfl
theorem ok_36 : okd 36 = 1 := rfl
theorem ok_37 : okd 37 = 1 := rfl
theorem ok_38 : okd 38 = 1 := rfl
theorem ok_39 : okd 39 = 1 := rfl
theorem ok_40 : okd 40 = 1 := rfl
theorem ok_41 : okd 41 = 1 := rfl
theorem ok_42 : okd 42 = 20 := rfl
theorem ol_42 : oln 42 = 6 := rfl
theorem ok_43 : okd 43 = 6 := rfl
theorem ok_44 : okd 44 = 22 := rfl
theorem ol_44 : oln 44 = 900 := rfl
theorem ok_45 : okd 45 = 20 := rfl
theorem ol_45 : oln 45 = 901 := rfl
theorem ok_46 : okd 46 = 20 := rfl
theorem ol_46 : oln 46 = 901 := rfl
theorem ok_47 : okd 47 = 21 := rfl
theorem ol_47 : oln 47 = 901 := rfl
theorem ok_48 : okd 48 = 5 := rfl
theorem ok_49 : okd 49 = 20 := rfl
theorem ol_49 : oln 49 = 11 := rfl
theorem ok_50 : okd 50 = 21 := rfl
theorem ol_50 : oln 50 = 20 := rfl
theorem ok_51 : okd 51 = 20 := rfl
theorem ol_51 : oln 51 = 20 := rfl
theorem ok_52 : okd 52 = 20 := rfl
theorem ol_52 : oln 52 = 20 := rfl
theorem ok_53 : okd 53 = 21 := rfl
theorem ol_53 : oln 53 = 9 := rfl
theorem ok_54 : okd 54 = 21 := rfl
theorem ol_54 : oln 54 = 9 := rfl
theorem ok_55 : okd 55 = 23 := rfl
theorem ol_55 : oln 55 = 9 := rfl
theorem ok_56 : okd 56 = 4 := rfl
theorem ok_57 : okd 57 = 21 := rfl
theorem ol_57 : oln 57 = 7 := rfl
theorem ok_58 : okd 58 = 20 := rfl
theorem ol_58 : oln 58 = 7 := rfl
theorem ok_59 : okd 59 = 20 := rfl
theorem ol_59 : oln 59 = 2187 := rfl
theorem ok_60 : okd 60 = 20 := rfl
theorem ol_60 : oln 60 = 2187 := rfl
theorem ok_61 : okd 61 = 0 := rfl
theorem ok_62 : okd 62 = 20 := rfl
theorem ol_62 : oln 62 = 12 := rfl
theorem ok_63 : okd 63 = 20 := rfl
theorem ol_63 : oln 63 = 12 := rfl
theorem ok_64 : okd 64 = 20 := rfl
theorem ol_64 : oln 64 = 12 := rfl
theorem ok_65 : okd 65 = 25 := rfl
theorem ol_65 : oln 65 = 3 := rfl
theorem ok_66 : okd 66 = 7 := rfl
theorem ok_67 : okd 67 = 20 := rfl
theorem ol_67 : oln 67 = 20 := rfl
theorem ok_68 : okd 68 = 20 := rfl
theorem ol_68 : oln 68 = 20 := rfl
theorem ok_69 : okd 69 = 23 := rfl
theorem ol_69 : oln 69 = 20 := rfl
theorem ok_70 : okd 70 = 20 := rfl
theorem ol_70 : oln 70 = 6 := rfl
theorem ok_71 : okd 71 = 7 := rfl
theorem ok_72 : okd 72 = 20 := rfl
theorem ol_72 : oln 72 = 20 := rfl
theorem ok_73 : okd 73 = 20 := rfl
theorem ol_73 : oln 73 = 20 := rfl
theorem ok_74 : okd 74 = 23 := rfl
theorem ol_74 : oln 74 = 20 := rfl
theorem ok_75 : okd 75 = 20 := rfl
theorem ol_75 : oln 75 = 6 := rfl
theorem ok_76 : okd 76 = 7 := rfl
theorem ok_77 : okd 77 = 20 := rfl
theorem ol_77 : oln 77 = 20 := rfl
theorem ok_78 : okd 78 = 20 := rfl
theorem ol_78 : oln 78 = 20 := rfl
theorem ok_79 : okd 79 = 23 := rfl
theorem ol_79 : oln 79 = 20 := rfl
theorem ok_80 : okd 80 = 20 := rfl
theorem ol_80 : oln 80 = 6 := rfl
theorem ok_81 : okd 81 = 10 := rfl
theorem ok_82 : okd 82 = 20 := rfl
theorem ol_82 : oln 82 = 900 := rfl
theorem ok_83 : okd 83 = 20 := rfl
theorem ol_83 : oln 83 = 8 := rfl
theorem ok_84 : okd 84 = 20 := rfl
theorem ol_84 : oln 84 = 279 := rfl
theorem ok_85 : okd 85 = 20 := rfl
theorem ol_85 : oln 85 = 279 := rfl
theorem ok_86 : okd 86 = 21 := rfl
theorem ol_86 : oln 86 = 9 := rfl
theorem ok_87 : okd 87 = 21 := rfl
theorem ol_87 : oln 87 = 9 := rfl
theorem ok_88 : okd 88 = 20 := rfl
theorem ol_88 : oln 88 = 68 := rfl
theorem ok_89 : okd 89 = 20 := rfl
theorem ol_89 : oln 89 = 816 := rfl
theorem ok_90 : okd 90 = 20 := rfl
theorem ol_90 : oln 90 = 204 := rfl
theorem ok_91 : okd 91 = 20 := rfl
theorem ol_91 : oln 91 = 6561 := rfl
theorem ok_92 : okd 92 = 21 := rfl
theorem ol_92 : oln 92 = 6561 := rfl
theorem ok_93 : okd 93 = 20 := rfl
theorem ol_93 : oln 93 = 6 := rfl
theorem ok_94 : okd 94 = 21 := rfl
theorem ol_94 : oln 94 = 1 := rfl
theorem ow_k1 {w : Nat} (h : okd w = 8) : okd (w + 1) = 2 := by
  have h0 : ∀ w, w < 95 → okd w = 8 → okd (w + 1) = 2 := by decide +kernel
  exact h0 w (okd_lt h (by decide)) h
theorem ow_k2 {w : Nat} (h : okd w = 8) : okd (w + 2) = 20 := by
  have h0 : ∀ w, w < 95 → okd w = 8 → okd (w + 2) = 20 := by decide +kernel
  exact h0 w (okd_lt h (by decide)) h
theorem ow_l2 {w : Nat} (h : okd w = 8) : oln (w + 2) = 6 := by
  have h0 : ∀ w, w < 95 → okd w = 8 → oln (w + 2) = 6 := by decide +kernel
  exact h0 w (okd_lt h (by decide)) h
theorem ow_k3 {w : Nat} (h : okd w = 8) : okd (w + 3) = 21 := by
  have h0 : ∀ w, w < 95 → okd w = 8 → okd (w + 3) = 21 := by decide +kernel
  exact h0 w (okd_lt h (by decide)) h
theorem ow_l3 {w : Nat} (h : okd w = 8) : oln (w + 3) = 8 := by
  have h0 : ∀ w, w < 95 → okd w = 8 → oln (w + 3) = 8 := by decide +kernel
  exact h0 w (okd_lt h (by decide)) h
theorem ow_k4 {w : Nat} (h : okd w = 8) : okd (w + 4) = 20 := by
  have h0 : ∀ w, w < 95 → okd w = 8 → okd (w + 4) = 20 := by decide +kernel
  exact h0 w (okd_lt h (by decide)) h
theorem ow_l4 {w : Nat} (h : okd w = 8) : oln (w + 4) = 64 := by
  have h0 : ∀ w, w < 95 → okd w = 8 → oln (w + 4) = 64 := by decide +kernel
  exact h0 w (okd_lt h (by decide)) h
theorem ow_k5 {w : Nat} (h : okd w = 8) : okd (w + 5) = 7 := by
  have h0 : ∀ w, w < 95 → okd w = 8 → okd (w + 5) = 7 := by decide +kernel
  exact h0 w (okd_lt h (by decide)) h
theorem ow_k6 {w : Nat} (h : okd w = 8) : okd (w + 6) = 20 := by
  have h0 : ∀ w, w < 95 → okd w = 8 → okd (w + 6) = 20 := by decide +kernel
  exact h0 w (okd_lt h (by decide)) h
theorem ow_l6 {w : Nat} (h : okd w = 8) : oln (w + 6) = 20 := by
  have h0 : ∀ w, w < 95 → okd w = 8 → oln (w + 6) = 20 := by decide +kernel
  exact h0 w (okd_lt h (by decide)) h
theorem ow_k7 {w : Nat} (h : okd w = 8) : okd (w + 7) = 20 := by
  have h0 : ∀ w, w < 95 → okd w = 8 → okd (w + 7) = 20 := by decide +kernel
  exact h0 w (okd_lt h (by decide)) h
theorem ow_l7 {w : Nat} (h : okd w = 8) : oln (w + 7) = 20 := by
  have h0 : ∀ w, w < 95 → okd w = 8 → oln (w + 7) = 20 := by decide +kernel
  exact h0 w (okd_lt h (by decide)) h
theorem ow_k8 {w : Nat} (h : okd w = 8) : okd (w + 8) = 23 := by
  have h0 : ∀ w, w < 95 → okd w = 8 → okd (w + 8) = 23 := by decide +kernel
  exact h0 w (okd_lt h (by decide)) h
theorem ow_l8 {w : Nat} (h : okd w = 8) : oln (w + 8) = 20 := by
  have h0 : ∀ w, w < 95 → okd w = 8 → oln (w + 8) = 20 := by decide +kernel
  exact h0 w (okd_lt h (by decide)) h
theorem ow_k9 {w : Nat} (h : okd w = 8) : okd (w + 9) = 20 := by
  have h0 : ∀ w, w < 95 → okd w = 8 → okd (w + 9) = 20 := by decide +kernel
  exact h0 w (okd_lt h (by decide)) h
theorem ow_l9 {w : Nat} (h : okd w = 8) : oln (w + 9) = 6 := by
  have h0 : ∀ w, w < 95 → okd w = 8 → oln (w + 9) = 6 := by decide +kernel
  exact h0 w (okd_lt h (by decide)) h
theorem ow_k10 {w : Nat} (h : okd w = 8) : okd (w + 10) = 3 := by
  have h0 : ∀ w, w < 95 → okd w = 8 → okd (w + 10) = 3 := by decide +kernel
  exact h0 w (okd_lt h (by decide)) h
theorem ow_k11 {w : Nat} (h : okd w = 8) : okd (w + 11) = 21 := by
  have h0 : ∀ w, w < 95 → okd w = 8 → okd (w + 11) = 21 := by decide +kernel
  exact h0 w (okd_lt h (by decide)) h
theorem ow_l11 {w : Nat} (h : okd w = 8) : oln (w + 11) = 6 := by
  have h0 : ∀ w, w < 95 → okd w = 8 → oln (w + 11) = 6 := by decide +kernel
  exact h0 w (okd_lt h (by decide)) h
theorem ow_k12 {w : Nat} (h : okd w = 8) : okd (w + 12) = 21 := by
  have h0 : ∀ w, w < 95 → okd w = 8 → okd (w + 12) = 21 := by decide +kernel
  exact h0 w (okd_lt h (by decide)) h
theorem ow_l12 {w : Nat} (h : okd w = 8) : oln (w + 12) = 6 := by
  have h0 : ∀ w, w < 95 → okd w = 8 → oln (w + 12) = 6 := by decide +kernel
  exact h0 w (okd_lt h (by decide)) h
theorem ow_k13 {w : Nat} (h : okd w = 8) : okd (w + 13) = 24 := by
  have h0 : ∀ w, w < 95 → okd w = 8 → okd (w + 13) = 24 := by decide +kernel
  exact h0 w (okd_lt h (by decide)) h
theorem ow_l13 {w : Nat} (h : okd w = 8) : oln (w + 13) = 6 := by
  have h0 : ∀ w, w < 95 → okd w = 8 → oln (w + 13) = 6 := by decide +kernel
  exact h0 w (okd_lt h (by decide)) h
theorem ow_k14 {w : Nat} (h : okd w = 8) : okd (w + 14) = 1 := by
  have h0 : ∀ w, w < 95 → okd w = 8 → okd (w + 14) = 1 := by decide +kernel
  exact h0 w (okd_lt h (by decide)) h
theorem ow_k15 {w : Nat} (h : okd w = 8) : okd (w + 15) = 1 := by
  have h0 : ∀ w, w < 95 → okd w = 8 → okd (w + 15) = 1 := by decide +kernel
  exact h0 w (okd_lt h (by decide)) h
theorem ow_k16 {w : Nat} (h : okd w = 8) : okd (w + 16) = 1 := by
  have h0 : ∀ w, w < 95 → okd w = 8 → okd (w + 16) = 1 := by decide +kernel
  exact h0 w (okd_lt h (by decide)) h
theorem ow_k17 {w : Nat} (h : okd w = 8) : okd (w + 17) = 1 := by
  have h0 : ∀ w, w < 95 → okd w = 8 → okd (w + 17) = 1 := by decide +kernel
  exact h0 w (okd_lt h (by decide)) h
theorem ow_k18 {w : Nat} (h : okd w = 8) : okd (w + 18) = 1 := by
  have h0 : ∀ w, w < 95 → okd w = 8 → okd (w + 18) = 1 := by decide +kernel
  exact h0 w (okd_lt h (by decide)) h
theorem ow_k19 {w : Nat} (h : okd w = 8) : okd (w + 19) = 1 := by
  have h0 : ∀ w, w < 95 → okd w = 8 → okd (w + 19) = 1 := by decide +kernel
  exact h0 w (okd_lt h (by decide)) h
theorem ow_k20 {w : Nat} (h : okd w = 8) : okd (w + 20) = 20 := by
  have h0 : ∀ w, w < 95 → okd w = 8 → okd (w + 20) = 20 := by decide +kernel
  exact h0 w (okd_lt h (by decide)) h
theorem ow_l20 {w : Nat} (h : okd w = 8) : oln (w + 20) = 6 := by
  have h0 : ∀ w, w < 95 → okd w = 8 → oln (w + 20) = 6 := by decide +kernel
  exact h0 w (okd_lt h (by decide)) h
theorem ow_c0_0 {w : Nat} (h : okd w = 8) : ocr (w) 0 = w + 1 := by
  have h0 : ∀ w, w < 95 → okd w = 8 → ocr (w) 0 = w + 1 := by decide +kernel
  exact h0 w (okd_lt h (by decide)) h
theorem ow_c0_1 {w : Nat} (h : okd w = 8) : ocr (w) 1 = w + 5 := by
  have h0 : ∀ w, w < 95 → okd w = 8 → ocr (w) 1 = w + 5 := by decide +kernel
  exact h0 w (okd_lt h (by decide)) h
theorem ow_c0_2 {w : Nat} (h : okd w = 8) : ocr (w) 2 = w + 10 := by
  have h0 : ∀ w, w < 95 → okd w = 8 → ocr (w) 2 = w + 10 := by decide +kernel
  exact h0 w (okd_lt h (by decide)) h
theorem ow_c0_3 {w : Nat} (h : okd w = 8) : ocr (w) 3 = w + 13 := by
  have h0 : ∀ w, w < 95 → okd w = 8 → ocr (w) 3 = w + 13 := by decide +kernel
  exact h0 w (okd_lt h (by decide)) h
theorem ow_c0_6 {w : Nat} (h : okd w = 8) : ocr (w) 6 = w + 20 := by
  have h0 : ∀ w, w < 95 → okd w = 8 → ocr (w) 6 = w + 20 := by decide +kernel
  exact h0 w (okd_lt h (by decide)) h
theorem ow_c1_1 {w : Nat} (h : okd w = 8) : ocr (w + 1) 1 = w + 2 := by
  have h0 : ∀ w, w < 95 → okd w = 8 → ocr (w + 1) 1 = w + 2 := by decide +kernel
  exact h0 w (okd_lt h (by decide)) h
theorem ow_c1_7 {w : Nat} (h : okd w = 8) : ocr (w + 1) 7 = w + 3 := by
  have h0 : ∀ w, w < 95 → okd w = 8 → ocr (w + 1) 7 = w + 3 := by decide +kernel
  exact h0 w (okd_lt h (by decide)) h
theorem ow_c1_10 {w : Nat} (h : okd w = 8) : ocr (w + 1) 10 = w + 4 := by
  have h0 : ∀ w, w < 95 → okd w = 8 → ocr (w + 1) 10 = w + 4 := by decide +kernel
  exact h0 w (okd_lt h (by decide)) h
theorem ow_c5_1 {w : Nat} (h : okd w = 8) : ocr (w + 5) 1 = w + 6 := by
  have h0 : ∀ w, w < 95 → okd w = 8 → ocr (w + 5) 1 = w + 6 := by decide +kernel
  exact h0 w (okd_lt h (by decide)) h
theorem ow_c5_2 {w : Nat} (h : okd w = 8) : ocr (w + 5) 2 = w + 7 := by
  have h0 : ∀ w, w < 95 → okd w = 8 → ocr (w + 5) 2 = w + 7 := by decide +kernel
  exact h0 w (okd_lt h (by decide)) h
theorem ow_c5_3 {w : Nat} (h : okd w = 8) : ocr (w + 5) 3 = w + 8 := by
  have h0 : ∀ w, w < 95 → okd w = 8 → ocr (w + 5) 3 = w + 8 := by decide +kernel
  exact h0 w (okd_lt h (by decide)) h
theorem ow_c5_4 {w : Nat} (h : okd w = 8) : ocr (w + 5) 4 = w + 9 := by
  have h0 : ∀ w, w < 95 → okd w = 8 → ocr (w + 5) 4 = w + 9 := by decide +kernel
  exact h0 w (okd_lt h (by decide)) h
theorem ow_c10_0 {w : Nat} (h : okd w = 8) : ocr (w + 10) 0 = w + 1 := by
  have h0 : ∀ w, w < 95 → okd w = 8 → ocr (w + 10) 0 = w + 1 := by decide +kernel
  exact h0 w (okd_lt h (by decide)) h
theorem ow_c10_1 {w : Nat} (h : okd w = 8) : ocr (w + 10) 1 = w + 5 := by
  have h0 : ∀ w, w < 95 → okd w = 8 → ocr (w + 10) 1 = w + 5 := by decide +kernel
  exact h0 w (okd_lt h (by decide)) h
theorem ow_c10_2 {w : Nat} (h : okd w = 8) : ocr (w + 10) 2 = w + 11 := by
  have h0 : ∀ w, w < 95 → okd w = 8 → ocr (w + 10) 2 = w + 11 := by decide +kernel
  exact h0 w (okd_lt h (by decide)) h
theorem ow_c10_3 {w : Nat} (h : okd w = 8) : ocr (w + 10) 3 = w + 12 := by
  have h0 : ∀ w, w < 95 → okd w = 8 → ocr (w + 10) 3 = w + 12 := by decide +kernel
  exact h0 w (okd_lt h (by decide)) h
theorem ot_k1 {w : Nat} (h : okd w = 7) : okd (w + 1) = 20 := by
  have h0 : ∀ w, w < 95 → okd w = 7 → okd (w + 1) = 20 := by decide +kernel
  exact h0 w (okd_lt h (by decide)) h
theorem ot_l1 {w : Nat} (h : okd w = 7) : oln (w + 1) = 20 := by
  have h0 : ∀ w, w < 95 → okd w = 7 → oln (w + 1) = 20 := by decide +kernel
  exact h0 w (okd_lt h (by decide)) h
theorem ot_c1 {w : Nat} (h : okd w = 7) : ocr w 1 = w + 1 := by
  have h0 : ∀ w, w < 95 → okd w = 7 → ocr w 1 = w + 1 := by decide +kernel
  exact h0 w (okd_lt h (by decide)) h
theorem ot_k2 {w : Nat} (h : okd w = 7) : okd (w + 2) = 20 := by
  have h0 : ∀ w, w < 95 → okd w = 7 → okd (w + 2) = 20 := by decide +kernel
  exact h0 w (okd_lt h (by decide)) h
theorem ot_l2 {w : Nat} (h : okd w = 7) : oln (w + 2) = 20 := by
  have h0 : ∀ w, w < 95 → okd w = 7 → oln (w + 2) = 20 := by decide +kernel
  exact h0 w (okd_lt h (by decide)) h
theorem ot_c2 {w : Nat} (h : okd w = 7) : ocr w 2 = w + 2 := by
  have h0 : ∀ w, w < 95 → okd w = 7 → ocr w 2 = w + 2 := by decide +kernel
  exact h0 w (okd_lt h (by decide)) h
theorem ot_k3 {w : Nat} (h : okd w = 7) : okd (w + 3) = 23 := by
  have h0 : ∀ w, w < 95 → okd w = 7 → okd (w + 3) = 23 := by decide +kernel
  exact h0 w (okd_lt h (by decide)) h
theorem ot_l3 {w : Nat} (h : okd w = 7) : oln (w + 3) = 20 := by
  have h0 : ∀ w, w < 95 → okd w = 7 → oln (w + 3) = 20 := by decide +kernel
  exact h0 w (okd_lt h (by decide)) h
theorem ot_c3 {w : Nat} (h : okd w = 7) : ocr w 3 = w + 3 := by
  have h0 : ∀ w, w < 95 → okd w = 7 → ocr w 3 = w + 3 := by decide +kernel
  exact h0 w (okd_lt h (by decide)) h
theorem ot_k4 {w : Nat} (h : okd w = 7) : okd (w + 4) = 20 := by
  have h0 : ∀ w, w < 95 → okd w = 7 → okd (w + 4) = 20 := by decide +kernel
  exact h0 w (okd_lt h (by decide)) h
theorem ot_l4 {w : Nat} (h : okd w = 7) : oln (w + 4) = 6 := by
  have h0 : ∀ w, w < 95 → okd w = 7 → oln (w + 4) = 6 := by decide +kernel
  exact h0 w (okd_lt h (by decide)) h
theorem ot_c4 {w : Nat} (h : okd w = 7) : ocr w 4 = w + 4 := by
  have h0 : ∀ w, w < 95 → okd w = 7 → ocr w 4 = w + 4 := by decide +kernel
  exact h0 w (okd_lt h (by decide)) h
theorem oh_c {w n : Nat} (h : okd w = 8) (hn : n < 6) : ocr (w + 13) n = w + 14 + n := by
  have h0 : ∀ w, w < 95 → okd w = 8 → ∀ n, n < 6 → ocr (w + 13) n = w + 14 + n := by decide +kernel
  exact h0 w (okd_lt h (by decide)) h n hn
theorem oh_k {w n : Nat} (h : okd w = 8) (hn : n < 6) : okd (w + 14 + n) = 1 := by
  have h0 : ∀ w, w < 95 → okd w = 8 → ∀ n, n < 6 → okd (w + 14 + n) = 1 := by decide +kernel
  exact h0 w (okd_lt h (by decide)) h n hn
theorem oi_c {n : Nat} (hn : n < 3) : ocr 65 n = 66 + 5 * n := by
  have h0 : ∀ n, n < 3 → ocr 65 n = 66 + 5 * n := by decide +kernel
  exact h0 n hn
theorem oi_k {n : Nat} (hn : n < 3) : okd (66 + 5 * n) = 7 := by
  have h0 : ∀ n, n < 3 → okd (66 + 5 * n) = 7 := by decide +kernel
  exact h0 n hn
theorem oin_lt {i : Int32} {n : Nat} (h : oin i n = true) : i.toNatClampNeg < n := by
  unfold oin at h
  rw [Bool.and_eq_true] at h
  exact of_decide_eq_true h.2
def ogd {α : Type} (b : Bool) (x : Option α) : Option α := if b = true then x else none
theorem ogd_some {α : Type} {b : Bool} {x : Option α} {r : α} (h : ogd b x = some r) : b = true ∧ x = some r := by
  unfold ogd at h
  split at h
  · exact ⟨by assumption, h⟩
  · cases h
def obi {α β : Type} (x : Option (α × OM)) (k : α → OM → Option β) : Option β := match x with
  | some (r, s) => k r s
  | none => none
theorem obi_some {α β : Type} {x : Option (α × OM)} {k : α → OM → Option β} {b : β} (h : obi x k = some b) : ∃ r s, x = some (r, s) ∧ k r s = some b := by
  cases x with
  | none => cases h
  | some q => exact ⟨q.1, q.2, rfl, h⟩
def obv {β : Type} (x : Option OM) (k : OM → Option β) : Option β := match x with
  | some s => k s
  | none => none
theorem obv_some {β : Type} {x : Option OM} {k : OM → Option β} {b : β} (h : obv x k = some b) : ∃ s, x = some s ∧ k s = some b := by
  cases x with
  | none => cases h
  | some q => exact ⟨q, rfl, h⟩
def oisb (r : Int32) : Bool := decide (r = 0) || decide (r = 1)
theorem oisb_n {r : Int32} (h : oisb r = true) : narrow .boolean (.int r) = .int r := by
  unfold oisb at h
  rw [Bool.or_eq_true] at h
  rcases h with h | h
  · rw [of_decide_eq_true h]; rfl
  · rw [of_decide_eq_true h]; rfl
theorem oisb_f {r : Int32} (h : oisb r = true) : fits .boolean (.int r) = true := by
  unfold oisb at h
  rw [Bool.or_eq_true] at h
  rcases h with h | h
  · rw [of_decide_eq_true h]; rfl
  · rw [of_decide_eq_true h]; rfl
theorem oisb_v {r : Int32} (h : oisb r = true) : vp_nar .boolean r = r := by
  unfold oisb at h
  rw [Bool.or_eq_true] at h
  rcases h with h | h
  · rw [of_decide_eq_true h]; rfl
  · rw [of_decide_eq_true h]; rfl
theorem oend_i {K : OK} {r r0 : Int32} {σ σ0 : OM} (h : some (r, σ) = some (r0, σ0)) (hE : oEnd K (some (.int r0)) σ0) : oEnd K (some (.int r)) σ := by cases h; exact hE
theorem oend_l {K : OK} {r r0 : Int64} {σ σ0 : OM} (h : some (r, σ) = some (r0, σ0)) (hE : oEnd K (some (.long r0)) σ0) : oEnd K (some (.long r)) σ := by cases h; exact hE
theorem oend_v {K : OK} {σ σ0 : OM} (h : some σ = some σ0) (hE : oEnd K none σ0) : oEnd K none σ := by cases h; exact hE
theorem oov_i (r : Int32) : ∀ v, some (Value.int r) = some v → (∃ x, v = .int x) ∨ ∃ x, v = .long x := fun v h => Or.inl ⟨r, (Option.some.inj h).symm⟩
theorem oov_l (r : Int64) : ∀ v, some (Value.long r) = some v → (∃ x, v = .int x) ∨ ∃ x, v = .long x := fun v h => Or.inr ⟨r, (Option.some.inj h).symm⟩
theorem oov_v : ∀ v, (none : Option Value) = some v → (∃ x, v = .int x) ∨ ∃ x, v = .long x := fun v h => by cases h
theorem oni (g : OG) (x : Int32) : narrow .int (otr g (.int x)) = otr g (.int x) := rfl
theorem onl (g : OG) (x : Int64) : narrow .long (otr g (.long x)) = otr g (.long x) := rfl
theorem onz {x : Int32} (h : oisb x = true) (g : OG) : narrow .boolean (otr g (.int x)) = otr g (.int x) := oisb_n h
theorem ofz {x : Int32} (h : oisb x = true) (g : OG) : fits .boolean (otr g (.int x)) = true := oisb_f h
theorem otab {x : Int32} (n : Nat) (hn : n < 2 ^ 31) (h : ∀ k, k < n → ¬ x = nI k) : x.toInt < 0 ∨ (n : Int) - 1 < x.toInt := by
  by_cases h1 : x < 0
  · left
    have := Int32.lt_iff_toInt_lt.mp h1
    simpa using this
  · right
    obtain ⟨j, hj, rfl⟩ := nI_of h1
    rw [nI_toInt hj]
    have h2 : ¬ j < n := fun q => h j q rfl
    omega
def oF : Nat := 100000
def oR : Nat := 320
def oP : Nat := 10
section
variable {K : OK} {cc : ByteArray} {pc : Nat} {lv : List Value} {σ : OM} {own : String} {idx ci : Nat} {a : Nat}
theorem go_callVi (hc : kcc K = cc) (ho : kow K = own) {M : OMd} {n N0 : Nat} (L : oCV ci M n) (hw : Cond.methodLink own idx M.1 ∈ otb) (d : decode cc pc = .ok (.invokevirtual idx, 3)) (ha : okd a = ci) {As rest st : List Value} {r : Int32} {σ1 : OM} (ev : oEv N0 M (.ref a :: As) σ (some (.int r)) σ1) (hst : st = As.reverse ++ .ref a :: rest) (hN : N0 + 1 ≤ kN K) (hn : As.length = n) (hcat : (rest.map fun v => v.category).sum ≤ 8) (hz : kz K = 0 ∨ mR σ1 96 0 = mR σ 96 0) (k : Go K (pc + 3) lv (.int r :: rest) σ1) : Go K pc lv st σ := go_callV hc ho L hw d ha ev hst hN hn hcat (oov_i r) hz k
theorem go_callVl (hc : kcc K = cc) (ho : kow K = own) {M : OMd} {n N0 : Nat} (L : oCV ci M n) (hw : Cond.methodLink own idx M.1 ∈ otb) (d : decode cc pc = .ok (.invokevirtual idx, 3)) (ha : okd a = ci) {As rest st : List Value} {r : Int64} {σ1 : OM} (ev : oEv N0 M (.ref a :: As) σ (some (.long r)) σ1) (hst : st = As.reverse ++ .ref a :: rest) (hN : N0 + 1 ≤ kN K) (hn : As.length = n) (hcat : (rest.map fun v => v.category).sum ≤ 8) (hz : kz K = 0 ∨ mR σ1 96 0 = mR σ 96 0) (k : Go K (pc + 3) lv (.long r :: rest) σ1) : Go K pc lv st σ := go_callV hc ho L hw d ha ev hst hN hn hcat (oov_l r) hz k
theorem go_callVv (hc : kcc K = cc) (ho : kow K = own) {M : OMd} {n N0 : Nat} (L : oCV ci M n) (hw : Cond.methodLink own idx M.1 ∈ otb) (d : decode cc pc = .ok (.invokevirtual idx, 3)) (ha : okd a = ci) {As rest st : List Value} {σ1 : OM} (ev : oEv N0 M (.ref a :: As) σ (none) σ1) (hst : st = As.reverse ++ .ref a :: rest) (hN : N0 + 1 ≤ kN K) (hn : As.length = n) (hcat : (rest.map fun v => v.category).sum ≤ 8) (hz : kz K = 0 ∨ mR σ1 96 0 = mR σ 96 0) (k : Go K (pc + 3) lv (rest) σ1) : Go K pc lv st σ := go_callV hc ho L hw d ha ev hst hN hn hcat oov_v hz k
theorem go_callTi (hc : kcc K = cc) (ho : kow K = own) {M : OMd} {n N0 : Nat} (L : oCT M n) (hw : Cond.methodLink own idx M.1 ∈ otb) (d : decode cc pc = .ok (.invokevirtual idx, 3)) {i : Nat} (hi : i < 23) {As rest st : List Value} {r : Int32} {σ1 : OM} (ev : oEv N0 M (.ref (200 + i) :: As) σ (some (.int r)) σ1) (hst : st = As.reverse ++ .ref (200 + i) :: rest) (hN : N0 + 1 ≤ kN K) (hn : As.length = n) (hcat : (rest.map fun v => v.category).sum ≤ 8) (hz : kz K = 0 ∨ mR σ1 96 0 = mR σ 96 0) (k : Go K (pc + 3) lv (.int r :: rest) σ1) : Go K pc lv st σ := go_callT hc ho L hw d hi ev hst hN hn hcat (oov_i r) hz k
theorem go_callTl (hc : kcc K = cc) (ho : kow K = own) {M : OMd} {n N0 : Nat} (L : oCT M n) (hw : Cond.methodLink own idx M.1 ∈ otb) (d : decode cc pc = .ok (.invokevirtual idx, 3)) {i : Nat} (hi : i < 23) {As rest st : List Value} {r : Int64} {σ1 : OM} (ev : oEv N0 M (.ref (200 + i) :: As) σ (some (.long r)) σ1) (hst : st = As.reverse ++ .ref (200 + i) :: rest) (hN : N0 + 1 ≤ kN K) (hn : As.length = n) (hcat : (rest.map fun v => v.category).sum ≤ 8) (hz : kz K = 0 ∨ mR σ1 96 0 = mR σ 96 0) (k : Go K (pc + 3) lv (.long r :: rest) σ1) : Go K pc lv st σ := go_callT hc ho L hw d hi ev hst hN hn hcat (oov_l r) hz k
theorem go_callTv (hc : kcc K = cc) (ho : kow K = own) {M : OMd} {n N0 : Nat} (L : oCT M n) (hw : Cond.methodLink own idx M.1 ∈ otb) (d : decode cc pc = .ok (.invokevirtual idx, 3)) {i : Nat} (hi : i < 23) {As rest st : List Value} {σ1 : OM} (ev : oEv N0 M (.ref (200 + i) :: As) σ (none) σ1) (hst : st = As.reverse ++ .ref (200 + i) :: rest) (hN : N0 + 1 ≤ kN K) (hn : As.length = n) (hcat : (rest.map fun v => v.category).sum ≤ 8) (hz : kz K = 0 ∨ mR σ1 96 0 = mR σ 96 0) (k : Go K (pc + 3) lv (rest) σ1) : Go K pc lv st σ := go_callT hc ho L hw d hi ev hst hN hn hcat oov_v hz k
theorem go_callSi (hc : kcc K = cc) (ho : kow K = own) {M : OMd} {n N0 : Nat} (L : oCS M n) (hw : Cond.methodLink own idx M.1 ∈ otb) (d : decode cc pc = .ok (.invokestatic idx, 3)) {As rest st : List Value} {r : Int32} {σ1 : OM} (ev : oEv N0 M As σ (some (.int r)) σ1) (hst : st = As.reverse ++ rest) (hN : N0 + 1 ≤ kN K) (hn : As.length = n) (hcat : (rest.map fun v => v.category).sum ≤ 8) (hz : kz K = 0 ∨ mR σ1 96 0 = mR σ 96 0) (k : Go K (pc + 3) lv (.int r :: rest) σ1) : Go K pc lv st σ := go_callS hc ho L hw d ev hst hN hn hcat (oov_i r) hz k
theorem go_callSl (hc : kcc K = cc) (ho : kow K = own) {M : OMd} {n N0 : Nat} (L : oCS M n) (hw : Cond.methodLink own idx M.1 ∈ otb) (d : decode cc pc = .ok (.invokestatic idx, 3)) {As rest st : List Value} {r : Int64} {σ1 : OM} (ev : oEv N0 M As σ (some (.long r)) σ1) (hst : st = As.reverse ++ rest) (hN : N0 + 1 ≤ kN K) (hn : As.length = n) (hcat : (rest.map fun v => v.category).sum ≤ 8) (hz : kz K = 0 ∨ mR σ1 96 0 = mR σ 96 0) (k : Go K (pc + 3) lv (.long r :: rest) σ1) : Go K pc lv st σ := go_callS hc ho L hw d ev hst hN hn hcat (oov_l r) hz k
theorem go_callSv (hc : kcc K = cc) (ho : kow K = own) {M : OMd} {n N0 : Nat} (L : oCS M n) (hw : Cond.methodLink own idx M.1 ∈ otb) (d : decode cc pc = .ok (.invokestatic idx, 3)) {As rest st : List Value} {σ1 : OM} (ev : oEv N0 M As σ (none) σ1) (hst : st = As.reverse ++ rest) (hN : N0 + 1 ≤ kN K) (hn : As.length = n) (hcat : (rest.map fun v => v.category).sum ≤ 8) (hz : kz K = 0 ∨ mR σ1 96 0 = mR σ 96 0) (k : Go K (pc + 3) lv (rest) σ1) : Go K pc lv st σ := go_callS hc ho L hw d ev hst hN hn hcat oov_v hz k
theorem go_callSNi (hc : kcc K = cc) (ho : kow K = own) {M : OMd} {n N0 : Nat} {host : String} (L : oCS M n) (hw : Cond.methodLinkNest own idx M.1 host ∈ onest) (d : decode cc pc = .ok (.invokestatic idx, 3)) {As rest st : List Value} {r : Int32} {σ1 : OM} (ev : oEv N0 M As σ (some (.int r)) σ1) (hst : st = As.reverse ++ rest) (hN : N0 + 1 ≤ kN K) (hn : As.length = n) (hcat : (rest.map fun v => v.category).sum ≤ 8) (hz : kz K = 0 ∨ mR σ1 96 0 = mR σ 96 0) (k : Go K (pc + 3) lv (.int r :: rest) σ1) : Go K pc lv st σ := go_callSN hc ho L hw d ev hst hN hn hcat (oov_i r) hz k
theorem go_callSNl (hc : kcc K = cc) (ho : kow K = own) {M : OMd} {n N0 : Nat} {host : String} (L : oCS M n) (hw : Cond.methodLinkNest own idx M.1 host ∈ onest) (d : decode cc pc = .ok (.invokestatic idx, 3)) {As rest st : List Value} {r : Int64} {σ1 : OM} (ev : oEv N0 M As σ (some (.long r)) σ1) (hst : st = As.reverse ++ rest) (hN : N0 + 1 ≤ kN K) (hn : As.length = n) (hcat : (rest.map fun v => v.category).sum ≤ 8) (hz : kz K = 0 ∨ mR σ1 96 0 = mR σ 96 0) (k : Go K (pc + 3) lv (.long r :: rest) σ1) : Go K pc lv st σ := go_callSN hc ho L hw d ev hst hN hn hcat (oov_l r) hz k
theorem go_callSNv (hc : kcc K = cc) (ho : kow K = own) {M : OMd} {n N0 : Nat} {host : String} (L : oCS M n) (hw : Cond.methodLinkNest own idx M.1 host ∈ onest) (d : decode cc pc = .ok (.invokestatic idx, 3)) {As rest st : List Value} {σ1 : OM} (ev : oEv N0 M As σ (none) σ1) (hst : st = As.reverse ++ rest) (hN : N0 + 1 ≤ kN K) (hn : As.length = n) (hcat : (rest.map fun v => v.category).sum ≤ 8) (hz : kz K = 0 ∨ mR σ1 96 0 = mR σ 96 0) (k : Go K (pc + 3) lv (rest) σ1) : Go K pc lv st σ := go_callSN hc ho L hw d ev hst hN hn hcat oov_v hz k
theorem go_ref {x y : Nat} {st : List Value} (e : x = y) (k : Go K pc lv (.ref y :: st) σ) : Go K pc lv (.ref x :: st) σ := e ▸ k
end
theorem och_n {r : Int32} (h : (r.toUInt32 % 65536).toInt32 = r) : narrow .char (.int r) = .int r := by
  rw [← h]
  exact pk_nc r
theorem ci_m8 : Int32.ofInt (-8) = (-8) := by decide +kernel
theorem ci_m1 : Int32.ofInt (-1) = (-1) := by decide +kernel
theorem ci_0 : Int32.ofInt 0 = 0 := by decide +kernel
theorem ci_1 : Int32.ofInt 1 = 1 := by decide +kernel
theorem ci_2 : Int32.ofInt 2 = 2 := by decide +kernel
theorem ci_3 : Int32.ofInt 3 = 3 := by decide +kernel
theorem ci_4 : Int32.ofInt 4 = 4 := by decide +kernel
theorem ci_5 : Int32.ofInt 5 = 5 := by decide +kernel
theorem ci_6 : Int32.ofInt 6 = 6 := by decide +kernel
theorem cb_m2 : (Int8.ofInt (-2)).toInt32 = (-2) := by decide +kernel
theorem cb_6 : (Int8.ofInt 6).toInt32 = 6 := by decide +kernel
theorem cb_7 : (Int8.ofInt 7).toInt32 = 7 := by decide +kernel
theorem cb_8 : (Int8.ofInt 8).toInt32 = 8 := by decide +kernel
theorem cb_9 : (Int8.ofInt 9).toInt32 = 9 := by decide +kernel
theorem cb_10 : (Int8.ofInt 10).toInt32 = 10 := by decide +kernel
theorem cb_11 : (Int8.ofInt 11).toInt32 = 11 := by decide +kernel
theorem cb_12 : (Int8.ofInt 12).toInt32 = 12 := by decide +kernel
theorem cb_16 : (Int8.ofInt 16).toInt32 = 16 := by decide +kernel
theorem cb_17 : (Int8.ofInt 17).toInt32 = 17 := by decide +kernel
theorem cb_19 : (Int8.ofInt 19).toInt32 = 19 := by decide +kernel
theorem cb_20 : (Int8.ofInt 20).toInt32 = 20 := by decide +kernel
theorem cb_24 : (Int8.ofInt 24).toInt32 = 24 := by decide +kernel
theorem cb_30 : (Int8.ofInt 30).toInt32 = 30 := by decide +kernel
theorem cb_32 : (Int8.ofInt 32).toInt32 = 32 := by decide +kernel
theorem cb_40 : (Int8.ofInt 40).toInt32 = 40 := by decide +kernel
theorem cb_41 : (Int8.ofInt 41).toInt32 = 41 := by decide +kernel
theorem cb_44 : (Int8.ofInt 44).toInt32 = 44 := by decide +kernel
theorem cb_48 : (Int8.ofInt 48).toInt32 = 48 := by decide +kernel
theorem cb_53 : (Int8.ofInt 53).toInt32 = 53 := by decide +kernel
theorem cb_57 : (Int8.ofInt 57).toInt32 = 57 := by decide +kernel
theorem cb_59 : (Int8.ofInt 59).toInt32 = 59 := by decide +kernel
theorem cb_62 : (Int8.ofInt 62).toInt32 = 62 := by decide +kernel
theorem cb_63 : (Int8.ofInt 63).toInt32 = 63 := by decide +kernel
theorem cb_64 : (Int8.ofInt 64).toInt32 = 64 := by decide +kernel
theorem cb_68 : (Int8.ofInt 68).toInt32 = 68 := by decide +kernel
theorem cb_74 : (Int8.ofInt 74).toInt32 = 74 := by decide +kernel
theorem cb_75 : (Int8.ofInt 75).toInt32 = 75 := by decide +kernel
theorem cb_89 : (Int8.ofInt 89).toInt32 = 89 := by decide +kernel
theorem cb_93 : (Int8.ofInt 93).toInt32 = 93 := by decide +kernel
theorem cb_97 : (Int8.ofInt 97).toInt32 = 97 := by decide +kernel
theorem cb_99 : (Int8.ofInt 99).toInt32 = 99 := by decide +kernel
theorem cb_100 : (Int8.ofInt 100).toInt32 = 100 := by decide +kernel
theorem cb_119 : (Int8.ofInt 119).toInt32 = 119 := by decide +kernel
theorem cb_122 : (Int8.ofInt 122).toInt32 = 122 := by decide +kernel
theorem cb_127 : (Int8.ofInt 127).toInt32 = 127 := by decide +kernel
theorem cs_200 : (Int16.ofInt 200).toInt32 = 200 := by decide +kernel
theorem cs_204 : (Int16.ofInt 204).toInt32 = 204 := by decide +kernel
theorem cs_255 : (Int16.ofInt 255).toInt32 = 255 := by decide +kernel
theorem cs_256 : (Int16.ofInt 256).toInt32 = 256 := by decide +kernel
theorem cs_267 : (Int16.ofInt 267).toInt32 = 267 := by decide +kernel
theorem cs_268 : (Int16.ofInt 268).toInt32 = 268 := by decide +kernel
theorem cs_269 : (Int16.ofInt 269).toInt32 = 269 := by decide +kernel
theorem cs_270 : (Int16.ofInt 270).toInt32 = 270 := by decide +kernel
theorem cs_279 : (Int16.ofInt 279).toInt32 = 279 := by decide +kernel
theorem cs_748 : (Int16.ofInt 748).toInt32 = 748 := by decide +kernel
theorem cs_816 : (Int16.ofInt 816).toInt32 = 816 := by decide +kernel
theorem cs_880 : (Int16.ofInt 880).toInt32 = 880 := by decide +kernel
theorem cs_900 : (Int16.ofInt 900).toInt32 = 900 := by decide +kernel
theorem cs_901 : (Int16.ofInt 901).toInt32 = 901 := by decide +kernel
theorem cs_999 : (Int16.ofInt 999).toInt32 = 999 := by decide +kernel
theorem cs_2187 : (Int16.ofInt 2187).toInt32 = 2187 := by decide +kernel
theorem cs_6561 : (Int16.ofInt 6561).toInt32 = 6561 := by decide +kernel
theorem cn_0 : (0 : Int32).toNatClampNeg = 0 := by decide +kernel
theorem cn_1 : (1 : Int32).toNatClampNeg = 1 := by decide +kernel
theorem cn_2 : (2 : Int32).toNatClampNeg = 2 := by decide +kernel
theorem cn_3 : (3 : Int32).toNatClampNeg = 3 := by decide +kernel
theorem cn_4 : (4 : Int32).toNatClampNeg = 4 := by decide +kernel
theorem cn_5 : (5 : Int32).toNatClampNeg = 5 := by decide +kernel
theorem cn_6 : (6 : Int32).toNatClampNeg = 6 := by decide +kernel
theorem cn_7 : (7 : Int32).toNatClampNeg = 7 := by decide +kernel
theorem cn_8 : (8 : Int32).toNatClampNeg = 8 := by decide +kernel
theorem cn_9 : (9 : Int32).toNatClampNeg = 9 := by decide +kernel
theorem cn_10 : (10 : Int32).toNatClampNeg = 10 := by decide +kernel
theorem cn_11 : (11 : Int32).toNatClampNeg = 11 := by decide +kernel
theorem cn_12 : (12 : Int32).toNatClampNeg = 12 := by decide +kernel
theorem cn_16 : (16 : Int32).toNatClampNeg = 16 := by decide +kernel
theorem cn_17 : (17 : Int32).toNatClampNeg = 17 := by decide +kernel
theorem cn_19 : (19 : Int32).toNatClampNeg = 19 := by decide +kernel
theorem cn_20 : (20 : Int32).toNatClampNeg = 20 := by decide +kernel
theorem cn_24 : (24 : Int32).toNatClampNeg = 24 := by decide +kernel
theorem cn_30 : (30 : Int32).toNatClampNeg = 30 := by decide +kernel
theorem cn_32 : (32 : Int32).toNatClampNeg = 32 := by decide +kernel
theorem cn_40 : (40 : Int32).toNatClampNeg = 40 := by decide +kernel
theorem cn_41 : (41 : Int32).toNatClampNeg = 41 := by decide +kernel
theorem cn_44 : (44 : Int32).toNatClampNeg = 44 := by decide +kernel
theorem cn_48 : (48 : Int32).toNatClampNeg = 48 := by decide +kernel
theorem cn_53 : (53 : Int32).toNatClampNeg = 53 := by decide +kernel
theorem cn_57 : (57 : Int32).toNatClampNeg = 57 := by decide +kernel
theorem cn_59 : (59 : Int32).toNatClampNeg = 59 := by decide +kernel
theorem cn_62 : (62 : Int32).toNatClampNeg = 62 := by decide +kernel
theorem cn_63 : (63 : Int32).toNatClampNeg = 63 := by decide +kernel
theorem cn_64 : (64 : Int32).toNatClampNeg = 64 := by decide +kernel
theorem cn_68 : (68 : Int32).toNatClampNeg = 68 := by decide +kernel
theorem cn_74 : (74 : Int32).toNatClampNeg = 74 := by decide +kernel
theorem cn_75 : (75 : Int32).toNatClampNeg = 75 := by decide +kernel
theorem cn_89 : (89 : Int32).toNatClampNeg = 89 := by decide +kernel
theorem cn_93 : (93 : Int32).toNatClampNeg = 93 := by decide +kernel
theorem cn_97 : (97 : Int32).toNatClampNeg = 97 := by decide +kernel
theorem cn_99 : (99 : Int32).toNatClampNeg = 99 := by decide +kernel
theorem cn_100 : (100 : Int32).toNatClampNeg = 100 := by decide +kernel
theorem cn_119 : (119 : Int32).toNatClampNeg = 119 := by decide +kernel
theorem cn_122 : (122 : Int32).toNatClampNeg = 122 := by decide +kernel
theorem cn_127 : (127 : Int32).toNatClampNeg = 127 := by decide +kernel
theorem cn_200 : (200 : Int32).toNatClampNeg = 200 := by decide +kernel
theorem cn_204 : (204 : Int32).toNatClampNeg = 204 := by decide +kernel
theorem cn_255 : (255 : Int32).toNatClampNeg = 255 := by decide +kernel
theorem cn_256 : (256 : Int32).toNatClampNeg = 256 := by decide +kernel
theorem cn_267 : (267 : Int32).toNatClampNeg = 267 := by decide +kernel
theorem cn_268 : (268 : Int32).toNatClampNeg = 268 := by decide +kernel
theorem cn_269 : (269 : Int32).toNatClampNeg = 269 := by decide +kernel
theorem cn_270 : (270 : Int32).toNatClampNeg = 270 := by decide +kernel
theorem cn_279 : (279 : Int32).toNatClampNeg = 279 := by decide +kernel
theorem cn_748 : (748 : Int32).toNatClampNeg = 748 := by decide +kernel
theorem cn_816 : (816 : Int32).toNatClampNeg = 816 := by decide +kernel
theorem cn_880 : (880 : Int32).toNatClampNeg = 880 := by decide +kernel
theorem cn_900 : (900 : Int32).toNatClampNeg = 900 := by decide +kernel
theorem cn_901 : (901 : Int32).toNatClampNeg = 901 := by decide +kernel
theorem cn_999 : (999 : Int32).toNatClampNeg = 999 := by decide +kernel
theorem cn_2187 : (2187 : Int32).toNatClampNeg = 2187 := by decide +kernel
theorem cn_6561 : (6561 : Int32).toNatClampNeg = 6561 := by decide +kernel
theorem cl_0 : Int64.ofNat ((0 : Fin 2) : Nat) = 0 := by decide +kernel
theorem cl_1 : Int64.ofNat ((1 : Fin 2) : Nat) = 1 := by decide +kernel
