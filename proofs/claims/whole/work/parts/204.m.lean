def fX9_lie (x0 : Int32) (x1 : Int32) (σ : OM) : Option (Int32 × OM) :=
  obi (fX9_tell x0 x1 (1 : Int32) σ) (fun r1 σ2 =>
  some (r1, σ2))
set_option maxRecDepth 100000 in
set_option maxHeartbeats 4000000 in
theorem rX9_lie {N : Nat} {x0 : Int32} {x1 : Int32} {σ : OM} {r0 : Int32} {σ0 : OM} (h : fX9_lie x0 x1 σ = some (r0, σ0)) (hN0 : 5 ≤ N) : oEv N MX9_lie [.ref 0, .int x0, .int x1] σ (some (.int r0)) σ0 := by
  refine oEv_of (lv := [.ref 0, .int x0, .int x1]) (by decide +kernel) (fun g q hq => hq) (fun g => Nat.le_of_ble_eq_true rfl) ?_
  intro K hc ho hL hN1 hr hE hz
  have hN : 5 ≤ kN K := by rw [hN1]; exact hN0
  unfold fX9_lie at h
  refine go_aload_n hc dX9_lie_0 rfl rfl ?_
  refine go_iload_n hc dX9_lie_1 rfl rfl ?_
  refine go_iload_n hc dX9_lie_2 rfl rfl ?_
  refine go_iconst hc dX9_lie_3 ci_1 ?_
  obtain ⟨r1, σ2, hf3, h⟩ := obi_some h
  refine go_callVi hc ho cmX9_tell mlX9_295 dX9_lie_4 ok_0 (As := [.int x0, .int x1, .int (1 : Int32)]) (rest := []) (rX9_tell (N := 4) hf3 (Nat.le_refl _)) rfl (Nat.le_trans (Nat.le_of_ble_eq_true rfl) hN) rfl (Nat.le_of_ble_eq_true rfl) (Or.inl hz) ?_
  exact go_iret hc (oend_i h hE) hr dX9_lie_7
def fX9_wed (x0 : Int32) (x1 : Int32) (σ : OM) : Option (Int32 × OM) :=
  obi (fX9_isHouse x0 σ) (fun r1 σ2 =>
  if r1 = 0 then (
   obi (fX9_refuse (1 : Int32) σ2) (fun r4 σ5 =>
   some ((0 : Int32), σ5)))
  else (obi (fX9_isHouse x1 σ2) (fun r7 σ8 =>
  if r7 = 0 then (
   obi (fX9_refuse (1 : Int32) σ8) (fun r10 σ11 =>
   some ((0 : Int32), σ11)))
  else (if x0 = x1 then (
   obi (fX9_refuse (1 : Int32) σ8) (fun r27 σ28 =>
   some ((0 : Int32), σ28)))
  else (ogd (decide (okd (mR σ8 0 0) = 8)) (
  obi (fX7_areWed ((mR σ8 0 0) + 5) x0 x1 σ8) (fun r14 σ15 =>
  if r14 = 0 then (
   ogd (decide (okd (mR σ15 0 0) = 8)) (
   obv (fX7_marry ((mR σ15 0 0) + 5) x0 x1 σ15) (fun σ19 =>
   obv (fX0_keep (1 : Int32) x0 x1 σ19) (fun σ22 =>
   some ((1 : Int32), sI σ22 0 9 (0 : Int32))))))
  else (obi (fX9_refuse (5 : Int32) σ15) (fun r24 σ25 =>
  some ((0 : Int32), σ25))))))))))
set_option maxRecDepth 100000 in
set_option maxHeartbeats 4000000 in
theorem rX9_wed {N : Nat} {x0 : Int32} {x1 : Int32} {σ : OM} {r0 : Int32} {σ0 : OM} (h : fX9_wed x0 x1 σ = some (r0, σ0)) (hN0 : 3 ≤ N) : oEv N MX9_wed [.ref 0, .int x0, .int x1] σ (some (.int r0)) σ0 := by
  refine oEv_of (lv := [.ref 0, .int x0, .int x1]) (by decide +kernel) (fun g q hq => hq) (fun g => Nat.le_of_ble_eq_true rfl) ?_
  intro K hc ho hL hN1 hr hE hz
  have hN : 3 ≤ kN K := by rw [hN1]; exact hN0
  unfold fX9_wed at h
  refine go_aload_n hc dX9_wed_0 rfl rfl ?_
  refine go_iload_n hc dX9_wed_1 rfl rfl ?_
  obtain ⟨r1, σ2, hf3, h⟩ := obi_some h
  refine go_callVi hc ho cmX9_isHouse mlX9_161 dX9_wed_2 ok_0 (As := [.int x0]) (rest := []) (rX9_isHouse (N := 0) hf3 (Nat.le_refl _)) rfl (Nat.le_trans (Nat.le_of_ble_eq_true rfl) hN) rfl (Nat.le_of_ble_eq_true rfl) (Or.inl hz) ?_
  refine go_if_eq (tgt := 21) hc dX9_wed_5 rfl (fun hh => ?_) (fun hh => ?_)
  · rw [if_pos hh] at h
    refine go_aload_n hc dX9_wed_21 rfl rfl ?_
    refine go_iconst hc dX9_wed_22 ci_1 ?_
    obtain ⟨r4, σ5, hf6, h⟩ := obi_some h
    refine go_callVi hc ho cmX9_refuse mlX9_70 dX9_wed_23 ok_0 (As := [.int (1 : Int32)]) (rest := []) (rX9_refuse (N := 0) hf6 (Nat.le_refl _)) rfl (Nat.le_trans (Nat.le_of_ble_eq_true rfl) hN) rfl (Nat.le_of_ble_eq_true rfl) (Or.inl hz) ?_
    refine go_pop hc dX9_wed_26 rfl ?_
    refine go_iconst hc dX9_wed_27 ci_0 ?_
    exact go_zret hc (oend_i h hE) hr rfl dX9_wed_28
  · rw [if_neg hh] at h
    refine go_aload_n hc dX9_wed_8 rfl rfl ?_
    refine go_iload_n hc dX9_wed_9 rfl rfl ?_
    obtain ⟨r7, σ8, hf9, h⟩ := obi_some h
    refine go_callVi hc ho cmX9_isHouse mlX9_161 dX9_wed_10 ok_0 (As := [.int x1]) (rest := []) (rX9_isHouse (N := 0) hf9 (Nat.le_refl _)) rfl (Nat.le_trans (Nat.le_of_ble_eq_true rfl) hN) rfl (Nat.le_of_ble_eq_true rfl) (Or.inl hz) ?_
    refine go_if_eq (tgt := 21) hc dX9_wed_13 rfl (fun hh => ?_) (fun hh => ?_)
    · rw [if_pos hh] at h
      refine go_aload_n hc dX9_wed_21 rfl rfl ?_
      refine go_iconst hc dX9_wed_22 ci_1 ?_
      obtain ⟨r10, σ11, hf12, h⟩ := obi_some h
      refine go_callVi hc ho cmX9_refuse mlX9_70 dX9_wed_23 ok_0 (As := [.int (1 : Int32)]) (rest := []) (rX9_refuse (N := 0) hf12 (Nat.le_refl _)) rfl (Nat.le_trans (Nat.le_of_ble_eq_true rfl) hN) rfl (Nat.le_of_ble_eq_true rfl) (Or.inl hz) ?_
      refine go_pop hc dX9_wed_26 rfl ?_
      refine go_iconst hc dX9_wed_27 ci_0 ?_
      exact go_zret hc (oend_i h hE) hr rfl dX9_wed_28
    · rw [if_neg hh] at h
      refine go_iload_n hc dX9_wed_16 rfl rfl ?_
      refine go_iload_n hc dX9_wed_17 rfl rfl ?_
      refine go_icmp_ne (tgt := 29) hc dX9_wed_18 rfl (fun hh => ?_) (fun hh => ?_)
      · rw [if_neg hh] at h
        refine go_aload_n hc dX9_wed_29 rfl rfl ?_
        obtain ⟨hg13, h⟩ := ogd_some h
        refine go_getR hc ho flX9_10 dX9_wed_30 ok_0 ?_
        refine go_getC (b := (mR σ8 0 0) + 5) (ow_c0_1 (of_decide_eq_true hg13)) hc ho flX9_170 dX9_wed_33 (of_decide_eq_true hg13) ?_
        refine go_iload_n hc dX9_wed_36 rfl rfl ?_
        refine go_iload_n hc dX9_wed_37 rfl rfl ?_
        obtain ⟨r14, σ15, hf16, h⟩ := obi_some h
        refine go_callVi hc ho cmX7_areWed mlX9_299 dX9_wed_38 (ow_k5 (of_decide_eq_true hg13)) (As := [.int x0, .int x1]) (rest := []) (rX7_areWed (N := 1) (ow_k5 (of_decide_eq_true hg13)) hf16 (Nat.le_refl _)) rfl (Nat.le_trans (Nat.le_of_ble_eq_true rfl) hN) rfl (Nat.le_of_ble_eq_true rfl) (Or.inl hz) ?_
        refine go_if_eq (tgt := 52) hc dX9_wed_41 rfl (fun hh => ?_) (fun hh => ?_)
        · rw [if_pos hh] at h
          refine go_aload_n hc dX9_wed_52 rfl rfl ?_
          obtain ⟨hg17, h⟩ := ogd_some h
          refine go_getR hc ho flX9_10 dX9_wed_53 ok_0 ?_
          refine go_getC (b := (mR σ15 0 0) + 5) (ow_c0_1 (of_decide_eq_true hg17)) hc ho flX9_170 dX9_wed_56 (of_decide_eq_true hg17) ?_
          refine go_iload_n hc dX9_wed_59 rfl rfl ?_
          refine go_iload_n hc dX9_wed_60 rfl rfl ?_
          obtain ⟨σ19, hf20, h⟩ := obv_some h
          refine go_callVv hc ho cmX7_marry mlX9_303 dX9_wed_61 (ow_k5 (of_decide_eq_true hg17)) (As := [.int x0, .int x1]) (rest := []) (rX7_marry (N := 2) (ow_k5 (of_decide_eq_true hg17)) hf20 (Nat.le_refl _)) rfl (Nat.le_trans (Nat.le_of_ble_eq_true rfl) hN) rfl (Nat.le_of_ble_eq_true rfl) (Or.inl hz) ?_
          refine go_aload_n hc dX9_wed_64 rfl rfl ?_
          refine go_getC (b := 61) rfl hc ho flX9_51 dX9_wed_65 ok_0 ?_
          refine go_iconst hc dX9_wed_68 ci_1 ?_
          refine go_iload_n hc dX9_wed_69 rfl rfl ?_
          refine go_iload_n hc dX9_wed_70 rfl rfl ?_
          obtain ⟨σ22, hf23, h⟩ := obv_some h
          refine go_callVv hc ho cmX0_keep mlX9_307 dX9_wed_71 ok_61 (As := [.int (1 : Int32), .int x0, .int x1]) (rest := []) (rX0_keep (N := 1) hf23 (Nat.le_refl _)) rfl (Nat.le_trans (Nat.le_of_ble_eq_true rfl) hN) rfl (Nat.le_of_ble_eq_true rfl) (Or.inl hz) ?_
          refine go_aload_n hc dX9_wed_74 rfl rfl ?_
          refine go_iconst hc dX9_wed_75 ci_0 ?_
          refine go_putI hc ho fpX9_106 dX9_wed_76 ok_0 (fun g => oni g _) (fun _ => rfl) ?_
          refine go_iconst hc dX9_wed_79 ci_1 ?_
          exact go_zret hc (oend_i h hE) hr rfl dX9_wed_80
        · rw [if_neg hh] at h
          refine go_aload_n hc dX9_wed_44 rfl rfl ?_
          refine go_iconst hc dX9_wed_45 ci_5 ?_
          obtain ⟨r24, σ25, hf26, h⟩ := obi_some h
          refine go_callVi hc ho cmX9_refuse mlX9_70 dX9_wed_46 ok_0 (As := [.int (5 : Int32)]) (rest := []) (rX9_refuse (N := 0) hf26 (Nat.le_refl _)) rfl (Nat.le_trans (Nat.le_of_ble_eq_true rfl) hN) rfl (Nat.le_of_ble_eq_true rfl) (Or.inl hz) ?_
          refine go_pop hc dX9_wed_49 rfl ?_
          refine go_iconst hc dX9_wed_50 ci_0 ?_
          exact go_zret hc (oend_i h hE) hr rfl dX9_wed_51
      · rw [if_pos hh] at h
        refine go_aload_n hc dX9_wed_21 rfl rfl ?_
        refine go_iconst hc dX9_wed_22 ci_1 ?_
        obtain ⟨r27, σ28, hf29, h⟩ := obi_some h
        refine go_callVi hc ho cmX9_refuse mlX9_70 dX9_wed_23 ok_0 (As := [.int (1 : Int32)]) (rest := []) (rX9_refuse (N := 0) hf29 (Nat.le_refl _)) rfl (Nat.le_trans (Nat.le_of_ble_eq_true rfl) hN) rfl (Nat.le_of_ble_eq_true rfl) (Or.inl hz) ?_
        refine go_pop hc dX9_wed_26 rfl ?_
        refine go_iconst hc dX9_wed_27 ci_0 ?_
        exact go_zret hc (oend_i h hE) hr rfl dX9_wed_28
def fX9_years (x0 : Int32) (σ : OM) : Option (Int32 × OM) :=
  if (mI σ 0 7) = 0 then (
   obi (fX9_refuse (1 : Int32) σ) (fun r19 σ20 =>
   some (r19, σ20)))
  else (if x0 < (1 : Int32) then (
   obi (fX9_refuse (2 : Int32) σ) (fun r1 σ2 =>
   some (r1, σ2)))
  else (if x0 ≤ (99 : Int32) then (
   ogd (decide (okd (mR σ 0 0) = 8)) (
   if ((mI σ ((mR σ 0 0) + 5) 6) + x0) ≤ (999 : Int32) then (
    ogd (decide (okd (mR σ 0 0) = 8)) (
    obv (fX0_keep (2 : Int32) x0 (0 : Int32) (sI σ ((mR σ 0 0) + 5) 6 ((mI σ ((mR σ 0 0) + 5) 6) + x0))) (fun σ7 =>
    ogd (decide (okd (mR σ7 0 0) = 8)) (
    obi (fX9_answer (mI σ7 ((mR σ7 0 0) + 5) 6) σ7) (fun r10 σ11 =>
    some (r10, σ11))))))
   else (obi (fX9_refuse (3 : Int32) σ) (fun r13 σ14 =>
   some (r13, σ14)))))
  else (obi (fX9_refuse (2 : Int32) σ) (fun r16 σ17 =>
  some (r16, σ17)))))
set_option maxRecDepth 100000 in
set_option maxHeartbeats 4000000 in
theorem rX9_years {N : Nat} {x0 : Int32} {σ : OM} {r0 : Int32} {σ0 : OM} (h : fX9_years x0 σ = some (r0, σ0)) (hN0 : 2 ≤ N) : oEv N MX9_years [.ref 0, .int x0] σ (some (.int r0)) σ0 := by
  refine oEv_of (lv := [.ref 0, .int x0]) (by decide +kernel) (fun g q hq => hq) (fun g => Nat.le_of_ble_eq_true rfl) ?_
  intro K hc ho hL hN1 hr hE hz
  have hN : 2 ≤ kN K := by rw [hN1]; exact hN0
  unfold fX9_years at h
  refine go_aload_n hc dX9_years_0 rfl rfl ?_
  refine go_getI hc ho flX9_90 dX9_years_1 ok_0 ?_
  refine go_if_ne (tgt := 13) hc dX9_years_4 rfl (fun hh => ?_) (fun hh => ?_)
  · rw [if_neg hh] at h
    refine go_iload_n hc dX9_years_13 rfl rfl ?_
    refine go_iconst hc dX9_years_14 ci_1 ?_
    refine go_icmp_lt (tgt := 24) hc dX9_years_15 rfl (fun hh => ?_) (fun hh => ?_)
    · rw [if_pos hh] at h
      refine go_aload_n hc dX9_years_24 rfl rfl ?_
      refine go_iconst hc dX9_years_25 ci_2 ?_
      obtain ⟨r1, σ2, hf3, h⟩ := obi_some h
      refine go_callVi hc ho cmX9_refuse mlX9_70 dX9_years_26 ok_0 (As := [.int (2 : Int32)]) (rest := []) (rX9_refuse (N := 0) hf3 (Nat.le_refl _)) rfl (Nat.le_trans (Nat.le_of_ble_eq_true rfl) hN) rfl (Nat.le_of_ble_eq_true rfl) (Or.inl hz) ?_
      exact go_iret hc (oend_i h hE) hr dX9_years_29
    · rw [if_neg hh] at h
      refine go_iload_n hc dX9_years_18 rfl rfl ?_
      refine go_bipush hc dX9_years_19 cb_99 ?_
      refine go_icmp_le (tgt := 30) hc dX9_years_21 rfl (fun hh => ?_) (fun hh => ?_)
      · rw [if_pos hh] at h
        refine go_aload_n hc dX9_years_30 rfl rfl ?_
        obtain ⟨hg4, h⟩ := ogd_some h
        refine go_getR hc ho flX9_10 dX9_years_31 ok_0 ?_
        refine go_getC (b := (mR σ 0 0) + 5) (ow_c0_1 (of_decide_eq_true hg4)) hc ho flX9_170 dX9_years_34 (of_decide_eq_true hg4) ?_
        refine go_getI hc ho flX9_279 dX9_years_37 (ow_k5 (of_decide_eq_true hg4)) ?_
        refine go_iload_n hc dX9_years_40 rfl rfl ?_
        refine go_iadd hc dX9_years_41 ?_
        refine go_sipush hc dX9_years_42 cs_999 ?_
        refine go_icmp_le (tgt := 54) hc dX9_years_45 rfl (fun hh => ?_) (fun hh => ?_)
        · rw [if_pos hh] at h
          refine go_aload_n hc dX9_years_54 rfl rfl ?_
          obtain ⟨hg5, h⟩ := ogd_some h
          refine go_getR hc ho flX9_10 dX9_years_55 ok_0 ?_
          refine go_getC (b := (mR σ 0 0) + 5) (ow_c0_1 (of_decide_eq_true hg5)) hc ho flX9_170 dX9_years_58 (of_decide_eq_true hg5) ?_
          refine go_dup hc dX9_years_61 rfl ?_
          refine go_getI hc ho flX9_279 dX9_years_62 (ow_k5 (of_decide_eq_true hg5)) ?_
          refine go_iload_n hc dX9_years_65 rfl rfl ?_
          refine go_iadd hc dX9_years_66 ?_
          refine go_putI hc ho fpX9_279 dX9_years_67 (ow_k5 (of_decide_eq_true hg5)) (fun g => oni g _) (fun _ => rfl) ?_
          refine go_aload_n hc dX9_years_70 rfl rfl ?_
          refine go_getC (b := 61) rfl hc ho flX9_51 dX9_years_71 ok_0 ?_
          refine go_iconst hc dX9_years_74 ci_2 ?_
          refine go_iload_n hc dX9_years_75 rfl rfl ?_
          refine go_iconst hc dX9_years_76 ci_0 ?_
          obtain ⟨σ7, hf8, h⟩ := obv_some h
          refine go_callVv hc ho cmX0_keep mlX9_307 dX9_years_77 ok_61 (As := [.int (2 : Int32), .int x0, .int (0 : Int32)]) (rest := []) (rX0_keep (N := 1) hf8 (Nat.le_refl _)) rfl (Nat.le_trans (Nat.le_of_ble_eq_true rfl) hN) rfl (Nat.le_of_ble_eq_true rfl) (Or.inl hz) ?_
          refine go_aload_n hc dX9_years_80 rfl rfl ?_
          refine go_aload_n hc dX9_years_81 rfl rfl ?_
          obtain ⟨hg9, h⟩ := ogd_some h
          refine go_getR hc ho flX9_10 dX9_years_82 ok_0 ?_
          refine go_getC (b := (mR σ7 0 0) + 5) (ow_c0_1 (of_decide_eq_true hg9)) hc ho flX9_170 dX9_years_85 (of_decide_eq_true hg9) ?_
          refine go_getI hc ho flX9_279 dX9_years_88 (ow_k5 (of_decide_eq_true hg9)) ?_
          obtain ⟨r10, σ11, hf12, h⟩ := obi_some h
          refine go_callVi hc ho cmX9_answer mlX9_103 dX9_years_91 ok_0 (As := [.int (mI σ7 ((mR σ7 0 0) + 5) 6)]) (rest := []) (rX9_answer (N := 0) hf12 (Nat.le_refl _)) rfl (Nat.le_trans (Nat.le_of_ble_eq_true rfl) hN) rfl (Nat.le_of_ble_eq_true rfl) (Or.inl hz) ?_
          exact go_iret hc (oend_i h hE) hr dX9_years_94
        · rw [if_neg hh] at h
          refine go_aload_n hc dX9_years_48 rfl rfl ?_
          refine go_iconst hc dX9_years_49 ci_3 ?_
          obtain ⟨r13, σ14, hf15, h⟩ := obi_some h
          refine go_callVi hc ho cmX9_refuse mlX9_70 dX9_years_50 ok_0 (As := [.int (3 : Int32)]) (rest := []) (rX9_refuse (N := 0) hf15 (Nat.le_refl _)) rfl (Nat.le_trans (Nat.le_of_ble_eq_true rfl) hN) rfl (Nat.le_of_ble_eq_true rfl) (Or.inl hz) ?_
          exact go_iret hc (oend_i h hE) hr dX9_years_53
      · rw [if_neg hh] at h
        refine go_aload_n hc dX9_years_24 rfl rfl ?_
        refine go_iconst hc dX9_years_25 ci_2 ?_
        obtain ⟨r16, σ17, hf18, h⟩ := obi_some h
        refine go_callVi hc ho cmX9_refuse mlX9_70 dX9_years_26 ok_0 (As := [.int (2 : Int32)]) (rest := []) (rX9_refuse (N := 0) hf18 (Nat.le_refl _)) rfl (Nat.le_trans (Nat.le_of_ble_eq_true rfl) hN) rfl (Nat.le_of_ble_eq_true rfl) (Or.inl hz) ?_
        exact go_iret hc (oend_i h hE) hr dX9_years_29
  · rw [if_pos hh] at h
    refine go_aload_n hc dX9_years_7 rfl rfl ?_
    refine go_iconst hc dX9_years_8 ci_1 ?_
    obtain ⟨r19, σ20, hf21, h⟩ := obi_some h
    refine go_callVi hc ho cmX9_refuse mlX9_70 dX9_years_9 ok_0 (As := [.int (1 : Int32)]) (rest := []) (rX9_refuse (N := 0) hf21 (Nat.le_refl _)) rfl (Nat.le_trans (Nat.le_of_ble_eq_true rfl) hN) rfl (Nat.le_of_ble_eq_true rfl) (Or.inl hz) ?_
    exact go_iret hc (oend_i h hE) hr dX9_years_12
def fX7_unwed (t : Nat) (x0 : Int32) (x1 : Int32) (σ : OM) : Option OM :=
  obi (fX7_areWed t x0 x1 σ) (fun r1 σ2 =>
  if r1 = 0 then (
   some σ2)
  else (obv (fX7_turnWedding t x0 x1 σ2) (fun σ5 =>
  some (sI σ5 t 5 ((mI σ5 t 5) - (1 : Int32))))))
set_option maxRecDepth 100000 in
set_option maxHeartbeats 4000000 in
theorem rX7_unwed {N : Nat} {t : Nat} {x0 : Int32} {x1 : Int32} {σ : OM} {σ0 : OM} (ht : okd t = 7) (h : fX7_unwed t x0 x1 σ = some σ0) (hN0 : 2 ≤ N) : oEv N MX7_unwed [.ref t, .int x0, .int x1] σ (none) σ0 := by
  refine oEv_of (lv := [.ref t, .int x0, .int x1]) (by decide +kernel) (fun g q hq => hq) (fun g => Nat.le_of_ble_eq_true rfl) ?_
  intro K hc ho hL hN1 hr hE hz
  have hN : 2 ≤ kN K := by rw [hN1]; exact hN0
  unfold fX7_unwed at h
  refine go_aload_n hc dX7_unwed_0 rfl rfl ?_
  refine go_iload_n hc dX7_unwed_1 rfl rfl ?_
  refine go_iload_n hc dX7_unwed_2 rfl rfl ?_
  obtain ⟨r1, σ2, hf3, h⟩ := obi_some h
  refine go_callVi hc ho cmX7_areWed mlX7_39 dX7_unwed_3 ht (As := [.int x0, .int x1]) (rest := []) (rX7_areWed (N := 1) ht hf3 (Nat.le_refl _)) rfl (Nat.le_trans (Nat.le_of_ble_eq_true rfl) hN) rfl (Nat.le_of_ble_eq_true rfl) (Or.inl hz) ?_
  refine go_if_eq (tgt := 25) hc dX7_unwed_6 rfl (fun hh => ?_) (fun hh => ?_)
  · rw [if_pos hh] at h
    exact go_vret hc (oend_v h hE) hr dX7_unwed_25
  · rw [if_neg hh] at h
    refine go_aload_n hc dX7_unwed_9 rfl rfl ?_
    refine go_iload_n hc dX7_unwed_10 rfl rfl ?_
    refine go_iload_n hc dX7_unwed_11 rfl rfl ?_
    obtain ⟨σ5, hf6, h⟩ := obv_some h
    refine go_callVv hc ho cmX7_turnWedding mlX7_43 dX7_unwed_12 ht (As := [.int x0, .int x1]) (rest := []) (rX7_turnWedding (N := 0) ht hf6 (Nat.le_refl _)) rfl (Nat.le_trans (Nat.le_of_ble_eq_true rfl) hN) rfl (Nat.le_of_ble_eq_true rfl) (Or.inl hz) ?_
    refine go_aload_n hc dX7_unwed_15 rfl rfl ?_
    refine go_dup hc dX7_unwed_16 rfl ?_
    refine go_getI hc ho flX7_29 dX7_unwed_17 ht ?_
    refine go_iconst hc dX7_unwed_20 ci_1 ?_
    refine go_isub hc dX7_unwed_21 ?_
    refine go_putI hc ho fpX7_29 dX7_unwed_22 ht (fun g => oni g _) (fun _ => rfl) ?_
    exact go_vret hc (oend_v h hE) hr dX7_unwed_25
def fX0_undoIn (tx0 : Nat) (σ : OM) : Option (Int32 × OM) :=
  if (mI σ 61 3) < (1 : Int32) then (
   some ((0 : Int32), σ))
  else (if (mI σ 61 3) ≤ (12 : Int32) then (
   ogd (oin (mI (sI σ 61 3 ((mI σ 61 3) - (1 : Int32))) 61 3) 12) (
   if (mI (sI σ 61 3 ((mI σ 61 3) - (1 : Int32))) 62 ((mI (sI σ 61 3 ((mI σ 61 3) - (1 : Int32))) 61 3).toNatClampNeg)) = 0 then (
    some ((1 : Int32), sI (sI σ 61 3 ((mI σ 61 3) - (1 : Int32))) tx0 0 ((mI (sI σ 61 3 ((mI σ 61 3) - (1 : Int32))) tx0 0) - (1 : Int32))))
   else (ogd (oin (mI (sI σ 61 3 ((mI σ 61 3) - (1 : Int32))) 61 3) 12) (
   if (mI (sI σ 61 3 ((mI σ 61 3) - (1 : Int32))) 62 ((mI (sI σ 61 3 ((mI σ 61 3) - (1 : Int32))) 61 3).toNatClampNeg)) = (1 : Int32) then (
    ogd (oin (mI (sI σ 61 3 ((mI σ 61 3) - (1 : Int32))) 61 3) 12) (
    ogd (oin (mI (sI σ 61 3 ((mI σ 61 3) - (1 : Int32))) 61 3) 12) (
    obv (fX7_unwed tx0 (mI (sI σ 61 3 ((mI σ 61 3) - (1 : Int32))) 63 ((mI (sI σ 61 3 ((mI σ 61 3) - (1 : Int32))) 61 3).toNatClampNeg)) (mI (sI σ 61 3 ((mI σ 61 3) - (1 : Int32))) 64 ((mI (sI σ 61 3 ((mI σ 61 3) - (1 : Int32))) 61 3).toNatClampNeg)) (sI σ 61 3 ((mI σ 61 3) - (1 : Int32)))) (fun σ7 =>
    some ((1 : Int32), σ7)))))
   else (ogd (oin (mI (sI σ 61 3 ((mI σ 61 3) - (1 : Int32))) 61 3) 12) (
   some ((1 : Int32), sI (sI σ 61 3 ((mI σ 61 3) - (1 : Int32))) tx0 6 ((mI (sI σ 61 3 ((mI σ 61 3) - (1 : Int32))) tx0 6) - (mI (sI σ 61 3 ((mI σ 61 3) - (1 : Int32))) 63 ((mI (sI σ 61 3 ((mI σ 61 3) - (1 : Int32))) 61 3).toNatClampNeg))))))))))
  else (some ((0 : Int32), σ)))
set_option maxRecDepth 100000 in
set_option maxHeartbeats 4000000 in
theorem rX0_undoIn {N : Nat} {tx0 : Nat} {σ : OM} {r0 : Int32} {σ0 : OM} (htx0 : okd tx0 = 7) (h : fX0_undoIn tx0 σ = some (r0, σ0)) (hN0 : 3 ≤ N) : oEv N MX0_undoIn [.ref 61, .ref tx0] σ (some (.int r0)) σ0 := by
  refine oEv_of (lv := [.ref 61, .ref tx0]) (by decide +kernel) (fun g q hq => hq) (fun g => Nat.le_of_ble_eq_true rfl) ?_
  intro K hc ho hL hN1 hr hE hz
  have hN : 3 ≤ kN K := by rw [hN1]; exact hN0
  unfold fX0_undoIn at h
  refine go_aload_n hc dX0_undoIn_0 rfl rfl ?_
  refine go_getI hc ho flX0_19 dX0_undoIn_1 ok_61 ?_
  refine go_iconst hc dX0_undoIn_4 ci_1 ?_
  refine go_icmp_lt (tgt := 17) hc dX0_undoIn_5 rfl (fun hh => ?_) (fun hh => ?_)
  · rw [if_pos hh] at h
    refine go_iconst hc dX0_undoIn_17 ci_0 ?_
    exact go_zret hc (oend_i h hE) hr rfl dX0_undoIn_18
  · rw [if_neg hh] at h
    refine go_aload_n hc dX0_undoIn_8 rfl rfl ?_
    refine go_getI hc ho flX0_19 dX0_undoIn_9 ok_61 ?_
    refine go_bipush hc dX0_undoIn_12 cb_12 ?_
    refine go_icmp_le (tgt := 19) hc dX0_undoIn_14 rfl (fun hh => ?_) (fun hh => ?_)
    · rw [if_pos hh] at h
      refine go_aload_n hc dX0_undoIn_19 rfl rfl ?_
      refine go_dup hc dX0_undoIn_20 rfl ?_
      refine go_getI hc ho flX0_19 dX0_undoIn_21 ok_61 ?_
      refine go_iconst hc dX0_undoIn_24 ci_1 ?_
      refine go_isub hc dX0_undoIn_25 ?_
      refine go_putI hc ho fpX0_19 dX0_undoIn_26 ok_61 (fun g => oni g _) (fun _ => rfl) ?_
      refine go_aload_n hc dX0_undoIn_29 rfl rfl ?_
      refine go_getC (b := 62) rfl hc ho flX0_9 dX0_undoIn_30 ok_61 ?_
      refine go_aload_n hc dX0_undoIn_33 rfl rfl ?_
      refine go_getI hc ho flX0_19 dX0_undoIn_34 ok_61 ?_
      obtain ⟨hg1, h⟩ := ogd_some h
      refine go_iald hc dX0_undoIn_37 ok_62 ol_62 hg1 rfl ?_
      refine go_if_ne (tgt := 54) hc dX0_undoIn_38 rfl (fun hh => ?_) (fun hh => ?_)
      · rw [if_neg hh] at h
        refine go_aload_n hc dX0_undoIn_54 rfl rfl ?_
        refine go_getC (b := 62) rfl hc ho flX0_9 dX0_undoIn_55 ok_61 ?_
        refine go_aload_n hc dX0_undoIn_58 rfl rfl ?_
        refine go_getI hc ho flX0_19 dX0_undoIn_59 ok_61 ?_
        obtain ⟨hg2, h⟩ := ogd_some h
        refine go_iald hc dX0_undoIn_62 ok_62 ol_62 hg2 rfl ?_
        refine go_iconst hc dX0_undoIn_63 ci_1 ?_
        refine go_icmp_ne (tgt := 92) hc dX0_undoIn_64 rfl (fun hh => ?_) (fun hh => ?_)
        · rw [if_neg hh] at h
          refine go_aload_n hc dX0_undoIn_92 rfl rfl ?_
          refine go_dup hc dX0_undoIn_93 rfl ?_
          refine go_getI hc ho flX0_33 dX0_undoIn_94 htx0 ?_
          refine go_aload_n hc dX0_undoIn_97 rfl rfl ?_
          refine go_getC (b := 63) rfl hc ho flX0_13 dX0_undoIn_98 ok_61 ?_
          refine go_aload_n hc dX0_undoIn_101 rfl rfl ?_
          refine go_getI hc ho flX0_19 dX0_undoIn_102 ok_61 ?_
          obtain ⟨hg3, h⟩ := ogd_some h
          refine go_iald hc dX0_undoIn_105 ok_63 ol_63 hg3 rfl ?_
          refine go_isub hc dX0_undoIn_106 ?_
          refine go_putI hc ho fpX0_33 dX0_undoIn_107 htx0 (fun g => oni g _) (fun _ => rfl) ?_
          refine go_iconst hc dX0_undoIn_110 ci_1 ?_
          exact go_zret hc (oend_i h hE) hr rfl dX0_undoIn_111
        · rw [if_pos hh] at h
          refine go_aload_n hc dX0_undoIn_67 rfl rfl ?_
          refine go_aload_n hc dX0_undoIn_68 rfl rfl ?_
          refine go_getC (b := 63) rfl hc ho flX0_13 dX0_undoIn_69 ok_61 ?_
          refine go_aload_n hc dX0_undoIn_72 rfl rfl ?_
          refine go_getI hc ho flX0_19 dX0_undoIn_73 ok_61 ?_
          obtain ⟨hg4, h⟩ := ogd_some h
          refine go_iald hc dX0_undoIn_76 ok_63 ol_63 hg4 rfl ?_
          refine go_aload_n hc dX0_undoIn_77 rfl rfl ?_
          refine go_getC (b := 64) rfl hc ho flX0_16 dX0_undoIn_78 ok_61 ?_
          refine go_aload_n hc dX0_undoIn_81 rfl rfl ?_
          refine go_getI hc ho flX0_19 dX0_undoIn_82 ok_61 ?_
          obtain ⟨hg5, h⟩ := ogd_some h
          refine go_iald hc dX0_undoIn_85 ok_64 ol_64 hg5 rfl ?_
          obtain ⟨σ7, hf8, h⟩ := obv_some h
          refine go_callVv hc ho cmX7_unwed mlX0_29 dX0_undoIn_86 htx0 (As := [.int (mI (sI σ 61 3 ((mI σ 61 3) - (1 : Int32))) 63 ((mI (sI σ 61 3 ((mI σ 61 3) - (1 : Int32))) 61 3).toNatClampNeg)), .int (mI (sI σ 61 3 ((mI σ 61 3) - (1 : Int32))) 64 ((mI (sI σ 61 3 ((mI σ 61 3) - (1 : Int32))) 61 3).toNatClampNeg))]) (rest := []) (rX7_unwed (N := 2) htx0 hf8 (Nat.le_refl _)) rfl (Nat.le_trans (Nat.le_of_ble_eq_true rfl) hN) rfl (Nat.le_of_ble_eq_true rfl) (Or.inl hz) ?_
          refine go_goto (tgt := 110) hc dX0_undoIn_89 rfl ?_
          refine go_iconst hc dX0_undoIn_110 ci_1 ?_
          exact go_zret hc (oend_i h hE) hr rfl dX0_undoIn_111
      · rw [if_pos hh] at h
        refine go_aload_n hc dX0_undoIn_41 rfl rfl ?_
        refine go_dup hc dX0_undoIn_42 rfl ?_
        refine go_getI hc ho flX0_26 dX0_undoIn_43 htx0 ?_
        refine go_iconst hc dX0_undoIn_46 ci_1 ?_
        refine go_isub hc dX0_undoIn_47 ?_
        refine go_putI hc ho fpX0_26 dX0_undoIn_48 htx0 (fun g => oni g _) (fun _ => rfl) ?_
        refine go_goto (tgt := 110) hc dX0_undoIn_51 rfl ?_
        refine go_iconst hc dX0_undoIn_110 ci_1 ?_
        exact go_zret hc (oend_i h hE) hr rfl dX0_undoIn_111
    · rw [if_neg hh] at h
      refine go_iconst hc dX0_undoIn_17 ci_0 ?_
      exact go_zret hc (oend_i h hE) hr rfl dX0_undoIn_18
def fX9_undo (σ : OM) : Option (Int32 × OM) :=
  ogd (decide (okd (mR σ 0 0) = 8)) (
  obi (fX0_undoIn ((mR σ 0 0) + 5) σ) (fun r2 σ3 =>
  if r2 = 0 then (
   obi (fX9_refuse (6 : Int32) σ3) (fun r10 σ11 =>
   some ((0 : Int32), σ11)))
  else (ogd (decide (okd (mR σ3 0 0) = 8)) (
  ogd (decide (okd (mR σ3 0 0) = 8)) (
  obv (fX3_findLiars (mR σ3 0 0) (mI σ3 (mR σ3 0 0) 4) σ3) (fun σ8 =>
  some ((1 : Int32), sI σ8 0 9 (0 : Int32))))))))
set_option maxRecDepth 100000 in
set_option maxHeartbeats 4000000 in
theorem rX9_undo {N : Nat} {σ : OM} {r0 : Int32} {σ0 : OM} (h : fX9_undo σ = some (r0, σ0)) (hN0 : 4 ≤ N) : oEv N MX9_undo [.ref 0] σ (some (.int r0)) σ0 := by
  refine oEv_of (lv := [.ref 0]) (by decide +kernel) (fun g q hq => hq) (fun g => Nat.le_of_ble_eq_true rfl) ?_
  intro K hc ho hL hN1 hr hE hz
  have hN : 4 ≤ kN K := by rw [hN1]; exact hN0
  unfold fX9_undo at h
  refine go_aload_n hc dX9_undo_0 rfl rfl ?_
  refine go_getC (b := 61) rfl hc ho flX9_51 dX9_undo_1 ok_0 ?_
  refine go_aload_n hc dX9_undo_4 rfl rfl ?_
  obtain ⟨hg1, h⟩ := ogd_some h
  refine go_getR hc ho flX9_10 dX9_undo_5 ok_0 ?_
  refine go_getC (b := (mR σ 0 0) + 5) (ow_c0_1 (of_decide_eq_true hg1)) hc ho flX9_170 dX9_undo_8 (of_decide_eq_true hg1) ?_
  obtain ⟨r2, σ3, hf4, h⟩ := obi_some h
  refine go_callVi hc ho cmX0_undoIn mlX9_311 dX9_undo_11 ok_61 (As := [.ref ((mR σ 0 0) + 5)]) (rest := []) (rX0_undoIn (N := 3) (ow_k5 (of_decide_eq_true hg1)) hf4 (Nat.le_refl _)) rfl (Nat.le_trans (Nat.le_of_ble_eq_true rfl) hN) rfl (Nat.le_of_ble_eq_true rfl) (Or.inl hz) ?_
  refine go_if_ne (tgt := 26) hc dX9_undo_14 rfl (fun hh => ?_) (fun hh => ?_)
  · rw [if_neg hh] at h
    refine go_aload_n hc dX9_undo_26 rfl rfl ?_
    obtain ⟨hg5, h⟩ := ogd_some h
    refine go_getR hc ho flX9_10 dX9_undo_27 ok_0 ?_
    refine go_getC (b := (mR σ3 0 0) + 10) (ow_c0_2 (of_decide_eq_true hg5)) hc ho flX9_149 dX9_undo_30 (of_decide_eq_true hg5) ?_
    refine go_aload_n hc dX9_undo_33 rfl rfl ?_
    obtain ⟨hg6, h⟩ := ogd_some h
    refine go_getR hc ho flX9_10 dX9_undo_34 ok_0 ?_
    refine go_getI hc ho flX9_100 dX9_undo_37 (of_decide_eq_true hg6) ?_
    obtain ⟨σ8, hf9, h⟩ := obv_some h
    refine go_callVv hc ho cmX3_findLiars mlX9_315 dX9_undo_40 (ow_k10 (of_decide_eq_true hg5)) (As := [.int (mI σ3 (mR σ3 0 0) 4)]) (rest := []) (rX3_findLiars (N := 3) (of_decide_eq_true hg5) hf9 (Nat.le_refl _)) rfl (Nat.le_trans (Nat.le_of_ble_eq_true rfl) hN) rfl (Nat.le_of_ble_eq_true rfl) (Or.inl hz) ?_
    refine go_aload_n hc dX9_undo_43 rfl rfl ?_
    refine go_iconst hc dX9_undo_44 ci_0 ?_
    refine go_putI hc ho fpX9_106 dX9_undo_45 ok_0 (fun g => oni g _) (fun _ => rfl) ?_
    refine go_iconst hc dX9_undo_48 ci_1 ?_
    exact go_zret hc (oend_i h hE) hr rfl dX9_undo_49
  · rw [if_pos hh] at h
    refine go_aload_n hc dX9_undo_17 rfl rfl ?_
    refine go_bipush hc dX9_undo_18 cb_6 ?_
    obtain ⟨r10, σ11, hf12, h⟩ := obi_some h
    refine go_callVi hc ho cmX9_refuse mlX9_70 dX9_undo_20 ok_0 (As := [.int (6 : Int32)]) (rest := []) (rX9_refuse (N := 0) hf12 (Nat.le_refl _)) rfl (Nat.le_trans (Nat.le_of_ble_eq_true rfl) hN) rfl (Nat.le_of_ble_eq_true rfl) (Or.inl hz) ?_
    refine go_pop hc dX9_undo_23 rfl ?_
    refine go_iconst hc dX9_undo_24 ci_0 ?_
    exact go_zret hc (oend_i h hE) hr rfl dX9_undo_25
def fX7_copyOf_b76 : Nat → Nat → Nat → Int32 → OM → Option OM
  | 0, _, _, _, _ => none
  | n + 1, bl0, bl1, l2, σ =>
    if (6 : Int32) ≤ l2 then (
     some σ)
    else (ogd (oin l2 6) (
    ogd (oin l2 6) (
    fX7_copyOf_b76 n bl0 bl1 (l2 + 1) (sI σ (bl0 + 4) l2.toNatClampNeg (mI σ (bl1 + 4) l2.toNatClampNeg)))))
set_option maxRecDepth 100000 in
set_option maxHeartbeats 4000000 in
theorem rX7_copyOf_b76 {K : OK} (hc : kcc K = cX7_copyOf) (ho : kow K = RX7) (hL : knL K = 3) (hN : 0 ≤ kN K) (hr : (kme K).sig.returnType = none) {σ0 : OM} (hE : oEnd K (none) σ0) (hz : kz K = 0) : ∀ (n : Nat) (bl0 : Nat) (bl1 : Nat) (l2 : Int32) (σ : OM), okd bl0 = 7 → okd bl1 = 7 → fX7_copyOf_b76 n bl0 bl1 l2 σ = some σ0 → Go K 76 [.ref bl0, .ref bl1, .int l2] [] σ := by
  intro n
  induction n with
  | zero =>
    intro bl0 bl1 l2 σ hbl0 hbl1 h
    cases h
  | succ n ih =>
    intro bl0 bl1 l2 σ hbl0 hbl1 h
    rw [fX7_copyOf_b76] at h
    refine go_iload_n hc dX7_copyOf_76 rfl rfl ?_
    refine go_bipush hc dX7_copyOf_77 cb_6 ?_
    refine go_icmp_ge (tgt := 100) hc dX7_copyOf_79 rfl (fun hh => ?_) (fun hh => ?_)
    · rw [if_pos hh] at h
      exact go_vret hc (oend_v h hE) hr dX7_copyOf_100
    · rw [if_neg hh] at h
      refine go_aload_n hc dX7_copyOf_82 rfl rfl ?_
      refine go_getC (b := bl0 + 4) (ot_c4 hbl0) hc ho flX7_22 dX7_copyOf_83 hbl0 ?_
      refine go_iload_n hc dX7_copyOf_86 rfl rfl ?_
      refine go_aload_n hc dX7_copyOf_87 rfl rfl ?_
      refine go_getC (b := bl1 + 4) (ot_c4 hbl1) hc ho flX7_22 dX7_copyOf_88 hbl1 ?_
      refine go_iload_n hc dX7_copyOf_91 rfl rfl ?_
      obtain ⟨hg1, h⟩ := ogd_some h
      refine go_iald hc dX7_copyOf_92 (ot_k4 hbl1) (ot_l4 hbl1) hg1 rfl ?_
      obtain ⟨hg2, h⟩ := ogd_some h
      refine go_iast hc dX7_copyOf_93 (ot_k4 hbl0) (ot_l4 hbl0) hg2 rfl ?_
      refine go_iinc hc (lv1 := [.ref bl0, .ref bl1, .int (l2 + 1)]) dX7_copyOf_94 rfl ci_1 hL (by decide) (fun _ _ e => by cases e; rfl) rfl ?_
      refine go_goto (tgt := 76) hc dX7_copyOf_97 rfl ?_
      exact ih bl0 bl1 (l2 + 1) _ hbl0 hbl1 h
def fX7_copyOf_b26 : Nat → Nat → Nat → Int32 → OM → Option OM
  | 0, _, _, _, _ => none
  | n + 1, bl0, bl1, l2, σ =>
    if (20 : Int32) ≤ l2 then (
     fX7_copyOf_b76 oF bl0 bl1 (0 : Int32) σ)
    else (ogd (oin l2 20) (
    ogd (oin l2 20) (
    ogd (oin l2 20) (
    ogd (oin l2 20) (
    ogd (oin l2 20) (
    ogd (oin l2 20) (
    fX7_copyOf_b26 n bl0 bl1 (l2 + 1) (sI (sI (sI σ (bl0 + 1) l2.toNatClampNeg (mI σ (bl1 + 1) l2.toNatClampNeg)) (bl0 + 2) l2.toNatClampNeg (mI (sI σ (bl0 + 1) l2.toNatClampNeg (mI σ (bl1 + 1) l2.toNatClampNeg)) (bl1 + 2) l2.toNatClampNeg)) (bl0 + 3) l2.toNatClampNeg (vp_nar .boolean (mI (sI (sI σ (bl0 + 1) l2.toNatClampNeg (mI σ (bl1 + 1) l2.toNatClampNeg)) (bl0 + 2) l2.toNatClampNeg (mI (sI σ (bl0 + 1) l2.toNatClampNeg (mI σ (bl1 + 1) l2.toNatClampNeg)) (bl1 + 2) l2.toNatClampNeg)) (bl1 + 3) l2.toNatClampNeg))))))))))
set_option maxRecDepth 100000 in
set_option maxHeartbeats 4000000 in
theorem rX7_copyOf_b26 {K : OK} (hc : kcc K = cX7_copyOf) (ho : kow K = RX7) (hL : knL K = 3) (hN : 0 ≤ kN K) (hr : (kme K).sig.returnType = none) {σ0 : OM} (hE : oEnd K (none) σ0) (hz : kz K = 0) : ∀ (n : Nat) (bl0 : Nat) (bl1 : Nat) (l2 : Int32) (σ : OM), okd bl0 = 7 → okd bl1 = 7 → fX7_copyOf_b26 n bl0 bl1 l2 σ = some σ0 → Go K 26 [.ref bl0, .ref bl1, .int l2] [] σ := by
  intro n
  induction n with
  | zero =>
    intro bl0 bl1 l2 σ hbl0 hbl1 h
    cases h
  | succ n ih =>
    intro bl0 bl1 l2 σ hbl0 hbl1 h
    rw [fX7_copyOf_b26] at h
    refine go_iload_n hc dX7_copyOf_26 rfl rfl ?_
    refine go_bipush hc dX7_copyOf_27 cb_20 ?_
    refine go_icmp_ge (tgt := 74) hc dX7_copyOf_29 rfl (fun hh => ?_) (fun hh => ?_)
    · rw [if_pos hh] at h
      refine go_iconst hc dX7_copyOf_74 ci_0 ?_
      refine go_istore_n hc (lv1 := [.ref bl0, .ref bl1, .int (0 : Int32)]) dX7_copyOf_75 rfl hL (by decide) (fun _ _ e => by cases e; rfl) rfl ?_
      exact rX7_copyOf_b76 hc ho hL hN hr hE hz oF bl0 bl1 (0 : Int32) _ hbl0 hbl1 h
    · rw [if_neg hh] at h
      refine go_aload_n hc dX7_copyOf_32 rfl rfl ?_
      refine go_getC (b := bl0 + 1) (ot_c1 hbl0) hc ho flX7_9 dX7_copyOf_33 hbl0 ?_
      refine go_iload_n hc dX7_copyOf_36 rfl rfl ?_
      refine go_aload_n hc dX7_copyOf_37 rfl rfl ?_
      refine go_getC (b := bl1 + 1) (ot_c1 hbl1) hc ho flX7_9 dX7_copyOf_38 hbl1 ?_
      refine go_iload_n hc dX7_copyOf_41 rfl rfl ?_
      obtain ⟨hg1, h⟩ := ogd_some h
      refine go_iald hc dX7_copyOf_42 (ot_k1 hbl1) (ot_l1 hbl1) hg1 rfl ?_
      obtain ⟨hg2, h⟩ := ogd_some h
      refine go_iast hc dX7_copyOf_43 (ot_k1 hbl0) (ot_l1 hbl0) hg2 rfl ?_
      refine go_aload_n hc dX7_copyOf_44 rfl rfl ?_
      refine go_getC (b := bl0 + 2) (ot_c2 hbl0) hc ho flX7_15 dX7_copyOf_45 hbl0 ?_
      refine go_iload_n hc dX7_copyOf_48 rfl rfl ?_
      refine go_aload_n hc dX7_copyOf_49 rfl rfl ?_
      refine go_getC (b := bl1 + 2) (ot_c2 hbl1) hc ho flX7_15 dX7_copyOf_50 hbl1 ?_
      refine go_iload_n hc dX7_copyOf_53 rfl rfl ?_
      obtain ⟨hg3, h⟩ := ogd_some h
      refine go_iald hc dX7_copyOf_54 (ot_k2 hbl1) (ot_l2 hbl1) hg3 rfl ?_
      obtain ⟨hg4, h⟩ := ogd_some h
      refine go_iast hc dX7_copyOf_55 (ot_k2 hbl0) (ot_l2 hbl0) hg4 rfl ?_
      refine go_aload_n hc dX7_copyOf_56 rfl rfl ?_
      refine go_getC (b := bl0 + 3) (ot_c3 hbl0) hc ho flX7_18 dX7_copyOf_57 hbl0 ?_
      refine go_iload_n hc dX7_copyOf_60 rfl rfl ?_
      refine go_aload_n hc dX7_copyOf_61 rfl rfl ?_
      refine go_getC (b := bl1 + 3) (ot_c3 hbl1) hc ho flX7_18 dX7_copyOf_62 hbl1 ?_
      refine go_iload_n hc dX7_copyOf_65 rfl rfl ?_
      obtain ⟨hg5, h⟩ := ogd_some h
      refine go_zald hc dX7_copyOf_66 (ot_k3 hbl1) (ot_l3 hbl1) hg5 rfl ?_
      obtain ⟨hg6, h⟩ := ogd_some h
      refine go_zast hc dX7_copyOf_67 (ot_k3 hbl0) (ot_l3 hbl0) hg6 rfl ?_
      refine go_iinc hc (lv1 := [.ref bl0, .ref bl1, .int (l2 + 1)]) dX7_copyOf_68 rfl ci_1 hL (by decide) (fun _ _ e => by cases e; rfl) rfl ?_
      refine go_goto (tgt := 26) hc dX7_copyOf_71 rfl ?_
      exact ih bl0 bl1 (l2 + 1) _ hbl0 hbl1 h
def fX7_copyOf (t : Nat) (tx0 : Nat) (σ : OM) : Option OM :=
  fX7_copyOf_b26 oF t tx0 (0 : Int32) (sI (sI (sI σ t 0 (mI σ tx0 0)) t 5 (mI (sI σ t 0 (mI σ tx0 0)) tx0 5)) t 6 (mI (sI (sI σ t 0 (mI σ tx0 0)) t 5 (mI (sI σ t 0 (mI σ tx0 0)) tx0 5)) tx0 6))
set_option maxRecDepth 100000 in
set_option maxHeartbeats 4000000 in
theorem rX7_copyOf {N : Nat} {t : Nat} {tx0 : Nat} {σ : OM} {σ0 : OM} (ht : okd t = 7) (htx0 : okd tx0 = 7) (h : fX7_copyOf t tx0 σ = some σ0) (hN0 : 0 ≤ N) : oEv N MX7_copyOf [.ref t, .ref tx0] σ (none) σ0 := by
  refine oEv_of (lv := [.ref t, .ref tx0, .null]) (by decide +kernel) (fun g q hq => hq) (fun g => Nat.le_of_ble_eq_true rfl) ?_
  intro K hc ho hL hN1 hr hE hz
  have hN : 0 ≤ kN K := by rw [hN1]; exact hN0
  unfold fX7_copyOf at h
  refine go_aload_n hc dX7_copyOf_0 rfl rfl ?_
  refine go_aload_n hc dX7_copyOf_1 rfl rfl ?_
  refine go_getI hc ho flX7_25 dX7_copyOf_2 htx0 ?_
  refine go_putI hc ho fpX7_25 dX7_copyOf_5 ht (fun g => oni g _) (fun _ => rfl) ?_
  refine go_aload_n hc dX7_copyOf_8 rfl rfl ?_
  refine go_aload_n hc dX7_copyOf_9 rfl rfl ?_
  refine go_getI hc ho flX7_29 dX7_copyOf_10 htx0 ?_
  refine go_putI hc ho fpX7_29 dX7_copyOf_13 ht (fun g => oni g _) (fun _ => rfl) ?_
  refine go_aload_n hc dX7_copyOf_16 rfl rfl ?_
  refine go_aload_n hc dX7_copyOf_17 rfl rfl ?_
  refine go_getI hc ho flX7_32 dX7_copyOf_18 htx0 ?_
  refine go_putI hc ho fpX7_32 dX7_copyOf_21 ht (fun g => oni g _) (fun _ => rfl) ?_
  refine go_iconst hc dX7_copyOf_24 ci_0 ?_
  refine go_istore_n hc (lv1 := [.ref t, .ref tx0, .int (0 : Int32)]) dX7_copyOf_25 rfl hL (by decide) (fun _ _ e => by cases e; rfl) rfl ?_
  exact rX7_copyOf_b26 hc ho hL hN hr hE hz oF t tx0 (0 : Int32) _ ht htx0 h
def fX9_image (σ : OM) : Option (Int32 × OM) :=
  if (mI σ 0 7) = 0 then (
   obi (fX9_refuse (1 : Int32) σ) (fun r15 σ16 =>
   some (r15, σ16)))
  else (if (mI σ 0 8) < 0 then (
   obi (fX9_refuse (3 : Int32) σ) (fun r1 σ2 =>
   some (r1, σ2)))
  else (if (mI σ 0 8) < (3 : Int32) then (
   ogd (oin (mI σ 0 8) 3) (
   ogd (decide (okd (mR σ 0 0) = 8)) (
   obv (fX7_copyOf (66 + 5 * (mI σ 0 8).toNatClampNeg) ((mR σ 0 0) + 5) σ) (fun σ7 =>
   obi (fX9_answer ((mI (sI σ7 0 8 ((mI σ7 0 8) + (1 : Int32))) 0 8) - (1 : Int32)) (sI σ7 0 8 ((mI σ7 0 8) + (1 : Int32)))) (fun r9 σ10 =>
   some (r9, σ10))))))
  else (obi (fX9_refuse (3 : Int32) σ) (fun r12 σ13 =>
  some (r12, σ13)))))
set_option maxRecDepth 100000 in
set_option maxHeartbeats 4000000 in
theorem rX9_image {N : Nat} {σ : OM} {r0 : Int32} {σ0 : OM} (h : fX9_image σ = some (r0, σ0)) (hN0 : 1 ≤ N) : oEv N MX9_image [.ref 0] σ (some (.int r0)) σ0 := by
  refine oEv_of (lv := [.ref 0]) (by decide +kernel) (fun g q hq => hq) (fun g => Nat.le_of_ble_eq_true rfl) ?_
  intro K hc ho hL hN1 hr hE hz
  have hN : 1 ≤ kN K := by rw [hN1]; exact hN0
  unfold fX9_image at h
  refine go_aload_n hc dX9_image_0 rfl rfl ?_
  refine go_getI hc ho flX9_90 dX9_image_1 ok_0 ?_
  refine go_if_ne (tgt := 13) hc dX9_image_4 rfl (fun hh => ?_) (fun hh => ?_)
  · rw [if_neg hh] at h
    refine go_aload_n hc dX9_image_13 rfl rfl ?_
    refine go_getI hc ho flX9_94 dX9_image_14 ok_0 ?_
    refine go_if_lt (tgt := 28) hc dX9_image_17 rfl (fun hh => ?_) (fun hh => ?_)
    · rw [if_pos hh] at h
      refine go_aload_n hc dX9_image_28 rfl rfl ?_
      refine go_iconst hc dX9_image_29 ci_3 ?_
      obtain ⟨r1, σ2, hf3, h⟩ := obi_some h
      refine go_callVi hc ho cmX9_refuse mlX9_70 dX9_image_30 ok_0 (As := [.int (3 : Int32)]) (rest := []) (rX9_refuse (N := 0) hf3 (Nat.le_refl _)) rfl (Nat.le_trans (Nat.le_of_ble_eq_true rfl) hN) rfl (Nat.le_of_ble_eq_true rfl) (Or.inl hz) ?_
      exact go_iret hc (oend_i h hE) hr dX9_image_33
    · rw [if_neg hh] at h
      refine go_aload_n hc dX9_image_20 rfl rfl ?_
      refine go_getI hc ho flX9_94 dX9_image_21 ok_0 ?_
      refine go_iconst hc dX9_image_24 ci_3 ?_
      refine go_icmp_lt (tgt := 34) hc dX9_image_25 rfl (fun hh => ?_) (fun hh => ?_)
      · rw [if_pos hh] at h
        refine go_aload_n hc dX9_image_34 rfl rfl ?_
        refine go_getC (b := 65) rfl hc ho flX9_58 dX9_image_35 ok_0 ?_
        refine go_aload_n hc dX9_image_38 rfl rfl ?_
        refine go_getI hc ho flX9_94 dX9_image_39 ok_0 ?_
        obtain ⟨hg4, h⟩ := ogd_some h
        refine go_ald5 hc dX9_image_42 ok_65 ol_65 hg4 rfl (oi_c (oin_lt hg4)) ?_
        refine go_aload_n hc dX9_image_43 rfl rfl ?_
        obtain ⟨hg5, h⟩ := ogd_some h
        refine go_getR hc ho flX9_10 dX9_image_44 ok_0 ?_
        refine go_getC (b := (mR σ 0 0) + 5) (ow_c0_1 (of_decide_eq_true hg5)) hc ho flX9_170 dX9_image_47 (of_decide_eq_true hg5) ?_
        obtain ⟨σ7, hf8, h⟩ := obv_some h
        refine go_callVv hc ho cmX7_copyOf mlX9_318 dX9_image_50 (oi_k (oin_lt hg4)) (As := [.ref ((mR σ 0 0) + 5)]) (rest := []) (rX7_copyOf (N := 0) (oi_k (oin_lt hg4)) (ow_k5 (of_decide_eq_true hg5)) hf8 (Nat.le_refl _)) rfl (Nat.le_trans (Nat.le_of_ble_eq_true rfl) hN) rfl (Nat.le_of_ble_eq_true rfl) (Or.inl hz) ?_
        refine go_aload_n hc dX9_image_53 rfl rfl ?_
        refine go_dup hc dX9_image_54 rfl ?_
        refine go_getI hc ho flX9_94 dX9_image_55 ok_0 ?_
        refine go_iconst hc dX9_image_58 ci_1 ?_
        refine go_iadd hc dX9_image_59 ?_
        refine go_putI hc ho fpX9_94 dX9_image_60 ok_0 (fun g => oni g _) (fun _ => rfl) ?_
        refine go_aload_n hc dX9_image_63 rfl rfl ?_
        refine go_aload_n hc dX9_image_64 rfl rfl ?_
        refine go_getI hc ho flX9_94 dX9_image_65 ok_0 ?_
        refine go_iconst hc dX9_image_68 ci_1 ?_
        refine go_isub hc dX9_image_69 ?_
        obtain ⟨r9, σ10, hf11, h⟩ := obi_some h
        refine go_callVi hc ho cmX9_answer mlX9_103 dX9_image_70 ok_0 (As := [.int ((mI (sI σ7 0 8 ((mI σ7 0 8) + (1 : Int32))) 0 8) - (1 : Int32))]) (rest := []) (rX9_answer (N := 0) hf11 (Nat.le_refl _)) rfl (Nat.le_trans (Nat.le_of_ble_eq_true rfl) hN) rfl (Nat.le_of_ble_eq_true rfl) (Or.inl hz) ?_
        exact go_iret hc (oend_i h hE) hr dX9_image_73
      · rw [if_neg hh] at h
        refine go_aload_n hc dX9_image_28 rfl rfl ?_
        refine go_iconst hc dX9_image_29 ci_3 ?_
        obtain ⟨r12, σ13, hf14, h⟩ := obi_some h
        refine go_callVi hc ho cmX9_refuse mlX9_70 dX9_image_30 ok_0 (As := [.int (3 : Int32)]) (rest := []) (rX9_refuse (N := 0) hf14 (Nat.le_refl _)) rfl (Nat.le_trans (Nat.le_of_ble_eq_true rfl) hN) rfl (Nat.le_of_ble_eq_true rfl) (Or.inl hz) ?_
        exact go_iret hc (oend_i h hE) hr dX9_image_33
  · rw [if_pos hh] at h
    refine go_aload_n hc dX9_image_7 rfl rfl ?_
    refine go_iconst hc dX9_image_8 ci_1 ?_
    obtain ⟨r15, σ16, hf17, h⟩ := obi_some h
    refine go_callVi hc ho cmX9_refuse mlX9_70 dX9_image_9 ok_0 (As := [.int (1 : Int32)]) (rest := []) (rX9_refuse (N := 0) hf17 (Nat.le_refl _)) rfl (Nat.le_trans (Nat.le_of_ble_eq_true rfl) hN) rfl (Nat.le_of_ble_eq_true rfl) (Or.inl hz) ?_
    exact go_iret hc (oend_i h hE) hr dX9_image_12
def fX9_back (x0 : Int32) (σ : OM) : Option (Int32 × OM) :=
  if x0 < 0 then (
   obi (fX9_refuse (1 : Int32) σ) (fun r1 σ2 =>
   some ((0 : Int32), σ2)))
  else (if (mI σ 0 8) ≤ x0 then (
   obi (fX9_refuse (1 : Int32) σ) (fun r4 σ5 =>
   some ((0 : Int32), σ5)))
  else (if x0 < (3 : Int32) then (
   ogd (decide (okd (mR σ 0 0) = 8)) (
   ogd (oin x0 3) (
   obv (fX7_copyOf ((mR σ 0 0) + 5) (66 + 5 * x0.toNatClampNeg) σ) (fun σ10 =>
   ogd (decide (okd (mR σ10 0 0) = 8)) (
   ogd (decide (okd (mR σ10 0 0) = 8)) (
   obv (fX3_findLiars (mR σ10 0 0) (mI σ10 (mR σ10 0 0) 4) σ10) (fun σ15 =>
   obv (fX0_clear σ15) (fun σ18 =>
   some ((1 : Int32), sI σ18 0 9 (0 : Int32))))))))))
  else (obi (fX9_refuse (1 : Int32) σ) (fun r20 σ21 =>
  some ((0 : Int32), σ21)))))
set_option maxRecDepth 100000 in
set_option maxHeartbeats 4000000 in
theorem rX9_back {N : Nat} {x0 : Int32} {σ : OM} {r0 : Int32} {σ0 : OM} (h : fX9_back x0 σ = some (r0, σ0)) (hN0 : 4 ≤ N) : oEv N MX9_back [.ref 0, .int x0] σ (some (.int r0)) σ0 := by
  refine oEv_of (lv := [.ref 0, .int x0]) (by decide +kernel) (fun g q hq => hq) (fun g => Nat.le_of_ble_eq_true rfl) ?_
  intro K hc ho hL hN1 hr hE hz
  have hN : 4 ≤ kN K := by rw [hN1]; exact hN0
  unfold fX9_back at h
  refine go_iload_n hc dX9_back_0 rfl rfl ?_
  refine go_if_lt (tgt := 17) hc dX9_back_1 rfl (fun hh => ?_) (fun hh => ?_)
  · rw [if_pos hh] at h
    refine go_aload_n hc dX9_back_17 rfl rfl ?_
    refine go_iconst hc dX9_back_18 ci_1 ?_
    obtain ⟨r1, σ2, hf3, h⟩ := obi_some h
    refine go_callVi hc ho cmX9_refuse mlX9_70 dX9_back_19 ok_0 (As := [.int (1 : Int32)]) (rest := []) (rX9_refuse (N := 0) hf3 (Nat.le_refl _)) rfl (Nat.le_trans (Nat.le_of_ble_eq_true rfl) hN) rfl (Nat.le_of_ble_eq_true rfl) (Or.inl hz) ?_
    refine go_pop hc dX9_back_22 rfl ?_
    refine go_iconst hc dX9_back_23 ci_0 ?_
    exact go_zret hc (oend_i h hE) hr rfl dX9_back_24
  · rw [if_neg hh] at h
    refine go_iload_n hc dX9_back_4 rfl rfl ?_
    refine go_aload_n hc dX9_back_5 rfl rfl ?_
    refine go_getI hc ho flX9_94 dX9_back_6 ok_0 ?_
    refine go_icmp_ge (tgt := 17) hc dX9_back_9 rfl (fun hh => ?_) (fun hh => ?_)
    · rw [if_pos hh] at h
      refine go_aload_n hc dX9_back_17 rfl rfl ?_
      refine go_iconst hc dX9_back_18 ci_1 ?_
      obtain ⟨r4, σ5, hf6, h⟩ := obi_some h
      refine go_callVi hc ho cmX9_refuse mlX9_70 dX9_back_19 ok_0 (As := [.int (1 : Int32)]) (rest := []) (rX9_refuse (N := 0) hf6 (Nat.le_refl _)) rfl (Nat.le_trans (Nat.le_of_ble_eq_true rfl) hN) rfl (Nat.le_of_ble_eq_true rfl) (Or.inl hz) ?_
      refine go_pop hc dX9_back_22 rfl ?_
      refine go_iconst hc dX9_back_23 ci_0 ?_
      exact go_zret hc (oend_i h hE) hr rfl dX9_back_24
    · rw [if_neg hh] at h
      refine go_iload_n hc dX9_back_12 rfl rfl ?_
      refine go_iconst hc dX9_back_13 ci_3 ?_
      refine go_icmp_lt (tgt := 25) hc dX9_back_14 rfl (fun hh => ?_) (fun hh => ?_)
      · rw [if_pos hh] at h
        refine go_aload_n hc dX9_back_25 rfl rfl ?_
        obtain ⟨hg7, h⟩ := ogd_some h
        refine go_getR hc ho flX9_10 dX9_back_26 ok_0 ?_
        refine go_getC (b := (mR σ 0 0) + 5) (ow_c0_1 (of_decide_eq_true hg7)) hc ho flX9_170 dX9_back_29 (of_decide_eq_true hg7) ?_
        refine go_aload_n hc dX9_back_32 rfl rfl ?_
        refine go_getC (b := 65) rfl hc ho flX9_58 dX9_back_33 ok_0 ?_
        refine go_iload_n hc dX9_back_36 rfl rfl ?_
        obtain ⟨hg8, h⟩ := ogd_some h
        refine go_ald5 hc dX9_back_37 ok_65 ol_65 hg8 rfl (oi_c (oin_lt hg8)) ?_
        obtain ⟨σ10, hf11, h⟩ := obv_some h
        refine go_callVv hc ho cmX7_copyOf mlX9_318 dX9_back_38 (ow_k5 (of_decide_eq_true hg7)) (As := [.ref (66 + 5 * x0.toNatClampNeg)]) (rest := []) (rX7_copyOf (N := 0) (ow_k5 (of_decide_eq_true hg7)) (oi_k (oin_lt hg8)) hf11 (Nat.le_refl _)) rfl (Nat.le_trans (Nat.le_of_ble_eq_true rfl) hN) rfl (Nat.le_of_ble_eq_true rfl) (Or.inl hz) ?_
        refine go_aload_n hc dX9_back_41 rfl rfl ?_
        obtain ⟨hg12, h⟩ := ogd_some h
        refine go_getR hc ho flX9_10 dX9_back_42 ok_0 ?_
        refine go_getC (b := (mR σ10 0 0) + 10) (ow_c0_2 (of_decide_eq_true hg12)) hc ho flX9_149 dX9_back_45 (of_decide_eq_true hg12) ?_
        refine go_aload_n hc dX9_back_48 rfl rfl ?_
        obtain ⟨hg13, h⟩ := ogd_some h
        refine go_getR hc ho flX9_10 dX9_back_49 ok_0 ?_
        refine go_getI hc ho flX9_100 dX9_back_52 (of_decide_eq_true hg13) ?_
        obtain ⟨σ15, hf16, h⟩ := obv_some h
        refine go_callVv hc ho cmX3_findLiars mlX9_315 dX9_back_55 (ow_k10 (of_decide_eq_true hg12)) (As := [.int (mI σ10 (mR σ10 0 0) 4)]) (rest := []) (rX3_findLiars (N := 3) (of_decide_eq_true hg12) hf16 (Nat.le_refl _)) rfl (Nat.le_trans (Nat.le_of_ble_eq_true rfl) hN) rfl (Nat.le_of_ble_eq_true rfl) (Or.inl hz) ?_
        refine go_aload_n hc dX9_back_58 rfl rfl ?_
        refine go_getC (b := 61) rfl hc ho flX9_51 dX9_back_59 ok_0 ?_
        obtain ⟨σ18, hf19, h⟩ := obv_some h
        refine go_callVv hc ho cmX0_clear mlX9_97 dX9_back_62 ok_61 (As := []) (rest := []) (rX0_clear (N := 0) hf19 (Nat.le_refl _)) rfl (Nat.le_trans (Nat.le_of_ble_eq_true rfl) hN) rfl (Nat.le_of_ble_eq_true rfl) (Or.inl hz) ?_
        refine go_aload_n hc dX9_back_65 rfl rfl ?_
        refine go_iconst hc dX9_back_66 ci_0 ?_
        refine go_putI hc ho fpX9_106 dX9_back_67 ok_0 (fun g => oni g _) (fun _ => rfl) ?_
        refine go_iconst hc dX9_back_70 ci_1 ?_
        exact go_zret hc (oend_i h hE) hr rfl dX9_back_71
      · rw [if_neg hh] at h
        refine go_aload_n hc dX9_back_17 rfl rfl ?_
        refine go_iconst hc dX9_back_18 ci_1 ?_
        obtain ⟨r20, σ21, hf22, h⟩ := obi_some h
        refine go_callVi hc ho cmX9_refuse mlX9_70 dX9_back_19 ok_0 (As := [.int (1 : Int32)]) (rest := []) (rX9_refuse (N := 0) hf22 (Nat.le_refl _)) rfl (Nat.le_trans (Nat.le_of_ble_eq_true rfl) hN) rfl (Nat.le_of_ble_eq_true rfl) (Or.inl hz) ?_
        refine go_pop hc dX9_back_22 rfl ?_
        refine go_iconst hc dX9_back_23 ci_0 ?_
        exact go_zret hc (oend_i h hE) hr rfl dX9_back_24
def fX9_size (x0 : Int32) (σ : OM) : Option (Int32 × OM) :=
  if x0 = 0 then (
   ogd (decide (okd (mR σ 0 0) = 8)) (
   some ((mI σ ((mR σ 0 0) + 1) 0), σ)))
  else if x0 = 1 then (
   ogd (decide (okd (mR σ 0 0) = 8)) (
   some ((mI σ ((mR σ 0 0) + 1) 2), σ)))
  else if x0 = 2 then (
   ogd (decide (okd (mR σ 0 0) = 8)) (
   some ((mI σ (mR σ 0 0) 4), σ)))
  else if x0 = 3 then (
   ogd (decide (okd (mR σ 0 0) = 8)) (
   some ((mI σ (mR σ 0 0) 5), σ)))
  else if x0 = 4 then (
   ogd (decide (okd (mR σ 0 0) = 8)) (
   some ((mI σ ((mR σ 0 0) + 1) 6), σ)))
  else if x0 = 5 then (
   ogd (decide (okd (mR σ 0 0) = 8)) (
   some ((mI σ ((mR σ 0 0) + 5) 0), σ)))
  else if x0 = 6 then (
   ogd (decide (okd (mR σ 0 0) = 8)) (
   some ((mI σ ((mR σ 0 0) + 1) 8), σ)))
  else if x0 = 7 then (
   ogd (decide (okd (mR σ 0 0) = 8)) (
   some ((mI σ ((mR σ 0 0) + 5) 5), σ)))
  else if x0 = 8 then (
   ogd (decide (okd (mR σ 0 0) = 8)) (
   some ((mI σ ((mR σ 0 0) + 5) 6), σ)))
  else if x0 = 9 then (
   ogd (decide (okd (mR σ 0 0) = 8)) (
   if (mI σ ((mR σ 0 0) + 1) 4) = 0 then (
    some ((0 : Int32), σ))
   else (some ((1 : Int32), σ))))
  else if x0 = 10 then (
   some ((mI σ 61 3), σ))
  else if x0 = 11 then (
   some ((mI σ 0 8), σ))
  else if x0 = 12 then (
   some ((mI σ 43 1), σ))
  else (some (((-1) : Int32), σ))
set_option maxRecDepth 100000 in
set_option maxHeartbeats 4000000 in
theorem rX9_size {N : Nat} {x0 : Int32} {σ : OM} {r0 : Int32} {σ0 : OM} (h : fX9_size x0 σ = some (r0, σ0)) (hN0 : 0 ≤ N) : oEv N MX9_size [.ref 0, .int x0] σ (some (.int r0)) σ0 := by
  refine oEv_of (lv := [.ref 0, .int x0]) (by decide +kernel) (fun g q hq => hq) (fun g => Nat.le_of_ble_eq_true rfl) ?_
  intro K hc ho hL hN1 hr hE hz
  have hN : 0 ≤ kN K := by rw [hN1]; exact hN0
  unfold fX9_size at h
  refine go_iload_n hc dX9_size_0 rfl rfl ?_
  by_cases e0 : x0 = 0
  · rw [if_pos e0] at h
    refine go_tabIn (tgt := 68) (off := 67) hc dX9_size_1 (by rw [e0]; decide) (by rw [e0]; decide) (by rw [e0]; decide +kernel) rfl ?_
    refine go_aload_n hc dX9_size_68 rfl rfl ?_
    obtain ⟨hg1, h⟩ := ogd_some h
    refine go_getR hc ho flX9_10 dX9_size_69 ok_0 ?_
    refine go_getC (b := (mR σ 0 0) + 1) (ow_c0_0 (of_decide_eq_true hg1)) hc ho flX9_37 dX9_size_72 (of_decide_eq_true hg1) ?_
    refine go_getI hc ho flX9_184 dX9_size_75 (ow_k1 (of_decide_eq_true hg1)) ?_
    exact go_iret hc (oend_i h hE) hr dX9_size_78
  rw [if_neg e0] at h
  by_cases e1 : x0 = 1
  · rw [if_pos e1] at h
    refine go_tabIn (tgt := 79) (off := 78) hc dX9_size_1 (by rw [e1]; decide) (by rw [e1]; decide) (by rw [e1]; decide +kernel) rfl ?_
    refine go_aload_n hc dX9_size_79 rfl rfl ?_
    obtain ⟨hg2, h⟩ := ogd_some h
    refine go_getR hc ho flX9_10 dX9_size_80 ok_0 ?_
    refine go_getC (b := (mR σ 0 0) + 1) (ow_c0_0 (of_decide_eq_true hg2)) hc ho flX9_37 dX9_size_83 (of_decide_eq_true hg2) ?_
    refine go_getI hc ho flX9_329 dX9_size_86 (ow_k1 (of_decide_eq_true hg2)) ?_
    exact go_iret hc (oend_i h hE) hr dX9_size_89
  rw [if_neg e1] at h
  by_cases e2 : x0 = 2
  · rw [if_pos e2] at h
    refine go_tabIn (tgt := 90) (off := 89) hc dX9_size_1 (by rw [e2]; decide) (by rw [e2]; decide) (by rw [e2]; decide +kernel) rfl ?_
    refine go_aload_n hc dX9_size_90 rfl rfl ?_
    obtain ⟨hg3, h⟩ := ogd_some h
    refine go_getR hc ho flX9_10 dX9_size_91 ok_0 ?_
    refine go_getI hc ho flX9_100 dX9_size_94 (of_decide_eq_true hg3) ?_
    exact go_iret hc (oend_i h hE) hr dX9_size_97
  rw [if_neg e2] at h
  by_cases e3 : x0 = 3
  · rw [if_pos e3] at h
    refine go_tabIn (tgt := 98) (off := 97) hc dX9_size_1 (by rw [e3]; decide) (by rw [e3]; decide) (by rw [e3]; decide +kernel) rfl ?_
    refine go_aload_n hc dX9_size_98 rfl rfl ?_
    obtain ⟨hg4, h⟩ := ogd_some h
    refine go_getR hc ho flX9_10 dX9_size_99 ok_0 ?_
    refine go_getI hc ho flX9_332 dX9_size_102 (of_decide_eq_true hg4) ?_
    exact go_iret hc (oend_i h hE) hr dX9_size_105
  rw [if_neg e3] at h
  by_cases e4 : x0 = 4
  · rw [if_pos e4] at h
    refine go_tabIn (tgt := 106) (off := 105) hc dX9_size_1 (by rw [e4]; decide) (by rw [e4]; decide) (by rw [e4]; decide +kernel) rfl ?_
    refine go_aload_n hc dX9_size_106 rfl rfl ?_
    obtain ⟨hg5, h⟩ := ogd_some h
    refine go_getR hc ho flX9_10 dX9_size_107 ok_0 ?_
    refine go_getC (b := (mR σ 0 0) + 1) (ow_c0_0 (of_decide_eq_true hg5)) hc ho flX9_37 dX9_size_110 (of_decide_eq_true hg5) ?_
    refine go_getI hc ho flX9_144 dX9_size_113 (ow_k1 (of_decide_eq_true hg5)) ?_
    exact go_iret hc (oend_i h hE) hr dX9_size_116
  rw [if_neg e4] at h
  by_cases e5 : x0 = 5
  · rw [if_pos e5] at h
    refine go_tabIn (tgt := 117) (off := 116) hc dX9_size_1 (by rw [e5]; decide) (by rw [e5]; decide) (by rw [e5]; decide +kernel) rfl ?_
    refine go_aload_n hc dX9_size_117 rfl rfl ?_
    obtain ⟨hg6, h⟩ := ogd_some h
    refine go_getR hc ho flX9_10 dX9_size_118 ok_0 ?_
    refine go_getC (b := (mR σ 0 0) + 5) (ow_c0_1 (of_decide_eq_true hg6)) hc ho flX9_170 dX9_size_121 (of_decide_eq_true hg6) ?_
    refine go_getI hc ho flX9_231 dX9_size_124 (ow_k5 (of_decide_eq_true hg6)) ?_
    exact go_iret hc (oend_i h hE) hr dX9_size_127
  rw [if_neg e5] at h
  by_cases e6 : x0 = 6
  · rw [if_pos e6] at h
    refine go_tabIn (tgt := 128) (off := 127) hc dX9_size_1 (by rw [e6]; decide) (by rw [e6]; decide) (by rw [e6]; decide +kernel) rfl ?_
    refine go_aload_n hc dX9_size_128 rfl rfl ?_
    obtain ⟨hg7, h⟩ := ogd_some h
    refine go_getR hc ho flX9_10 dX9_size_129 ok_0 ?_
    refine go_getC (b := (mR σ 0 0) + 1) (ow_c0_0 (of_decide_eq_true hg7)) hc ho flX9_37 dX9_size_132 (of_decide_eq_true hg7) ?_
    refine go_getI hc ho flX9_335 dX9_size_135 (ow_k1 (of_decide_eq_true hg7)) ?_
    exact go_iret hc (oend_i h hE) hr dX9_size_138
  rw [if_neg e6] at h
  by_cases e7 : x0 = 7
  · rw [if_pos e7] at h
    refine go_tabIn (tgt := 139) (off := 138) hc dX9_size_1 (by rw [e7]; decide) (by rw [e7]; decide) (by rw [e7]; decide +kernel) rfl ?_
    refine go_aload_n hc dX9_size_139 rfl rfl ?_
    obtain ⟨hg8, h⟩ := ogd_some h
    refine go_getR hc ho flX9_10 dX9_size_140 ok_0 ?_
    refine go_getC (b := (mR σ 0 0) + 5) (ow_c0_1 (of_decide_eq_true hg8)) hc ho flX9_170 dX9_size_143 (of_decide_eq_true hg8) ?_
    refine go_getI hc ho flX9_338 dX9_size_146 (ow_k5 (of_decide_eq_true hg8)) ?_
    exact go_iret hc (oend_i h hE) hr dX9_size_149
  rw [if_neg e7] at h
  by_cases e8 : x0 = 8
  · rw [if_pos e8] at h
    refine go_tabIn (tgt := 150) (off := 149) hc dX9_size_1 (by rw [e8]; decide) (by rw [e8]; decide) (by rw [e8]; decide +kernel) rfl ?_
    refine go_aload_n hc dX9_size_150 rfl rfl ?_
    obtain ⟨hg9, h⟩ := ogd_some h
    refine go_getR hc ho flX9_10 dX9_size_151 ok_0 ?_
    refine go_getC (b := (mR σ 0 0) + 5) (ow_c0_1 (of_decide_eq_true hg9)) hc ho flX9_170 dX9_size_154 (of_decide_eq_true hg9) ?_
    refine go_getI hc ho flX9_279 dX9_size_157 (ow_k5 (of_decide_eq_true hg9)) ?_
    exact go_iret hc (oend_i h hE) hr dX9_size_160
  rw [if_neg e8] at h
  by_cases e9 : x0 = 9
  · rw [if_pos e9] at h
    refine go_tabIn (tgt := 161) (off := 160) hc dX9_size_1 (by rw [e9]; decide) (by rw [e9]; decide) (by rw [e9]; decide +kernel) rfl ?_
    refine go_aload_n hc dX9_size_161 rfl rfl ?_
    obtain ⟨hg10, h⟩ := ogd_some h
    refine go_getR hc ho flX9_10 dX9_size_162 ok_0 ?_
    refine go_getC (b := (mR σ 0 0) + 1) (ow_c0_0 (of_decide_eq_true hg10)) hc ho flX9_37 dX9_size_165 (of_decide_eq_true hg10) ?_
    refine go_getI hc ho flX9_341 dX9_size_168 (ow_k1 (of_decide_eq_true hg10)) ?_
    refine go_if_eq (tgt := 178) hc dX9_size_171 rfl (fun hh => ?_) (fun hh => ?_)
    · rw [if_pos hh] at h
      refine go_iconst hc dX9_size_178 ci_0 ?_
      exact go_iret hc (oend_i h hE) hr dX9_size_179
    · rw [if_neg hh] at h
      refine go_iconst hc dX9_size_174 ci_1 ?_
      refine go_goto (tgt := 179) hc dX9_size_175 rfl ?_
      exact go_iret hc (oend_i h hE) hr dX9_size_179
  rw [if_neg e9] at h
  by_cases e10 : x0 = 10
  · rw [if_pos e10] at h
    refine go_tabIn (tgt := 180) (off := 179) hc dX9_size_1 (by rw [e10]; decide) (by rw [e10]; decide) (by rw [e10]; decide +kernel) rfl ?_
    refine go_aload_n hc dX9_size_180 rfl rfl ?_
    refine go_getC (b := 61) rfl hc ho flX9_51 dX9_size_181 ok_0 ?_
    refine go_getI hc ho flX9_344 dX9_size_184 ok_61 ?_
    exact go_iret hc (oend_i h hE) hr dX9_size_187
  rw [if_neg e10] at h
  by_cases e11 : x0 = 11
  · rw [if_pos e11] at h
    refine go_tabIn (tgt := 188) (off := 187) hc dX9_size_1 (by rw [e11]; decide) (by rw [e11]; decide) (by rw [e11]; decide +kernel) rfl ?_
    refine go_aload_n hc dX9_size_188 rfl rfl ?_
    refine go_getI hc ho flX9_94 dX9_size_189 ok_0 ?_
    exact go_iret hc (oend_i h hE) hr dX9_size_192
  rw [if_neg e11] at h
  by_cases e12 : x0 = 12
  · rw [if_pos e12] at h
    refine go_tabIn (tgt := 193) (off := 192) hc dX9_size_1 (by rw [e12]; decide) (by rw [e12]; decide) (by rw [e12]; decide +kernel) rfl ?_
    refine go_aload_n hc dX9_size_193 rfl rfl ?_
    refine go_getC (b := 43) rfl hc ho flX9_22 dX9_size_194 ok_0 ?_
    refine go_getI hc ho flX9_62 dX9_size_197 ok_43 ?_
    exact go_iret hc (oend_i h hE) hr dX9_size_200
  rw [if_neg e12] at h
  refine go_tabOut (tgt := 201) hc dX9_size_1 ((otab 13 (by decide) (fun k hk => by rcases (show k = 0 ∨ k = 1 ∨ k = 2 ∨ k = 3 ∨ k = 4 ∨ k = 5 ∨ k = 6 ∨ k = 7 ∨ k = 8 ∨ k = 9 ∨ k = 10 ∨ k = 11 ∨ k = 12 by omega) with rfl | rfl | rfl | rfl | rfl | rfl | rfl | rfl | rfl | rfl | rfl | rfl | rfl <;> first | exact e0 | exact e1 | exact e2 | exact e3 | exact e4 | exact e5 | exact e6 | exact e7 | exact e8 | exact e9 | exact e10 | exact e11 | exact e12)).imp id (fun q => by omega)) rfl ?_
  refine go_iconst hc dX9_size_201 ci_m1 ?_
  exact go_iret hc (oend_i h hE) hr dX9_size_202
def fX9_trouble (σ : OM) : Option (Int32 × OM) :=
  some ((mI σ 0 9), σ)
set_option maxRecDepth 100000 in
set_option maxHeartbeats 4000000 in
theorem rX9_trouble {N : Nat} {σ : OM} {r0 : Int32} {σ0 : OM} (h : fX9_trouble σ = some (r0, σ0)) (hN0 : 0 ≤ N) : oEv N MX9_trouble [.ref 0] σ (some (.int r0)) σ0 := by
  refine oEv_of (lv := [.ref 0]) (by decide +kernel) (fun g q hq => hq) (fun g => Nat.le_of_ble_eq_true rfl) ?_
  intro K hc ho hL hN1 hr hE hz
  have hN : 0 ≤ kN K := by rw [hN1]; exact hN0
  unfold fX9_trouble at h
  refine go_aload_n hc dX9_trouble_0 rfl rfl ?_
  refine go_getI hc ho flX9_106 dX9_trouble_1 ok_0 ?_
  exact go_iret hc (oend_i h hE) hr dX9_trouble_4
def fX10_thrown (σ : OM) : Option (Int32 × OM) :=
  some ((mI σ 81 0), σ)
set_option maxRecDepth 100000 in
set_option maxHeartbeats 4000000 in
theorem rX10_thrown {N : Nat} {σ : OM} {r0 : Int32} {σ0 : OM} (h : fX10_thrown σ = some (r0, σ0)) (hN0 : 0 ≤ N) : oEv N MX10_thrown [.ref 81] σ (some (.int r0)) σ0 := by
  refine oEv_of (lv := [.ref 81]) (by decide +kernel) (fun g q hq => hq) (fun g => Nat.le_of_ble_eq_true rfl) ?_
  intro K hc ho hL hN1 hr hE hz
  have hN : 0 ≤ kN K := by rw [hN1]; exact hN0
  unfold fX10_thrown at h
  refine go_aload_n hc dX10_thrown_0 rfl rfl ?_
  refine go_getI hc ho flX10_51 dX10_thrown_1 ok_81 ?_
  exact go_iret hc (oend_i h hE) hr dX10_thrown_4
def fX10_feed_b76 (rc23 : Int32 → Int32 → Int32 → Int32 → Int32 → Int32 → OM → Option (Int32 × OM)) (l1 : Int32) (l2 : Int32) (l3 : Int32) (l4 : Int32) (l5 : Int32) (l6 : Int32) (k0 : Int32) (σ : OM) : Option (Int32 × OM) :=
  ogd (oin (mI σ 81 2) 900) (
  rc23 l1 l2 l3 l4 l5 (l6 + 1) (sI (sI σ 82 ((mI σ 81 2).toNatClampNeg) ((k0 >>> (((24 : Int32) - ((8 : Int32) * (l6 - l6 / (4 : Int32) * (4 : Int32)))) &&& 31)) &&& (255 : Int32))) 81 2 ((mI (sI σ 82 ((mI σ 81 2).toNatClampNeg) ((k0 >>> (((24 : Int32) - ((8 : Int32) * (l6 - l6 / (4 : Int32) * (4 : Int32)))) &&& 31)) &&& (255 : Int32))) 81 2) + (1 : Int32))))
set_option maxRecDepth 100000 in
set_option maxHeartbeats 4000000 in
theorem rX10_feed_b76 {K : OK} (hc : kcc K = cX10_feed) (ho : kow K = RX10) (hL : knL K = 8) (hN : 0 ≤ kN K) (hr : (kme K).sig.returnType = (some .int)) {r0 : Int32} {σ0 : OM} (hE : oEnd K (some (.int r0)) σ0) (hz : kz K = 0) {rc23 : Int32 → Int32 → Int32 → Int32 → Int32 → Int32 → OM → Option (Int32 × OM)} (hrc23 : ∀ (l1 : Int32) (l2 : Int32) (l3 : Int32) (l4 : Int32) (l5 : Int32) (l6 : Int32) (σ : OM), rc23 l1 l2 l3 l4 l5 l6 σ = some (r0, σ0) → Go K 23 [.ref 81, .int l1, .int l2, .int l3, .int l4, .int l5, .int l6, .null] [] σ) {l1 : Int32} {l2 : Int32} {l3 : Int32} {l4 : Int32} {l5 : Int32} {l6 : Int32} {k0 : Int32} {σ : OM} (h : fX10_feed_b76 rc23 l1 l2 l3 l4 l5 l6 k0 σ = some (r0, σ0)) : Go K 76 [.ref 81, .int l1, .int l2, .int l3, .int l4, .int l5, .int l6, .null] [.int k0] σ := by
  unfold fX10_feed_b76 at h
  refine go_istore hc (lv1 := [.ref 81, .int l1, .int l2, .int l3, .int l4, .int l5, .int l6, .int k0]) dX10_feed_76 hL (by decide) (fun _ _ e => by cases e; rfl) rfl ?_
  refine go_aload_n hc dX10_feed_78 rfl rfl ?_
  refine go_getC (b := 82) rfl hc ho flX10_7 dX10_feed_79 ok_81 ?_
  refine go_aload_n hc dX10_feed_82 rfl rfl ?_
  refine go_getI hc ho flX10_57 dX10_feed_83 ok_81 ?_
  refine go_iload hc dX10_feed_86 rfl ?_
  refine go_bipush hc dX10_feed_88 cb_24 ?_
  refine go_bipush hc dX10_feed_90 cb_8 ?_
  refine go_iload hc dX10_feed_92 rfl ?_
  refine go_iconst hc dX10_feed_94 ci_4 ?_
  refine go_irem hc dX10_feed_95 (by decide) ?_
  refine go_imul hc dX10_feed_96 ?_
  refine go_isub hc dX10_feed_97 ?_
  refine go_ishr hc dX10_feed_98 ?_
  refine go_sipush hc dX10_feed_99 cs_255 ?_
  refine go_iand hc dX10_feed_102 ?_
  obtain ⟨hg1, h⟩ := ogd_some h
  refine go_iast hc dX10_feed_103 ok_82 ol_82 hg1 rfl ?_
  refine go_aload_n hc dX10_feed_104 rfl rfl ?_
  refine go_dup hc dX10_feed_105 rfl ?_
  refine go_getI hc ho flX10_57 dX10_feed_106 ok_81 ?_
  refine go_iconst hc dX10_feed_109 ci_1 ?_
  refine go_iadd hc dX10_feed_110 ?_
  refine go_putI hc ho fpX10_57 dX10_feed_111 ok_81 (fun g => oni g _) (fun _ => rfl) ?_
  refine go_iinc hc (lv1 := [.ref 81, .int l1, .int l2, .int l3, .int l4, .int l5, .int (l6 + 1), .int k0]) dX10_feed_114 rfl ci_1 hL (by decide) (fun _ _ e => by cases e; rfl) rfl ?_
  refine go_goto (tgt := 23) hc dX10_feed_117 rfl ?_
  refine go_mask [true, true, true, true, true, true, true, false] (lv1 := [.ref 81, .int l1, .int l2, .int l3, .int l4, .int l5, .int (l6 + 1), .null]) rfl ?_
  exact hrc23 l1 l2 l3 l4 l5 (l6 + 1) _ h
def fX10_feed_b23 : Nat → Int32 → Int32 → Int32 → Int32 → Int32 → Int32 → OM → Option (Int32 × OM)
  | 0, _, _, _, _, _, _, _ => none
  | n + 1, l1, l2, l3, l4, l5, l6, σ =>
    if (20 : Int32) ≤ l6 then (
     some ((mI σ 81 2), σ))
    else (if (4 : Int32) ≤ l6 then (
     if (8 : Int32) ≤ l6 then (
      if (12 : Int32) ≤ l6 then (
       if (16 : Int32) ≤ l6 then (
        fX10_feed_b76 (fX10_feed_b23 n) l1 l2 l3 l4 l5 l6 l5 σ)
       else (fX10_feed_b76 (fX10_feed_b23 n) l1 l2 l3 l4 l5 l6 l4 σ))
      else (fX10_feed_b76 (fX10_feed_b23 n) l1 l2 l3 l4 l5 l6 l3 σ))
     else (fX10_feed_b76 (fX10_feed_b23 n) l1 l2 l3 l4 l5 l6 l2 σ))
    else (fX10_feed_b76 (fX10_feed_b23 n) l1 l2 l3 l4 l5 l6 l1 σ))
set_option maxRecDepth 100000 in
set_option maxHeartbeats 4000000 in
theorem rX10_feed_b23 {K : OK} (hc : kcc K = cX10_feed) (ho : kow K = RX10) (hL : knL K = 8) (hN : 0 ≤ kN K) (hr : (kme K).sig.returnType = (some .int)) {r0 : Int32} {σ0 : OM} (hE : oEnd K (some (.int r0)) σ0) (hz : kz K = 0) : ∀ (n : Nat) (l1 : Int32) (l2 : Int32) (l3 : Int32) (l4 : Int32) (l5 : Int32) (l6 : Int32) (σ : OM), fX10_feed_b23 n l1 l2 l3 l4 l5 l6 σ = some (r0, σ0) → Go K 23 [.ref 81, .int l1, .int l2, .int l3, .int l4, .int l5, .int l6, .null] [] σ := by
  intro n
  induction n with
  | zero =>
    intro l1 l2 l3 l4 l5 l6 σ h
    cases h
  | succ n ih =>
    intro l1 l2 l3 l4 l5 l6 σ h
    rw [fX10_feed_b23] at h
    refine go_iload hc dX10_feed_23 rfl ?_
    refine go_bipush hc dX10_feed_25 cb_20 ?_
    refine go_icmp_ge (tgt := 120) hc dX10_feed_27 rfl (fun hh => ?_) (fun hh => ?_)
    · rw [if_pos hh] at h
      refine go_aload_n hc dX10_feed_120 rfl rfl ?_
      refine go_getI hc ho flX10_57 dX10_feed_121 ok_81 ?_
      exact go_iret hc (oend_i h hE) hr dX10_feed_124
    · rw [if_neg hh] at h
      refine go_iload hc dX10_feed_30 rfl ?_
      refine go_iconst hc dX10_feed_32 ci_4 ?_
      refine go_icmp_ge (tgt := 40) hc dX10_feed_33 rfl (fun hh => ?_) (fun hh => ?_)
      · rw [if_pos hh] at h
        refine go_iload hc dX10_feed_40 rfl ?_
        refine go_bipush hc dX10_feed_42 cb_8 ?_
        refine go_icmp_ge (tgt := 51) hc dX10_feed_44 rfl (fun hh => ?_) (fun hh => ?_)
        · rw [if_pos hh] at h
          refine go_iload hc dX10_feed_51 rfl ?_
          refine go_bipush hc dX10_feed_53 cb_12 ?_
          refine go_icmp_ge (tgt := 62) hc dX10_feed_55 rfl (fun hh => ?_) (fun hh => ?_)
          · rw [if_pos hh] at h
            refine go_iload hc dX10_feed_62 rfl ?_
            refine go_bipush hc dX10_feed_64 cb_16 ?_
            refine go_icmp_ge (tgt := 74) hc dX10_feed_66 rfl (fun hh => ?_) (fun hh => ?_)
            · rw [if_pos hh] at h
              refine go_iload hc dX10_feed_74 rfl ?_
              exact rX10_feed_b76 hc ho hL hN hr hE hz ih h
            · rw [if_neg hh] at h
              refine go_iload hc dX10_feed_69 rfl ?_
              refine go_goto (tgt := 76) hc dX10_feed_71 rfl ?_
              exact rX10_feed_b76 hc ho hL hN hr hE hz ih h
          · rw [if_neg hh] at h
            refine go_iload_n hc dX10_feed_58 rfl rfl ?_
            refine go_goto (tgt := 76) hc dX10_feed_59 rfl ?_
            exact rX10_feed_b76 hc ho hL hN hr hE hz ih h
        · rw [if_neg hh] at h
          refine go_iload_n hc dX10_feed_47 rfl rfl ?_
          refine go_goto (tgt := 76) hc dX10_feed_48 rfl ?_
          exact rX10_feed_b76 hc ho hL hN hr hE hz ih h
      · rw [if_neg hh] at h
        refine go_iload_n hc dX10_feed_36 rfl rfl ?_
        refine go_goto (tgt := 76) hc dX10_feed_37 rfl ?_
        exact rX10_feed_b76 hc ho hL hN hr hE hz ih h
def fX10_feed (x0 : Int32) (x1 : Int32) (x2 : Int32) (x3 : Int32) (x4 : Int32) (σ : OM) : Option (Int32 × OM) :=
  if ((mI (sI σ 81 0 (0 : Int32)) 81 2) + (20 : Int32)) ≤ (900 : Int32) then (
   fX10_feed_b23 oF x0 x1 x2 x3 x4 (0 : Int32) (sI σ 81 0 (0 : Int32)))
  else (some (((-1) : Int32), sI σ 81 0 (0 : Int32)))
set_option maxRecDepth 100000 in
set_option maxHeartbeats 4000000 in
theorem rX10_feed {N : Nat} {x0 : Int32} {x1 : Int32} {x2 : Int32} {x3 : Int32} {x4 : Int32} {σ : OM} {r0 : Int32} {σ0 : OM} (h : fX10_feed x0 x1 x2 x3 x4 σ = some (r0, σ0)) (hN0 : 0 ≤ N) : oEv N MX10_feed [.ref 81, .int x0, .int x1, .int x2, .int x3, .int x4] σ (some (.int r0)) σ0 := by
  refine oEv_of (lv := [.ref 81, .int x0, .int x1, .int x2, .int x3, .int x4, .null, .null]) (by decide +kernel) (fun g q hq => hq) (fun g => Nat.le_of_ble_eq_true rfl) ?_
  intro K hc ho hL hN1 hr hE hz
  have hN : 0 ≤ kN K := by rw [hN1]; exact hN0
  unfold fX10_feed at h
  refine go_aload_n hc dX10_feed_0 rfl rfl ?_
  refine go_iconst hc dX10_feed_1 ci_0 ?_
  refine go_putI hc ho fpX10_51 dX10_feed_2 ok_81 (fun g => oni g _) (fun _ => rfl) ?_
  refine go_aload_n hc dX10_feed_5 rfl rfl ?_
  refine go_getI hc ho flX10_57 dX10_feed_6 ok_81 ?_
  refine go_bipush hc dX10_feed_9 cb_20 ?_
  refine go_iadd hc dX10_feed_11 ?_
  refine go_sipush hc dX10_feed_12 cs_900 ?_
  refine go_icmp_le (tgt := 20) hc dX10_feed_15 rfl (fun hh => ?_) (fun hh => ?_)
  · rw [if_pos hh] at h
    refine go_iconst hc dX10_feed_20 ci_0 ?_
    refine go_istore hc (lv1 := [.ref 81, .int x0, .int x1, .int x2, .int x3, .int x4, .int (0 : Int32), .null]) dX10_feed_21 hL (by decide) (fun _ _ e => by cases e; rfl) rfl ?_
    exact rX10_feed_b23 hc ho hL hN hr hE hz oF x0 x1 x2 x3 x4 (0 : Int32) _ h
  · rw [if_neg hh] at h
    refine go_iconst hc dX10_feed_18 ci_m1 ?_
    exact go_iret hc (oend_i h hE) hr dX10_feed_19
def fX10_good (σ : OM) : Option OM :=
  some (sI (sI σ 81 0 (0 : Int32)) 81 11 (0 : Int32))
set_option maxRecDepth 100000 in
set_option maxHeartbeats 4000000 in
theorem rX10_good {N : Nat} {σ : OM} {σ0 : OM} (h : fX10_good σ = some σ0) (hN0 : 0 ≤ N) : oEv N MX10_good [.ref 81] σ (none) σ0 := by
  refine oEv_of (lv := [.ref 81]) (by decide +kernel) (fun g q hq => hq) (fun g => Nat.le_of_ble_eq_true rfl) ?_
  intro K hc ho hL hN1 hr hE hz
  have hN : 0 ≤ kN K := by rw [hN1]; exact hN0
  unfold fX10_good at h
  refine go_aload_n hc dX10_good_0 rfl rfl ?_
  refine go_iconst hc dX10_good_1 ci_0 ?_
  refine go_putI hc ho fpX10_51 dX10_good_2 ok_81 (fun g => oni g _) (fun _ => rfl) ?_
  refine go_aload_n hc dX10_good_5 rfl rfl ?_
  refine go_iconst hc dX10_good_6 ci_0 ?_
  refine go_putI hc ho fpX10_54 dX10_good_7 ok_81 (fun g => oni g _) (fun _ => rfl) ?_
  exact go_vret hc (oend_v h hE) hr dX10_good_10
def fX10_in (x0 : Int32) (x1 : Int32) (x2 : Int32) (σ : OM) : Option (Int32 × OM) :=
  if x0 < x1 then (
   some ((0 : Int32), σ))
  else (if x2 < x0 then (
   some ((0 : Int32), σ))
  else (some ((1 : Int32), σ)))
set_option maxRecDepth 100000 in
set_option maxHeartbeats 4000000 in
theorem rX10_in {N : Nat} {x0 : Int32} {x1 : Int32} {x2 : Int32} {σ : OM} {r0 : Int32} {σ0 : OM} (h : fX10_in x0 x1 x2 σ = some (r0, σ0)) (hN0 : 0 ≤ N) : oEv N MX10_in [.int x0, .int x1, .int x2] σ (some (.int r0)) σ0 := by
  refine oEv_of (lv := [.int x0, .int x1, .int x2]) (by decide +kernel) (fun g q hq => hq) (fun g => Nat.le_of_ble_eq_true rfl) ?_
  intro K hc ho hL hN1 hr hE hz
  have hN : 0 ≤ kN K := by rw [hN1]; exact hN0
  unfold fX10_in at h
  refine go_iload_n hc dX10_in_0 rfl rfl ?_
  refine go_iload_n hc dX10_in_1 rfl rfl ?_
  refine go_icmp_lt (tgt := 14) hc dX10_in_2 rfl (fun hh => ?_) (fun hh => ?_)
  · rw [if_pos hh] at h
    refine go_iconst hc dX10_in_14 ci_0 ?_
    exact go_zret hc (oend_i h hE) hr rfl dX10_in_15
  · rw [if_neg hh] at h
    refine go_iload_n hc dX10_in_5 rfl rfl ?_
    refine go_iload_n hc dX10_in_6 rfl rfl ?_
    refine go_icmp_gt (tgt := 14) hc dX10_in_7 rfl (fun hh => ?_) (fun hh => ?_)
    · rw [if_pos hh] at h
      refine go_iconst hc dX10_in_14 ci_0 ?_
      exact go_zret hc (oend_i h hE) hr rfl dX10_in_15
    · rw [if_neg hh] at h
      refine go_iconst hc dX10_in_10 ci_1 ?_
      refine go_goto (tgt := 15) hc dX10_in_11 rfl ?_
      exact go_zret hc (oend_i h hE) hr rfl dX10_in_15
def fX10_no (x0 : Int32) (σ : OM) : Option (Int32 × OM) :=
  some (((-1) : Int32), sI σ 81 11 x0)
set_option maxRecDepth 100000 in
set_option maxHeartbeats 4000000 in
theorem rX10_no {N : Nat} {x0 : Int32} {σ : OM} {r0 : Int32} {σ0 : OM} (h : fX10_no x0 σ = some (r0, σ0)) (hN0 : 0 ≤ N) : oEv N MX10_no [.ref 81, .int x0] σ (some (.int r0)) σ0 := by
  refine oEv_of (lv := [.ref 81, .int x0]) (by decide +kernel) (fun g q hq => hq) (fun g => Nat.le_of_ble_eq_true rfl) ?_
  intro K hc ho hL hN1 hr hE hz
  have hN : 0 ≤ kN K := by rw [hN1]; exact hN0
  unfold fX10_no at h
  refine go_aload_n hc dX10_no_0 rfl rfl ?_
  refine go_iload_n hc dX10_no_1 rfl rfl ?_
  refine go_putI hc ho fpX10_54 dX10_no_2 ok_81 (fun g => oni g _) (fun _ => rfl) ?_
  refine go_iconst hc dX10_no_5 ci_m1 ?_
  exact go_iret hc (oend_i h hE) hr dX10_no_6
def fX10_look (x0 : Int32) (σ : OM) : Option (Int32 × OM) :=
  if (mI σ 81 3) ≤ x0 then (
   some (((-1) : Int32), σ))
  else (ogd (oin x0 900) (
  some ((mI σ 82 x0.toNatClampNeg), σ)))
set_option maxRecDepth 100000 in
set_option maxHeartbeats 4000000 in
theorem rX10_look {N : Nat} {x0 : Int32} {σ : OM} {r0 : Int32} {σ0 : OM} (h : fX10_look x0 σ = some (r0, σ0)) (hN0 : 0 ≤ N) : oEv N MX10_look [.ref 81, .int x0] σ (some (.int r0)) σ0 := by
  refine oEv_of (lv := [.ref 81, .int x0]) (by decide +kernel) (fun g q hq => hq) (fun g => Nat.le_of_ble_eq_true rfl) ?_
  intro K hc ho hL hN1 hr hE hz
  have hN : 0 ≤ kN K := by rw [hN1]; exact hN0
  unfold fX10_look at h
  refine go_iload_n hc dX10_look_0 rfl rfl ?_
  refine go_aload_n hc dX10_look_1 rfl rfl ?_
  refine go_getI hc ho flX10_60 dX10_look_2 ok_81 ?_
  refine go_icmp_ge (tgt := 17) hc dX10_look_5 rfl (fun hh => ?_) (fun hh => ?_)
  · rw [if_pos hh] at h
    refine go_iconst hc dX10_look_17 ci_m1 ?_
    exact go_iret hc (oend_i h hE) hr dX10_look_18
  · rw [if_neg hh] at h
    refine go_aload_n hc dX10_look_8 rfl rfl ?_
    refine go_getC (b := 82) rfl hc ho flX10_7 dX10_look_9 ok_81 ?_
    refine go_iload_n hc dX10_look_12 rfl rfl ?_
    obtain ⟨hg1, h⟩ := ogd_some h
    refine go_iald hc dX10_look_13 ok_82 ol_82 hg1 rfl ?_
    refine go_goto (tgt := 18) hc dX10_look_14 rfl ?_
    exact go_iret hc (oend_i h hE) hr dX10_look_18
def fX10_isSmall (x0 : Int32) (σ : OM) : Option (Int32 × OM) :=
  if x0 < (97 : Int32) then (
   some ((0 : Int32), σ))
  else (if (122 : Int32) < x0 then (
   some ((0 : Int32), σ))
  else (some ((1 : Int32), σ)))
set_option maxRecDepth 100000 in
set_option maxHeartbeats 4000000 in
theorem rX10_isSmall {N : Nat} {x0 : Int32} {σ : OM} {r0 : Int32} {σ0 : OM} (h : fX10_isSmall x0 σ = some (r0, σ0)) (hN0 : 0 ≤ N) : oEv N MX10_isSmall [.int x0] σ (some (.int r0)) σ0 := by
  refine oEv_of (lv := [.int x0]) (by decide +kernel) (fun g q hq => hq) (fun g => Nat.le_of_ble_eq_true rfl) ?_
  intro K hc ho hL hN1 hr hE hz
  have hN : 0 ≤ kN K := by rw [hN1]; exact hN0
  unfold fX10_isSmall at h
  refine go_iload_n hc dX10_isSmall_0 rfl rfl ?_
  refine go_bipush hc dX10_isSmall_1 cb_97 ?_
  refine go_icmp_lt (tgt := 16) hc dX10_isSmall_3 rfl (fun hh => ?_) (fun hh => ?_)
  · rw [if_pos hh] at h
    refine go_iconst hc dX10_isSmall_16 ci_0 ?_
    exact go_zret hc (oend_i h hE) hr rfl dX10_isSmall_17
  · rw [if_neg hh] at h
    refine go_iload_n hc dX10_isSmall_6 rfl rfl ?_
    refine go_bipush hc dX10_isSmall_7 cb_122 ?_
    refine go_icmp_gt (tgt := 16) hc dX10_isSmall_9 rfl (fun hh => ?_) (fun hh => ?_)
    · rw [if_pos hh] at h
      refine go_iconst hc dX10_isSmall_16 ci_0 ?_
      exact go_zret hc (oend_i h hE) hr rfl dX10_isSmall_17
    · rw [if_neg hh] at h
      refine go_iconst hc dX10_isSmall_12 ci_1 ?_
      refine go_goto (tgt := 17) hc dX10_isSmall_13 rfl ?_
      exact go_zret hc (oend_i h hE) hr rfl dX10_isSmall_17
def fX10_isDigit (x0 : Int32) (σ : OM) : Option (Int32 × OM) :=
  if x0 < (48 : Int32) then (
   some ((0 : Int32), σ))
  else (if (57 : Int32) < x0 then (
   some ((0 : Int32), σ))
  else (some ((1 : Int32), σ)))
set_option maxRecDepth 100000 in
set_option maxHeartbeats 4000000 in
theorem rX10_isDigit {N : Nat} {x0 : Int32} {σ : OM} {r0 : Int32} {σ0 : OM} (h : fX10_isDigit x0 σ = some (r0, σ0)) (hN0 : 0 ≤ N) : oEv N MX10_isDigit [.int x0] σ (some (.int r0)) σ0 := by
  refine oEv_of (lv := [.int x0]) (by decide +kernel) (fun g q hq => hq) (fun g => Nat.le_of_ble_eq_true rfl) ?_
  intro K hc ho hL hN1 hr hE hz
  have hN : 0 ≤ kN K := by rw [hN1]; exact hN0
  unfold fX10_isDigit at h
  refine go_iload_n hc dX10_isDigit_0 rfl rfl ?_
  refine go_bipush hc dX10_isDigit_1 cb_48 ?_
  refine go_icmp_lt (tgt := 16) hc dX10_isDigit_3 rfl (fun hh => ?_) (fun hh => ?_)
  · rw [if_pos hh] at h
    refine go_iconst hc dX10_isDigit_16 ci_0 ?_
    exact go_zret hc (oend_i h hE) hr rfl dX10_isDigit_17
  · rw [if_neg hh] at h
    refine go_iload_n hc dX10_isDigit_6 rfl rfl ?_
    refine go_bipush hc dX10_isDigit_7 cb_57 ?_
    refine go_icmp_gt (tgt := 16) hc dX10_isDigit_9 rfl (fun hh => ?_) (fun hh => ?_)
    · rw [if_pos hh] at h
      refine go_iconst hc dX10_isDigit_16 ci_0 ?_
      exact go_zret hc (oend_i h hE) hr rfl dX10_isDigit_17
    · rw [if_neg hh] at h
      refine go_iconst hc dX10_isDigit_12 ci_1 ?_
      refine go_goto (tgt := 17) hc dX10_isDigit_13 rfl ?_
      exact go_zret hc (oend_i h hE) hr rfl dX10_isDigit_17
def fX10_pass_b197 (l1 : Int32) (l3 : Int32) (σ : OM) : Option OM :=
  if l3 ≤ (3 : Int32) then (
   some (sI (sI σ 81 5 l1) 81 6 (3 : Int32)))
  else (some (sI (sI σ 81 5 l1) 81 6 (1 : Int32)))
set_option maxRecDepth 100000 in
set_option maxHeartbeats 4000000 in
theorem rX10_pass_b197 {K : OK} (hc : kcc K = cX10_pass) (ho : kow K = RX10) (hL : knL K = 4) (hN : 1 ≤ kN K) (hr : (kme K).sig.returnType = none) {σ0 : OM} (hE : oEnd K (none) σ0) (hz : kz K = 0) {l1 : Int32} {l3 : Int32} {σ : OM} (h : fX10_pass_b197 l1 l3 σ = some σ0) : Go K 197 [.ref 81, .int l1, .null, .int l3] [] σ := by
  unfold fX10_pass_b197 at h
  refine go_aload_n hc dX10_pass_197 rfl rfl ?_
  refine go_iload_n hc dX10_pass_198 rfl rfl ?_
  refine go_putI hc ho fpX10_63 dX10_pass_199 ok_81 (fun g => oni g _) (fun _ => rfl) ?_
  refine go_aload_n hc dX10_pass_202 rfl rfl ?_
  refine go_iload_n hc dX10_pass_203 rfl rfl ?_
  refine go_iconst hc dX10_pass_204 ci_3 ?_
  refine go_icmp_le (tgt := 212) hc dX10_pass_205 rfl (fun hh => ?_) (fun hh => ?_)
  · rw [if_pos hh] at h
    refine go_iconst hc dX10_pass_212 ci_3 ?_
    refine go_putI hc ho fpX10_79 dX10_pass_213 ok_81 (fun g => oni g _) (fun _ => rfl) ?_
    refine go_goto (tgt := 259) hc dX10_pass_216 rfl ?_
    exact go_vret hc (oend_v h hE) hr dX10_pass_259
  · rw [if_neg hh] at h
    refine go_iconst hc dX10_pass_208 ci_1 ?_
    refine go_goto (tgt := 213) hc dX10_pass_209 rfl ?_
    refine go_putI hc ho fpX10_79 dX10_pass_213 ok_81 (fun g => oni g _) (fun _ => rfl) ?_
    refine go_goto (tgt := 259) hc dX10_pass_216 rfl ?_
    exact go_vret hc (oend_v h hE) hr dX10_pass_259
def fX10_pass_b152 : Nat → Int32 → Int32 → OM → Option OM
  | 0, _, _, _ => none
  | n + 1, l1, l3, σ =>
    obi (fX10_look l1 σ) (fun r1 σ2 =>
    obi (fX10_isDigit r1 σ2) (fun r4 σ5 =>
    if r4 = 0 then (
     fX10_pass_b197 l1 l3 σ5)
    else (if (3 : Int32) ≤ l3 then (
     fX10_pass_b152 n (l1 + 1) (l3 + 1) σ5)
    else (obi (fX10_look l1 σ5) (fun r7 σ8 =>
    fX10_pass_b152 n (l1 + 1) (l3 + 1) (sI σ8 81 7 ((((10 : Int32) * (mI σ5 81 7)) + r7) - (48 : Int32))))))))
set_option maxRecDepth 100000 in
set_option maxHeartbeats 4000000 in
theorem rX10_pass_b152 {K : OK} (hc : kcc K = cX10_pass) (ho : kow K = RX10) (hL : knL K = 4) (hN : 1 ≤ kN K) (hr : (kme K).sig.returnType = none) {σ0 : OM} (hE : oEnd K (none) σ0) (hz : kz K = 0) : ∀ (n : Nat) (l1 : Int32) (l3 : Int32) (σ : OM), fX10_pass_b152 n l1 l3 σ = some σ0 → Go K 152 [.ref 81, .int l1, .null, .int l3] [] σ := by
  intro n
  induction n with
  | zero =>
    intro l1 l3 σ h
    cases h
  | succ n ih =>
    intro l1 l3 σ h
    rw [fX10_pass_b152] at h
    refine go_aload_n hc dX10_pass_152 rfl rfl ?_
    refine go_iload_n hc dX10_pass_153 rfl rfl ?_
    obtain ⟨r1, σ2, hf3, h⟩ := obi_some h
    refine go_callVi hc ho cmX10_look mlX10_66 dX10_pass_154 ok_81 (As := [.int l1]) (rest := []) (rX10_look (N := 0) hf3 (Nat.le_refl _)) rfl (Nat.le_trans (Nat.le_of_ble_eq_true rfl) hN) rfl (Nat.le_of_ble_eq_true rfl) (Or.inl hz) ?_
    obtain ⟨r4, σ5, hf6, h⟩ := obi_some h
    refine go_callSi hc ho cmX10_isDigit mlX10_86 dX10_pass_157 (As := [.int r1]) (rest := []) (rX10_isDigit (N := 0) hf6 (Nat.le_refl _)) rfl (Nat.le_trans (Nat.le_of_ble_eq_true rfl) hN) rfl (Nat.le_of_ble_eq_true rfl) (Or.inl hz) ?_
    refine go_if_eq (tgt := 197) hc dX10_pass_160 rfl (fun hh => ?_) (fun hh => ?_)
    · rw [if_pos hh] at h
      exact rX10_pass_b197 hc ho hL hN hr hE hz h
    · rw [if_neg hh] at h
      refine go_iload_n hc dX10_pass_163 rfl rfl ?_
      refine go_iconst hc dX10_pass_164 ci_3 ?_
      refine go_icmp_ge (tgt := 188) hc dX10_pass_165 rfl (fun hh => ?_) (fun hh => ?_)
      · rw [if_pos hh] at h
        refine go_iinc hc (lv1 := [.ref 81, .int l1, .null, .int (l3 + 1)]) dX10_pass_188 rfl ci_1 hL (by decide) (fun _ _ e => by cases e; rfl) rfl ?_
        refine go_iinc hc (lv1 := [.ref 81, .int (l1 + 1), .null, .int (l3 + 1)]) dX10_pass_191 rfl ci_1 hL (by decide) (fun _ _ e => by cases e; rfl) rfl ?_
        refine go_goto (tgt := 152) hc dX10_pass_194 rfl ?_
        exact ih (l1 + 1) (l3 + 1) _ h
      · rw [if_neg hh] at h
        refine go_aload_n hc dX10_pass_168 rfl rfl ?_
        refine go_bipush hc dX10_pass_169 cb_10 ?_
        refine go_aload_n hc dX10_pass_171 rfl rfl ?_
        refine go_getI hc ho flX10_76 dX10_pass_172 ok_81 ?_
        refine go_imul hc dX10_pass_175 ?_
        refine go_aload_n hc dX10_pass_176 rfl rfl ?_
        refine go_iload_n hc dX10_pass_177 rfl rfl ?_
        obtain ⟨r7, σ8, hf9, h⟩ := obi_some h
        refine go_callVi hc ho cmX10_look mlX10_66 dX10_pass_178 ok_81 (As := [.int l1]) (rest := [.int ((10 : Int32) * (mI σ5 81 7)), .ref 81]) (rX10_look (N := 0) hf9 (Nat.le_refl _)) rfl (Nat.le_trans (Nat.le_of_ble_eq_true rfl) hN) rfl (Nat.le_of_ble_eq_true rfl) (Or.inl hz) ?_
        refine go_iadd hc dX10_pass_181 ?_
        refine go_bipush hc dX10_pass_182 cb_48 ?_
        refine go_isub hc dX10_pass_184 ?_
        refine go_putI hc ho fpX10_76 dX10_pass_185 ok_81 (fun g => oni g _) (fun _ => rfl) ?_
        refine go_iinc hc (lv1 := [.ref 81, .int l1, .null, .int (l3 + 1)]) dX10_pass_188 rfl ci_1 hL (by decide) (fun _ _ e => by cases e; rfl) rfl ?_
        refine go_iinc hc (lv1 := [.ref 81, .int (l1 + 1), .null, .int (l3 + 1)]) dX10_pass_191 rfl ci_1 hL (by decide) (fun _ _ e => by cases e; rfl) rfl ?_
        refine go_goto (tgt := 152) hc dX10_pass_194 rfl ?_
        exact ih (l1 + 1) (l3 + 1) _ h
def fX10_pass_b117 (l1 : Int32) (σ : OM) : Option OM :=
  if (mI (sI σ 81 5 l1) 81 8) ≤ (8 : Int32) then (
   some (sI (sI σ 81 5 l1) 81 6 (2 : Int32)))
  else (some (sI (sI σ 81 5 l1) 81 6 (1 : Int32)))
set_option maxRecDepth 100000 in
set_option maxHeartbeats 4000000 in
theorem rX10_pass_b117 {K : OK} (hc : kcc K = cX10_pass) (ho : kow K = RX10) (hL : knL K = 4) (hN : 1 ≤ kN K) (hr : (kme K).sig.returnType = none) {σ0 : OM} (hE : oEnd K (none) σ0) (hz : kz K = 0) {l1 : Int32} {σ : OM} (h : fX10_pass_b117 l1 σ = some σ0) : Go K 117 [.ref 81, .int l1, .null, .null] [] σ := by
  unfold fX10_pass_b117 at h
  refine go_aload_n hc dX10_pass_117 rfl rfl ?_
  refine go_iload_n hc dX10_pass_118 rfl rfl ?_
  refine go_putI hc ho fpX10_63 dX10_pass_119 ok_81 (fun g => oni g _) (fun _ => rfl) ?_
  refine go_aload_n hc dX10_pass_122 rfl rfl ?_
  refine go_aload_n hc dX10_pass_123 rfl rfl ?_
  refine go_getI hc ho flX10_73 dX10_pass_124 ok_81 ?_
  refine go_bipush hc dX10_pass_127 cb_8 ?_
  refine go_icmp_le (tgt := 136) hc dX10_pass_129 rfl (fun hh => ?_) (fun hh => ?_)
  · rw [if_pos hh] at h
    refine go_iconst hc dX10_pass_136 ci_2 ?_
    refine go_putI hc ho fpX10_79 dX10_pass_137 ok_81 (fun g => oni g _) (fun _ => rfl) ?_
    refine go_goto (tgt := 259) hc dX10_pass_140 rfl ?_
    exact go_vret hc (oend_v h hE) hr dX10_pass_259
  · rw [if_neg hh] at h
    refine go_iconst hc dX10_pass_132 ci_1 ?_
    refine go_goto (tgt := 137) hc dX10_pass_133 rfl ?_
    refine go_putI hc ho fpX10_79 dX10_pass_137 ok_81 (fun g => oni g _) (fun _ => rfl) ?_
    refine go_goto (tgt := 259) hc dX10_pass_140 rfl ?_
    exact go_vret hc (oend_v h hE) hr dX10_pass_259
def fX10_pass_b67 : Nat → Int32 → OM → Option OM
  | 0, _, _ => none
  | n + 1, l1, σ =>
    obi (fX10_look l1 σ) (fun r1 σ2 =>
    obi (fX10_isSmall r1 σ2) (fun r4 σ5 =>
    if r4 = 0 then (
     fX10_pass_b117 l1 σ5)
    else (if (8 : Int32) ≤ (mI σ5 81 8) then (
     fX10_pass_b67 n (l1 + 1) (sI σ5 81 8 ((mI σ5 81 8) + (1 : Int32))))
    else (obi (fX10_look l1 σ5) (fun r7 σ8 =>
    ogd (oin (mI σ5 81 8) 8) (
    fX10_pass_b67 n (l1 + 1) (sI (sI σ8 83 ((mI σ5 81 8).toNatClampNeg) r7) 81 8 ((mI (sI σ8 83 ((mI σ5 81 8).toNatClampNeg) r7) 81 8) + (1 : Int32)))))))))
set_option maxRecDepth 100000 in
set_option maxHeartbeats 4000000 in
theorem rX10_pass_b67 {K : OK} (hc : kcc K = cX10_pass) (ho : kow K = RX10) (hL : knL K = 4) (hN : 1 ≤ kN K) (hr : (kme K).sig.returnType = none) {σ0 : OM} (hE : oEnd K (none) σ0) (hz : kz K = 0) : ∀ (n : Nat) (l1 : Int32) (σ : OM), fX10_pass_b67 n l1 σ = some σ0 → Go K 67 [.ref 81, .int l1, .null, .null] [] σ := by
  intro n
  induction n with
  | zero =>
    intro l1 σ h
    cases h
  | succ n ih =>
    intro l1 σ h
    rw [fX10_pass_b67] at h
    refine go_aload_n hc dX10_pass_67 rfl rfl ?_
    refine go_iload_n hc dX10_pass_68 rfl rfl ?_
    obtain ⟨r1, σ2, hf3, h⟩ := obi_some h
    refine go_callVi hc ho cmX10_look mlX10_66 dX10_pass_69 ok_81 (As := [.int l1]) (rest := []) (rX10_look (N := 0) hf3 (Nat.le_refl _)) rfl (Nat.le_trans (Nat.le_of_ble_eq_true rfl) hN) rfl (Nat.le_of_ble_eq_true rfl) (Or.inl hz) ?_
    obtain ⟨r4, σ5, hf6, h⟩ := obi_some h
    refine go_callSi hc ho cmX10_isSmall mlX10_82 dX10_pass_72 (As := [.int r1]) (rest := []) (rX10_isSmall (N := 0) hf6 (Nat.le_refl _)) rfl (Nat.le_trans (Nat.le_of_ble_eq_true rfl) hN) rfl (Nat.le_of_ble_eq_true rfl) (Or.inl hz) ?_
    refine go_if_eq (tgt := 117) hc dX10_pass_75 rfl (fun hh => ?_) (fun hh => ?_)
    · rw [if_pos hh] at h
      exact rX10_pass_b117 hc ho hL hN hr hE hz h
    · rw [if_neg hh] at h
      refine go_aload_n hc dX10_pass_78 rfl rfl ?_
      refine go_getI hc ho flX10_73 dX10_pass_79 ok_81 ?_
      refine go_bipush hc dX10_pass_82 cb_8 ?_
      refine go_icmp_ge (tgt := 101) hc dX10_pass_84 rfl (fun hh => ?_) (fun hh => ?_)
      · rw [if_pos hh] at h
        refine go_aload_n hc dX10_pass_101 rfl rfl ?_
        refine go_dup hc dX10_pass_102 rfl ?_
        refine go_getI hc ho flX10_73 dX10_pass_103 ok_81 ?_
        refine go_iconst hc dX10_pass_106 ci_1 ?_
        refine go_iadd hc dX10_pass_107 ?_
        refine go_putI hc ho fpX10_73 dX10_pass_108 ok_81 (fun g => oni g _) (fun _ => rfl) ?_
        refine go_iinc hc (lv1 := [.ref 81, .int (l1 + 1), .null, .null]) dX10_pass_111 rfl ci_1 hL (by decide) (fun _ _ e => by cases e; rfl) rfl ?_
        refine go_goto (tgt := 67) hc dX10_pass_114 rfl ?_
        exact ih (l1 + 1) _ h
      · rw [if_neg hh] at h
        refine go_aload_n hc dX10_pass_87 rfl rfl ?_
        refine go_getC (b := 83) rfl hc ho flX10_17 dX10_pass_88 ok_81 ?_
        refine go_aload_n hc dX10_pass_91 rfl rfl ?_
        refine go_getI hc ho flX10_73 dX10_pass_92 ok_81 ?_
        refine go_aload_n hc dX10_pass_95 rfl rfl ?_
        refine go_iload_n hc dX10_pass_96 rfl rfl ?_
        obtain ⟨r7, σ8, hf9, h⟩ := obi_some h
        refine go_callVi hc ho cmX10_look mlX10_66 dX10_pass_97 ok_81 (As := [.int l1]) (rest := [.int (mI σ5 81 8), .ref 83]) (rX10_look (N := 0) hf9 (Nat.le_refl _)) rfl (Nat.le_trans (Nat.le_of_ble_eq_true rfl) hN) rfl (Nat.le_of_ble_eq_true rfl) (Or.inl hz) ?_
        obtain ⟨hg10, h⟩ := ogd_some h
        refine go_iast hc dX10_pass_100 ok_83 ol_83 hg10 rfl ?_
        refine go_aload_n hc dX10_pass_101 rfl rfl ?_
        refine go_dup hc dX10_pass_102 rfl ?_
        refine go_getI hc ho flX10_73 dX10_pass_103 ok_81 ?_
        refine go_iconst hc dX10_pass_106 ci_1 ?_
        refine go_iadd hc dX10_pass_107 ?_
        refine go_putI hc ho fpX10_73 dX10_pass_108 ok_81 (fun g => oni g _) (fun _ => rfl) ?_
        refine go_iinc hc (lv1 := [.ref 81, .int (l1 + 1), .null, .null]) dX10_pass_111 rfl ci_1 hL (by decide) (fun _ _ e => by cases e; rfl) rfl ?_
        refine go_goto (tgt := 67) hc dX10_pass_114 rfl ?_
        exact ih (l1 + 1) _ h
def fX10_pass_b21 (l1 : Int32) (σ : OM) : Option OM :=
  obi (fX10_look l1 (sI σ 81 4 l1)) (fun r1 σ2 =>
  if r1 = ((-1) : Int32) then (
   some (sI (sI (sI (sI σ2 81 8 (0 : Int32)) 81 7 (0 : Int32)) 81 6 (0 : Int32)) 81 5 l1))
  else (obi (fX10_isSmall r1 (sI (sI σ2 81 8 (0 : Int32)) 81 7 (0 : Int32))) (fun r4 σ5 =>
  if r4 = 0 then (
   obi (fX10_isDigit r1 σ5) (fun r7 σ8 =>
   if r7 = 0 then (
    if r1 = (59 : Int32) then (
     some (sI (sI σ8 81 5 (l1 + (1 : Int32))) 81 6 r1))
    else (if r1 = (44 : Int32) then (
     some (sI (sI σ8 81 5 (l1 + (1 : Int32))) 81 6 r1))
    else (if r1 = (40 : Int32) then (
     some (sI (sI σ8 81 5 (l1 + (1 : Int32))) 81 6 r1))
    else (if r1 = (41 : Int32) then (
     some (sI (sI σ8 81 5 (l1 + (1 : Int32))) 81 6 r1))
    else (some (sI (sI σ8 81 5 (l1 + (1 : Int32))) 81 6 (1 : Int32)))))))
   else (fX10_pass_b152 oF l1 (0 : Int32) σ8)))
  else (fX10_pass_b67 oF l1 σ5))))
set_option maxRecDepth 100000 in
set_option maxHeartbeats 4000000 in
theorem rX10_pass_b21 {K : OK} (hc : kcc K = cX10_pass) (ho : kow K = RX10) (hL : knL K = 4) (hN : 1 ≤ kN K) (hr : (kme K).sig.returnType = none) {σ0 : OM} (hE : oEnd K (none) σ0) (hz : kz K = 0) {l1 : Int32} {σ : OM} (h : fX10_pass_b21 l1 σ = some σ0) : Go K 21 [.ref 81, .int l1, .null, .null] [] σ := by
  unfold fX10_pass_b21 at h
  refine go_aload_n hc dX10_pass_21 rfl rfl ?_
  refine go_iload_n hc dX10_pass_22 rfl rfl ?_
  refine go_putI hc ho fpX10_70 dX10_pass_23 ok_81 (fun g => oni g _) (fun _ => rfl) ?_
  refine go_aload_n hc dX10_pass_26 rfl rfl ?_
  refine go_iload_n hc dX10_pass_27 rfl rfl ?_
  obtain ⟨r1, σ2, hf3, h⟩ := obi_some h
  refine go_callVi hc ho cmX10_look mlX10_66 dX10_pass_28 ok_81 (As := [.int l1]) (rest := []) (rX10_look (N := 0) hf3 (Nat.le_refl _)) rfl (Nat.le_trans (Nat.le_of_ble_eq_true rfl) hN) rfl (Nat.le_of_ble_eq_true rfl) (Or.inl hz) ?_
  refine go_istore_n hc (lv1 := [.ref 81, .int l1, .int r1, .null]) dX10_pass_31 rfl hL (by decide) (fun _ _ e => by cases e; rfl) rfl ?_
  refine go_aload_n hc dX10_pass_32 rfl rfl ?_
  refine go_iconst hc dX10_pass_33 ci_0 ?_
  refine go_putI hc ho fpX10_73 dX10_pass_34 ok_81 (fun g => oni g _) (fun _ => rfl) ?_
  refine go_aload_n hc dX10_pass_37 rfl rfl ?_
  refine go_iconst hc dX10_pass_38 ci_0 ?_
  refine go_putI hc ho fpX10_76 dX10_pass_39 ok_81 (fun g => oni g _) (fun _ => rfl) ?_
  refine go_iload_n hc dX10_pass_42 rfl rfl ?_
  refine go_iconst hc dX10_pass_43 ci_m1 ?_
  refine go_icmp_ne (tgt := 60) hc dX10_pass_44 rfl (fun hh => ?_) (fun hh => ?_)
  · rw [if_neg hh] at h
    refine go_iload_n hc dX10_pass_60 rfl rfl ?_
    obtain ⟨r4, σ5, hf6, h⟩ := obi_some h
    refine go_callSi hc ho cmX10_isSmall mlX10_82 dX10_pass_61 (As := [.int r1]) (rest := []) (rX10_isSmall (N := 0) hf6 (Nat.le_refl _)) rfl (Nat.le_trans (Nat.le_of_ble_eq_true rfl) hN) rfl (Nat.le_of_ble_eq_true rfl) (Or.inl hz) ?_
    refine go_if_eq (tgt := 143) hc dX10_pass_64 rfl (fun hh => ?_) (fun hh => ?_)
    · rw [if_pos hh] at h
      refine go_iload_n hc dX10_pass_143 rfl rfl ?_
      obtain ⟨r7, σ8, hf9, h⟩ := obi_some h
      refine go_callSi hc ho cmX10_isDigit mlX10_86 dX10_pass_144 (As := [.int r1]) (rest := []) (rX10_isDigit (N := 0) hf9 (Nat.le_refl _)) rfl (Nat.le_trans (Nat.le_of_ble_eq_true rfl) hN) rfl (Nat.le_of_ble_eq_true rfl) (Or.inl hz) ?_
      refine go_if_eq (tgt := 219) hc dX10_pass_147 rfl (fun hh => ?_) (fun hh => ?_)
      · rw [if_pos hh] at h
        refine go_aload_n hc dX10_pass_219 rfl rfl ?_
        refine go_iload_n hc dX10_pass_220 rfl rfl ?_
        refine go_iconst hc dX10_pass_221 ci_1 ?_
        refine go_iadd hc dX10_pass_222 ?_
        refine go_putI hc ho fpX10_63 dX10_pass_223 ok_81 (fun g => oni g _) (fun _ => rfl) ?_
        refine go_aload_n hc dX10_pass_226 rfl rfl ?_
        refine go_iload_n hc dX10_pass_227 rfl rfl ?_
        refine go_bipush hc dX10_pass_228 cb_59 ?_
        refine go_icmp_eq (tgt := 251) hc dX10_pass_230 rfl (fun hh => ?_) (fun hh => ?_)
        · rw [if_pos hh] at h
          refine go_iload_n hc dX10_pass_251 rfl rfl ?_
          refine go_goto (tgt := 256) hc dX10_pass_252 rfl ?_
          refine go_putI hc ho fpX10_79 dX10_pass_256 ok_81 (fun g => oni g _) (fun _ => rfl) ?_
          exact go_vret hc (oend_v h hE) hr dX10_pass_259
        · rw [if_neg hh] at h
          refine go_iload_n hc dX10_pass_233 rfl rfl ?_
          refine go_bipush hc dX10_pass_234 cb_44 ?_
          refine go_icmp_eq (tgt := 251) hc dX10_pass_236 rfl (fun hh => ?_) (fun hh => ?_)
          · rw [if_pos hh] at h
            refine go_iload_n hc dX10_pass_251 rfl rfl ?_
            refine go_goto (tgt := 256) hc dX10_pass_252 rfl ?_
            refine go_putI hc ho fpX10_79 dX10_pass_256 ok_81 (fun g => oni g _) (fun _ => rfl) ?_
            exact go_vret hc (oend_v h hE) hr dX10_pass_259
          · rw [if_neg hh] at h
            refine go_iload_n hc dX10_pass_239 rfl rfl ?_
            refine go_bipush hc dX10_pass_240 cb_40 ?_
            refine go_icmp_eq (tgt := 251) hc dX10_pass_242 rfl (fun hh => ?_) (fun hh => ?_)
            · rw [if_pos hh] at h
              refine go_iload_n hc dX10_pass_251 rfl rfl ?_
              refine go_goto (tgt := 256) hc dX10_pass_252 rfl ?_
              refine go_putI hc ho fpX10_79 dX10_pass_256 ok_81 (fun g => oni g _) (fun _ => rfl) ?_
              exact go_vret hc (oend_v h hE) hr dX10_pass_259
            · rw [if_neg hh] at h
              refine go_iload_n hc dX10_pass_245 rfl rfl ?_
              refine go_bipush hc dX10_pass_246 cb_41 ?_
              refine go_icmp_ne (tgt := 255) hc dX10_pass_248 rfl (fun hh => ?_) (fun hh => ?_)
              · rw [if_neg hh] at h
                refine go_iconst hc dX10_pass_255 ci_1 ?_
                refine go_putI hc ho fpX10_79 dX10_pass_256 ok_81 (fun g => oni g _) (fun _ => rfl) ?_
                exact go_vret hc (oend_v h hE) hr dX10_pass_259
              · rw [if_pos hh] at h
                refine go_iload_n hc dX10_pass_251 rfl rfl ?_
                refine go_goto (tgt := 256) hc dX10_pass_252 rfl ?_
                refine go_putI hc ho fpX10_79 dX10_pass_256 ok_81 (fun g => oni g _) (fun _ => rfl) ?_
                exact go_vret hc (oend_v h hE) hr dX10_pass_259
      · rw [if_neg hh] at h
        refine go_iconst hc dX10_pass_150 ci_0 ?_
        refine go_istore_n hc (lv1 := [.ref 81, .int l1, .int r1, .int (0 : Int32)]) dX10_pass_151 rfl hL (by decide) (fun _ _ e => by cases e; rfl) rfl ?_
        refine go_mask [true, true, false, true] (lv1 := [.ref 81, .int l1, .null, .int (0 : Int32)]) rfl ?_
        exact rX10_pass_b152 hc ho hL hN hr hE hz oF l1 (0 : Int32) _ h
    · rw [if_neg hh] at h
      refine go_mask [true, true, false, false] (lv1 := [.ref 81, .int l1, .null, .null]) rfl ?_
      exact rX10_pass_b67 hc ho hL hN hr hE hz oF l1 _ h
  · rw [if_pos hh] at h
    refine go_aload_n hc dX10_pass_47 rfl rfl ?_
    refine go_iconst hc dX10_pass_48 ci_0 ?_
    refine go_putI hc ho fpX10_79 dX10_pass_49 ok_81 (fun g => oni g _) (fun _ => rfl) ?_
    refine go_aload_n hc dX10_pass_52 rfl rfl ?_
    refine go_iload_n hc dX10_pass_53 rfl rfl ?_
    refine go_putI hc ho fpX10_63 dX10_pass_54 ok_81 (fun g => oni g _) (fun _ => rfl) ?_
    refine go_goto (tgt := 259) hc dX10_pass_57 rfl ?_
    exact go_vret hc (oend_v h hE) hr dX10_pass_259
def fX10_pass_b5 : Nat → Int32 → OM → Option OM
  | 0, _, _ => none
  | n + 1, l1, σ =>
    obi (fX10_look l1 σ) (fun r1 σ2 =>
    if r1 = (32 : Int32) then (
     fX10_pass_b5 n (l1 + 1) σ2)
    else (fX10_pass_b21 l1 σ2))
set_option maxRecDepth 100000 in
set_option maxHeartbeats 4000000 in
theorem rX10_pass_b5 {K : OK} (hc : kcc K = cX10_pass) (ho : kow K = RX10) (hL : knL K = 4) (hN : 1 ≤ kN K) (hr : (kme K).sig.returnType = none) {σ0 : OM} (hE : oEnd K (none) σ0) (hz : kz K = 0) : ∀ (n : Nat) (l1 : Int32) (σ : OM), fX10_pass_b5 n l1 σ = some σ0 → Go K 5 [.ref 81, .int l1, .null, .null] [] σ := by
  intro n
  induction n with
  | zero =>
    intro l1 σ h
    cases h
  | succ n ih =>
    intro l1 σ h
    rw [fX10_pass_b5] at h
    refine go_aload_n hc dX10_pass_5 rfl rfl ?_
    refine go_iload_n hc dX10_pass_6 rfl rfl ?_
    obtain ⟨r1, σ2, hf3, h⟩ := obi_some h
    refine go_callVi hc ho cmX10_look mlX10_66 dX10_pass_7 ok_81 (As := [.int l1]) (rest := []) (rX10_look (N := 0) hf3 (Nat.le_refl _)) rfl (Nat.le_trans (Nat.le_of_ble_eq_true rfl) hN) rfl (Nat.le_of_ble_eq_true rfl) (Or.inl hz) ?_
    refine go_bipush hc dX10_pass_10 cb_32 ?_
    refine go_icmp_ne (tgt := 21) hc dX10_pass_12 rfl (fun hh => ?_) (fun hh => ?_)
    · rw [if_neg hh] at h
      exact rX10_pass_b21 hc ho hL hN hr hE hz h
    · rw [if_pos hh] at h
      refine go_iinc hc (lv1 := [.ref 81, .int (l1 + 1), .null, .null]) dX10_pass_15 rfl ci_1 hL (by decide) (fun _ _ e => by cases e; rfl) rfl ?_
      refine go_goto (tgt := 5) hc dX10_pass_18 rfl ?_
      exact ih (l1 + 1) _ h
def fX10_pass (σ : OM) : Option OM :=
  fX10_pass_b5 oF (mI σ 81 5) σ
set_option maxRecDepth 100000 in
set_option maxHeartbeats 4000000 in
theorem rX10_pass {N : Nat} {σ : OM} {σ0 : OM} (h : fX10_pass σ = some σ0) (hN0 : 1 ≤ N) : oEv N MX10_pass [.ref 81] σ (none) σ0 := by
  refine oEv_of (lv := [.ref 81, .null, .null, .null]) (by decide +kernel) (fun g q hq => hq) (fun g => Nat.le_of_ble_eq_true rfl) ?_
  intro K hc ho hL hN1 hr hE hz
  have hN : 1 ≤ kN K := by rw [hN1]; exact hN0
  unfold fX10_pass at h
  refine go_aload_n hc dX10_pass_0 rfl rfl ?_
  refine go_getI hc ho flX10_63 dX10_pass_1 ok_81 ?_
  refine go_istore_n hc (lv1 := [.ref 81, .int (mI σ 81 5), .null, .null]) dX10_pass_4 rfl hL (by decide) (fun _ _ e => by cases e; rfl) rfl ?_
  exact rX10_pass_b5 hc ho hL hN hr hE hz oF (mI σ 81 5) _ h
def fJ0_coder_7d493 (s : Nat) (σ : OM) : Option (Int32 × OM) :=
  if (1 : Int32) = 0 then (
   some ((1 : Int32), σ))
  else (some ((0 : Int32), σ))
set_option maxRecDepth 100000 in
set_option maxHeartbeats 4000000 in
theorem rJ0_coder_7d493 {N : Nat} {s : Nat} {σ : OM} {r0 : Int32} {σ0 : OM} (hs : s < 23) (h : fJ0_coder_7d493 s σ = some (r0, σ0)) (hN0 : 0 ≤ N) : oEv N MJ0_coder_7d493 [.ref (200 + s)] σ (some (.int r0)) σ0 := by
  refine oEv_of (lv := [.ref (200 + s)]) (by decide +kernel) (fun g q hq => hq) (fun g => Nat.le_of_ble_eq_true rfl) ?_
  intro K hc ho hL hN1 hr hE hz
  have hN : 0 ≤ kN K := by rw [hN1]; exact hN0
  unfold fJ0_coder_7d493 at h
  refine go_compact hc ho fsJ0_38 dJ0_coder_7d493_0 ?_
  refine go_if_eq (tgt := 13) hc dJ0_coder_7d493_3 rfl (fun hh => ?_) (fun hh => ?_)
  · rw [if_pos hh] at h
    refine go_iconst hc dJ0_coder_7d493_13 ci_1 ?_
    exact go_zret hc (oend_i h hE) hr rfl dJ0_coder_7d493_14
  · rw [if_neg hh] at h
    refine go_aload_n hc dJ0_coder_7d493_6 rfl rfl ?_
    refine go_strC hc ho hs fsJ0_15 dJ0_coder_7d493_7 ?_
    refine go_goto (tgt := 14) hc dJ0_coder_7d493_10 rfl ?_
    exact go_zret hc (oend_i h hE) hr rfl dJ0_coder_7d493_14
def fJ0_length_8abf5 (s : Nat) (σ : OM) : Option (Int32 × OM) :=
  obi (fJ0_coder_7d493 s σ) (fun r1 σ2 =>
  some (((Int32.ofNat (oslL.getD s 0)) >>> (r1 &&& 31)), σ2))
set_option maxRecDepth 100000 in
set_option maxHeartbeats 4000000 in
theorem rJ0_length_8abf5 {N : Nat} {s : Nat} {σ : OM} {r0 : Int32} {σ0 : OM} (hs : s < 23) (h : fJ0_length_8abf5 s σ = some (r0, σ0)) (hN0 : 1 ≤ N) : oEv N MJ0_length_8abf5 [.ref (200 + s)] σ (some (.int r0)) σ0 := by
  refine oEv_of (lv := [.ref (200 + s)]) (by decide +kernel) (fun g q hq => hq) (fun g => Nat.le_of_ble_eq_true rfl) ?_
  intro K hc ho hL hN1 hr hE hz
  have hN : 1 ≤ kN K := by rw [hN1]; exact hN0
  unfold fJ0_length_8abf5 at h
  refine go_aload_n hc dJ0_length_8abf5_0 rfl rfl ?_
  refine go_strV hc ho hs fsJ0_9 dJ0_length_8abf5_1 ?_
  refine go_strL hc hs dJ0_length_8abf5_4 ?_
  refine go_aload_n hc dJ0_length_8abf5_5 rfl rfl ?_
  obtain ⟨r1, σ2, hf3, h⟩ := obi_some h
  refine go_callTi hc ho cmJ0_coder_7d493 mlJ0_335 dJ0_length_8abf5_6 hs (As := []) (rest := [.int (Int32.ofNat (oslL.getD s 0))]) (rJ0_coder_7d493 (N := 0) hs hf3 (Nat.le_refl _)) rfl (Nat.le_trans (Nat.le_of_ble_eq_true rfl) hN) rfl (Nat.le_of_ble_eq_true rfl) (Or.inl hz) ?_
  refine go_ishr hc dJ0_length_8abf5_9 ?_
  exact go_iret hc (oend_i h hE) hr dJ0_length_8abf5_10
def fJ0_isLatin1_aae02 (s : Nat) (σ : OM) : Option (Int32 × OM) :=
  if (1 : Int32) = 0 then (
   some ((0 : Int32), σ))
  else (if (0 : Int32) = 0 then (
   some ((1 : Int32), σ))
  else (some ((0 : Int32), σ)))
set_option maxRecDepth 100000 in
set_option maxHeartbeats 4000000 in
theorem rJ0_isLatin1_aae02 {N : Nat} {s : Nat} {σ : OM} {r0 : Int32} {σ0 : OM} (hs : s < 23) (h : fJ0_isLatin1_aae02 s σ = some (r0, σ0)) (hN0 : 0 ≤ N) : oEv N MJ0_isLatin1_aae02 [.ref (200 + s)] σ (some (.int r0)) σ0 := by
  refine oEv_of (lv := [.ref (200 + s)]) (by decide +kernel) (fun g q hq => hq) (fun g => Nat.le_of_ble_eq_true rfl) ?_
  intro K hc ho hL hN1 hr hE hz
  have hN : 0 ≤ kN K := by rw [hN1]; exact hN0
  unfold fJ0_isLatin1_aae02 at h
  refine go_compact hc ho fsJ0_38 dJ0_isLatin1_aae02_0 ?_
  refine go_if_eq (tgt := 17) hc dJ0_isLatin1_aae02_3 rfl (fun hh => ?_) (fun hh => ?_)
  · rw [if_pos hh] at h
    refine go_iconst hc dJ0_isLatin1_aae02_17 ci_0 ?_
    exact go_zret hc (oend_i h hE) hr rfl dJ0_isLatin1_aae02_18
  · rw [if_neg hh] at h
    refine go_aload_n hc dJ0_isLatin1_aae02_6 rfl rfl ?_
    refine go_strC hc ho hs fsJ0_15 dJ0_isLatin1_aae02_7 ?_
    refine go_if_ne (tgt := 17) hc dJ0_isLatin1_aae02_10 rfl (fun hh => ?_) (fun hh => ?_)
    · rw [if_neg hh] at h
      refine go_iconst hc dJ0_isLatin1_aae02_17 ci_0 ?_
      exact go_zret hc (oend_i h hE) hr rfl dJ0_isLatin1_aae02_18
    · rw [if_pos hh] at h
      refine go_iconst hc dJ0_isLatin1_aae02_13 ci_1 ?_
      refine go_goto (tgt := 18) hc dJ0_isLatin1_aae02_14 rfl ?_
      exact go_zret hc (oend_i h hE) hr rfl dJ0_isLatin1_aae02_18
def fJ1_charAt_3b067 (sx0 : Nat) (x1 : Int32) (σ : OM) : Option (Int32 × OM) :=
  obv (fJ0_checkIndex_df160 x1 (Int32.ofNat (oslL.getD sx0 0)) σ) (fun σ2 =>
  ogd (oin x1 (oslL.getD sx0 0)) (
  some (((((osbL.getD sx0 []).getD x1.toNatClampNeg 0) &&& (255 : Int32)).toUInt32 % 65536).toInt32, σ2)))
set_option maxRecDepth 100000 in
set_option maxHeartbeats 4000000 in
theorem rJ1_charAt_3b067 {N : Nat} {sx0 : Nat} {x1 : Int32} {σ : OM} {r0 : Int32} {σ0 : OM} (hsx0 : sx0 < 23) (h : fJ1_charAt_3b067 sx0 x1 σ = some (r0, σ0)) (hN0 : 2 ≤ N) : oEv N MJ1_charAt_3b067 [.ref (300 + sx0), .int x1] σ (some (.int r0)) σ0 := by
  refine oEv_of (lv := [.ref (300 + sx0), .int x1]) (by decide +kernel) (fun g q hq => hq) (fun g => Nat.le_of_ble_eq_true rfl) ?_
  intro K hc ho hL hN1 hr hE hz
  have hN : 2 ≤ kN K := by rw [hN1]; exact hN0
  unfold fJ1_charAt_3b067 at h
  refine go_iload_n hc dJ1_charAt_3b067_0 rfl rfl ?_
  refine go_aload_n hc dJ1_charAt_3b067_1 rfl rfl ?_
  refine go_strL hc hsx0 dJ1_charAt_3b067_2 ?_
  obtain ⟨σ2, hf3, h⟩ := obv_some h
  refine go_callSv hc ho cmJ0_checkIndex_df160 mlJ1_9 dJ1_charAt_3b067_3 (As := [.int x1, .int (Int32.ofNat (oslL.getD sx0 0))]) (rest := []) (rJ0_checkIndex_df160 (N := 1) hf3 (Nat.le_refl _)) rfl (Nat.le_trans (Nat.le_of_ble_eq_true rfl) hN) rfl (Nat.le_of_ble_eq_true rfl) (Or.inl hz) ?_
  refine go_aload_n hc dJ1_charAt_3b067_6 rfl rfl ?_
  refine go_iload_n hc dJ1_charAt_3b067_7 rfl rfl ?_
  obtain ⟨hg4, h⟩ := ogd_some h
  refine go_strB hc hsx0 dJ1_charAt_3b067_8 hg4 ?_
  refine go_sipush hc dJ1_charAt_3b067_9 cs_255 ?_
  refine go_iand hc dJ1_charAt_3b067_12 ?_
  refine go_i2c hc dJ1_charAt_3b067_13 ?_
  exact go_zret hc (oend_i h hE) hr (pk_nc _) dJ1_charAt_3b067_14
def fJ0_charAt_5068e (s : Nat) (x0 : Int32) (σ : OM) : Option (Int32 × OM) :=
  obi (fJ0_isLatin1_aae02 s σ) (fun r1 σ2 =>
  if r1 = 0 then (
   none)
  else (obi (fJ1_charAt_3b067 s x0 σ2) (fun r4 σ5 =>
  ogd (decide ((r4.toUInt32 % 65536).toInt32 = r4)) (some (r4, σ5)))))
set_option maxRecDepth 100000 in
set_option maxHeartbeats 4000000 in
theorem rJ0_charAt_5068e {N : Nat} {s : Nat} {x0 : Int32} {σ : OM} {r0 : Int32} {σ0 : OM} (hs : s < 23) (h : fJ0_charAt_5068e s x0 σ = some (r0, σ0)) (hN0 : 3 ≤ N) : oEv N MJ0_charAt_5068e [.ref (200 + s), .int x0] σ (some (.int r0)) σ0 := by
  refine oEv_of (lv := [.ref (200 + s), .int x0]) (by decide +kernel) (fun g q hq => hq) (fun g => Nat.le_of_ble_eq_true rfl) ?_
  intro K hc ho hL hN1 hr hE hz
  have hN : 3 ≤ kN K := by rw [hN1]; exact hN0
  unfold fJ0_charAt_5068e at h
  refine go_aload_n hc dJ0_charAt_5068e_0 rfl rfl ?_
  obtain ⟨r1, σ2, hf3, h⟩ := obi_some h
  refine go_callTi hc ho cmJ0_isLatin1_aae02 mlJ0_492 dJ0_charAt_5068e_1 hs (As := []) (rest := []) (rJ0_isLatin1_aae02 (N := 0) hs hf3 (Nat.le_refl _)) rfl (Nat.le_trans (Nat.le_of_ble_eq_true rfl) hN) rfl (Nat.le_of_ble_eq_true rfl) (Or.inl hz) ?_
  refine go_if_eq (tgt := 16) hc dJ0_charAt_5068e_4 rfl (fun hh => ?_) (fun hh => ?_)
  · rw [if_pos hh] at h
    refine go_aload_n hc dJ0_charAt_5068e_16 rfl rfl ?_
    refine go_strV hc ho hs fsJ0_9 dJ0_charAt_5068e_17 ?_
    refine go_iload_n hc dJ0_charAt_5068e_20 rfl rfl ?_
    cases h
  · rw [if_neg hh] at h
    refine go_aload_n hc dJ0_charAt_5068e_7 rfl rfl ?_
    refine go_strV hc ho hs fsJ0_9 dJ0_charAt_5068e_8 ?_
    refine go_iload_n hc dJ0_charAt_5068e_11 rfl rfl ?_
    obtain ⟨r4, σ5, hf6, h⟩ := obi_some h
    refine go_callSi hc ho cmJ1_charAt_3b067 mlJ0_495 dJ0_charAt_5068e_12 (As := [.ref (300 + s), .int x0]) (rest := []) (rJ1_charAt_3b067 (N := 2) hs hf6 (Nat.le_refl _)) rfl (Nat.le_trans (Nat.le_of_ble_eq_true rfl) hN) rfl (Nat.le_of_ble_eq_true rfl) (Or.inl hz) ?_
    obtain ⟨hg7, h⟩ := ogd_some h
    exact go_zret hc (oend_i h hE) hr (och_n (of_decide_eq_true hg7)) dJ0_charAt_5068e_15
def fX10_isWord_b32 : Nat → Nat → Int32 → Int32 → OM → Option (Int32 × OM)
  | 0, _, _, _, _ => none
  | n + 1, bl1, l2, l3, σ =>
    if (mI σ 81 8) ≤ l3 then (
     ogd (oisb l2) (some (l2, σ)))
    else (if l2 = 0 then (
     fX10_isWord_b32 n bl1 (0 : Int32) (l3 + 1) σ)
    else (ogd (oin l3 8) (
    obi (fJ0_charAt_5068e bl1 l3 σ) (fun r3 σ4 =>
    if (mI σ 83 l3.toNatClampNeg) = r3 then (
     fX10_isWord_b32 n bl1 (1 : Int32) (l3 + 1) σ4)
    else (fX10_isWord_b32 n bl1 (0 : Int32) (l3 + 1) σ4)))))
set_option maxRecDepth 100000 in
set_option maxHeartbeats 4000000 in
theorem rX10_isWord_b32 {K : OK} (hc : kcc K = cX10_isWord) (ho : kow K = RX10) (hL : knL K = 4) (hN : 4 ≤ kN K) (hr : (kme K).sig.returnType = (some .boolean)) {r0 : Int32} {σ0 : OM} (hE : oEnd K (some (.int r0)) σ0) (hz : kz K = 0) : ∀ (n : Nat) (bl1 : Nat) (l2 : Int32) (l3 : Int32) (σ : OM), bl1 < 23 → fX10_isWord_b32 n bl1 l2 l3 σ = some (r0, σ0) → Go K 32 [.ref 81, .ref (200 + bl1), .int l2, .int l3] [] σ := by
  intro n
  induction n with
  | zero =>
    intro bl1 l2 l3 σ hbl1 h
    cases h
  | succ n ih =>
    intro bl1 l2 l3 σ hbl1 h
    rw [fX10_isWord_b32] at h
    refine go_iload_n hc dX10_isWord_32 rfl rfl ?_
    refine go_aload_n hc dX10_isWord_33 rfl rfl ?_
    refine go_getI hc ho flX10_73 dX10_isWord_34 ok_81 ?_
    refine go_icmp_ge (tgt := 70) hc dX10_isWord_37 rfl (fun hh => ?_) (fun hh => ?_)
    · rw [if_pos hh] at h
      refine go_iload_n hc dX10_isWord_70 rfl rfl ?_
      obtain ⟨hg1, h⟩ := ogd_some h
      exact go_zret hc (oend_i h hE) hr (oisb_n hg1) dX10_isWord_71
    · rw [if_neg hh] at h
      refine go_iload_n hc dX10_isWord_40 rfl rfl ?_
      refine go_if_eq (tgt := 62) hc dX10_isWord_41 rfl (fun hh => ?_) (fun hh => ?_)
      · rw [if_pos hh] at h
        refine go_iconst hc dX10_isWord_62 ci_0 ?_
        refine go_istore_n hc (lv1 := [.ref 81, .ref (200 + bl1), .int (0 : Int32), .int l3]) dX10_isWord_63 rfl hL (by decide) (fun _ _ e => by cases e; rfl) rfl ?_
        refine go_iinc hc (lv1 := [.ref 81, .ref (200 + bl1), .int (0 : Int32), .int (l3 + 1)]) dX10_isWord_64 rfl ci_1 hL (by decide) (fun _ _ e => by cases e; rfl) rfl ?_
        refine go_goto (tgt := 32) hc dX10_isWord_67 rfl ?_
        exact ih bl1 (0 : Int32) (l3 + 1) _ hbl1 h
      · rw [if_neg hh] at h
        refine go_aload_n hc dX10_isWord_44 rfl rfl ?_
        refine go_getC (b := 83) rfl hc ho flX10_17 dX10_isWord_45 ok_81 ?_
        refine go_iload_n hc dX10_isWord_48 rfl rfl ?_
        obtain ⟨hg2, h⟩ := ogd_some h
        refine go_iald hc dX10_isWord_49 ok_83 ol_83 hg2 rfl ?_
        refine go_aload_n hc dX10_isWord_50 rfl rfl ?_
        refine go_iload_n hc dX10_isWord_51 rfl rfl ?_
        obtain ⟨r3, σ4, hf5, h⟩ := obi_some h
        refine go_callTi hc ho cmJ0_charAt_5068e mlX10_102 dX10_isWord_52 hbl1 (As := [.int l3]) (rest := [.int (mI σ 83 l3.toNatClampNeg)]) (rJ0_charAt_5068e (N := 3) hbl1 hf5 (Nat.le_refl _)) rfl (Nat.le_trans (Nat.le_of_ble_eq_true rfl) hN) rfl (Nat.le_of_ble_eq_true rfl) (Or.inl hz) ?_
        refine go_icmp_ne (tgt := 62) hc dX10_isWord_55 rfl (fun hh => ?_) (fun hh => ?_)
        · rw [if_neg hh] at h
          refine go_iconst hc dX10_isWord_62 ci_0 ?_
          refine go_istore_n hc (lv1 := [.ref 81, .ref (200 + bl1), .int (0 : Int32), .int l3]) dX10_isWord_63 rfl hL (by decide) (fun _ _ e => by cases e; rfl) rfl ?_
          refine go_iinc hc (lv1 := [.ref 81, .ref (200 + bl1), .int (0 : Int32), .int (l3 + 1)]) dX10_isWord_64 rfl ci_1 hL (by decide) (fun _ _ e => by cases e; rfl) rfl ?_
          refine go_goto (tgt := 32) hc dX10_isWord_67 rfl ?_
          exact ih bl1 (0 : Int32) (l3 + 1) _ hbl1 h
        · rw [if_pos hh] at h
          refine go_iconst hc dX10_isWord_58 ci_1 ?_
          refine go_goto (tgt := 63) hc dX10_isWord_59 rfl ?_
          refine go_istore_n hc (lv1 := [.ref 81, .ref (200 + bl1), .int (1 : Int32), .int l3]) dX10_isWord_63 rfl hL (by decide) (fun _ _ e => by cases e; rfl) rfl ?_
          refine go_iinc hc (lv1 := [.ref 81, .ref (200 + bl1), .int (1 : Int32), .int (l3 + 1)]) dX10_isWord_64 rfl ci_1 hL (by decide) (fun _ _ e => by cases e; rfl) rfl ?_
          refine go_goto (tgt := 32) hc dX10_isWord_67 rfl ?_
          exact ih bl1 (1 : Int32) (l3 + 1) _ hbl1 h
def fX10_isWord (sx0 : Nat) (σ : OM) : Option (Int32 × OM) :=
  if (mI σ 81 13) = 0 then (
   if (mI σ 81 6) = (2 : Int32) then (
    obi (fJ0_length_8abf5 sx0 σ) (fun r1 σ2 =>
    if (mI σ 81 8) = r1 then (
     fX10_isWord_b32 oF sx0 (1 : Int32) (0 : Int32) σ2)
    else (some ((0 : Int32), σ2))))
   else (some ((0 : Int32), σ)))
  else (some ((0 : Int32), σ))
set_option maxRecDepth 100000 in
set_option maxHeartbeats 4000000 in
theorem rX10_isWord {N : Nat} {sx0 : Nat} {σ : OM} {r0 : Int32} {σ0 : OM} (hsx0 : sx0 < 23) (h : fX10_isWord sx0 σ = some (r0, σ0)) (hN0 : 4 ≤ N) : oEv N MX10_isWord [.ref 81, .ref (200 + sx0)] σ (some (.int r0)) σ0 := by
  refine oEv_of (lv := [.ref 81, .ref (200 + sx0), .null, .null]) (by decide +kernel) (fun g q hq => hq) (fun g => Nat.le_of_ble_eq_true rfl) ?_
  intro K hc ho hL hN1 hr hE hz
  have hN : 4 ≤ kN K := by rw [hN1]; exact hN0
  unfold fX10_isWord at h
  refine go_aload_n hc dX10_isWord_0 rfl rfl ?_
  refine go_getI hc ho flX10_89 dX10_isWord_1 ok_81 ?_
  refine go_if_ne (tgt := 26) hc dX10_isWord_4 rfl (fun hh => ?_) (fun hh => ?_)
  · rw [if_neg hh] at h
    refine go_iconst hc dX10_isWord_26 ci_0 ?_
    exact go_zret hc (oend_i h hE) hr rfl dX10_isWord_27
  · rw [if_pos hh] at h
    refine go_aload_n hc dX10_isWord_7 rfl rfl ?_
    refine go_getI hc ho flX10_79 dX10_isWord_8 ok_81 ?_
    refine go_iconst hc dX10_isWord_11 ci_2 ?_
    refine go_icmp_ne (tgt := 26) hc dX10_isWord_12 rfl (fun hh => ?_) (fun hh => ?_)
    · rw [if_neg hh] at h
      refine go_iconst hc dX10_isWord_26 ci_0 ?_
      exact go_zret hc (oend_i h hE) hr rfl dX10_isWord_27
    · rw [if_pos hh] at h
      refine go_aload_n hc dX10_isWord_15 rfl rfl ?_
      refine go_getI hc ho flX10_73 dX10_isWord_16 ok_81 ?_
      refine go_aload_n hc dX10_isWord_19 rfl rfl ?_
      obtain ⟨r1, σ2, hf3, h⟩ := obi_some h
      refine go_callTi hc ho cmJ0_length_8abf5 mlX10_96 dX10_isWord_20 hsx0 (As := []) (rest := [.int (mI σ 81 8)]) (rJ0_length_8abf5 (N := 1) hsx0 hf3 (Nat.le_refl _)) rfl (Nat.le_trans (Nat.le_of_ble_eq_true rfl) hN) rfl (Nat.le_of_ble_eq_true rfl) (Or.inl hz) ?_
      refine go_icmp_eq (tgt := 28) hc dX10_isWord_23 rfl (fun hh => ?_) (fun hh => ?_)
      · rw [if_pos hh] at h
        refine go_iconst hc dX10_isWord_28 ci_1 ?_
        refine go_istore_n hc (lv1 := [.ref 81, .ref (200 + sx0), .int (1 : Int32), .null]) dX10_isWord_29 rfl hL (by decide) (fun _ _ e => by cases e; rfl) rfl ?_
        refine go_iconst hc dX10_isWord_30 ci_0 ?_
        refine go_istore_n hc (lv1 := [.ref 81, .ref (200 + sx0), .int (1 : Int32), .int (0 : Int32)]) dX10_isWord_31 rfl hL (by decide) (fun _ _ e => by cases e; rfl) rfl ?_
        exact rX10_isWord_b32 hc ho hL hN hr hE hz oF sx0 (1 : Int32) (0 : Int32) _ hsx0 h
      · rw [if_neg hh] at h
        refine go_iconst hc dX10_isWord_26 ci_0 ?_
        exact go_zret hc (oend_i h hE) hr rfl dX10_isWord_27
def fX10_wrong (x0 : Int32) (x1 : Int32) (σ : OM) : Option OM :=
  if (mI σ 81 13) = 0 then (
   some (sI (sI (sI σ 81 13 (1 : Int32)) 81 9 x0) 81 10 x1))
  else (some σ)
set_option maxRecDepth 100000 in
set_option maxHeartbeats 4000000 in
theorem rX10_wrong {N : Nat} {x0 : Int32} {x1 : Int32} {σ : OM} {σ0 : OM} (h : fX10_wrong x0 x1 σ = some σ0) (hN0 : 0 ≤ N) : oEv N MX10_wrong [.ref 81, .int x0, .int x1] σ (none) σ0 := by
  refine oEv_of (lv := [.ref 81, .int x0, .int x1]) (by decide +kernel) (fun g q hq => hq) (fun g => Nat.le_of_ble_eq_true rfl) ?_
  intro K hc ho hL hN1 hr hE hz
  have hN : 0 ≤ kN K := by rw [hN1]; exact hN0
  unfold fX10_wrong at h
  refine go_aload_n hc dX10_wrong_0 rfl rfl ?_
  refine go_getI hc ho flX10_89 dX10_wrong_1 ok_81 ?_
  refine go_if_eq (tgt := 8) hc dX10_wrong_4 rfl (fun hh => ?_) (fun hh => ?_)
  · rw [if_pos hh] at h
    refine go_aload_n hc dX10_wrong_8 rfl rfl ?_
    refine go_iconst hc dX10_wrong_9 ci_1 ?_
    refine go_putI hc ho fpX10_89 dX10_wrong_10 ok_81 (fun _ => rfl) (fun _ => rfl) ?_
    refine go_aload_n hc dX10_wrong_13 rfl rfl ?_
    refine go_iload_n hc dX10_wrong_14 rfl rfl ?_
    refine go_putI hc ho fpX10_93 dX10_wrong_15 ok_81 (fun g => oni g _) (fun _ => rfl) ?_
    refine go_aload_n hc dX10_wrong_18 rfl rfl ?_
    refine go_iload_n hc dX10_wrong_19 rfl rfl ?_
    refine go_putI hc ho fpX10_13 dX10_wrong_20 ok_81 (fun g => oni g _) (fun _ => rfl) ?_
    exact go_vret hc (oend_v h hE) hr dX10_wrong_23
  · rw [if_neg hh] at h
    exact go_vret hc (oend_v h hE) hr dX10_wrong_7
def fX10_takesWord (sx0 : Nat) (σ : OM) : Option (Int32 × OM) :=
  obi (fX10_isWord sx0 σ) (fun r1 σ2 =>
  if r1 = 0 then (
   some ((0 : Int32), σ2))
  else (obv (fX10_pass σ2) (fun σ5 =>
  some ((1 : Int32), σ5))))
set_option maxRecDepth 100000 in
set_option maxHeartbeats 4000000 in
theorem rX10_takesWord {N : Nat} {sx0 : Nat} {σ : OM} {r0 : Int32} {σ0 : OM} (hsx0 : sx0 < 23) (h : fX10_takesWord sx0 σ = some (r0, σ0)) (hN0 : 5 ≤ N) : oEv N MX10_takesWord [.ref 81, .ref (200 + sx0)] σ (some (.int r0)) σ0 := by
  refine oEv_of (lv := [.ref 81, .ref (200 + sx0)]) (by decide +kernel) (fun g q hq => hq) (fun g => Nat.le_of_ble_eq_true rfl) ?_
  intro K hc ho hL hN1 hr hE hz
  have hN : 5 ≤ kN K := by rw [hN1]; exact hN0
  unfold fX10_takesWord at h
  refine go_aload_n hc dX10_takesWord_0 rfl rfl ?_
  refine go_aload_n hc dX10_takesWord_1 rfl rfl ?_
  obtain ⟨r1, σ2, hf3, h⟩ := obi_some h
  refine go_callVi hc ho cmX10_isWord mlX10_106 dX10_takesWord_2 ok_81 (As := [.ref (200 + sx0)]) (rest := []) (rX10_isWord (N := 4) hsx0 hf3 (Nat.le_refl _)) rfl (Nat.le_trans (Nat.le_of_ble_eq_true rfl) hN) rfl (Nat.le_of_ble_eq_true rfl) (Or.inl hz) ?_
  refine go_if_ne (tgt := 10) hc dX10_takesWord_5 rfl (fun hh => ?_) (fun hh => ?_)
  · rw [if_neg hh] at h
    refine go_aload_n hc dX10_takesWord_10 rfl rfl ?_
    obtain ⟨σ5, hf6, h⟩ := obv_some h
    refine go_callVv hc ho cmX10_pass mlX10_110 dX10_takesWord_11 ok_81 (As := []) (rest := []) (rX10_pass (N := 1) hf6 (Nat.le_refl _)) rfl (Nat.le_trans (Nat.le_of_ble_eq_true rfl) hN) rfl (Nat.le_of_ble_eq_true rfl) (Or.inl hz) ?_
    refine go_iconst hc dX10_takesWord_14 ci_1 ?_
    exact go_zret hc (oend_i h hE) hr rfl dX10_takesWord_15
  · rw [if_pos hh] at h
    refine go_iconst hc dX10_takesWord_8 ci_0 ?_
    exact go_zret hc (oend_i h hE) hr rfl dX10_takesWord_9
def fX10_must (sx0 : Nat) (σ : OM) : Option OM :=
  if (mI σ 81 13) = 0 then (
   obi (fX10_takesWord sx0 σ) (fun r1 σ2 =>
   if r1 = 0 then (
    obv (fX10_wrong (1 : Int32) (mI σ2 81 4) σ2) (fun σ5 =>
    some σ5))
   else (some σ2)))
  else (some σ)
set_option maxRecDepth 100000 in
set_option maxHeartbeats 4000000 in
theorem rX10_must {N : Nat} {sx0 : Nat} {σ : OM} {σ0 : OM} (hsx0 : sx0 < 23) (h : fX10_must sx0 σ = some σ0) (hN0 : 6 ≤ N) : oEv N MX10_must [.ref 81, .ref (200 + sx0)] σ (none) σ0 := by
  refine oEv_of (lv := [.ref 81, .ref (200 + sx0)]) (by decide +kernel) (fun g q hq => hq) (fun g => Nat.le_of_ble_eq_true rfl) ?_
  intro K hc ho hL hN1 hr hE hz
  have hN : 6 ≤ kN K := by rw [hN1]; exact hN0
  unfold fX10_must at h
  refine go_aload_n hc dX10_must_0 rfl rfl ?_
  refine go_getI hc ho flX10_89 dX10_must_1 ok_81 ?_
  refine go_if_ne (tgt := 24) hc dX10_must_4 rfl (fun hh => ?_) (fun hh => ?_)
  · rw [if_neg hh] at h
    exact go_vret hc (oend_v h hE) hr dX10_must_24
  · rw [if_pos hh] at h
    refine go_aload_n hc dX10_must_7 rfl rfl ?_
    refine go_aload_n hc dX10_must_8 rfl rfl ?_
    obtain ⟨r1, σ2, hf3, h⟩ := obi_some h
    refine go_callVi hc ho cmX10_takesWord mlX10_113 dX10_must_9 ok_81 (As := [.ref (200 + sx0)]) (rest := []) (rX10_takesWord (N := 5) hsx0 hf3 (Nat.le_refl _)) rfl (Nat.le_trans (Nat.le_of_ble_eq_true rfl) hN) rfl (Nat.le_of_ble_eq_true rfl) (Or.inl hz) ?_
    refine go_if_ne (tgt := 24) hc dX10_must_12 rfl (fun hh => ?_) (fun hh => ?_)
    · rw [if_neg hh] at h
      exact go_vret hc (oend_v h hE) hr dX10_must_24
    · rw [if_pos hh] at h
      refine go_aload_n hc dX10_must_15 rfl rfl ?_
      refine go_iconst hc dX10_must_16 ci_1 ?_
      refine go_aload_n hc dX10_must_17 rfl rfl ?_
      refine go_getI hc ho flX10_70 dX10_must_18 ok_81 ?_
      obtain ⟨σ5, hf6, h⟩ := obv_some h
      refine go_callVv hc ho cmX10_wrong mlX10_116 dX10_must_21 ok_81 (As := [.int (1 : Int32), .int (mI σ2 81 4)]) (rest := []) (rX10_wrong (N := 0) hf6 (Nat.le_refl _)) rfl (Nat.le_trans (Nat.le_of_ble_eq_true rfl) hN) rfl (Nat.le_of_ble_eq_true rfl) (Or.inl hz) ?_
      exact go_vret hc (oend_v h hE) hr dX10_must_24
def fX10_numberHere (x0 : Int32) (x1 : Int32) (σ : OM) : Option (Int32 × OM) :=
  if (mI σ 81 13) = 0 then (
   if (mI σ 81 6) = (3 : Int32) then (
    obi (fX10_in (mI σ 81 7) x0 x1 σ) (fun r1 σ2 =>
    if r1 = 0 then (
     obv (fX10_wrong (4 : Int32) (mI σ2 81 4) σ2) (fun σ5 =>
     if (mI σ5 81 13) = 0 then (
      some ((mI σ5 81 7), σ5))
     else (some (x0, σ5))))
    else (if (mI σ2 81 13) = 0 then (
     some ((mI σ2 81 7), σ2))
    else (some (x0, σ2)))))
   else (obv (fX10_wrong (1 : Int32) (mI σ 81 4) σ) (fun σ8 =>
   if (mI σ8 81 13) = 0 then (
    some ((mI σ8 81 7), σ8))
   else (some (x0, σ8)))))
  else (some (x0, σ))
set_option maxRecDepth 100000 in
set_option maxHeartbeats 4000000 in
theorem rX10_numberHere {N : Nat} {x0 : Int32} {x1 : Int32} {σ : OM} {r0 : Int32} {σ0 : OM} (h : fX10_numberHere x0 x1 σ = some (r0, σ0)) (hN0 : 1 ≤ N) : oEv N MX10_numberHere [.ref 81, .int x0, .int x1] σ (some (.int r0)) σ0 := by
  refine oEv_of (lv := [.ref 81, .int x0, .int x1]) (by decide +kernel) (fun g q hq => hq) (fun g => Nat.le_of_ble_eq_true rfl) ?_
  intro K hc ho hL hN1 hr hE hz
  have hN : 1 ≤ kN K := by rw [hN1]; exact hN0
  unfold fX10_numberHere at h
  refine go_aload_n hc dX10_numberHere_0 rfl rfl ?_
  refine go_getI hc ho flX10_89 dX10_numberHere_1 ok_81 ?_
  refine go_if_eq (tgt := 9) hc dX10_numberHere_4 rfl (fun hh => ?_) (fun hh => ?_)
  · rw [if_pos hh] at h
    refine go_aload_n hc dX10_numberHere_9 rfl rfl ?_
    refine go_getI hc ho flX10_79 dX10_numberHere_10 ok_81 ?_
    refine go_iconst hc dX10_numberHere_13 ci_3 ?_
    refine go_icmp_eq (tgt := 29) hc dX10_numberHere_14 rfl (fun hh => ?_) (fun hh => ?_)
    · rw [if_pos hh] at h
      refine go_aload_n hc dX10_numberHere_29 rfl rfl ?_
      refine go_getI hc ho flX10_76 dX10_numberHere_30 ok_81 ?_
      refine go_iload_n hc dX10_numberHere_33 rfl rfl ?_
      refine go_iload_n hc dX10_numberHere_34 rfl rfl ?_
      obtain ⟨r1, σ2, hf3, h⟩ := obi_some h
      refine go_callSi hc ho cmX10_in mlX10_156 dX10_numberHere_35 (As := [.int (mI σ 81 7), .int x0, .int x1]) (rest := []) (rX10_in (N := 0) hf3 (Nat.le_refl _)) rfl (Nat.le_trans (Nat.le_of_ble_eq_true rfl) hN) rfl (Nat.le_of_ble_eq_true rfl) (Or.inl hz) ?_
      refine go_if_ne (tgt := 50) hc dX10_numberHere_38 rfl (fun hh => ?_) (fun hh => ?_)
      · rw [if_neg hh] at h
        refine go_aload_n hc dX10_numberHere_50 rfl rfl ?_
        refine go_getI hc ho flX10_89 dX10_numberHere_51 ok_81 ?_
        refine go_if_eq (tgt := 61) hc dX10_numberHere_54 rfl (fun hh => ?_) (fun hh => ?_)
        · rw [if_pos hh] at h
          refine go_aload_n hc dX10_numberHere_61 rfl rfl ?_
          refine go_getI hc ho flX10_76 dX10_numberHere_62 ok_81 ?_
          exact go_iret hc (oend_i h hE) hr dX10_numberHere_65
        · rw [if_neg hh] at h
          refine go_iload_n hc dX10_numberHere_57 rfl rfl ?_
          refine go_goto (tgt := 65) hc dX10_numberHere_58 rfl ?_
          exact go_iret hc (oend_i h hE) hr dX10_numberHere_65
      · rw [if_pos hh] at h
        refine go_aload_n hc dX10_numberHere_41 rfl rfl ?_
        refine go_iconst hc dX10_numberHere_42 ci_4 ?_
        refine go_aload_n hc dX10_numberHere_43 rfl rfl ?_
        refine go_getI hc ho flX10_70 dX10_numberHere_44 ok_81 ?_
        obtain ⟨σ5, hf6, h⟩ := obv_some h
        refine go_callVv hc ho cmX10_wrong mlX10_116 dX10_numberHere_47 ok_81 (As := [.int (4 : Int32), .int (mI σ2 81 4)]) (rest := []) (rX10_wrong (N := 0) hf6 (Nat.le_refl _)) rfl (Nat.le_trans (Nat.le_of_ble_eq_true rfl) hN) rfl (Nat.le_of_ble_eq_true rfl) (Or.inl hz) ?_
        refine go_aload_n hc dX10_numberHere_50 rfl rfl ?_
        refine go_getI hc ho flX10_89 dX10_numberHere_51 ok_81 ?_
        refine go_if_eq (tgt := 61) hc dX10_numberHere_54 rfl (fun hh => ?_) (fun hh => ?_)
        · rw [if_pos hh] at h
          refine go_aload_n hc dX10_numberHere_61 rfl rfl ?_
          refine go_getI hc ho flX10_76 dX10_numberHere_62 ok_81 ?_
          exact go_iret hc (oend_i h hE) hr dX10_numberHere_65
        · rw [if_neg hh] at h
          refine go_iload_n hc dX10_numberHere_57 rfl rfl ?_
          refine go_goto (tgt := 65) hc dX10_numberHere_58 rfl ?_
          exact go_iret hc (oend_i h hE) hr dX10_numberHere_65
    · rw [if_neg hh] at h
      refine go_aload_n hc dX10_numberHere_17 rfl rfl ?_
      refine go_iconst hc dX10_numberHere_18 ci_1 ?_
      refine go_aload_n hc dX10_numberHere_19 rfl rfl ?_
      refine go_getI hc ho flX10_70 dX10_numberHere_20 ok_81 ?_
      obtain ⟨σ8, hf9, h⟩ := obv_some h
      refine go_callVv hc ho cmX10_wrong mlX10_116 dX10_numberHere_23 ok_81 (As := [.int (1 : Int32), .int (mI σ 81 4)]) (rest := []) (rX10_wrong (N := 0) hf9 (Nat.le_refl _)) rfl (Nat.le_trans (Nat.le_of_ble_eq_true rfl) hN) rfl (Nat.le_of_ble_eq_true rfl) (Or.inl hz) ?_
      refine go_goto (tgt := 50) hc dX10_numberHere_26 rfl ?_
      refine go_aload_n hc dX10_numberHere_50 rfl rfl ?_
      refine go_getI hc ho flX10_89 dX10_numberHere_51 ok_81 ?_
      refine go_if_eq (tgt := 61) hc dX10_numberHere_54 rfl (fun hh => ?_) (fun hh => ?_)
      · rw [if_pos hh] at h
        refine go_aload_n hc dX10_numberHere_61 rfl rfl ?_
        refine go_getI hc ho flX10_76 dX10_numberHere_62 ok_81 ?_
        exact go_iret hc (oend_i h hE) hr dX10_numberHere_65
      · rw [if_neg hh] at h
        refine go_iload_n hc dX10_numberHere_57 rfl rfl ?_
        refine go_goto (tgt := 65) hc dX10_numberHere_58 rfl ?_
        exact go_iret hc (oend_i h hE) hr dX10_numberHere_65
  · rw [if_neg hh] at h
    refine go_iload_n hc dX10_numberHere_7 rfl rfl ?_
    exact go_iret hc (oend_i h hE) hr dX10_numberHere_8
def fX10_number (x0 : Int32) (x1 : Int32) (σ : OM) : Option (Int32 × OM) :=
  obi (fX10_numberHere x0 x1 σ) (fun r1 σ2 =>
  if (mI σ2 81 13) = 0 then (
   obv (fX10_pass σ2) (fun σ5 =>
   some (r1, σ5)))
  else (some (r1, σ2)))
set_option maxRecDepth 100000 in
set_option maxHeartbeats 4000000 in
theorem rX10_number {N : Nat} {x0 : Int32} {x1 : Int32} {σ : OM} {r0 : Int32} {σ0 : OM} (h : fX10_number x0 x1 σ = some (r0, σ0)) (hN0 : 2 ≤ N) : oEv N MX10_number [.ref 81, .int x0, .int x1] σ (some (.int r0)) σ0 := by
  refine oEv_of (lv := [.ref 81, .int x0, .int x1, .null]) (by decide +kernel) (fun g q hq => hq) (fun g => Nat.le_of_ble_eq_true rfl) ?_
  intro K hc ho hL hN1 hr hE hz
  have hN : 2 ≤ kN K := by rw [hN1]; exact hN0
  unfold fX10_number at h
  refine go_aload_n hc dX10_number_0 rfl rfl ?_
  refine go_iload_n hc dX10_number_1 rfl rfl ?_
  refine go_iload_n hc dX10_number_2 rfl rfl ?_
  obtain ⟨r1, σ2, hf3, h⟩ := obi_some h
  refine go_callVi hc ho cmX10_numberHere mlX10_164 dX10_number_3 ok_81 (As := [.int x0, .int x1]) (rest := []) (rX10_numberHere (N := 1) hf3 (Nat.le_refl _)) rfl (Nat.le_trans (Nat.le_of_ble_eq_true rfl) hN) rfl (Nat.le_of_ble_eq_true rfl) (Or.inl hz) ?_
  refine go_istore_n hc (lv1 := [.ref 81, .int x0, .int x1, .int r1]) dX10_number_6 rfl hL (by decide) (fun _ _ e => by cases e; rfl) rfl ?_
  refine go_aload_n hc dX10_number_7 rfl rfl ?_
  refine go_getI hc ho flX10_89 dX10_number_8 ok_81 ?_
  refine go_if_ne (tgt := 18) hc dX10_number_11 rfl (fun hh => ?_) (fun hh => ?_)
  · rw [if_neg hh] at h
    refine go_iload_n hc dX10_number_18 rfl rfl ?_
    exact go_iret hc (oend_i h hE) hr dX10_number_19
  · rw [if_pos hh] at h
    refine go_aload_n hc dX10_number_14 rfl rfl ?_
    obtain ⟨σ5, hf6, h⟩ := obv_some h
    refine go_callVv hc ho cmX10_pass mlX10_110 dX10_number_15 ok_81 (As := []) (rest := []) (rX10_pass (N := 1) hf6 (Nat.le_refl _)) rfl (Nat.le_trans (Nat.le_of_ble_eq_true rfl) hN) rfl (Nat.le_of_ble_eq_true rfl) (Or.inl hz) ?_
    refine go_iload_n hc dX10_number_18 rfl rfl ?_
    exact go_iret hc (oend_i h hE) hr dX10_number_19
def fX10_after (sx0 : Nat) (x1 : Int32) (x2 : Int32) (σ : OM) : Option (Int32 × OM) :=
  obv (fX10_must sx0 σ) (fun σ2 =>
  obi (fX10_number x1 x2 σ2) (fun r4 σ5 =>
  some (r4, σ5)))
set_option maxRecDepth 100000 in
set_option maxHeartbeats 4000000 in
theorem rX10_after {N : Nat} {sx0 : Nat} {x1 : Int32} {x2 : Int32} {σ : OM} {r0 : Int32} {σ0 : OM} (hsx0 : sx0 < 23) (h : fX10_after sx0 x1 x2 σ = some (r0, σ0)) (hN0 : 7 ≤ N) : oEv N MX10_after [.ref 81, .ref (200 + sx0), .int x1, .int x2] σ (some (.int r0)) σ0 := by
  refine oEv_of (lv := [.ref 81, .ref (200 + sx0), .int x1, .int x2]) (by decide +kernel) (fun g q hq => hq) (fun g => Nat.le_of_ble_eq_true rfl) ?_
  intro K hc ho hL hN1 hr hE hz
  have hN : 7 ≤ kN K := by rw [hN1]; exact hN0
  unfold fX10_after at h
  refine go_aload_n hc dX10_after_0 rfl rfl ?_
  refine go_aload_n hc dX10_after_1 rfl rfl ?_
  obtain ⟨σ2, hf3, h⟩ := obv_some h
  refine go_callVv hc ho cmX10_must mlX10_167 dX10_after_2 ok_81 (As := [.ref (200 + sx0)]) (rest := []) (rX10_must (N := 6) hsx0 hf3 (Nat.le_refl _)) rfl (Nat.le_trans (Nat.le_of_ble_eq_true rfl) hN) rfl (Nat.le_of_ble_eq_true rfl) (Or.inl hz) ?_
  refine go_aload_n hc dX10_after_5 rfl rfl ?_
  refine go_iload_n hc dX10_after_6 rfl rfl ?_
  refine go_iload_n hc dX10_after_7 rfl rfl ?_
  obtain ⟨r4, σ5, hf6, h⟩ := obi_some h
  refine go_callVi hc ho cmX10_number mlX10_171 dX10_after_8 ok_81 (As := [.int x1, .int x2]) (rest := []) (rX10_number (N := 2) hf6 (Nat.le_refl _)) rfl (Nat.le_trans (Nat.le_of_ble_eq_true rfl) hN) rfl (Nat.le_of_ble_eq_true rfl) (Or.inl hz) ?_
  exact go_iret hc (oend_i h hE) hr dX10_after_11
def fX10_wellLine_b20 (σ : OM) : Option OM :=
  if (mI σ 81 13) = 0 then (
   obv (fX10_pass σ) (fun σ2 =>
   obi (fX10_after 1 (0 : Int32) (999 : Int32) σ2) (fun r4 σ5 =>
   if (mI (sI σ5 85 0 r4) 81 13) = 0 then (
    some (sI (sI σ5 85 0 r4) 85 9 (1 : Int32)))
   else (some (sI σ5 85 0 r4)))))
  else (some σ)
set_option maxRecDepth 100000 in
set_option maxHeartbeats 4000000 in
theorem rX10_wellLine_b20 {K : OK} (hc : kcc K = cX10_wellLine) (ho : kow K = RX10) (hL : knL K = 1) (hN : 8 ≤ kN K) (hr : (kme K).sig.returnType = none) {σ0 : OM} (hE : oEnd K (none) σ0) (hz : kz K = 0) {σ : OM} (h : fX10_wellLine_b20 σ = some σ0) : Go K 20 [.ref 81] [] σ := by
  unfold fX10_wellLine_b20 at h
  refine go_aload_n hc dX10_wellLine_20 rfl rfl ?_
  refine go_getI hc ho flX10_89 dX10_wellLine_21 ok_81 ?_
  refine go_if_eq (tgt := 28) hc dX10_wellLine_24 rfl (fun hh => ?_) (fun hh => ?_)
  · rw [if_pos hh] at h
    refine go_aload_n hc dX10_wellLine_28 rfl rfl ?_
    obtain ⟨σ2, hf3, h⟩ := obv_some h
    refine go_callVv hc ho cmX10_pass mlX10_110 dX10_wellLine_29 ok_81 (As := []) (rest := []) (rX10_pass (N := 1) hf3 (Nat.le_refl _)) rfl (Nat.le_trans (Nat.le_of_ble_eq_true rfl) hN) rfl (Nat.le_of_ble_eq_true rfl) (Or.inl hz) ?_
    refine go_aload_n hc dX10_wellLine_32 rfl rfl ?_
    refine go_getC (b := 85) rfl hc ho flX10_23 dX10_wellLine_33 ok_81 ?_
    refine go_iconst hc dX10_wellLine_36 ci_0 ?_
    refine go_aload_n hc dX10_wellLine_37 rfl rfl ?_
    refine go_strW hc ho os_1 dX10_wellLine_38 ?_
    refine go_iconst hc dX10_wellLine_41 ci_0 ?_
    refine go_sipush hc dX10_wellLine_42 cs_999 ?_
    obtain ⟨r4, σ5, hf6, h⟩ := obi_some h
    refine go_callVi hc ho cmX10_after mlX10_261 dX10_wellLine_45 ok_81 (As := [.ref (200 + 1), .int (0 : Int32), .int (999 : Int32)]) (rest := [.int (0 : Int32), .ref 85]) (rX10_after (N := 7) (by decide) hf6 (Nat.le_refl _)) rfl (Nat.le_trans (Nat.le_of_ble_eq_true rfl) hN) rfl (Nat.le_of_ble_eq_true rfl) (Or.inl hz) ?_
    refine go_iast hc dX10_wellLine_48 ok_85 ol_85 (by decide +kernel) cn_0 ?_
    refine go_aload_n hc dX10_wellLine_49 rfl rfl ?_
    refine go_getI hc ho flX10_89 dX10_wellLine_50 ok_81 ?_
    refine go_if_ne (tgt := 64) hc dX10_wellLine_53 rfl (fun hh => ?_) (fun hh => ?_)
    · rw [if_neg hh] at h
      exact go_vret hc (oend_v h hE) hr dX10_wellLine_64
    · rw [if_pos hh] at h
      refine go_aload_n hc dX10_wellLine_56 rfl rfl ?_
      refine go_getC (b := 85) rfl hc ho flX10_23 dX10_wellLine_57 ok_81 ?_
      refine go_bipush hc dX10_wellLine_60 cb_9 ?_
      refine go_iconst hc dX10_wellLine_62 ci_1 ?_
      refine go_iast hc dX10_wellLine_63 ok_85 ol_85 (by decide +kernel) cn_9 ?_
      exact go_vret hc (oend_v h hE) hr dX10_wellLine_64
  · rw [if_neg hh] at h
    exact go_vret hc (oend_v h hE) hr dX10_wellLine_27
def fX10_wellLine (σ : OM) : Option OM :=
  if (mI σ 85 9) = (1 : Int32) then (
   obv (fX10_wrong (3 : Int32) (mI σ 81 4) σ) (fun σ2 =>
   fX10_wellLine_b20 σ2))
  else (fX10_wellLine_b20 σ)
set_option maxRecDepth 100000 in
set_option maxHeartbeats 4000000 in
theorem rX10_wellLine {N : Nat} {σ : OM} {σ0 : OM} (h : fX10_wellLine σ = some σ0) (hN0 : 8 ≤ N) : oEv N MX10_wellLine [.ref 81] σ (none) σ0 := by
  refine oEv_of (lv := [.ref 81]) (by decide +kernel) (fun g q hq => hq) (fun g => Nat.le_of_ble_eq_true rfl) ?_
  intro K hc ho hL hN1 hr hE hz
  have hN : 8 ≤ kN K := by rw [hN1]; exact hN0
  unfold fX10_wellLine at h
  refine go_aload_n hc dX10_wellLine_0 rfl rfl ?_
  refine go_getC (b := 85) rfl hc ho flX10_23 dX10_wellLine_1 ok_81 ?_
  refine go_bipush hc dX10_wellLine_4 cb_9 ?_
  refine go_iald hc dX10_wellLine_6 ok_85 ol_85 (by decide +kernel) cn_9 ?_
  refine go_iconst hc dX10_wellLine_7 ci_1 ?_
  refine go_icmp_ne (tgt := 20) hc dX10_wellLine_8 rfl (fun hh => ?_) (fun hh => ?_)
  · rw [if_neg hh] at h
    exact rX10_wellLine_b20 hc ho hL hN hr hE hz h
  · rw [if_pos hh] at h
    refine go_aload_n hc dX10_wellLine_11 rfl rfl ?_
    refine go_iconst hc dX10_wellLine_12 ci_3 ?_
    refine go_aload_n hc dX10_wellLine_13 rfl rfl ?_
    refine go_getI hc ho flX10_70 dX10_wellLine_14 ok_81 ?_
    obtain ⟨σ2, hf3, h⟩ := obv_some h
    refine go_callVv hc ho cmX10_wrong mlX10_116 dX10_wellLine_17 ok_81 (As := [.int (3 : Int32), .int (mI σ 81 4)]) (rest := []) (rX10_wrong (N := 0) hf3 (Nat.le_refl _)) rfl (Nat.le_trans (Nat.le_of_ble_eq_true rfl) hN) rfl (Nat.le_of_ble_eq_true rfl) (Or.inl hz) ?_
    exact rX10_wellLine_b20 hc ho hL hN hr hE hz h
def fX10_begins_b23 (σ : OM) : Option (Int32 × OM) :=
  if (mI σ 85 9) = 0 then (
   obv (fX10_wrong (6 : Int32) (mI σ 81 4) σ) (fun σ5 =>
   if (mI σ5 81 13) = 0 then (
    obv (fX10_pass σ5) (fun σ8 =>
    some ((1 : Int32), σ8)))
   else (some ((1 : Int32), σ5))))
  else (if (mI σ 81 13) = 0 then (
   obv (fX10_pass σ) (fun σ2 =>
   some ((1 : Int32), σ2)))
  else (some ((1 : Int32), σ)))
set_option maxRecDepth 100000 in
set_option maxHeartbeats 4000000 in
theorem rX10_begins_b23 {K : OK} (hc : kcc K = cX10_begins) (ho : kow K = RX10) (hL : knL K = 3) (hN : 5 ≤ kN K) (hr : (kme K).sig.returnType = (some .boolean)) {r0 : Int32} {σ0 : OM} (hE : oEnd K (some (.int r0)) σ0) (hz : kz K = 0) {σ : OM} (h : fX10_begins_b23 σ = some (r0, σ0)) : Go K 23 [.ref 81, .null, .null] [] σ := by
  unfold fX10_begins_b23 at h
  refine go_aload_n hc dX10_begins_23 rfl rfl ?_
  refine go_getC (b := 85) rfl hc ho flX10_23 dX10_begins_24 ok_81 ?_
  refine go_bipush hc dX10_begins_27 cb_9 ?_
  refine go_iald hc dX10_begins_29 ok_85 ol_85 (by decide +kernel) cn_9 ?_
  refine go_if_ne (tgt := 43) hc dX10_begins_30 rfl (fun hh => ?_) (fun hh => ?_)
  · rw [if_neg hh] at h
    refine go_aload_n hc dX10_begins_43 rfl rfl ?_
    refine go_getI hc ho flX10_89 dX10_begins_44 ok_81 ?_
    refine go_if_ne (tgt := 54) hc dX10_begins_47 rfl (fun hh => ?_) (fun hh => ?_)
    · rw [if_neg hh] at h
      refine go_iconst hc dX10_begins_54 ci_1 ?_
      exact go_zret hc (oend_i h hE) hr rfl dX10_begins_55
    · rw [if_pos hh] at h
      refine go_aload_n hc dX10_begins_50 rfl rfl ?_
      obtain ⟨σ2, hf3, h⟩ := obv_some h
      refine go_callVv hc ho cmX10_pass mlX10_110 dX10_begins_51 ok_81 (As := []) (rest := []) (rX10_pass (N := 1) hf3 (Nat.le_refl _)) rfl (Nat.le_trans (Nat.le_of_ble_eq_true rfl) hN) rfl (Nat.le_of_ble_eq_true rfl) (Or.inl hz) ?_
      refine go_iconst hc dX10_begins_54 ci_1 ?_
      exact go_zret hc (oend_i h hE) hr rfl dX10_begins_55
  · rw [if_pos hh] at h
    refine go_aload_n hc dX10_begins_33 rfl rfl ?_
    refine go_bipush hc dX10_begins_34 cb_6 ?_
    refine go_aload_n hc dX10_begins_36 rfl rfl ?_
    refine go_getI hc ho flX10_70 dX10_begins_37 ok_81 ?_
    obtain ⟨σ5, hf6, h⟩ := obv_some h
    refine go_callVv hc ho cmX10_wrong mlX10_116 dX10_begins_40 ok_81 (As := [.int (6 : Int32), .int (mI σ 81 4)]) (rest := []) (rX10_wrong (N := 0) hf6 (Nat.le_refl _)) rfl (Nat.le_trans (Nat.le_of_ble_eq_true rfl) hN) rfl (Nat.le_of_ble_eq_true rfl) (Or.inl hz) ?_
    refine go_aload_n hc dX10_begins_43 rfl rfl ?_
    refine go_getI hc ho flX10_89 dX10_begins_44 ok_81 ?_
    refine go_if_ne (tgt := 54) hc dX10_begins_47 rfl (fun hh => ?_) (fun hh => ?_)
    · rw [if_neg hh] at h
      refine go_iconst hc dX10_begins_54 ci_1 ?_
      exact go_zret hc (oend_i h hE) hr rfl dX10_begins_55
    · rw [if_pos hh] at h
      refine go_aload_n hc dX10_begins_50 rfl rfl ?_
      obtain ⟨σ8, hf9, h⟩ := obv_some h
      refine go_callVv hc ho cmX10_pass mlX10_110 dX10_begins_51 ok_81 (As := []) (rest := []) (rX10_pass (N := 1) hf9 (Nat.le_refl _)) rfl (Nat.le_trans (Nat.le_of_ble_eq_true rfl) hN) rfl (Nat.le_of_ble_eq_true rfl) (Or.inl hz) ?_
      refine go_iconst hc dX10_begins_54 ci_1 ?_
      exact go_zret hc (oend_i h hE) hr rfl dX10_begins_55
def fX10_begins (sx0 : Nat) (x1 : Int32) (σ : OM) : Option (Int32 × OM) :=
  obi (fX10_isWord sx0 σ) (fun r1 σ2 =>
  if r1 = 0 then (
   some ((0 : Int32), σ2))
  else (if x1 = 0 then (
   obv (fX10_wrong (5 : Int32) (mI σ2 81 4) σ2) (fun σ5 =>
   fX10_begins_b23 σ5))
  else (fX10_begins_b23 σ2)))
set_option maxRecDepth 100000 in
set_option maxHeartbeats 4000000 in
theorem rX10_begins {N : Nat} {sx0 : Nat} {x1 : Int32} {σ : OM} {r0 : Int32} {σ0 : OM} (hsx0 : sx0 < 23) (h : fX10_begins sx0 x1 σ = some (r0, σ0)) (hN0 : 5 ≤ N) : oEv N MX10_begins [.ref 81, .ref (200 + sx0), .int x1] σ (some (.int r0)) σ0 := by
  refine oEv_of (lv := [.ref 81, .ref (200 + sx0), .int x1]) (by decide +kernel) (fun g q hq => hq) (fun g => Nat.le_of_ble_eq_true rfl) ?_
  intro K hc ho hL hN1 hr hE hz
  have hN : 5 ≤ kN K := by rw [hN1]; exact hN0
  unfold fX10_begins at h
  refine go_aload_n hc dX10_begins_0 rfl rfl ?_
  refine go_aload_n hc dX10_begins_1 rfl rfl ?_
  obtain ⟨r1, σ2, hf3, h⟩ := obi_some h
  refine go_callVi hc ho cmX10_isWord mlX10_106 dX10_begins_2 ok_81 (As := [.ref (200 + sx0)]) (rest := []) (rX10_isWord (N := 4) hsx0 hf3 (Nat.le_refl _)) rfl (Nat.le_trans (Nat.le_of_ble_eq_true rfl) hN) rfl (Nat.le_of_ble_eq_true rfl) (Or.inl hz) ?_
  refine go_if_ne (tgt := 10) hc dX10_begins_5 rfl (fun hh => ?_) (fun hh => ?_)
  · rw [if_neg hh] at h
    refine go_iload_n hc dX10_begins_10 rfl rfl ?_
    refine go_if_ne (tgt := 23) hc dX10_begins_11 rfl (fun hh => ?_) (fun hh => ?_)
    · rw [if_neg hh] at h
      refine go_mask [true, false, false] (lv1 := [.ref 81, .null, .null]) rfl ?_
      exact rX10_begins_b23 hc ho hL hN hr hE hz h
    · rw [if_pos hh] at h
      refine go_aload_n hc dX10_begins_14 rfl rfl ?_
      refine go_iconst hc dX10_begins_15 ci_5 ?_
      refine go_aload_n hc dX10_begins_16 rfl rfl ?_
      refine go_getI hc ho flX10_70 dX10_begins_17 ok_81 ?_
      obtain ⟨σ5, hf6, h⟩ := obv_some h
      refine go_callVv hc ho cmX10_wrong mlX10_116 dX10_begins_20 ok_81 (As := [.int (5 : Int32), .int (mI σ2 81 4)]) (rest := []) (rX10_wrong (N := 0) hf6 (Nat.le_refl _)) rfl (Nat.le_trans (Nat.le_of_ble_eq_true rfl) hN) rfl (Nat.le_of_ble_eq_true rfl) (Or.inl hz) ?_
      refine go_mask [true, false, false] (lv1 := [.ref 81, .null, .null]) rfl ?_
      exact rX10_begins_b23 hc ho hL hN hr hE hz h
  · rw [if_pos hh] at h
    refine go_iconst hc dX10_begins_8 ci_0 ?_
    exact go_zret hc (oend_i h hE) hr rfl dX10_begins_9
def fX10_mustName_b140 (k0 : Int32) (σ : OM) : Option OM :=
  if (mI σ 81 6) = (2 : Int32) then (
   if k0 = 0 then (
    some σ)
   else (obv (fX10_wrong (1 : Int32) (mI σ 81 4) σ) (fun σ5 =>
   some σ5)))
  else (obv (fX10_wrong (1 : Int32) (mI σ 81 4) σ) (fun σ2 =>
  some σ2))
set_option maxRecDepth 100000 in
set_option maxHeartbeats 4000000 in
theorem rX10_mustName_b140 {K : OK} (hc : kcc K = cX10_mustName) (ho : kow K = RX10) (hL : knL K = 2) (hN : 5 ≤ kN K) (hr : (kme K).sig.returnType = none) {σ0 : OM} (hE : oEnd K (none) σ0) (hz : kz K = 0) {k0 : Int32} {σ : OM} (h : fX10_mustName_b140 k0 σ = some σ0) : Go K 140 [.ref 81, .null] [.int k0] σ := by
  unfold fX10_mustName_b140 at h
  refine go_istore_n hc (lv1 := [.ref 81, .int k0]) dX10_mustName_140 rfl hL (by decide) (fun _ _ e => by cases e; rfl) rfl ?_
  refine go_aload_n hc dX10_mustName_141 rfl rfl ?_
  refine go_getI hc ho flX10_79 dX10_mustName_142 ok_81 ?_
  refine go_iconst hc dX10_mustName_145 ci_2 ?_
  refine go_icmp_ne (tgt := 153) hc dX10_mustName_146 rfl (fun hh => ?_) (fun hh => ?_)
  · rw [if_neg hh] at h
    refine go_aload_n hc dX10_mustName_153 rfl rfl ?_
    refine go_iconst hc dX10_mustName_154 ci_1 ?_
    refine go_aload_n hc dX10_mustName_155 rfl rfl ?_
    refine go_getI hc ho flX10_70 dX10_mustName_156 ok_81 ?_
    obtain ⟨σ2, hf3, h⟩ := obv_some h
    refine go_callVv hc ho cmX10_wrong mlX10_116 dX10_mustName_159 ok_81 (As := [.int (1 : Int32), .int (mI σ 81 4)]) (rest := []) (rX10_wrong (N := 0) hf3 (Nat.le_refl _)) rfl (Nat.le_trans (Nat.le_of_ble_eq_true rfl) hN) rfl (Nat.le_of_ble_eq_true rfl) (Or.inl hz) ?_
    exact go_vret hc (oend_v h hE) hr dX10_mustName_162
  · rw [if_pos hh] at h
    refine go_iload_n hc dX10_mustName_149 rfl rfl ?_
    refine go_if_eq (tgt := 162) hc dX10_mustName_150 rfl (fun hh => ?_) (fun hh => ?_)
    · rw [if_pos hh] at h
      exact go_vret hc (oend_v h hE) hr dX10_mustName_162
    · rw [if_neg hh] at h
      refine go_aload_n hc dX10_mustName_153 rfl rfl ?_
      refine go_iconst hc dX10_mustName_154 ci_1 ?_
      refine go_aload_n hc dX10_mustName_155 rfl rfl ?_
      refine go_getI hc ho flX10_70 dX10_mustName_156 ok_81 ?_
      obtain ⟨σ5, hf6, h⟩ := obv_some h
      refine go_callVv hc ho cmX10_wrong mlX10_116 dX10_mustName_159 ok_81 (As := [.int (1 : Int32), .int (mI σ 81 4)]) (rest := []) (rX10_wrong (N := 0) hf6 (Nat.le_refl _)) rfl (Nat.le_trans (Nat.le_of_ble_eq_true rfl) hN) rfl (Nat.le_of_ble_eq_true rfl) (Or.inl hz) ?_
      exact go_vret hc (oend_v h hE) hr dX10_mustName_162
def fX10_mustName (σ : OM) : Option OM :=
  obi (fX10_isWord 0 σ) (fun r1 σ2 =>
  if r1 = 0 then (
   obi (fX10_isWord 2 σ2) (fun r4 σ5 =>
   if r4 = 0 then (
    obi (fX10_isWord 3 σ5) (fun r7 σ8 =>
    if r7 = 0 then (
     obi (fX10_isWord 4 σ8) (fun r10 σ11 =>
     if r10 = 0 then (
      obi (fX10_isWord 5 σ11) (fun r13 σ14 =>
      if r13 = 0 then (
       obi (fX10_isWord 6 σ14) (fun r16 σ17 =>
       if r16 = 0 then (
        obi (fX10_isWord 7 σ17) (fun r19 σ20 =>
        if r19 = 0 then (
         obi (fX10_isWord 8 σ20) (fun r22 σ23 =>
         if r22 = 0 then (
          obi (fX10_isWord 9 σ23) (fun r25 σ26 =>
          if r25 = 0 then (
           obi (fX10_isWord 10 σ26) (fun r28 σ29 =>
           if r28 = 0 then (
            obi (fX10_isWord 11 σ29) (fun r31 σ32 =>
            if r31 = 0 then (
             obi (fX10_isWord 12 σ32) (fun r34 σ35 =>
             if r34 = 0 then (
              obi (fX10_isWord 13 σ35) (fun r37 σ38 =>
              if r37 = 0 then (
               obi (fX10_isWord 14 σ38) (fun r40 σ41 =>
               if r40 = 0 then (
                obi (fX10_isWord 15 σ41) (fun r43 σ44 =>
                if r43 = 0 then (
                 fX10_mustName_b140 (0 : Int32) σ44)
                else (fX10_mustName_b140 (1 : Int32) σ44)))
               else (fX10_mustName_b140 (1 : Int32) σ41)))
              else (fX10_mustName_b140 (1 : Int32) σ38)))
             else (fX10_mustName_b140 (1 : Int32) σ35)))
            else (fX10_mustName_b140 (1 : Int32) σ32)))
           else (fX10_mustName_b140 (1 : Int32) σ29)))
          else (fX10_mustName_b140 (1 : Int32) σ26)))
         else (fX10_mustName_b140 (1 : Int32) σ23)))
        else (fX10_mustName_b140 (1 : Int32) σ20)))
       else (fX10_mustName_b140 (1 : Int32) σ17)))
      else (fX10_mustName_b140 (1 : Int32) σ14)))
     else (fX10_mustName_b140 (1 : Int32) σ11)))
    else (fX10_mustName_b140 (1 : Int32) σ8)))
   else (fX10_mustName_b140 (1 : Int32) σ5)))
  else (fX10_mustName_b140 (1 : Int32) σ2))
set_option maxRecDepth 100000 in
set_option maxHeartbeats 4000000 in
theorem rX10_mustName {N : Nat} {σ : OM} {σ0 : OM} (h : fX10_mustName σ = some σ0) (hN0 : 5 ≤ N) : oEv N MX10_mustName [.ref 81] σ (none) σ0 := by
  refine oEv_of (lv := [.ref 81, .null]) (by decide +kernel) (fun g q hq => hq) (fun g => Nat.le_of_ble_eq_true rfl) ?_
  intro K hc ho hL hN1 hr hE hz
  have hN : 5 ≤ kN K := by rw [hN1]; exact hN0
  unfold fX10_mustName at h
  refine go_aload_n hc dX10_mustName_0 rfl rfl ?_
  refine go_str hc ho os_0 dX10_mustName_1 ?_
  obtain ⟨r1, σ2, hf3, h⟩ := obi_some h
  refine go_callVi hc ho cmX10_isWord mlX10_106 dX10_mustName_3 ok_81 (As := [.ref (200 + 0)]) (rest := []) (rX10_isWord (N := 4) (by decide) hf3 (Nat.le_refl _)) rfl (Nat.le_trans (Nat.le_of_ble_eq_true rfl) hN) rfl (Nat.le_of_ble_eq_true rfl) (Or.inl hz) ?_
  refine go_if_ne (tgt := 135) hc dX10_mustName_6 rfl (fun hh => ?_) (fun hh => ?_)
  · rw [if_neg hh] at h
    refine go_iconst hc dX10_mustName_135 ci_1 ?_
    refine go_goto (tgt := 140) hc dX10_mustName_136 rfl ?_
    exact rX10_mustName_b140 hc ho hL hN hr hE hz h
  · rw [if_pos hh] at h
    refine go_aload_n hc dX10_mustName_9 rfl rfl ?_
    refine go_str hc ho os_2 dX10_mustName_10 ?_
    obtain ⟨r4, σ5, hf6, h⟩ := obi_some h
    refine go_callVi hc ho cmX10_isWord mlX10_106 dX10_mustName_12 ok_81 (As := [.ref (200 + 2)]) (rest := []) (rX10_isWord (N := 4) (by decide) hf6 (Nat.le_refl _)) rfl (Nat.le_trans (Nat.le_of_ble_eq_true rfl) hN) rfl (Nat.le_of_ble_eq_true rfl) (Or.inl hz) ?_
    refine go_if_ne (tgt := 135) hc dX10_mustName_15 rfl (fun hh => ?_) (fun hh => ?_)
    · rw [if_neg hh] at h
      refine go_iconst hc dX10_mustName_135 ci_1 ?_
      refine go_goto (tgt := 140) hc dX10_mustName_136 rfl ?_
      exact rX10_mustName_b140 hc ho hL hN hr hE hz h
    · rw [if_pos hh] at h
      refine go_aload_n hc dX10_mustName_18 rfl rfl ?_
      refine go_str hc ho os_3 dX10_mustName_19 ?_
      obtain ⟨r7, σ8, hf9, h⟩ := obi_some h
      refine go_callVi hc ho cmX10_isWord mlX10_106 dX10_mustName_21 ok_81 (As := [.ref (200 + 3)]) (rest := []) (rX10_isWord (N := 4) (by decide) hf9 (Nat.le_refl _)) rfl (Nat.le_trans (Nat.le_of_ble_eq_true rfl) hN) rfl (Nat.le_of_ble_eq_true rfl) (Or.inl hz) ?_
      refine go_if_ne (tgt := 135) hc dX10_mustName_24 rfl (fun hh => ?_) (fun hh => ?_)
      · rw [if_neg hh] at h
        refine go_iconst hc dX10_mustName_135 ci_1 ?_
        refine go_goto (tgt := 140) hc dX10_mustName_136 rfl ?_
        exact rX10_mustName_b140 hc ho hL hN hr hE hz h
      · rw [if_pos hh] at h
        refine go_aload_n hc dX10_mustName_27 rfl rfl ?_
        refine go_str hc ho os_4 dX10_mustName_28 ?_
        obtain ⟨r10, σ11, hf12, h⟩ := obi_some h
        refine go_callVi hc ho cmX10_isWord mlX10_106 dX10_mustName_30 ok_81 (As := [.ref (200 + 4)]) (rest := []) (rX10_isWord (N := 4) (by decide) hf12 (Nat.le_refl _)) rfl (Nat.le_trans (Nat.le_of_ble_eq_true rfl) hN) rfl (Nat.le_of_ble_eq_true rfl) (Or.inl hz) ?_
        refine go_if_ne (tgt := 135) hc dX10_mustName_33 rfl (fun hh => ?_) (fun hh => ?_)
        · rw [if_neg hh] at h
          refine go_iconst hc dX10_mustName_135 ci_1 ?_
          refine go_goto (tgt := 140) hc dX10_mustName_136 rfl ?_
          exact rX10_mustName_b140 hc ho hL hN hr hE hz h
        · rw [if_pos hh] at h
          refine go_aload_n hc dX10_mustName_36 rfl rfl ?_
          refine go_str hc ho os_5 dX10_mustName_37 ?_
          obtain ⟨r13, σ14, hf15, h⟩ := obi_some h
          refine go_callVi hc ho cmX10_isWord mlX10_106 dX10_mustName_39 ok_81 (As := [.ref (200 + 5)]) (rest := []) (rX10_isWord (N := 4) (by decide) hf15 (Nat.le_refl _)) rfl (Nat.le_trans (Nat.le_of_ble_eq_true rfl) hN) rfl (Nat.le_of_ble_eq_true rfl) (Or.inl hz) ?_
          refine go_if_ne (tgt := 135) hc dX10_mustName_42 rfl (fun hh => ?_) (fun hh => ?_)
          · rw [if_neg hh] at h
            refine go_iconst hc dX10_mustName_135 ci_1 ?_
            refine go_goto (tgt := 140) hc dX10_mustName_136 rfl ?_
            exact rX10_mustName_b140 hc ho hL hN hr hE hz h
          · rw [if_pos hh] at h
            refine go_aload_n hc dX10_mustName_45 rfl rfl ?_
            refine go_str hc ho os_6 dX10_mustName_46 ?_
            obtain ⟨r16, σ17, hf18, h⟩ := obi_some h
            refine go_callVi hc ho cmX10_isWord mlX10_106 dX10_mustName_48 ok_81 (As := [.ref (200 + 6)]) (rest := []) (rX10_isWord (N := 4) (by decide) hf18 (Nat.le_refl _)) rfl (Nat.le_trans (Nat.le_of_ble_eq_true rfl) hN) rfl (Nat.le_of_ble_eq_true rfl) (Or.inl hz) ?_
            refine go_if_ne (tgt := 135) hc dX10_mustName_51 rfl (fun hh => ?_) (fun hh => ?_)
            · rw [if_neg hh] at h
              refine go_iconst hc dX10_mustName_135 ci_1 ?_
              refine go_goto (tgt := 140) hc dX10_mustName_136 rfl ?_
              exact rX10_mustName_b140 hc ho hL hN hr hE hz h
            · rw [if_pos hh] at h
              refine go_aload_n hc dX10_mustName_54 rfl rfl ?_
              refine go_str hc ho os_7 dX10_mustName_55 ?_
              obtain ⟨r19, σ20, hf21, h⟩ := obi_some h
              refine go_callVi hc ho cmX10_isWord mlX10_106 dX10_mustName_57 ok_81 (As := [.ref (200 + 7)]) (rest := []) (rX10_isWord (N := 4) (by decide) hf21 (Nat.le_refl _)) rfl (Nat.le_trans (Nat.le_of_ble_eq_true rfl) hN) rfl (Nat.le_of_ble_eq_true rfl) (Or.inl hz) ?_
              refine go_if_ne (tgt := 135) hc dX10_mustName_60 rfl (fun hh => ?_) (fun hh => ?_)
              · rw [if_neg hh] at h
                refine go_iconst hc dX10_mustName_135 ci_1 ?_
                refine go_goto (tgt := 140) hc dX10_mustName_136 rfl ?_
                exact rX10_mustName_b140 hc ho hL hN hr hE hz h
              · rw [if_pos hh] at h
                refine go_aload_n hc dX10_mustName_63 rfl rfl ?_
                refine go_str hc ho os_8 dX10_mustName_64 ?_
                obtain ⟨r22, σ23, hf24, h⟩ := obi_some h
                refine go_callVi hc ho cmX10_isWord mlX10_106 dX10_mustName_66 ok_81 (As := [.ref (200 + 8)]) (rest := []) (rX10_isWord (N := 4) (by decide) hf24 (Nat.le_refl _)) rfl (Nat.le_trans (Nat.le_of_ble_eq_true rfl) hN) rfl (Nat.le_of_ble_eq_true rfl) (Or.inl hz) ?_
                refine go_if_ne (tgt := 135) hc dX10_mustName_69 rfl (fun hh => ?_) (fun hh => ?_)
                · rw [if_neg hh] at h
                  refine go_iconst hc dX10_mustName_135 ci_1 ?_
                  refine go_goto (tgt := 140) hc dX10_mustName_136 rfl ?_
                  exact rX10_mustName_b140 hc ho hL hN hr hE hz h
                · rw [if_pos hh] at h
                  refine go_aload_n hc dX10_mustName_72 rfl rfl ?_
                  refine go_str hc ho os_9 dX10_mustName_73 ?_
                  obtain ⟨r25, σ26, hf27, h⟩ := obi_some h
                  refine go_callVi hc ho cmX10_isWord mlX10_106 dX10_mustName_75 ok_81 (As := [.ref (200 + 9)]) (rest := []) (rX10_isWord (N := 4) (by decide) hf27 (Nat.le_refl _)) rfl (Nat.le_trans (Nat.le_of_ble_eq_true rfl) hN) rfl (Nat.le_of_ble_eq_true rfl) (Or.inl hz) ?_
                  refine go_if_ne (tgt := 135) hc dX10_mustName_78 rfl (fun hh => ?_) (fun hh => ?_)
                  · rw [if_neg hh] at h
                    refine go_iconst hc dX10_mustName_135 ci_1 ?_
                    refine go_goto (tgt := 140) hc dX10_mustName_136 rfl ?_
                    exact rX10_mustName_b140 hc ho hL hN hr hE hz h
                  · rw [if_pos hh] at h
                    refine go_aload_n hc dX10_mustName_81 rfl rfl ?_
                    refine go_str hc ho os_10 dX10_mustName_82 ?_
                    obtain ⟨r28, σ29, hf30, h⟩ := obi_some h
                    refine go_callVi hc ho cmX10_isWord mlX10_106 dX10_mustName_84 ok_81 (As := [.ref (200 + 10)]) (rest := []) (rX10_isWord (N := 4) (by decide) hf30 (Nat.le_refl _)) rfl (Nat.le_trans (Nat.le_of_ble_eq_true rfl) hN) rfl (Nat.le_of_ble_eq_true rfl) (Or.inl hz) ?_
                    refine go_if_ne (tgt := 135) hc dX10_mustName_87 rfl (fun hh => ?_) (fun hh => ?_)
                    · rw [if_neg hh] at h
                      refine go_iconst hc dX10_mustName_135 ci_1 ?_
                      refine go_goto (tgt := 140) hc dX10_mustName_136 rfl ?_
                      exact rX10_mustName_b140 hc ho hL hN hr hE hz h
                    · rw [if_pos hh] at h
                      refine go_aload_n hc dX10_mustName_90 rfl rfl ?_
                      refine go_str hc ho os_11 dX10_mustName_91 ?_
                      obtain ⟨r31, σ32, hf33, h⟩ := obi_some h
                      refine go_callVi hc ho cmX10_isWord mlX10_106 dX10_mustName_93 ok_81 (As := [.ref (200 + 11)]) (rest := []) (rX10_isWord (N := 4) (by decide) hf33 (Nat.le_refl _)) rfl (Nat.le_trans (Nat.le_of_ble_eq_true rfl) hN) rfl (Nat.le_of_ble_eq_true rfl) (Or.inl hz) ?_
                      refine go_if_ne (tgt := 135) hc dX10_mustName_96 rfl (fun hh => ?_) (fun hh => ?_)
                      · rw [if_neg hh] at h
                        refine go_iconst hc dX10_mustName_135 ci_1 ?_
                        refine go_goto (tgt := 140) hc dX10_mustName_136 rfl ?_
                        exact rX10_mustName_b140 hc ho hL hN hr hE hz h
                      · rw [if_pos hh] at h
                        refine go_aload_n hc dX10_mustName_99 rfl rfl ?_
                        refine go_str hc ho os_12 dX10_mustName_100 ?_
                        obtain ⟨r34, σ35, hf36, h⟩ := obi_some h
                        refine go_callVi hc ho cmX10_isWord mlX10_106 dX10_mustName_102 ok_81 (As := [.ref (200 + 12)]) (rest := []) (rX10_isWord (N := 4) (by decide) hf36 (Nat.le_refl _)) rfl (Nat.le_trans (Nat.le_of_ble_eq_true rfl) hN) rfl (Nat.le_of_ble_eq_true rfl) (Or.inl hz) ?_
                        refine go_if_ne (tgt := 135) hc dX10_mustName_105 rfl (fun hh => ?_) (fun hh => ?_)
                        · rw [if_neg hh] at h
                          refine go_iconst hc dX10_mustName_135 ci_1 ?_
                          refine go_goto (tgt := 140) hc dX10_mustName_136 rfl ?_
                          exact rX10_mustName_b140 hc ho hL hN hr hE hz h
                        · rw [if_pos hh] at h
                          refine go_aload_n hc dX10_mustName_108 rfl rfl ?_
                          refine go_str hc ho os_13 dX10_mustName_109 ?_
                          obtain ⟨r37, σ38, hf39, h⟩ := obi_some h
                          refine go_callVi hc ho cmX10_isWord mlX10_106 dX10_mustName_111 ok_81 (As := [.ref (200 + 13)]) (rest := []) (rX10_isWord (N := 4) (by decide) hf39 (Nat.le_refl _)) rfl (Nat.le_trans (Nat.le_of_ble_eq_true rfl) hN) rfl (Nat.le_of_ble_eq_true rfl) (Or.inl hz) ?_
                          refine go_if_ne (tgt := 135) hc dX10_mustName_114 rfl (fun hh => ?_) (fun hh => ?_)
                          · rw [if_neg hh] at h
                            refine go_iconst hc dX10_mustName_135 ci_1 ?_
                            refine go_goto (tgt := 140) hc dX10_mustName_136 rfl ?_
                            exact rX10_mustName_b140 hc ho hL hN hr hE hz h
                          · rw [if_pos hh] at h
                            refine go_aload_n hc dX10_mustName_117 rfl rfl ?_
                            refine go_str hc ho os_14 dX10_mustName_118 ?_
                            obtain ⟨r40, σ41, hf42, h⟩ := obi_some h
                            refine go_callVi hc ho cmX10_isWord mlX10_106 dX10_mustName_120 ok_81 (As := [.ref (200 + 14)]) (rest := []) (rX10_isWord (N := 4) (by decide) hf42 (Nat.le_refl _)) rfl (Nat.le_trans (Nat.le_of_ble_eq_true rfl) hN) rfl (Nat.le_of_ble_eq_true rfl) (Or.inl hz) ?_
                            refine go_if_ne (tgt := 135) hc dX10_mustName_123 rfl (fun hh => ?_) (fun hh => ?_)
                            · rw [if_neg hh] at h
                              refine go_iconst hc dX10_mustName_135 ci_1 ?_
                              refine go_goto (tgt := 140) hc dX10_mustName_136 rfl ?_
                              exact rX10_mustName_b140 hc ho hL hN hr hE hz h
                            · rw [if_pos hh] at h
                              refine go_aload_n hc dX10_mustName_126 rfl rfl ?_
                              refine go_str hc ho os_15 dX10_mustName_127 ?_
                              obtain ⟨r43, σ44, hf45, h⟩ := obi_some h
                              refine go_callVi hc ho cmX10_isWord mlX10_106 dX10_mustName_129 ok_81 (As := [.ref (200 + 15)]) (rest := []) (rX10_isWord (N := 4) (by decide) hf45 (Nat.le_refl _)) rfl (Nat.le_trans (Nat.le_of_ble_eq_true rfl) hN) rfl (Nat.le_of_ble_eq_true rfl) (Or.inl hz) ?_
                              refine go_if_eq (tgt := 139) hc dX10_mustName_132 rfl (fun hh => ?_) (fun hh => ?_)
                              · rw [if_pos hh] at h
                                refine go_iconst hc dX10_mustName_139 ci_0 ?_
                                exact rX10_mustName_b140 hc ho hL hN hr hE hz h
                              · rw [if_neg hh] at h
                                refine go_iconst hc dX10_mustName_135 ci_1 ?_
                                refine go_goto (tgt := 140) hc dX10_mustName_136 rfl ?_
                                exact rX10_mustName_b140 hc ho hL hN hr hE hz h
def fX10_find_b44 (rc2 : Int32 → OM → Option (Int32 × OM)) : Nat → Int32 → Int32 → Int32 → OM → Option (Int32 × OM)
  | 0, _, _, _, _ => none
  | n + 1, l1, l2, l3, σ =>
    if (mI σ 81 8) ≤ l3 then (
     if l2 = 0 then (
      rc2 (l1 + 1) σ)
     else (some (l1, σ)))
    else (if l2 = 0 then (
     if l2 = 0 then (
      rc2 (l1 + 1) σ)
     else (some (l1, σ)))
    else (ogd (oin (((119 : Int32) + ((8 : Int32) * l1)) + l3) 279) (
    ogd (oin l3 8) (
    if (mI σ 85 ((((119 : Int32) + ((8 : Int32) * l1)) + l3).toNatClampNeg)) = (mI σ 83 l3.toNatClampNeg) then (
     fX10_find_b44 rc2 n l1 (1 : Int32) (l3 + 1) σ)
    else (fX10_find_b44 rc2 n l1 (0 : Int32) (l3 + 1) σ)))))
set_option maxRecDepth 100000 in
set_option maxHeartbeats 4000000 in
theorem rX10_find_b44 {K : OK} (hc : kcc K = cX10_find) (ho : kow K = RX10) (hL : knL K = 4) (hN : 0 ≤ kN K) (hr : (kme K).sig.returnType = (some .int)) {r0 : Int32} {σ0 : OM} (hE : oEnd K (some (.int r0)) σ0) (hz : kz K = 0) {rc2 : Int32 → OM → Option (Int32 × OM)} (hrc2 : ∀ (l1 : Int32) (σ : OM), rc2 l1 σ = some (r0, σ0) → Go K 2 [.ref 81, .int l1, .null, .null] [] σ) : ∀ (n : Nat) (l1 : Int32) (l2 : Int32) (l3 : Int32) (σ : OM), fX10_find_b44 rc2 n l1 l2 l3 σ = some (r0, σ0) → Go K 44 [.ref 81, .int l1, .int l2, .int l3] [] σ := by
  intro n
  induction n with
  | zero =>
    intro l1 l2 l3 σ h
    cases h
  | succ n ih =>
    intro l1 l2 l3 σ h
    rw [fX10_find_b44] at h
    refine go_iload_n hc dX10_find_44 rfl rfl ?_
    refine go_aload_n hc dX10_find_45 rfl rfl ?_
    refine go_getI hc ho flX10_73 dX10_find_46 ok_81 ?_
    refine go_icmp_ge (tgt := 91) hc dX10_find_49 rfl (fun hh => ?_) (fun hh => ?_)
    · rw [if_pos hh] at h
      refine go_iload_n hc dX10_find_91 rfl rfl ?_
      refine go_if_eq (tgt := 97) hc dX10_find_92 rfl (fun hh => ?_) (fun hh => ?_)
      · rw [if_pos hh] at h
        refine go_iinc hc (lv1 := [.ref 81, .int (l1 + 1), .int l2, .int l3]) dX10_find_97 rfl ci_1 hL (by decide) (fun _ _ e => by cases e; rfl) rfl ?_
        refine go_goto (tgt := 2) hc dX10_find_100 rfl ?_
        refine go_mask [true, true, false, false] (lv1 := [.ref 81, .int (l1 + 1), .null, .null]) rfl ?_
        exact hrc2 (l1 + 1) _ h
      · rw [if_neg hh] at h
        refine go_iload_n hc dX10_find_95 rfl rfl ?_
        exact go_iret hc (oend_i h hE) hr dX10_find_96
    · rw [if_neg hh] at h
      refine go_iload_n hc dX10_find_52 rfl rfl ?_
      refine go_if_eq (tgt := 91) hc dX10_find_53 rfl (fun hh => ?_) (fun hh => ?_)
      · rw [if_pos hh] at h
        refine go_iload_n hc dX10_find_91 rfl rfl ?_
        refine go_if_eq (tgt := 97) hc dX10_find_92 rfl (fun hh => ?_) (fun hh => ?_)
        · rw [if_pos hh] at h
          refine go_iinc hc (lv1 := [.ref 81, .int (l1 + 1), .int l2, .int l3]) dX10_find_97 rfl ci_1 hL (by decide) (fun _ _ e => by cases e; rfl) rfl ?_
          refine go_goto (tgt := 2) hc dX10_find_100 rfl ?_
          refine go_mask [true, true, false, false] (lv1 := [.ref 81, .int (l1 + 1), .null, .null]) rfl ?_
          exact hrc2 (l1 + 1) _ h
        · rw [if_neg hh] at h
          refine go_iload_n hc dX10_find_95 rfl rfl ?_
          exact go_iret hc (oend_i h hE) hr dX10_find_96
      · rw [if_neg hh] at h
        refine go_aload_n hc dX10_find_56 rfl rfl ?_
        refine go_getC (b := 85) rfl hc ho flX10_23 dX10_find_57 ok_81 ?_
        refine go_bipush hc dX10_find_60 cb_119 ?_
        refine go_bipush hc dX10_find_62 cb_8 ?_
        refine go_iload_n hc dX10_find_64 rfl rfl ?_
        refine go_imul hc dX10_find_65 ?_
        refine go_iadd hc dX10_find_66 ?_
        refine go_iload_n hc dX10_find_67 rfl rfl ?_
        refine go_iadd hc dX10_find_68 ?_
        obtain ⟨hg1, h⟩ := ogd_some h
        refine go_iald hc dX10_find_69 ok_85 ol_85 hg1 rfl ?_
        refine go_aload_n hc dX10_find_70 rfl rfl ?_
        refine go_getC (b := 83) rfl hc ho flX10_17 dX10_find_71 ok_81 ?_
        refine go_iload_n hc dX10_find_74 rfl rfl ?_
        obtain ⟨hg2, h⟩ := ogd_some h
        refine go_iald hc dX10_find_75 ok_83 ol_83 hg2 rfl ?_
        refine go_icmp_ne (tgt := 83) hc dX10_find_76 rfl (fun hh => ?_) (fun hh => ?_)
        · rw [if_neg hh] at h
          refine go_iconst hc dX10_find_83 ci_0 ?_
          refine go_istore_n hc (lv1 := [.ref 81, .int l1, .int (0 : Int32), .int l3]) dX10_find_84 rfl hL (by decide) (fun _ _ e => by cases e; rfl) rfl ?_
          refine go_iinc hc (lv1 := [.ref 81, .int l1, .int (0 : Int32), .int (l3 + 1)]) dX10_find_85 rfl ci_1 hL (by decide) (fun _ _ e => by cases e; rfl) rfl ?_
          refine go_goto (tgt := 44) hc dX10_find_88 rfl ?_
          exact ih l1 (0 : Int32) (l3 + 1) _ h
        · rw [if_pos hh] at h
          refine go_iconst hc dX10_find_79 ci_1 ?_
          refine go_goto (tgt := 84) hc dX10_find_80 rfl ?_
          refine go_istore_n hc (lv1 := [.ref 81, .int l1, .int (1 : Int32), .int l3]) dX10_find_84 rfl hL (by decide) (fun _ _ e => by cases e; rfl) rfl ?_
          refine go_iinc hc (lv1 := [.ref 81, .int l1, .int (1 : Int32), .int (l3 + 1)]) dX10_find_85 rfl ci_1 hL (by decide) (fun _ _ e => by cases e; rfl) rfl ?_
          refine go_goto (tgt := 44) hc dX10_find_88 rfl ?_
          exact ih l1 (1 : Int32) (l3 + 1) _ h
def fX10_find_b2 : Nat → Int32 → OM → Option (Int32 × OM)
  | 0, _, _ => none
  | n + 1, l1, σ =>
    if (20 : Int32) ≤ l1 then (
     some (((-1) : Int32), σ))
    else (ogd (oin ((99 : Int32) + l1) 279) (
    if (mI σ 85 (((99 : Int32) + l1).toNatClampNeg)) ≤ 0 then (
     fX10_find_b44 (fX10_find_b2 n) oF l1 (0 : Int32) (0 : Int32) σ)
    else (ogd (oin ((99 : Int32) + l1) 279) (
    if (mI σ 85 (((99 : Int32) + l1).toNatClampNeg)) = (mI σ 81 8) then (
     fX10_find_b44 (fX10_find_b2 n) oF l1 (1 : Int32) (0 : Int32) σ)
    else (fX10_find_b44 (fX10_find_b2 n) oF l1 (0 : Int32) (0 : Int32) σ)))))
set_option maxRecDepth 100000 in
set_option maxHeartbeats 4000000 in
theorem rX10_find_b2 {K : OK} (hc : kcc K = cX10_find) (ho : kow K = RX10) (hL : knL K = 4) (hN : 0 ≤ kN K) (hr : (kme K).sig.returnType = (some .int)) {r0 : Int32} {σ0 : OM} (hE : oEnd K (some (.int r0)) σ0) (hz : kz K = 0) : ∀ (n : Nat) (l1 : Int32) (σ : OM), fX10_find_b2 n l1 σ = some (r0, σ0) → Go K 2 [.ref 81, .int l1, .null, .null] [] σ := by
  intro n
  induction n with
  | zero =>
    intro l1 σ h
    cases h
  | succ n ih =>
    intro l1 σ h
    rw [fX10_find_b2] at h
    refine go_iload_n hc dX10_find_2 rfl rfl ?_
    refine go_bipush hc dX10_find_3 cb_20 ?_
    refine go_icmp_ge (tgt := 103) hc dX10_find_5 rfl (fun hh => ?_) (fun hh => ?_)
    · rw [if_pos hh] at h
      refine go_iconst hc dX10_find_103 ci_m1 ?_
      exact go_iret hc (oend_i h hE) hr dX10_find_104
    · rw [if_neg hh] at h
      refine go_aload_n hc dX10_find_8 rfl rfl ?_
      refine go_getC (b := 85) rfl hc ho flX10_23 dX10_find_9 ok_81 ?_
      refine go_bipush hc dX10_find_12 cb_99 ?_
      refine go_iload_n hc dX10_find_14 rfl rfl ?_
      refine go_iadd hc dX10_find_15 ?_
      obtain ⟨hg1, h⟩ := ogd_some h
      refine go_iald hc dX10_find_16 ok_85 ol_85 hg1 rfl ?_
      refine go_if_le (tgt := 40) hc dX10_find_17 rfl (fun hh => ?_) (fun hh => ?_)
      · rw [if_pos hh] at h
        refine go_iconst hc dX10_find_40 ci_0 ?_
        refine go_istore_n hc (lv1 := [.ref 81, .int l1, .int (0 : Int32), .null]) dX10_find_41 rfl hL (by decide) (fun _ _ e => by cases e; rfl) rfl ?_
        refine go_iconst hc dX10_find_42 ci_0 ?_
        refine go_istore_n hc (lv1 := [.ref 81, .int l1, .int (0 : Int32), .int (0 : Int32)]) dX10_find_43 rfl hL (by decide) (fun _ _ e => by cases e; rfl) rfl ?_
        exact rX10_find_b44 hc ho hL hN hr hE hz ih oF l1 (0 : Int32) (0 : Int32) _ h
      · rw [if_neg hh] at h
        refine go_aload_n hc dX10_find_20 rfl rfl ?_
        refine go_getC (b := 85) rfl hc ho flX10_23 dX10_find_21 ok_81 ?_
        refine go_bipush hc dX10_find_24 cb_99 ?_
        refine go_iload_n hc dX10_find_26 rfl rfl ?_
        refine go_iadd hc dX10_find_27 ?_
        obtain ⟨hg2, h⟩ := ogd_some h
        refine go_iald hc dX10_find_28 ok_85 ol_85 hg2 rfl ?_
        refine go_aload_n hc dX10_find_29 rfl rfl ?_
        refine go_getI hc ho flX10_73 dX10_find_30 ok_81 ?_
        refine go_icmp_ne (tgt := 40) hc dX10_find_33 rfl (fun hh => ?_) (fun hh => ?_)
        · rw [if_neg hh] at h
          refine go_iconst hc dX10_find_40 ci_0 ?_
          refine go_istore_n hc (lv1 := [.ref 81, .int l1, .int (0 : Int32), .null]) dX10_find_41 rfl hL (by decide) (fun _ _ e => by cases e; rfl) rfl ?_
          refine go_iconst hc dX10_find_42 ci_0 ?_
          refine go_istore_n hc (lv1 := [.ref 81, .int l1, .int (0 : Int32), .int (0 : Int32)]) dX10_find_43 rfl hL (by decide) (fun _ _ e => by cases e; rfl) rfl ?_
          exact rX10_find_b44 hc ho hL hN hr hE hz ih oF l1 (0 : Int32) (0 : Int32) _ h
        · rw [if_pos hh] at h
          refine go_iconst hc dX10_find_36 ci_1 ?_
          refine go_goto (tgt := 41) hc dX10_find_37 rfl ?_
          refine go_istore_n hc (lv1 := [.ref 81, .int l1, .int (1 : Int32), .null]) dX10_find_41 rfl hL (by decide) (fun _ _ e => by cases e; rfl) rfl ?_
          refine go_iconst hc dX10_find_42 ci_0 ?_
          refine go_istore_n hc (lv1 := [.ref 81, .int l1, .int (1 : Int32), .int (0 : Int32)]) dX10_find_43 rfl hL (by decide) (fun _ _ e => by cases e; rfl) rfl ?_
          exact rX10_find_b44 hc ho hL hN hr hE hz ih oF l1 (1 : Int32) (0 : Int32) _ h
def fX10_find (σ : OM) : Option (Int32 × OM) :=
  fX10_find_b2 oF (0 : Int32) σ
set_option maxRecDepth 100000 in
set_option maxHeartbeats 4000000 in
theorem rX10_find {N : Nat} {σ : OM} {r0 : Int32} {σ0 : OM} (h : fX10_find σ = some (r0, σ0)) (hN0 : 0 ≤ N) : oEv N MX10_find [.ref 81] σ (some (.int r0)) σ0 := by
  refine oEv_of (lv := [.ref 81, .null, .null, .null]) (by decide +kernel) (fun g q hq => hq) (fun g => Nat.le_of_ble_eq_true rfl) ?_
  intro K hc ho hL hN1 hr hE hz
  have hN : 0 ≤ kN K := by rw [hN1]; exact hN0
  unfold fX10_find at h
  refine go_iconst hc dX10_find_0 ci_0 ?_
  refine go_istore_n hc (lv1 := [.ref 81, .int (0 : Int32), .null, .null]) dX10_find_1 rfl hL (by decide) (fun _ _ e => by cases e; rfl) rfl ?_
  exact rX10_find_b2 hc ho hL hN hr hE hz oF (0 : Int32) _ h
def fX10_newName_b79 (l1 : Int32) (σ : OM) : Option OM :=
  ogd (oin ((99 : Int32) + l1) 279) (
  obv (fX10_pass (sI σ 85 (((99 : Int32) + l1).toNatClampNeg) (mI σ 81 8))) (fun σ3 =>
  some σ3))
set_option maxRecDepth 100000 in
set_option maxHeartbeats 4000000 in
theorem rX10_newName_b79 {K : OK} (hc : kcc K = cX10_newName) (ho : kow K = RX10) (hL : knL K = 3) (hN : 6 ≤ kN K) (hr : (kme K).sig.returnType = none) {σ0 : OM} (hE : oEnd K (none) σ0) (hz : kz K = 0) {l1 : Int32} {σ : OM} (h : fX10_newName_b79 l1 σ = some σ0) : Go K 79 [.ref 81, .int l1, .null] [] σ := by
  unfold fX10_newName_b79 at h
  refine go_aload_n hc dX10_newName_79 rfl rfl ?_
  refine go_getC (b := 85) rfl hc ho flX10_23 dX10_newName_80 ok_81 ?_
  refine go_bipush hc dX10_newName_83 cb_99 ?_
  refine go_iload_n hc dX10_newName_85 rfl rfl ?_
  refine go_iadd hc dX10_newName_86 ?_
  refine go_aload_n hc dX10_newName_87 rfl rfl ?_
  refine go_getI hc ho flX10_73 dX10_newName_88 ok_81 ?_
  obtain ⟨hg1, h⟩ := ogd_some h
  refine go_iast hc dX10_newName_91 ok_85 ol_85 hg1 rfl ?_
  refine go_aload_n hc dX10_newName_92 rfl rfl ?_
  obtain ⟨σ3, hf4, h⟩ := obv_some h
  refine go_callVv hc ho cmX10_pass mlX10_110 dX10_newName_93 ok_81 (As := []) (rest := []) (rX10_pass (N := 1) hf4 (Nat.le_refl _)) rfl (Nat.le_trans (Nat.le_of_ble_eq_true rfl) hN) rfl (Nat.le_of_ble_eq_true rfl) (Or.inl hz) ?_
  exact go_vret hc (oend_v h hE) hr dX10_newName_96
def fX10_newName_b45 : Nat → Int32 → Int32 → OM → Option OM
  | 0, _, _, _ => none
  | n + 1, l1, l2, σ =>
    if (mI σ 81 8) ≤ l2 then (
     fX10_newName_b79 l1 σ)
    else (ogd (oin l2 8) (
    ogd (oin (((119 : Int32) + ((8 : Int32) * l1)) + l2) 279) (
    fX10_newName_b45 n l1 (l2 + 1) (sI σ 85 ((((119 : Int32) + ((8 : Int32) * l1)) + l2).toNatClampNeg) (mI σ 83 l2.toNatClampNeg)))))
set_option maxRecDepth 100000 in
set_option maxHeartbeats 4000000 in
theorem rX10_newName_b45 {K : OK} (hc : kcc K = cX10_newName) (ho : kow K = RX10) (hL : knL K = 3) (hN : 6 ≤ kN K) (hr : (kme K).sig.returnType = none) {σ0 : OM} (hE : oEnd K (none) σ0) (hz : kz K = 0) : ∀ (n : Nat) (l1 : Int32) (l2 : Int32) (σ : OM), fX10_newName_b45 n l1 l2 σ = some σ0 → Go K 45 [.ref 81, .int l1, .int l2] [] σ := by
  intro n
  induction n with
  | zero =>
    intro l1 l2 σ h
    cases h
  | succ n ih =>
    intro l1 l2 σ h
    rw [fX10_newName_b45] at h
    refine go_iload_n hc dX10_newName_45 rfl rfl ?_
    refine go_aload_n hc dX10_newName_46 rfl rfl ?_
    refine go_getI hc ho flX10_73 dX10_newName_47 ok_81 ?_
    refine go_icmp_ge (tgt := 79) hc dX10_newName_50 rfl (fun hh => ?_) (fun hh => ?_)
    · rw [if_pos hh] at h
      refine go_mask [true, true, false] (lv1 := [.ref 81, .int l1, .null]) rfl ?_
      exact rX10_newName_b79 hc ho hL hN hr hE hz h
    · rw [if_neg hh] at h
      refine go_aload_n hc dX10_newName_53 rfl rfl ?_
      refine go_getC (b := 85) rfl hc ho flX10_23 dX10_newName_54 ok_81 ?_
      refine go_bipush hc dX10_newName_57 cb_119 ?_
      refine go_bipush hc dX10_newName_59 cb_8 ?_
      refine go_iload_n hc dX10_newName_61 rfl rfl ?_
      refine go_imul hc dX10_newName_62 ?_
      refine go_iadd hc dX10_newName_63 ?_
      refine go_iload_n hc dX10_newName_64 rfl rfl ?_
      refine go_iadd hc dX10_newName_65 ?_
      refine go_aload_n hc dX10_newName_66 rfl rfl ?_
      refine go_getC (b := 83) rfl hc ho flX10_17 dX10_newName_67 ok_81 ?_
      refine go_iload_n hc dX10_newName_70 rfl rfl ?_
      obtain ⟨hg1, h⟩ := ogd_some h
      refine go_iald hc dX10_newName_71 ok_83 ol_83 hg1 rfl ?_
      obtain ⟨hg2, h⟩ := ogd_some h
      refine go_iast hc dX10_newName_72 ok_85 ol_85 hg2 rfl ?_
      refine go_iinc hc (lv1 := [.ref 81, .int l1, .int (l2 + 1)]) dX10_newName_73 rfl ci_1 hL (by decide) (fun _ _ e => by cases e; rfl) rfl ?_
      refine go_goto (tgt := 45) hc dX10_newName_76 rfl ?_
      exact ih l1 (l2 + 1) _ h
def fX10_newName (x0 : Int32) (σ : OM) : Option OM :=
  if (mI σ 81 13) = 0 then (
   obv (fX10_mustName σ) (fun σ2 =>
   if (mI σ2 81 13) = 0 then (
    obi (fX10_find σ2) (fun r4 σ5 =>
    if r4 < 0 then (
     if (mI σ5 81 13) = 0 then (
      fX10_newName_b45 oF x0 (0 : Int32) σ5)
     else (some σ5))
    else (obv (fX10_wrong (3 : Int32) (mI σ5 81 4) σ5) (fun σ8 =>
    if (mI σ8 81 13) = 0 then (
     fX10_newName_b45 oF x0 (0 : Int32) σ8)
    else (some σ8)))))
   else (if (mI σ2 81 13) = 0 then (
    fX10_newName_b45 oF x0 (0 : Int32) σ2)
   else (some σ2))))
  else (some σ)
set_option maxRecDepth 100000 in
set_option maxHeartbeats 4000000 in
theorem rX10_newName {N : Nat} {x0 : Int32} {σ : OM} {σ0 : OM} (h : fX10_newName x0 σ = some σ0) (hN0 : 6 ≤ N) : oEv N MX10_newName [.ref 81, .int x0] σ (none) σ0 := by
  refine oEv_of (lv := [.ref 81, .int x0, .null]) (by decide +kernel) (fun g q hq => hq) (fun g => Nat.le_of_ble_eq_true rfl) ?_
  intro K hc ho hL hN1 hr hE hz
  have hN : 6 ≤ kN K := by rw [hN1]; exact hN0
  unfold fX10_newName at h
  refine go_aload_n hc dX10_newName_0 rfl rfl ?_
  refine go_getI hc ho flX10_89 dX10_newName_1 ok_81 ?_
  refine go_if_eq (tgt := 8) hc dX10_newName_4 rfl (fun hh => ?_) (fun hh => ?_)
  · rw [if_pos hh] at h
    refine go_aload_n hc dX10_newName_8 rfl rfl ?_
    obtain ⟨σ2, hf3, h⟩ := obv_some h
    refine go_callVv hc ho cmX10_mustName mlX10_150 dX10_newName_9 ok_81 (As := []) (rest := []) (rX10_mustName (N := 5) hf3 (Nat.le_refl _)) rfl (Nat.le_trans (Nat.le_of_ble_eq_true rfl) hN) rfl (Nat.le_of_ble_eq_true rfl) (Or.inl hz) ?_
    refine go_aload_n hc dX10_newName_12 rfl rfl ?_
    refine go_getI hc ho flX10_89 dX10_newName_13 ok_81 ?_
    refine go_if_ne (tgt := 35) hc dX10_newName_16 rfl (fun hh => ?_) (fun hh => ?_)
    · rw [if_neg hh] at h
      refine go_aload_n hc dX10_newName_35 rfl rfl ?_
      refine go_getI hc ho flX10_89 dX10_newName_36 ok_81 ?_
      refine go_if_eq (tgt := 43) hc dX10_newName_39 rfl (fun hh => ?_) (fun hh => ?_)
      · rw [if_pos hh] at h
        refine go_iconst hc dX10_newName_43 ci_0 ?_
        refine go_istore_n hc (lv1 := [.ref 81, .int x0, .int (0 : Int32)]) dX10_newName_44 rfl hL (by decide) (fun _ _ e => by cases e; rfl) rfl ?_
        exact rX10_newName_b45 hc ho hL hN hr hE hz oF x0 (0 : Int32) _ h
      · rw [if_neg hh] at h
        exact go_vret hc (oend_v h hE) hr dX10_newName_42
    · rw [if_pos hh] at h
      refine go_aload_n hc dX10_newName_19 rfl rfl ?_
      obtain ⟨r4, σ5, hf6, h⟩ := obi_some h
      refine go_callVi hc ho cmX10_find mlX10_153 dX10_newName_20 ok_81 (As := []) (rest := []) (rX10_find (N := 0) hf6 (Nat.le_refl _)) rfl (Nat.le_trans (Nat.le_of_ble_eq_true rfl) hN) rfl (Nat.le_of_ble_eq_true rfl) (Or.inl hz) ?_
      refine go_if_lt (tgt := 35) hc dX10_newName_23 rfl (fun hh => ?_) (fun hh => ?_)
      · rw [if_pos hh] at h
        refine go_aload_n hc dX10_newName_35 rfl rfl ?_
        refine go_getI hc ho flX10_89 dX10_newName_36 ok_81 ?_
        refine go_if_eq (tgt := 43) hc dX10_newName_39 rfl (fun hh => ?_) (fun hh => ?_)
        · rw [if_pos hh] at h
          refine go_iconst hc dX10_newName_43 ci_0 ?_
          refine go_istore_n hc (lv1 := [.ref 81, .int x0, .int (0 : Int32)]) dX10_newName_44 rfl hL (by decide) (fun _ _ e => by cases e; rfl) rfl ?_
          exact rX10_newName_b45 hc ho hL hN hr hE hz oF x0 (0 : Int32) _ h
        · rw [if_neg hh] at h
          exact go_vret hc (oend_v h hE) hr dX10_newName_42
      · rw [if_neg hh] at h
        refine go_aload_n hc dX10_newName_26 rfl rfl ?_
        refine go_iconst hc dX10_newName_27 ci_3 ?_
        refine go_aload_n hc dX10_newName_28 rfl rfl ?_
        refine go_getI hc ho flX10_70 dX10_newName_29 ok_81 ?_
        obtain ⟨σ8, hf9, h⟩ := obv_some h
        refine go_callVv hc ho cmX10_wrong mlX10_116 dX10_newName_32 ok_81 (As := [.int (3 : Int32), .int (mI σ5 81 4)]) (rest := []) (rX10_wrong (N := 0) hf9 (Nat.le_refl _)) rfl (Nat.le_trans (Nat.le_of_ble_eq_true rfl) hN) rfl (Nat.le_of_ble_eq_true rfl) (Or.inl hz) ?_
        refine go_aload_n hc dX10_newName_35 rfl rfl ?_
        refine go_getI hc ho flX10_89 dX10_newName_36 ok_81 ?_
        refine go_if_eq (tgt := 43) hc dX10_newName_39 rfl (fun hh => ?_) (fun hh => ?_)
        · rw [if_pos hh] at h
          refine go_iconst hc dX10_newName_43 ci_0 ?_
          refine go_istore_n hc (lv1 := [.ref 81, .int x0, .int (0 : Int32)]) dX10_newName_44 rfl hL (by decide) (fun _ _ e => by cases e; rfl) rfl ?_
          exact rX10_newName_b45 hc ho hL hN hr hE hz oF x0 (0 : Int32) _ h
        · rw [if_neg hh] at h
          exact go_vret hc (oend_v h hE) hr dX10_newName_42
  · rw [if_neg hh] at h
    exact go_vret hc (oend_v h hE) hr dX10_newName_7
def fX10_factLine (σ : OM) : Option OM :=
  if (mI σ 81 13) = 0 then (
   obv (fX10_newName (mI σ 85 1) σ) (fun σ2 =>
   obi (fX10_after 16 (1 : Int32) (9 : Int32) σ2) (fun r4 σ5 =>
   ogd (oin ((11 : Int32) + (mI σ2 85 1)) 279) (
   if (mI (sI σ5 85 (((11 : Int32) + (mI σ2 85 1)).toNatClampNeg) r4) 81 13) = 0 then (
    some (sI (sI σ5 85 (((11 : Int32) + (mI σ2 85 1)).toNatClampNeg) r4) 85 1 ((mI (sI σ5 85 (((11 : Int32) + (mI σ2 85 1)).toNatClampNeg) r4) 85 1) + (1 : Int32))))
   else (some (sI σ5 85 (((11 : Int32) + (mI σ2 85 1)).toNatClampNeg) r4))))))
  else (some σ)
set_option maxRecDepth 100000 in
set_option maxHeartbeats 4000000 in
theorem rX10_factLine {N : Nat} {σ : OM} {σ0 : OM} (h : fX10_factLine σ = some σ0) (hN0 : 8 ≤ N) : oEv N MX10_factLine [.ref 81] σ (none) σ0 := by
  refine oEv_of (lv := [.ref 81]) (by decide +kernel) (fun g q hq => hq) (fun g => Nat.le_of_ble_eq_true rfl) ?_
  intro K hc ho hL hN1 hr hE hz
  have hN : 8 ≤ kN K := by rw [hN1]; exact hN0
  unfold fX10_factLine at h
  refine go_aload_n hc dX10_factLine_0 rfl rfl ?_
  refine go_getI hc ho flX10_89 dX10_factLine_1 ok_81 ?_
  refine go_if_eq (tgt := 8) hc dX10_factLine_4 rfl (fun hh => ?_) (fun hh => ?_)
  · rw [if_pos hh] at h
    refine go_aload_n hc dX10_factLine_8 rfl rfl ?_
    refine go_aload_n hc dX10_factLine_9 rfl rfl ?_
    refine go_getC (b := 85) rfl hc ho flX10_23 dX10_factLine_10 ok_81 ?_
    refine go_iconst hc dX10_factLine_13 ci_1 ?_
    refine go_iald hc dX10_factLine_14 ok_85 ol_85 (by decide +kernel) cn_1 ?_
    obtain ⟨σ2, hf3, h⟩ := obv_some h
    refine go_callVv hc ho cmX10_newName mlX10_265 dX10_factLine_15 ok_81 (As := [.int (mI σ 85 1)]) (rest := []) (rX10_newName (N := 6) hf3 (Nat.le_refl _)) rfl (Nat.le_trans (Nat.le_of_ble_eq_true rfl) hN) rfl (Nat.le_of_ble_eq_true rfl) (Or.inl hz) ?_
    refine go_aload_n hc dX10_factLine_18 rfl rfl ?_
    refine go_getC (b := 85) rfl hc ho flX10_23 dX10_factLine_19 ok_81 ?_
    refine go_bipush hc dX10_factLine_22 cb_11 ?_
    refine go_aload_n hc dX10_factLine_24 rfl rfl ?_
    refine go_getC (b := 85) rfl hc ho flX10_23 dX10_factLine_25 ok_81 ?_
    refine go_iconst hc dX10_factLine_28 ci_1 ?_
    refine go_iald hc dX10_factLine_29 ok_85 ol_85 (by decide +kernel) cn_1 ?_
    refine go_iadd hc dX10_factLine_30 ?_
    refine go_aload_n hc dX10_factLine_31 rfl rfl ?_
    refine go_strW hc ho os_16 dX10_factLine_32 ?_
    refine go_iconst hc dX10_factLine_35 ci_1 ?_
    refine go_bipush hc dX10_factLine_36 cb_9 ?_
    obtain ⟨r4, σ5, hf6, h⟩ := obi_some h
    refine go_callVi hc ho cmX10_after mlX10_261 dX10_factLine_38 ok_81 (As := [.ref (200 + 16), .int (1 : Int32), .int (9 : Int32)]) (rest := [.int ((11 : Int32) + (mI σ2 85 1)), .ref 85]) (rX10_after (N := 7) (by decide) hf6 (Nat.le_refl _)) rfl (Nat.le_trans (Nat.le_of_ble_eq_true rfl) hN) rfl (Nat.le_of_ble_eq_true rfl) (Or.inl hz) ?_
    obtain ⟨hg7, h⟩ := ogd_some h
    refine go_iast hc dX10_factLine_41 ok_85 ol_85 hg7 rfl ?_
    refine go_aload_n hc dX10_factLine_42 rfl rfl ?_
    refine go_getI hc ho flX10_89 dX10_factLine_43 ok_81 ?_
    refine go_if_ne (tgt := 59) hc dX10_factLine_46 rfl (fun hh => ?_) (fun hh => ?_)
    · rw [if_neg hh] at h
      exact go_vret hc (oend_v h hE) hr dX10_factLine_59
    · rw [if_pos hh] at h
      refine go_aload_n hc dX10_factLine_49 rfl rfl ?_
      refine go_getC (b := 85) rfl hc ho flX10_23 dX10_factLine_50 ok_81 ?_
      refine go_iconst hc dX10_factLine_53 ci_1 ?_
      refine go_dup2_11 hc dX10_factLine_54 rfl rfl ?_
      refine go_iald hc dX10_factLine_55 ok_85 ol_85 (by decide +kernel) cn_1 ?_
      refine go_iconst hc dX10_factLine_56 ci_1 ?_
      refine go_iadd hc dX10_factLine_57 ?_
      refine go_iast hc dX10_factLine_58 ok_85 ol_85 (by decide +kernel) cn_1 ?_
      exact go_vret hc (oend_v h hE) hr dX10_factLine_59
  · rw [if_neg hh] at h
    exact go_vret hc (oend_v h hE) hr dX10_factLine_7
def fX10_takesSign (x0 : Int32) (σ : OM) : Option (Int32 × OM) :=
  if (mI σ 81 13) = 0 then (
   if (mI σ 81 6) = x0 then (
    obv (fX10_pass σ) (fun σ2 =>
    some ((1 : Int32), σ2)))
   else (some ((0 : Int32), σ)))
  else (some ((0 : Int32), σ))
set_option maxRecDepth 100000 in
set_option maxHeartbeats 4000000 in
theorem rX10_takesSign {N : Nat} {x0 : Int32} {σ : OM} {r0 : Int32} {σ0 : OM} (h : fX10_takesSign x0 σ = some (r0, σ0)) (hN0 : 2 ≤ N) : oEv N MX10_takesSign [.ref 81, .int x0] σ (some (.int r0)) σ0 := by
  refine oEv_of (lv := [.ref 81, .int x0]) (by decide +kernel) (fun g q hq => hq) (fun g => Nat.le_of_ble_eq_true rfl) ?_
  intro K hc ho hL hN1 hr hE hz
  have hN : 2 ≤ kN K := by rw [hN1]; exact hN0
  unfold fX10_takesSign at h
  refine go_aload_n hc dX10_takesSign_0 rfl rfl ?_
  refine go_getI hc ho flX10_89 dX10_takesSign_1 ok_81 ?_
  refine go_if_ne (tgt := 15) hc dX10_takesSign_4 rfl (fun hh => ?_) (fun hh => ?_)
  · rw [if_neg hh] at h
    refine go_iconst hc dX10_takesSign_15 ci_0 ?_
    exact go_zret hc (oend_i h hE) hr rfl dX10_takesSign_16
  · rw [if_pos hh] at h
    refine go_aload_n hc dX10_takesSign_7 rfl rfl ?_
    refine go_getI hc ho flX10_79 dX10_takesSign_8 ok_81 ?_
    refine go_iload_n hc dX10_takesSign_11 rfl rfl ?_
    refine go_icmp_eq (tgt := 17) hc dX10_takesSign_12 rfl (fun hh => ?_) (fun hh => ?_)
    · rw [if_pos hh] at h
      refine go_aload_n hc dX10_takesSign_17 rfl rfl ?_
      obtain ⟨σ2, hf3, h⟩ := obv_some h
      refine go_callVv hc ho cmX10_pass mlX10_110 dX10_takesSign_18 ok_81 (As := []) (rest := []) (rX10_pass (N := 1) hf3 (Nat.le_refl _)) rfl (Nat.le_trans (Nat.le_of_ble_eq_true rfl) hN) rfl (Nat.le_of_ble_eq_true rfl) (Or.inl hz) ?_
      refine go_iconst hc dX10_takesSign_21 ci_1 ?_
      exact go_zret hc (oend_i h hE) hr rfl dX10_takesSign_22
    · rw [if_neg hh] at h
      refine go_iconst hc dX10_takesSign_15 ci_0 ?_
      exact go_zret hc (oend_i h hE) hr rfl dX10_takesSign_16
def fX10_named (x0 : Int32) (x1 : Int32) (σ : OM) : Option (Int32 × OM) :=
  if (mI σ 81 13) = 0 then (
   obv (fX10_mustName σ) (fun σ2 =>
   if (mI σ2 81 13) = 0 then (
    obi (fX10_find σ2) (fun r4 σ5 =>
    obi (fX10_in r4 x0 x1 σ5) (fun r7 σ8 =>
    if r7 = 0 then (
     obv (fX10_wrong (2 : Int32) (mI σ8 81 4) σ8) (fun σ11 =>
     if (mI σ11 81 13) = 0 then (
      some ((r4 - x0), σ11))
     else (some ((0 : Int32), σ11))))
    else (if (mI σ8 81 13) = 0 then (
     some ((r4 - x0), σ8))
    else (some ((0 : Int32), σ8))))))
   else (some ((0 : Int32), σ2))))
  else (some ((0 : Int32), σ))
set_option maxRecDepth 100000 in
set_option maxHeartbeats 4000000 in
theorem rX10_named {N : Nat} {x0 : Int32} {x1 : Int32} {σ : OM} {r0 : Int32} {σ0 : OM} (h : fX10_named x0 x1 σ = some (r0, σ0)) (hN0 : 6 ≤ N) : oEv N MX10_named [.ref 81, .int x0, .int x1] σ (some (.int r0)) σ0 := by
  refine oEv_of (lv := [.ref 81, .int x0, .int x1, .null]) (by decide +kernel) (fun g q hq => hq) (fun g => Nat.le_of_ble_eq_true rfl) ?_
  intro K hc ho hL hN1 hr hE hz
  have hN : 6 ≤ kN K := by rw [hN1]; exact hN0
  unfold fX10_named at h
  refine go_aload_n hc dX10_named_0 rfl rfl ?_
  refine go_getI hc ho flX10_89 dX10_named_1 ok_81 ?_
  refine go_if_eq (tgt := 9) hc dX10_named_4 rfl (fun hh => ?_) (fun hh => ?_)
  · rw [if_pos hh] at h
    refine go_aload_n hc dX10_named_9 rfl rfl ?_
    obtain ⟨σ2, hf3, h⟩ := obv_some h
    refine go_callVv hc ho cmX10_mustName mlX10_150 dX10_named_10 ok_81 (As := []) (rest := []) (rX10_mustName (N := 5) hf3 (Nat.le_refl _)) rfl (Nat.le_trans (Nat.le_of_ble_eq_true rfl) hN) rfl (Nat.le_of_ble_eq_true rfl) (Or.inl hz) ?_
    refine go_aload_n hc dX10_named_13 rfl rfl ?_
    refine go_getI hc ho flX10_89 dX10_named_14 ok_81 ?_
    refine go_if_eq (tgt := 22) hc dX10_named_17 rfl (fun hh => ?_) (fun hh => ?_)
    · rw [if_pos hh] at h
      refine go_aload_n hc dX10_named_22 rfl rfl ?_
      obtain ⟨r4, σ5, hf6, h⟩ := obi_some h
      refine go_callVi hc ho cmX10_find mlX10_153 dX10_named_23 ok_81 (As := []) (rest := []) (rX10_find (N := 0) hf6 (Nat.le_refl _)) rfl (Nat.le_trans (Nat.le_of_ble_eq_true rfl) hN) rfl (Nat.le_of_ble_eq_true rfl) (Or.inl hz) ?_
      refine go_istore_n hc (lv1 := [.ref 81, .int x0, .int x1, .int r4]) dX10_named_26 rfl hL (by decide) (fun _ _ e => by cases e; rfl) rfl ?_
      refine go_iload_n hc dX10_named_27 rfl rfl ?_
      refine go_iload_n hc dX10_named_28 rfl rfl ?_
      refine go_iload_n hc dX10_named_29 rfl rfl ?_
      obtain ⟨r7, σ8, hf9, h⟩ := obi_some h
      refine go_callSi hc ho cmX10_in mlX10_156 dX10_named_30 (As := [.int r4, .int x0, .int x1]) (rest := []) (rX10_in (N := 0) hf9 (Nat.le_refl _)) rfl (Nat.le_trans (Nat.le_of_ble_eq_true rfl) hN) rfl (Nat.le_of_ble_eq_true rfl) (Or.inl hz) ?_
      refine go_if_ne (tgt := 45) hc dX10_named_33 rfl (fun hh => ?_) (fun hh => ?_)
      · rw [if_neg hh] at h
        refine go_aload_n hc dX10_named_45 rfl rfl ?_
        refine go_getI hc ho flX10_89 dX10_named_46 ok_81 ?_
        refine go_if_eq (tgt := 56) hc dX10_named_49 rfl (fun hh => ?_) (fun hh => ?_)
        · rw [if_pos hh] at h
          refine go_iload_n hc dX10_named_56 rfl rfl ?_
          refine go_iload_n hc dX10_named_57 rfl rfl ?_
          refine go_isub hc dX10_named_58 ?_
          exact go_iret hc (oend_i h hE) hr dX10_named_59
        · rw [if_neg hh] at h
          refine go_iconst hc dX10_named_52 ci_0 ?_
          refine go_goto (tgt := 59) hc dX10_named_53 rfl ?_
          exact go_iret hc (oend_i h hE) hr dX10_named_59
      · rw [if_pos hh] at h
        refine go_aload_n hc dX10_named_36 rfl rfl ?_
        refine go_iconst hc dX10_named_37 ci_2 ?_
        refine go_aload_n hc dX10_named_38 rfl rfl ?_
        refine go_getI hc ho flX10_70 dX10_named_39 ok_81 ?_
        obtain ⟨σ11, hf12, h⟩ := obv_some h
        refine go_callVv hc ho cmX10_wrong mlX10_116 dX10_named_42 ok_81 (As := [.int (2 : Int32), .int (mI σ8 81 4)]) (rest := []) (rX10_wrong (N := 0) hf12 (Nat.le_refl _)) rfl (Nat.le_trans (Nat.le_of_ble_eq_true rfl) hN) rfl (Nat.le_of_ble_eq_true rfl) (Or.inl hz) ?_
        refine go_aload_n hc dX10_named_45 rfl rfl ?_
        refine go_getI hc ho flX10_89 dX10_named_46 ok_81 ?_
        refine go_if_eq (tgt := 56) hc dX10_named_49 rfl (fun hh => ?_) (fun hh => ?_)
        · rw [if_pos hh] at h
          refine go_iload_n hc dX10_named_56 rfl rfl ?_
          refine go_iload_n hc dX10_named_57 rfl rfl ?_
          refine go_isub hc dX10_named_58 ?_
          exact go_iret hc (oend_i h hE) hr dX10_named_59
        · rw [if_neg hh] at h
          refine go_iconst hc dX10_named_52 ci_0 ?_
          refine go_goto (tgt := 59) hc dX10_named_53 rfl ?_
          exact go_iret hc (oend_i h hE) hr dX10_named_59
    · rw [if_neg hh] at h
      refine go_iconst hc dX10_named_20 ci_0 ?_
      exact go_iret hc (oend_i h hE) hr dX10_named_21
  · rw [if_neg hh] at h
    refine go_iconst hc dX10_named_7 ci_0 ?_
    exact go_iret hc (oend_i h hE) hr dX10_named_8
