def fX5_readLaw (x0 : Int32) (σ : OM) : Option (Int32 × OM) :=
  obi (fX5_formula σ) (fun r1 σ2 =>
  if (mI σ2 48 2) = 0 then (
   ogd (decide (okd (mR σ2 48 1) = 8)) (
   ogd (decide (okd (mR (sL σ2 ((mR σ2 48 1) + 1) 3 ((mL σ2 ((mR σ2 48 1) + 1) 3) &&& r1)) 48 1) = 8)) (
   ogd (decide (okd (mR (sI (sL σ2 ((mR σ2 48 1) + 1) 3 ((mL σ2 ((mR σ2 48 1) + 1) 3) &&& r1)) ((mR (sL σ2 ((mR σ2 48 1) + 1) 3 ((mL σ2 ((mR σ2 48 1) + 1) 3) &&& r1)) 48 1) + 1) 2 ((mI (sL σ2 ((mR σ2 48 1) + 1) 3 ((mL σ2 ((mR σ2 48 1) + 1) 3) &&& r1)) ((mR (sL σ2 ((mR σ2 48 1) + 1) 3 ((mL σ2 ((mR σ2 48 1) + 1) 3) &&& r1)) 48 1) + 1) 2) + (1 : Int32))) 48 1) = 8)) (
   obi (fX2_stands (mR (sI (sL σ2 ((mR σ2 48 1) + 1) 3 ((mL σ2 ((mR σ2 48 1) + 1) 3) &&& r1)) ((mR (sL σ2 ((mR σ2 48 1) + 1) 3 ((mL σ2 ((mR σ2 48 1) + 1) 3) &&& r1)) 48 1) + 1) 2 ((mI (sL σ2 ((mR σ2 48 1) + 1) 3 ((mL σ2 ((mR σ2 48 1) + 1) 3) &&& r1)) ((mR (sL σ2 ((mR σ2 48 1) + 1) 3 ((mL σ2 ((mR σ2 48 1) + 1) 3) &&& r1)) 48 1) + 1) 2) + (1 : Int32))) 48 1) (sI (sL σ2 ((mR σ2 48 1) + 1) 3 ((mL σ2 ((mR σ2 48 1) + 1) 3) &&& r1)) ((mR (sL σ2 ((mR σ2 48 1) + 1) 3 ((mL σ2 ((mR σ2 48 1) + 1) 3) &&& r1)) 48 1) + 1) 2 ((mI (sL σ2 ((mR σ2 48 1) + 1) 3 ((mL σ2 ((mR σ2 48 1) + 1) 3) &&& r1)) ((mR (sL σ2 ((mR σ2 48 1) + 1) 3 ((mL σ2 ((mR σ2 48 1) + 1) 3) &&& r1)) 48 1) + 1) 2) + (1 : Int32)))) (fun r7 σ8 =>
   if r7 = 0 then (
    obi (fX5_fail (7 : Int32) x0 σ8) (fun r10 σ11 =>
    if r10 = 0 then (
     some ((0 : Int32), σ11))
    else (some ((1 : Int32), σ11))))
   else (some ((1 : Int32), σ8)))))))
  else (some ((0 : Int32), σ2)))
set_option maxRecDepth 100000 in
set_option maxHeartbeats 4000000 in
theorem rX5_readLaw {N : Nat} {x0 : Int32} {σ : OM} {r0 : Int32} {σ0 : OM} (h : fX5_readLaw x0 σ = some (r0, σ0)) (hN0 : 4 ≤ N) : oEv N MX5_readLaw [.ref 48, .int x0] σ (some (.int r0)) σ0 := by
  refine oEv_of (lv := [.ref 48, .int x0, .null, .null]) (by decide +kernel) (fun g q hq => hq) (fun g => Nat.le_of_ble_eq_true rfl) ?_
  intro K hc ho hL hN1 hr hE hz
  have hN : 4 ≤ kN K := by rw [hN1]; exact hN0
  unfold fX5_readLaw at h
  refine go_aload_n hc dX5_readLaw_0 rfl rfl ?_
  obtain ⟨r1, σ2, hf3, h⟩ := obi_some h
  refine go_callVl hc ho cmX5_formula mlX5_168 dX5_readLaw_1 ok_48 (As := []) (rest := []) (rX5_formula (N := 3) hf3 (Nat.le_refl _)) rfl (Nat.le_trans (Nat.le_of_ble_eq_true rfl) hN) rfl (Nat.le_of_ble_eq_true rfl) (Or.inl hz) ?_
  refine go_lstore_n hc (lv1 := [.ref 48, .int x0, .long r1, .null]) dX5_readLaw_4 rfl hL (by decide) (fun _ _ e => by cases e; rfl) rfl ?_
  refine go_aload_n hc dX5_readLaw_5 rfl rfl ?_
  refine go_getI hc ho flX5_50 dX5_readLaw_6 ok_48 ?_
  refine go_if_eq (tgt := 14) hc dX5_readLaw_9 rfl (fun hh => ?_) (fun hh => ?_)
  · rw [if_pos hh] at h
    refine go_aload_n hc dX5_readLaw_14 rfl rfl ?_
    obtain ⟨hg4, h⟩ := ogd_some h
    refine go_getR hc ho flX5_41 dX5_readLaw_15 ok_48 ?_
    refine go_getC (b := (mR σ2 48 1) + 1) (ow_c0_0 (of_decide_eq_true hg4)) hc ho flX5_72 dX5_readLaw_18 (of_decide_eq_true hg4) ?_
    refine go_dup hc dX5_readLaw_21 rfl ?_
    refine go_getL hc ho flX5_172 dX5_readLaw_22 (ow_k1 (of_decide_eq_true hg4)) ?_
    refine go_lload_n hc dX5_readLaw_25 rfl rfl ?_
    refine go_land hc dX5_readLaw_26 ?_
    refine go_putL hc ho fpX5_172 dX5_readLaw_27 (ow_k1 (of_decide_eq_true hg4)) (fun g => onl g _) (fun _ => rfl) ?_
    refine go_aload_n hc dX5_readLaw_30 rfl rfl ?_
    obtain ⟨hg5, h⟩ := ogd_some h
    refine go_getR hc ho flX5_41 dX5_readLaw_31 ok_48 ?_
    refine go_getC (b := (mR (sL σ2 ((mR σ2 48 1) + 1) 3 ((mL σ2 ((mR σ2 48 1) + 1) 3) &&& r1)) 48 1) + 1) (ow_c0_0 (of_decide_eq_true hg5)) hc ho flX5_72 dX5_readLaw_34 (of_decide_eq_true hg5) ?_
    refine go_dup hc dX5_readLaw_37 rfl ?_
    refine go_getI hc ho flX5_176 dX5_readLaw_38 (ow_k1 (of_decide_eq_true hg5)) ?_
    refine go_iconst hc dX5_readLaw_41 ci_1 ?_
    refine go_iadd hc dX5_readLaw_42 ?_
    refine go_putI hc ho fpX5_176 dX5_readLaw_43 (ow_k1 (of_decide_eq_true hg5)) (fun g => oni g _) (fun _ => rfl) ?_
    refine go_aload_n hc dX5_readLaw_46 rfl rfl ?_
    obtain ⟨hg6, h⟩ := ogd_some h
    refine go_getR hc ho flX5_41 dX5_readLaw_47 ok_48 ?_
    refine go_getC (b := (mR (sI (sL σ2 ((mR σ2 48 1) + 1) 3 ((mL σ2 ((mR σ2 48 1) + 1) 3) &&& r1)) ((mR (sL σ2 ((mR σ2 48 1) + 1) 3 ((mL σ2 ((mR σ2 48 1) + 1) 3) &&& r1)) 48 1) + 1) 2 ((mI (sL σ2 ((mR σ2 48 1) + 1) 3 ((mL σ2 ((mR σ2 48 1) + 1) 3) &&& r1)) ((mR (sL σ2 ((mR σ2 48 1) + 1) 3 ((mL σ2 ((mR σ2 48 1) + 1) 3) &&& r1)) 48 1) + 1) 2) + (1 : Int32))) 48 1) + 1) (ow_c0_0 (of_decide_eq_true hg6)) hc ho flX5_72 dX5_readLaw_50 (of_decide_eq_true hg6) ?_
    obtain ⟨r7, σ8, hf9, h⟩ := obi_some h
    refine go_callVi hc ho cmX2_stands mlX5_179 dX5_readLaw_53 (ow_k1 (of_decide_eq_true hg6)) (As := []) (rest := []) (rX2_stands (N := 1) (of_decide_eq_true hg6) hf9 (Nat.le_refl _)) rfl (Nat.le_trans (Nat.le_of_ble_eq_true rfl) hN) rfl (Nat.le_of_ble_eq_true rfl) (Or.inl hz) ?_
    refine go_if_ne (tgt := 69) hc dX5_readLaw_56 rfl (fun hh => ?_) (fun hh => ?_)
    · rw [if_neg hh] at h
      refine go_iconst hc dX5_readLaw_69 ci_1 ?_
      refine go_goto (tgt := 74) hc dX5_readLaw_70 rfl ?_
      exact go_zret hc (oend_i h hE) hr rfl dX5_readLaw_74
    · rw [if_pos hh] at h
      refine go_aload_n hc dX5_readLaw_59 rfl rfl ?_
      refine go_bipush hc dX5_readLaw_60 cb_7 ?_
      refine go_iload_n hc dX5_readLaw_62 rfl rfl ?_
      obtain ⟨r10, σ11, hf12, h⟩ := obi_some h
      refine go_callVi hc ho cmX5_fail mlX5_87 dX5_readLaw_63 ok_48 (As := [.int (7 : Int32), .int x0]) (rest := []) (rX5_fail (N := 0) hf12 (Nat.le_refl _)) rfl (Nat.le_trans (Nat.le_of_ble_eq_true rfl) hN) rfl (Nat.le_of_ble_eq_true rfl) (Or.inl hz) ?_
      refine go_if_eq (tgt := 73) hc dX5_readLaw_66 rfl (fun hh => ?_) (fun hh => ?_)
      · rw [if_pos hh] at h
        refine go_iconst hc dX5_readLaw_73 ci_0 ?_
        exact go_zret hc (oend_i h hE) hr rfl dX5_readLaw_74
      · rw [if_neg hh] at h
        refine go_iconst hc dX5_readLaw_69 ci_1 ?_
        refine go_goto (tgt := 74) hc dX5_readLaw_70 rfl ?_
        exact go_zret hc (oend_i h hE) hr rfl dX5_readLaw_74
  · rw [if_neg hh] at h
    refine go_iconst hc dX5_readLaw_12 ci_0 ?_
    exact go_zret hc (oend_i h hE) hr rfl dX5_readLaw_13
def fX5_readTruthNames_b47 (l2 : Int32) (σ : OM) : Option (Int32 × OM) :=
  obi (fX5_fail (3 : Int32) l2 σ) (fun r1 σ2 =>
  ogd (oisb r1) (some (r1, σ2)))
set_option maxRecDepth 100000 in
set_option maxHeartbeats 4000000 in
theorem rX5_readTruthNames_b47 {K : OK} (hc : kcc K = cX5_readTruthNames) (ho : kow K = RX5) (hL : knL K = 4) (hN : 2 ≤ kN K) (hr : (kme K).sig.returnType = (some .boolean)) {r0 : Int32} {σ0 : OM} (hE : oEnd K (some (.int r0)) σ0) (hz : kz K = 0) {l2 : Int32} {σ : OM} (h : fX5_readTruthNames_b47 l2 σ = some (r0, σ0)) : Go K 47 [.ref 48, .null, .int l2, .null] [] σ := by
  unfold fX5_readTruthNames_b47 at h
  refine go_aload_n hc dX5_readTruthNames_47 rfl rfl ?_
  refine go_iconst hc dX5_readTruthNames_48 ci_3 ?_
  refine go_iload_n hc dX5_readTruthNames_49 rfl rfl ?_
  obtain ⟨r1, σ2, hf3, h⟩ := obi_some h
  refine go_callVi hc ho cmX5_fail mlX5_87 dX5_readTruthNames_50 ok_48 (As := [.int (3 : Int32), .int l2]) (rest := []) (rX5_fail (N := 0) hf3 (Nat.le_refl _)) rfl (Nat.le_trans (Nat.le_of_ble_eq_true rfl) hN) rfl (Nat.le_of_ble_eq_true rfl) (Or.inl hz) ?_
  obtain ⟨hg4, h⟩ := ogd_some h
  exact go_zret hc (oend_i h hE) hr (oisb_n hg4) dX5_readTruthNames_53
def fX5_readTruthNames_b2 : Nat → Int32 → OM → Option (Int32 × OM)
  | 0, _, _ => none
  | n + 1, l1, σ =>
    if (6 : Int32) < l1 then (
     some ((0 : Int32), σ))
    else (obi (fX5_takeName (1 : Int32) σ) (fun r1 σ2 =>
    if 0 ≤ r1 then (
     ogd (decide (okd (mR σ2 48 1) = 8)) (
     obi (fX9_bitOf ((mI σ2 ((mR σ2 48 1) + 1) 5).toInt64) r1 σ2) (fun r5 σ6 =>
     if r5 = (1 : Int32) then (
      fX5_readTruthNames_b47 (mI σ 43 9) σ6)
     else (ogd (decide (okd (mR σ6 48 1) = 8)) (
     if (mI (sI σ6 ((mR σ6 48 1) + 1) 5 ((mI σ6 ((mR σ6 48 1) + 1) 5) ||| ((1 : Int32) <<< (r1 &&& 31)))) 43 8) = (44 : Int32) then (
      obv (fX6_advance (sI σ6 ((mR σ6 48 1) + 1) 5 ((mI σ6 ((mR σ6 48 1) + 1) 5) ||| ((1 : Int32) <<< (r1 &&& 31))))) (fun σ10 =>
      fX5_readTruthNames_b2 n (l1 + 1) σ10))
     else (some ((1 : Int32), sI σ6 ((mR σ6 48 1) + 1) 5 ((mI σ6 ((mR σ6 48 1) + 1) 5) ||| ((1 : Int32) <<< (r1 &&& 31))))))))))
    else (some ((0 : Int32), σ2))))
set_option maxRecDepth 100000 in
set_option maxHeartbeats 4000000 in
theorem rX5_readTruthNames_b2 {K : OK} (hc : kcc K = cX5_readTruthNames) (ho : kow K = RX5) (hL : knL K = 4) (hN : 2 ≤ kN K) (hr : (kme K).sig.returnType = (some .boolean)) {r0 : Int32} {σ0 : OM} (hE : oEnd K (some (.int r0)) σ0) (hz : kz K = 0) : ∀ (n : Nat) (l1 : Int32) (σ : OM), fX5_readTruthNames_b2 n l1 σ = some (r0, σ0) → Go K 2 [.ref 48, .int l1, .null, .null] [] σ := by
  intro n
  induction n with
  | zero =>
    intro l1 σ h
    cases h
  | succ n ih =>
    intro l1 σ h
    rw [fX5_readTruthNames_b2] at h
    refine go_iload_n hc dX5_readTruthNames_2 rfl rfl ?_
    refine go_bipush hc dX5_readTruthNames_3 cb_6 ?_
    refine go_icmp_gt (tgt := 99) hc dX5_readTruthNames_5 rfl (fun hh => ?_) (fun hh => ?_)
    · rw [if_pos hh] at h
      refine go_iconst hc dX5_readTruthNames_99 ci_0 ?_
      exact go_zret hc (oend_i h hE) hr rfl dX5_readTruthNames_100
    · rw [if_neg hh] at h
      refine go_aload_n hc dX5_readTruthNames_8 rfl rfl ?_
      refine go_getC (b := 43) rfl hc ho flX5_37 dX5_readTruthNames_9 ok_48 ?_
      refine go_getI hc ho flX5_84 dX5_readTruthNames_12 ok_43 ?_
      refine go_istore_n hc (lv1 := [.ref 48, .int l1, .int (mI σ 43 9), .null]) dX5_readTruthNames_15 rfl hL (by decide) (fun _ _ e => by cases e; rfl) rfl ?_
      refine go_aload_n hc dX5_readTruthNames_16 rfl rfl ?_
      refine go_iconst hc dX5_readTruthNames_17 ci_1 ?_
      obtain ⟨r1, σ2, hf3, h⟩ := obi_some h
      refine go_callVi hc ho cmX5_takeName mlX5_189 dX5_readTruthNames_18 ok_48 (As := [.int (1 : Int32)]) (rest := []) (rX5_takeName (N := 1) hf3 (Nat.le_refl _)) rfl (Nat.le_trans (Nat.le_of_ble_eq_true rfl) hN) rfl (Nat.le_of_ble_eq_true rfl) (Or.inl hz) ?_
      refine go_istore_n hc (lv1 := [.ref 48, .int l1, .int (mI σ 43 9), .int r1]) dX5_readTruthNames_21 rfl hL (by decide) (fun _ _ e => by cases e; rfl) rfl ?_
      refine go_iload_n hc dX5_readTruthNames_22 rfl rfl ?_
      refine go_if_ge (tgt := 28) hc dX5_readTruthNames_23 rfl (fun hh => ?_) (fun hh => ?_)
      · rw [if_pos hh] at h
        refine go_aload_n hc dX5_readTruthNames_28 rfl rfl ?_
        obtain ⟨hg4, h⟩ := ogd_some h
        refine go_getR hc ho flX5_41 dX5_readTruthNames_29 ok_48 ?_
        refine go_getC (b := (mR σ2 48 1) + 1) (ow_c0_0 (of_decide_eq_true hg4)) hc ho flX5_72 dX5_readTruthNames_32 (of_decide_eq_true hg4) ?_
        refine go_getI hc ho flX5_193 dX5_readTruthNames_35 (ow_k1 (of_decide_eq_true hg4)) ?_
        refine go_i2l hc dX5_readTruthNames_38 ?_
        refine go_iload_n hc dX5_readTruthNames_39 rfl rfl ?_
        obtain ⟨r5, σ6, hf7, h⟩ := obi_some h
        refine go_callSNi hc ho cmX9_bitOf mnX5_196 dX5_readTruthNames_40 (As := [.long ((mI σ2 ((mR σ2 48 1) + 1) 5).toInt64), .int r1]) (rest := []) (rX9_bitOf (N := 0) hf7 (Nat.le_refl _)) rfl (Nat.le_trans (Nat.le_of_ble_eq_true rfl) hN) rfl (Nat.le_of_ble_eq_true rfl) (Or.inl hz) ?_
        refine go_iconst hc dX5_readTruthNames_43 ci_1 ?_
        refine go_icmp_ne (tgt := 54) hc dX5_readTruthNames_44 rfl (fun hh => ?_) (fun hh => ?_)
        · rw [if_neg hh] at h
          refine go_aload_n hc dX5_readTruthNames_54 rfl rfl ?_
          obtain ⟨hg8, h⟩ := ogd_some h
          refine go_getR hc ho flX5_41 dX5_readTruthNames_55 ok_48 ?_
          refine go_getC (b := (mR σ6 48 1) + 1) (ow_c0_0 (of_decide_eq_true hg8)) hc ho flX5_72 dX5_readTruthNames_58 (of_decide_eq_true hg8) ?_
          refine go_dup hc dX5_readTruthNames_61 rfl ?_
          refine go_getI hc ho flX5_193 dX5_readTruthNames_62 (ow_k1 (of_decide_eq_true hg8)) ?_
          refine go_iconst hc dX5_readTruthNames_65 ci_1 ?_
          refine go_iload_n hc dX5_readTruthNames_66 rfl rfl ?_
          refine go_ishl hc dX5_readTruthNames_67 ?_
          refine go_ior hc dX5_readTruthNames_68 ?_
          refine go_putI hc ho fpX5_193 dX5_readTruthNames_69 (ow_k1 (of_decide_eq_true hg8)) (fun g => oni g _) (fun _ => rfl) ?_
          refine go_aload_n hc dX5_readTruthNames_72 rfl rfl ?_
          refine go_getC (b := 43) rfl hc ho flX5_37 dX5_readTruthNames_73 ok_48 ?_
          refine go_getI hc ho flX5_94 dX5_readTruthNames_76 ok_43 ?_
          refine go_bipush hc dX5_readTruthNames_79 cb_44 ?_
          refine go_icmp_eq (tgt := 86) hc dX5_readTruthNames_81 rfl (fun hh => ?_) (fun hh => ?_)
          · rw [if_pos hh] at h
            refine go_aload_n hc dX5_readTruthNames_86 rfl rfl ?_
            refine go_getC (b := 43) rfl hc ho flX5_37 dX5_readTruthNames_87 ok_48 ?_
            obtain ⟨σ10, hf11, h⟩ := obv_some h
            refine go_callVv hc ho cmX6_advance mlX5_97 dX5_readTruthNames_90 ok_43 (As := []) (rest := []) (rX6_advance (N := 0) hf11 (Nat.le_refl _)) rfl (Nat.le_trans (Nat.le_of_ble_eq_true rfl) hN) rfl (Nat.le_of_ble_eq_true rfl) (Or.inl hz) ?_
            refine go_iinc hc (lv1 := [.ref 48, .int (l1 + 1), .int (mI σ 43 9), .int r1]) dX5_readTruthNames_93 rfl ci_1 hL (by decide) (fun _ _ e => by cases e; rfl) rfl ?_
            refine go_goto (tgt := 2) hc dX5_readTruthNames_96 rfl ?_
            refine go_mask [true, true, false, false] (lv1 := [.ref 48, .int (l1 + 1), .null, .null]) rfl ?_
            exact ih (l1 + 1) _ h
          · rw [if_neg hh] at h
            refine go_iconst hc dX5_readTruthNames_84 ci_1 ?_
            exact go_zret hc (oend_i h hE) hr rfl dX5_readTruthNames_85
        · rw [if_pos hh] at h
          refine go_mask [true, false, true, false] (lv1 := [.ref 48, .null, .int (mI σ 43 9), .null]) rfl ?_
          exact rX5_readTruthNames_b47 hc ho hL hN hr hE hz h
      · rw [if_neg hh] at h
        refine go_iconst hc dX5_readTruthNames_26 ci_0 ?_
        exact go_zret hc (oend_i h hE) hr rfl dX5_readTruthNames_27
def fX5_readTruthNames (σ : OM) : Option (Int32 × OM) :=
  fX5_readTruthNames_b2 oF (0 : Int32) σ
set_option maxRecDepth 100000 in
set_option maxHeartbeats 4000000 in
theorem rX5_readTruthNames {N : Nat} {σ : OM} {r0 : Int32} {σ0 : OM} (h : fX5_readTruthNames σ = some (r0, σ0)) (hN0 : 2 ≤ N) : oEv N MX5_readTruthNames [.ref 48] σ (some (.int r0)) σ0 := by
  refine oEv_of (lv := [.ref 48, .null, .null, .null]) (by decide +kernel) (fun g q hq => hq) (fun g => Nat.le_of_ble_eq_true rfl) ?_
  intro K hc ho hL hN1 hr hE hz
  have hN : 2 ≤ kN K := by rw [hN1]; exact hN0
  unfold fX5_readTruthNames at h
  refine go_iconst hc dX5_readTruthNames_0 ci_0 ?_
  refine go_istore_n hc (lv1 := [.ref 48, .int (0 : Int32), .null, .null]) dX5_readTruthNames_1 rfl hL (by decide) (fun _ _ e => by cases e; rfl) rfl ?_
  exact rX5_readTruthNames_b2 hc ho hL hN hr hE hz oF (0 : Int32) _ h
def fX5_readTruth_b32 (l1 : Int32) (σ : OM) : Option (Int32 × OM) :=
  ogd (decide (okd (mR σ 48 1) = 8)) (
  ogd (decide (okd (mR (sI σ ((mR σ 48 1) + 1) 4 (1 : Int32)) 48 1) = 8)) (
  obi (fX2_stands (mR (sI σ ((mR σ 48 1) + 1) 4 (1 : Int32)) 48 1) (sI σ ((mR σ 48 1) + 1) 4 (1 : Int32))) (fun r3 σ4 =>
  if r3 = 0 then (
   obi (fX5_fail (7 : Int32) l1 σ4) (fun r6 σ7 =>
   if r6 = 0 then (
    some ((0 : Int32), σ7))
   else (some ((1 : Int32), σ7))))
  else (some ((1 : Int32), σ4)))))
set_option maxRecDepth 100000 in
set_option maxHeartbeats 4000000 in
theorem rX5_readTruth_b32 {K : OK} (hc : kcc K = cX5_readTruth) (ho : kow K = RX5) (hL : knL K = 2) (hN : 3 ≤ kN K) (hr : (kme K).sig.returnType = (some .boolean)) {r0 : Int32} {σ0 : OM} (hE : oEnd K (some (.int r0)) σ0) (hz : kz K = 0) {l1 : Int32} {σ : OM} (h : fX5_readTruth_b32 l1 σ = some (r0, σ0)) : Go K 32 [.ref 48, .int l1] [] σ := by
  unfold fX5_readTruth_b32 at h
  refine go_aload_n hc dX5_readTruth_32 rfl rfl ?_
  obtain ⟨hg1, h⟩ := ogd_some h
  refine go_getR hc ho flX5_41 dX5_readTruth_33 ok_48 ?_
  refine go_getC (b := (mR σ 48 1) + 1) (ow_c0_0 (of_decide_eq_true hg1)) hc ho flX5_72 dX5_readTruth_36 (of_decide_eq_true hg1) ?_
  refine go_iconst hc dX5_readTruth_39 ci_1 ?_
  refine go_putI hc ho fpX5_185 dX5_readTruth_40 (ow_k1 (of_decide_eq_true hg1)) (fun _ => rfl) (fun _ => rfl) ?_
  refine go_aload_n hc dX5_readTruth_43 rfl rfl ?_
  obtain ⟨hg2, h⟩ := ogd_some h
  refine go_getR hc ho flX5_41 dX5_readTruth_44 ok_48 ?_
  refine go_getC (b := (mR (sI σ ((mR σ 48 1) + 1) 4 (1 : Int32)) 48 1) + 1) (ow_c0_0 (of_decide_eq_true hg2)) hc ho flX5_72 dX5_readTruth_47 (of_decide_eq_true hg2) ?_
  obtain ⟨r3, σ4, hf5, h⟩ := obi_some h
  refine go_callVi hc ho cmX2_stands mlX5_179 dX5_readTruth_50 (ow_k1 (of_decide_eq_true hg2)) (As := []) (rest := []) (rX2_stands (N := 1) (of_decide_eq_true hg2) hf5 (Nat.le_refl _)) rfl (Nat.le_trans (Nat.le_of_ble_eq_true rfl) hN) rfl (Nat.le_of_ble_eq_true rfl) (Or.inl hz) ?_
  refine go_if_ne (tgt := 66) hc dX5_readTruth_53 rfl (fun hh => ?_) (fun hh => ?_)
  · rw [if_neg hh] at h
    refine go_iconst hc dX5_readTruth_66 ci_1 ?_
    refine go_goto (tgt := 71) hc dX5_readTruth_67 rfl ?_
    exact go_zret hc (oend_i h hE) hr rfl dX5_readTruth_71
  · rw [if_pos hh] at h
    refine go_aload_n hc dX5_readTruth_56 rfl rfl ?_
    refine go_bipush hc dX5_readTruth_57 cb_7 ?_
    refine go_iload_n hc dX5_readTruth_59 rfl rfl ?_
    obtain ⟨r6, σ7, hf8, h⟩ := obi_some h
    refine go_callVi hc ho cmX5_fail mlX5_87 dX5_readTruth_60 ok_48 (As := [.int (7 : Int32), .int l1]) (rest := []) (rX5_fail (N := 0) hf8 (Nat.le_refl _)) rfl (Nat.le_trans (Nat.le_of_ble_eq_true rfl) hN) rfl (Nat.le_of_ble_eq_true rfl) (Or.inl hz) ?_
    refine go_if_eq (tgt := 70) hc dX5_readTruth_63 rfl (fun hh => ?_) (fun hh => ?_)
    · rw [if_pos hh] at h
      refine go_iconst hc dX5_readTruth_70 ci_0 ?_
      exact go_zret hc (oend_i h hE) hr rfl dX5_readTruth_71
    · rw [if_neg hh] at h
      refine go_iconst hc dX5_readTruth_66 ci_1 ?_
      refine go_goto (tgt := 71) hc dX5_readTruth_67 rfl ?_
      exact go_zret hc (oend_i h hE) hr rfl dX5_readTruth_71
def fX5_readTruth (x0 : Int32) (σ : OM) : Option (Int32 × OM) :=
  if (mI σ 43 8) = (267 : Int32) then (
   obv (fX6_advance σ) (fun σ5 =>
   fX5_readTruth_b32 x0 σ5))
  else (obi (fX5_readTruthNames σ) (fun r1 σ2 =>
  if r1 = 0 then (
   some ((0 : Int32), σ2))
  else (fX5_readTruth_b32 x0 σ2)))
set_option maxRecDepth 100000 in
set_option maxHeartbeats 4000000 in
theorem rX5_readTruth {N : Nat} {x0 : Int32} {σ : OM} {r0 : Int32} {σ0 : OM} (h : fX5_readTruth x0 σ = some (r0, σ0)) (hN0 : 3 ≤ N) : oEv N MX5_readTruth [.ref 48, .int x0] σ (some (.int r0)) σ0 := by
  refine oEv_of (lv := [.ref 48, .int x0]) (by decide +kernel) (fun g q hq => hq) (fun g => Nat.le_of_ble_eq_true rfl) ?_
  intro K hc ho hL hN1 hr hE hz
  have hN : 3 ≤ kN K := by rw [hN1]; exact hN0
  unfold fX5_readTruth at h
  refine go_aload_n hc dX5_readTruth_0 rfl rfl ?_
  refine go_getC (b := 43) rfl hc ho flX5_37 dX5_readTruth_1 ok_48 ?_
  refine go_getI hc ho flX5_94 dX5_readTruth_4 ok_43 ?_
  refine go_sipush hc dX5_readTruth_7 cs_267 ?_
  refine go_icmp_ne (tgt := 23) hc dX5_readTruth_10 rfl (fun hh => ?_) (fun hh => ?_)
  · rw [if_neg hh] at h
    refine go_aload_n hc dX5_readTruth_23 rfl rfl ?_
    obtain ⟨r1, σ2, hf3, h⟩ := obi_some h
    refine go_callVi hc ho cmX5_readTruthNames mlX5_182 dX5_readTruth_24 ok_48 (As := []) (rest := []) (rX5_readTruthNames (N := 2) hf3 (Nat.le_refl _)) rfl (Nat.le_trans (Nat.le_of_ble_eq_true rfl) hN) rfl (Nat.le_of_ble_eq_true rfl) (Or.inl hz) ?_
    refine go_if_ne (tgt := 32) hc dX5_readTruth_27 rfl (fun hh => ?_) (fun hh => ?_)
    · rw [if_neg hh] at h
      exact rX5_readTruth_b32 hc ho hL hN hr hE hz h
    · rw [if_pos hh] at h
      refine go_iconst hc dX5_readTruth_30 ci_0 ?_
      exact go_zret hc (oend_i h hE) hr rfl dX5_readTruth_31
  · rw [if_pos hh] at h
    refine go_aload_n hc dX5_readTruth_13 rfl rfl ?_
    refine go_getC (b := 43) rfl hc ho flX5_37 dX5_readTruth_14 ok_48 ?_
    obtain ⟨σ5, hf6, h⟩ := obv_some h
    refine go_callVv hc ho cmX6_advance mlX5_97 dX5_readTruth_17 ok_43 (As := []) (rest := []) (rX6_advance (N := 0) hf6 (Nat.le_refl _)) rfl (Nat.le_trans (Nat.le_of_ble_eq_true rfl) hN) rfl (Nat.le_of_ble_eq_true rfl) (Or.inl hz) ?_
    refine go_goto (tgt := 32) hc dX5_readTruth_20 rfl ?_
    exact rX5_readTruth_b32 hc ho hL hN hr hE hz h
def fX5_readHouse (σ : OM) : Option (Int32 × OM) :=
  ogd (decide (okd (mR σ 48 1) = 8)) (
  if (6 : Int32) ≤ (mI σ (mR σ 48 1) 4) then (
   some ((0 : Int32), σ))
  else (obi (fX5_takeNewName (4 : Int32) (mI σ (mR σ 48 1) 4) σ) (fun r2 σ3 =>
  if r2 = 0 then (
   some ((0 : Int32), σ3))
  else (obi (fX5_takeWord (439855772532 : Int64) σ3) (fun r5 σ6 =>
  if r5 = 0 then (
   some ((0 : Int32), σ6))
  else (ogd (decide (okd (mR σ6 48 1) = 8)) (
  ogd (oin (mI σ (mR σ 48 1) 4) 6) (
  obi (fX5_takeWhole (0 : Int32) (999 : Int32) σ6) (fun r10 σ11 =>
  if (mI (sI σ11 ((mR σ6 48 1) + 14 + (mI σ (mR σ 48 1) 4).toNatClampNeg) 0 r10) 48 2) = 0 then (
   obi (fX5_takeWord (1700881256 : Int64) (sI σ11 ((mR σ6 48 1) + 14 + (mI σ (mR σ 48 1) 4).toNatClampNeg) 0 r10)) (fun r13 σ14 =>
   if r13 = 0 then (
    some ((0 : Int32), σ14))
   else (ogd (decide (okd (mR σ14 48 1) = 8)) (
   ogd (oin (mI σ (mR σ 48 1) 4) 6) (
   obi (fX5_takeWhole (1 : Int32) (99 : Int32) σ14) (fun r18 σ19 =>
   if (mI (sI σ19 ((mR σ14 48 1) + 14 + (mI σ (mR σ 48 1) 4).toNatClampNeg) 1 r18) 48 2) = 0 then (
    obi (fX5_takeWord (500219604595 : Int64) (sI σ19 ((mR σ14 48 1) + 14 + (mI σ (mR σ 48 1) 4).toNatClampNeg) 1 r18)) (fun r21 σ22 =>
    if r21 = 0 then (
     some ((0 : Int32), σ22))
    else (ogd (decide (okd (mR σ22 48 1) = 8)) (
    ogd (oin (mI σ (mR σ 48 1) 4) 6) (
    obi (fX5_takeWhole (0 : Int32) (99 : Int32) σ22) (fun r26 σ27 =>
    ogd (decide (okd (mR (sI σ27 ((mR σ22 48 1) + 14 + (mI σ (mR σ 48 1) 4).toNatClampNeg) 2 r26) 48 1) = 8)) (
    if (mI (sI (sI σ27 ((mR σ22 48 1) + 14 + (mI σ (mR σ 48 1) 4).toNatClampNeg) 2 r26) (mR (sI σ27 ((mR σ22 48 1) + 14 + (mI σ (mR σ 48 1) 4).toNatClampNeg) 2 r26) 48 1) 4 ((mI (sI σ27 ((mR σ22 48 1) + 14 + (mI σ (mR σ 48 1) 4).toNatClampNeg) 2 r26) (mR (sI σ27 ((mR σ22 48 1) + 14 + (mI σ (mR σ 48 1) 4).toNatClampNeg) 2 r26) 48 1) 4) + (1 : Int32))) 48 2) = 0 then (
     some ((1 : Int32), sI (sI σ27 ((mR σ22 48 1) + 14 + (mI σ (mR σ 48 1) 4).toNatClampNeg) 2 r26) (mR (sI σ27 ((mR σ22 48 1) + 14 + (mI σ (mR σ 48 1) 4).toNatClampNeg) 2 r26) 48 1) 4 ((mI (sI σ27 ((mR σ22 48 1) + 14 + (mI σ (mR σ 48 1) 4).toNatClampNeg) 2 r26) (mR (sI σ27 ((mR σ22 48 1) + 14 + (mI σ (mR σ 48 1) 4).toNatClampNeg) 2 r26) 48 1) 4) + (1 : Int32))))
    else (some ((0 : Int32), sI (sI σ27 ((mR σ22 48 1) + 14 + (mI σ (mR σ 48 1) 4).toNatClampNeg) 2 r26) (mR (sI σ27 ((mR σ22 48 1) + 14 + (mI σ (mR σ 48 1) 4).toNatClampNeg) 2 r26) 48 1) 4 ((mI (sI σ27 ((mR σ22 48 1) + 14 + (mI σ (mR σ 48 1) 4).toNatClampNeg) 2 r26) (mR (sI σ27 ((mR σ22 48 1) + 14 + (mI σ (mR σ 48 1) 4).toNatClampNeg) 2 r26) 48 1) 4) + (1 : Int32)))))))))))
   else (some ((0 : Int32), sI σ19 ((mR σ14 48 1) + 14 + (mI σ (mR σ 48 1) 4).toNatClampNeg) 1 r18))))))))
  else (some ((0 : Int32), sI σ11 ((mR σ6 48 1) + 14 + (mI σ (mR σ 48 1) 4).toNatClampNeg) 0 r10)))))))))))
set_option maxRecDepth 100000 in
set_option maxHeartbeats 4000000 in
theorem rX5_readHouse {N : Nat} {σ : OM} {r0 : Int32} {σ0 : OM} (h : fX5_readHouse σ = some (r0, σ0)) (hN0 : 2 ≤ N) : oEv N MX5_readHouse [.ref 48] σ (some (.int r0)) σ0 := by
  refine oEv_of (lv := [.ref 48, .null]) (by decide +kernel) (fun g q hq => hq) (fun g => Nat.le_of_ble_eq_true rfl) ?_
  intro K hc ho hL hN1 hr hE hz
  have hN : 2 ≤ kN K := by rw [hN1]; exact hN0
  unfold fX5_readHouse at h
  refine go_aload_n hc dX5_readHouse_0 rfl rfl ?_
  obtain ⟨hg1, h⟩ := ogd_some h
  refine go_getR hc ho flX5_41 dX5_readHouse_1 ok_48 ?_
  refine go_getI hc ho flX5_81 dX5_readHouse_4 (of_decide_eq_true hg1) ?_
  refine go_istore_n hc (lv1 := [.ref 48, .int (mI σ (mR σ 48 1) 4)]) dX5_readHouse_7 rfl hL (by decide) (fun _ _ e => by cases e; rfl) rfl ?_
  refine go_iload_n hc dX5_readHouse_8 rfl rfl ?_
  refine go_bipush hc dX5_readHouse_9 cb_6 ?_
  refine go_icmp_ge (tgt := 33) hc dX5_readHouse_11 rfl (fun hh => ?_) (fun hh => ?_)
  · rw [if_pos hh] at h
    refine go_iconst hc dX5_readHouse_33 ci_0 ?_
    exact go_zret hc (oend_i h hE) hr rfl dX5_readHouse_34
  · rw [if_neg hh] at h
    refine go_aload_n hc dX5_readHouse_14 rfl rfl ?_
    refine go_iconst hc dX5_readHouse_15 ci_4 ?_
    refine go_iload_n hc dX5_readHouse_16 rfl rfl ?_
    obtain ⟨r2, σ3, hf4, h⟩ := obi_some h
    refine go_callVi hc ho cmX5_takeNewName mlX5_160 dX5_readHouse_17 ok_48 (As := [.int (4 : Int32), .int (mI σ (mR σ 48 1) 4)]) (rest := []) (rX5_takeNewName (N := 1) hf4 (Nat.le_refl _)) rfl (Nat.le_trans (Nat.le_of_ble_eq_true rfl) hN) rfl (Nat.le_of_ble_eq_true rfl) (Or.inl hz) ?_
    refine go_if_eq (tgt := 33) hc dX5_readHouse_20 rfl (fun hh => ?_) (fun hh => ?_)
    · rw [if_pos hh] at h
      refine go_iconst hc dX5_readHouse_33 ci_0 ?_
      exact go_zret hc (oend_i h hE) hr rfl dX5_readHouse_34
    · rw [if_neg hh] at h
      refine go_aload_n hc dX5_readHouse_23 rfl rfl ?_
      refine go_ldc2 hc ho klX5_200 dX5_readHouse_24 ?_
      obtain ⟨r5, σ6, hf7, h⟩ := obi_some h
      refine go_callVi hc ho cmX5_takeWord mlX5_143 dX5_readHouse_27 ok_48 (As := [.long (439855772532 : Int64)]) (rest := []) (rX5_takeWord (N := 1) hf7 (Nat.le_refl _)) rfl (Nat.le_trans (Nat.le_of_ble_eq_true rfl) hN) rfl (Nat.le_of_ble_eq_true rfl) (Or.inl hz) ?_
      refine go_if_ne (tgt := 35) hc dX5_readHouse_30 rfl (fun hh => ?_) (fun hh => ?_)
      · rw [if_neg hh] at h
        refine go_aload_n hc dX5_readHouse_35 rfl rfl ?_
        obtain ⟨hg8, h⟩ := ogd_some h
        refine go_getR hc ho flX5_41 dX5_readHouse_36 ok_48 ?_
        refine go_getC (b := (mR σ6 48 1) + 13) (ow_c0_3 (of_decide_eq_true hg8)) hc ho flX5_202 dX5_readHouse_39 (of_decide_eq_true hg8) ?_
        refine go_iload_n hc dX5_readHouse_42 rfl rfl ?_
        obtain ⟨hg9, h⟩ := ogd_some h
        refine go_ald4 hc dX5_readHouse_43 (ow_k13 (of_decide_eq_true hg8)) (ow_l13 (of_decide_eq_true hg8)) hg9 rfl (oh_c (of_decide_eq_true hg8) (oin_lt hg9)) ?_
        refine go_aload_n hc dX5_readHouse_44 rfl rfl ?_
        refine go_iconst hc dX5_readHouse_45 ci_0 ?_
        refine go_sipush hc dX5_readHouse_46 cs_999 ?_
        obtain ⟨r10, σ11, hf12, h⟩ := obi_some h
        refine go_callVi hc ho cmX5_takeWhole mlX5_151 dX5_readHouse_49 ok_48 (As := [.int (0 : Int32), .int (999 : Int32)]) (rest := [.ref ((mR σ6 48 1) + 14 + (mI σ (mR σ 48 1) 4).toNatClampNeg)]) (rX5_takeWhole (N := 1) hf12 (Nat.le_refl _)) rfl (Nat.le_trans (Nat.le_of_ble_eq_true rfl) hN) rfl (Nat.le_of_ble_eq_true rfl) (Or.inl hz) ?_
        refine go_putI hc ho fpX5_206 dX5_readHouse_52 (oh_k (of_decide_eq_true hg8) (oin_lt hg9)) (fun g => oni g _) (fun _ => rfl) ?_
        refine go_aload_n hc dX5_readHouse_55 rfl rfl ?_
        refine go_getI hc ho flX5_50 dX5_readHouse_56 ok_48 ?_
        refine go_if_ne (tgt := 72) hc dX5_readHouse_59 rfl (fun hh => ?_) (fun hh => ?_)
        · rw [if_neg hh] at h
          refine go_iconst hc dX5_readHouse_72 ci_0 ?_
          exact go_zret hc (oend_i h hE) hr rfl dX5_readHouse_73
        · rw [if_pos hh] at h
          refine go_aload_n hc dX5_readHouse_62 rfl rfl ?_
          refine go_ldc2 hc ho klX5_211 dX5_readHouse_63 ?_
          obtain ⟨r13, σ14, hf15, h⟩ := obi_some h
          refine go_callVi hc ho cmX5_takeWord mlX5_143 dX5_readHouse_66 ok_48 (As := [.long (1700881256 : Int64)]) (rest := []) (rX5_takeWord (N := 1) hf15 (Nat.le_refl _)) rfl (Nat.le_trans (Nat.le_of_ble_eq_true rfl) hN) rfl (Nat.le_of_ble_eq_true rfl) (Or.inl hz) ?_
          refine go_if_ne (tgt := 74) hc dX5_readHouse_69 rfl (fun hh => ?_) (fun hh => ?_)
          · rw [if_neg hh] at h
            refine go_aload_n hc dX5_readHouse_74 rfl rfl ?_
            obtain ⟨hg16, h⟩ := ogd_some h
            refine go_getR hc ho flX5_41 dX5_readHouse_75 ok_48 ?_
            refine go_getC (b := (mR σ14 48 1) + 13) (ow_c0_3 (of_decide_eq_true hg16)) hc ho flX5_202 dX5_readHouse_78 (of_decide_eq_true hg16) ?_
            refine go_iload_n hc dX5_readHouse_81 rfl rfl ?_
            obtain ⟨hg17, h⟩ := ogd_some h
            refine go_ald4 hc dX5_readHouse_82 (ow_k13 (of_decide_eq_true hg16)) (ow_l13 (of_decide_eq_true hg16)) hg17 rfl (oh_c (of_decide_eq_true hg16) (oin_lt hg17)) ?_
            refine go_aload_n hc dX5_readHouse_83 rfl rfl ?_
            refine go_iconst hc dX5_readHouse_84 ci_1 ?_
            refine go_bipush hc dX5_readHouse_85 cb_99 ?_
            obtain ⟨r18, σ19, hf20, h⟩ := obi_some h
            refine go_callVi hc ho cmX5_takeWhole mlX5_151 dX5_readHouse_87 ok_48 (As := [.int (1 : Int32), .int (99 : Int32)]) (rest := [.ref ((mR σ14 48 1) + 14 + (mI σ (mR σ 48 1) 4).toNatClampNeg)]) (rX5_takeWhole (N := 1) hf20 (Nat.le_refl _)) rfl (Nat.le_trans (Nat.le_of_ble_eq_true rfl) hN) rfl (Nat.le_of_ble_eq_true rfl) (Or.inl hz) ?_
            refine go_putI hc ho fpX5_213 dX5_readHouse_90 (oh_k (of_decide_eq_true hg16) (oin_lt hg17)) (fun g => oni g _) (fun _ => rfl) ?_
            refine go_aload_n hc dX5_readHouse_93 rfl rfl ?_
            refine go_getI hc ho flX5_50 dX5_readHouse_94 ok_48 ?_
            refine go_if_ne (tgt := 110) hc dX5_readHouse_97 rfl (fun hh => ?_) (fun hh => ?_)
            · rw [if_neg hh] at h
              refine go_iconst hc dX5_readHouse_110 ci_0 ?_
              exact go_zret hc (oend_i h hE) hr rfl dX5_readHouse_111
            · rw [if_pos hh] at h
              refine go_aload_n hc dX5_readHouse_100 rfl rfl ?_
              refine go_ldc2 hc ho klX5_216 dX5_readHouse_101 ?_
              obtain ⟨r21, σ22, hf23, h⟩ := obi_some h
              refine go_callVi hc ho cmX5_takeWord mlX5_143 dX5_readHouse_104 ok_48 (As := [.long (500219604595 : Int64)]) (rest := []) (rX5_takeWord (N := 1) hf23 (Nat.le_refl _)) rfl (Nat.le_trans (Nat.le_of_ble_eq_true rfl) hN) rfl (Nat.le_of_ble_eq_true rfl) (Or.inl hz) ?_
              refine go_if_ne (tgt := 112) hc dX5_readHouse_107 rfl (fun hh => ?_) (fun hh => ?_)
              · rw [if_neg hh] at h
                refine go_aload_n hc dX5_readHouse_112 rfl rfl ?_
                obtain ⟨hg24, h⟩ := ogd_some h
                refine go_getR hc ho flX5_41 dX5_readHouse_113 ok_48 ?_
                refine go_getC (b := (mR σ22 48 1) + 13) (ow_c0_3 (of_decide_eq_true hg24)) hc ho flX5_202 dX5_readHouse_116 (of_decide_eq_true hg24) ?_
                refine go_iload_n hc dX5_readHouse_119 rfl rfl ?_
                obtain ⟨hg25, h⟩ := ogd_some h
                refine go_ald4 hc dX5_readHouse_120 (ow_k13 (of_decide_eq_true hg24)) (ow_l13 (of_decide_eq_true hg24)) hg25 rfl (oh_c (of_decide_eq_true hg24) (oin_lt hg25)) ?_
                refine go_aload_n hc dX5_readHouse_121 rfl rfl ?_
                refine go_iconst hc dX5_readHouse_122 ci_0 ?_
                refine go_bipush hc dX5_readHouse_123 cb_99 ?_
                obtain ⟨r26, σ27, hf28, h⟩ := obi_some h
                refine go_callVi hc ho cmX5_takeWhole mlX5_151 dX5_readHouse_125 ok_48 (As := [.int (0 : Int32), .int (99 : Int32)]) (rest := [.ref ((mR σ22 48 1) + 14 + (mI σ (mR σ 48 1) 4).toNatClampNeg)]) (rX5_takeWhole (N := 1) hf28 (Nat.le_refl _)) rfl (Nat.le_trans (Nat.le_of_ble_eq_true rfl) hN) rfl (Nat.le_of_ble_eq_true rfl) (Or.inl hz) ?_
                refine go_putI hc ho fpX5_218 dX5_readHouse_128 (oh_k (of_decide_eq_true hg24) (oin_lt hg25)) (fun g => oni g _) (fun _ => rfl) ?_
                refine go_aload_n hc dX5_readHouse_131 rfl rfl ?_
                obtain ⟨hg29, h⟩ := ogd_some h
                refine go_getR hc ho flX5_41 dX5_readHouse_132 ok_48 ?_
                refine go_dup hc dX5_readHouse_135 rfl ?_
                refine go_getI hc ho flX5_81 dX5_readHouse_136 (of_decide_eq_true hg29) ?_
                refine go_iconst hc dX5_readHouse_139 ci_1 ?_
                refine go_iadd hc dX5_readHouse_140 ?_
                refine go_putI hc ho fpX5_81 dX5_readHouse_141 (of_decide_eq_true hg29) (fun g => oni g _) (fun _ => rfl) ?_
                refine go_aload_n hc dX5_readHouse_144 rfl rfl ?_
                refine go_getI hc ho flX5_50 dX5_readHouse_145 ok_48 ?_
                refine go_if_ne (tgt := 155) hc dX5_readHouse_148 rfl (fun hh => ?_) (fun hh => ?_)
                · rw [if_neg hh] at h
                  refine go_iconst hc dX5_readHouse_155 ci_0 ?_
                  exact go_zret hc (oend_i h hE) hr rfl dX5_readHouse_156
                · rw [if_pos hh] at h
                  refine go_iconst hc dX5_readHouse_151 ci_1 ?_
                  refine go_goto (tgt := 156) hc dX5_readHouse_152 rfl ?_
                  exact go_zret hc (oend_i h hE) hr rfl dX5_readHouse_156
              · rw [if_pos hh] at h
                refine go_iconst hc dX5_readHouse_110 ci_0 ?_
                exact go_zret hc (oend_i h hE) hr rfl dX5_readHouse_111
          · rw [if_pos hh] at h
            refine go_iconst hc dX5_readHouse_72 ci_0 ?_
            exact go_zret hc (oend_i h hE) hr rfl dX5_readHouse_73
      · rw [if_pos hh] at h
        refine go_iconst hc dX5_readHouse_33 ci_0 ?_
        exact go_zret hc (oend_i h hE) hr rfl dX5_readHouse_34
def fX5_readTwin (σ : OM) : Option (Int32 × OM) :=
  obi (fX5_takeName (4 : Int32) σ) (fun r1 σ2 =>
  if r1 < 0 then (
   some ((0 : Int32), σ2))
  else (if r1 < (6 : Int32) then (
   obi (fX5_takeWhole (0 : Int32) (30 : Int32) σ2) (fun r4 σ5 =>
   if (mI σ5 48 2) = 0 then (
    ogd (decide (okd (mR σ5 48 1) = 8)) (
    ogd (oin r1 6) (
    obi (fX9_bitOf ((mI σ5 ((mR σ5 48 1) + 14 + r1.toNatClampNeg) 3).toInt64) r4 σ5) (fun r9 σ10 =>
    if r9 = (1 : Int32) then (
     obi (fX5_fail (3 : Int32) (mI σ2 43 9) σ10) (fun r15 σ16 =>
     ogd (oisb r15) (some (r15, σ16))))
    else (ogd (decide (okd (mR σ10 48 1) = 8)) (
    ogd (oin r1 6) (
    ogd (decide (okd (mR (sI σ10 ((mR σ10 48 1) + 14 + r1.toNatClampNeg) 3 ((mI σ10 ((mR σ10 48 1) + 14 + r1.toNatClampNeg) 3) ||| ((1 : Int32) <<< (r4 &&& 31)))) 48 1) = 8)) (
    some ((1 : Int32), sI (sI σ10 ((mR σ10 48 1) + 14 + r1.toNatClampNeg) 3 ((mI σ10 ((mR σ10 48 1) + 14 + r1.toNatClampNeg) 3) ||| ((1 : Int32) <<< (r4 &&& 31)))) (mR (sI σ10 ((mR σ10 48 1) + 14 + r1.toNatClampNeg) 3 ((mI σ10 ((mR σ10 48 1) + 14 + r1.toNatClampNeg) 3) ||| ((1 : Int32) <<< (r4 &&& 31)))) 48 1) 5 ((mI (sI σ10 ((mR σ10 48 1) + 14 + r1.toNatClampNeg) 3 ((mI σ10 ((mR σ10 48 1) + 14 + r1.toNatClampNeg) 3) ||| ((1 : Int32) <<< (r4 &&& 31)))) (mR (sI σ10 ((mR σ10 48 1) + 14 + r1.toNatClampNeg) 3 ((mI σ10 ((mR σ10 48 1) + 14 + r1.toNatClampNeg) 3) ||| ((1 : Int32) <<< (r4 &&& 31)))) 48 1) 5) + (1 : Int32)))))))))))
   else (some ((0 : Int32), σ5))))
  else (some ((0 : Int32), σ2))))
set_option maxRecDepth 100000 in
set_option maxHeartbeats 4000000 in
theorem rX5_readTwin {N : Nat} {σ : OM} {r0 : Int32} {σ0 : OM} (h : fX5_readTwin σ = some (r0, σ0)) (hN0 : 2 ≤ N) : oEv N MX5_readTwin [.ref 48] σ (some (.int r0)) σ0 := by
  refine oEv_of (lv := [.ref 48, .null, .null, .null]) (by decide +kernel) (fun g q hq => hq) (fun g => Nat.le_of_ble_eq_true rfl) ?_
  intro K hc ho hL hN1 hr hE hz
  have hN : 2 ≤ kN K := by rw [hN1]; exact hN0
  unfold fX5_readTwin at h
  refine go_aload_n hc dX5_readTwin_0 rfl rfl ?_
  refine go_iconst hc dX5_readTwin_1 ci_4 ?_
  obtain ⟨r1, σ2, hf3, h⟩ := obi_some h
  refine go_callVi hc ho cmX5_takeName mlX5_189 dX5_readTwin_2 ok_48 (As := [.int (4 : Int32)]) (rest := []) (rX5_takeName (N := 1) hf3 (Nat.le_refl _)) rfl (Nat.le_trans (Nat.le_of_ble_eq_true rfl) hN) rfl (Nat.le_of_ble_eq_true rfl) (Or.inl hz) ?_
  refine go_istore_n hc (lv1 := [.ref 48, .int r1, .null, .null]) dX5_readTwin_5 rfl hL (by decide) (fun _ _ e => by cases e; rfl) rfl ?_
  refine go_iload_n hc dX5_readTwin_6 rfl rfl ?_
  refine go_if_lt (tgt := 16) hc dX5_readTwin_7 rfl (fun hh => ?_) (fun hh => ?_)
  · rw [if_pos hh] at h
    refine go_iconst hc dX5_readTwin_16 ci_0 ?_
    exact go_zret hc (oend_i h hE) hr rfl dX5_readTwin_17
  · rw [if_neg hh] at h
    refine go_iload_n hc dX5_readTwin_10 rfl rfl ?_
    refine go_bipush hc dX5_readTwin_11 cb_6 ?_
    refine go_icmp_lt (tgt := 18) hc dX5_readTwin_13 rfl (fun hh => ?_) (fun hh => ?_)
    · rw [if_pos hh] at h
      refine go_aload_n hc dX5_readTwin_18 rfl rfl ?_
      refine go_getC (b := 43) rfl hc ho flX5_37 dX5_readTwin_19 ok_48 ?_
      refine go_getI hc ho flX5_84 dX5_readTwin_22 ok_43 ?_
      refine go_istore_n hc (lv1 := [.ref 48, .int r1, .int (mI σ2 43 9), .null]) dX5_readTwin_25 rfl hL (by decide) (fun _ _ e => by cases e; rfl) rfl ?_
      refine go_aload_n hc dX5_readTwin_26 rfl rfl ?_
      refine go_iconst hc dX5_readTwin_27 ci_0 ?_
      refine go_bipush hc dX5_readTwin_28 cb_30 ?_
      obtain ⟨r4, σ5, hf6, h⟩ := obi_some h
      refine go_callVi hc ho cmX5_takeWhole mlX5_151 dX5_readTwin_30 ok_48 (As := [.int (0 : Int32), .int (30 : Int32)]) (rest := []) (rX5_takeWhole (N := 1) hf6 (Nat.le_refl _)) rfl (Nat.le_trans (Nat.le_of_ble_eq_true rfl) hN) rfl (Nat.le_of_ble_eq_true rfl) (Or.inl hz) ?_
      refine go_istore_n hc (lv1 := [.ref 48, .int r1, .int (mI σ2 43 9), .int r4]) dX5_readTwin_33 rfl hL (by decide) (fun _ _ e => by cases e; rfl) rfl ?_
      refine go_aload_n hc dX5_readTwin_34 rfl rfl ?_
      refine go_getI hc ho flX5_50 dX5_readTwin_35 ok_48 ?_
      refine go_if_eq (tgt := 43) hc dX5_readTwin_38 rfl (fun hh => ?_) (fun hh => ?_)
      · rw [if_pos hh] at h
        refine go_aload_n hc dX5_readTwin_43 rfl rfl ?_
        obtain ⟨hg7, h⟩ := ogd_some h
        refine go_getR hc ho flX5_41 dX5_readTwin_44 ok_48 ?_
        refine go_getC (b := (mR σ5 48 1) + 13) (ow_c0_3 (of_decide_eq_true hg7)) hc ho flX5_202 dX5_readTwin_47 (of_decide_eq_true hg7) ?_
        refine go_iload_n hc dX5_readTwin_50 rfl rfl ?_
        obtain ⟨hg8, h⟩ := ogd_some h
        refine go_ald4 hc dX5_readTwin_51 (ow_k13 (of_decide_eq_true hg7)) (ow_l13 (of_decide_eq_true hg7)) hg8 rfl (oh_c (of_decide_eq_true hg7) (oin_lt hg8)) ?_
        refine go_getI hc ho flX5_221 dX5_readTwin_52 (oh_k (of_decide_eq_true hg7) (oin_lt hg8)) ?_
        refine go_i2l hc dX5_readTwin_55 ?_
        refine go_iload_n hc dX5_readTwin_56 rfl rfl ?_
        obtain ⟨r9, σ10, hf11, h⟩ := obi_some h
        refine go_callSNi hc ho cmX9_bitOf mnX5_196 dX5_readTwin_57 (As := [.long ((mI σ5 ((mR σ5 48 1) + 14 + r1.toNatClampNeg) 3).toInt64), .int r4]) (rest := []) (rX9_bitOf (N := 0) hf11 (Nat.le_refl _)) rfl (Nat.le_trans (Nat.le_of_ble_eq_true rfl) hN) rfl (Nat.le_of_ble_eq_true rfl) (Or.inl hz) ?_
        refine go_iconst hc dX5_readTwin_60 ci_1 ?_
        refine go_icmp_ne (tgt := 71) hc dX5_readTwin_61 rfl (fun hh => ?_) (fun hh => ?_)
        · rw [if_neg hh] at h
          refine go_aload_n hc dX5_readTwin_71 rfl rfl ?_
          obtain ⟨hg12, h⟩ := ogd_some h
          refine go_getR hc ho flX5_41 dX5_readTwin_72 ok_48 ?_
          refine go_getC (b := (mR σ10 48 1) + 13) (ow_c0_3 (of_decide_eq_true hg12)) hc ho flX5_202 dX5_readTwin_75 (of_decide_eq_true hg12) ?_
          refine go_iload_n hc dX5_readTwin_78 rfl rfl ?_
          obtain ⟨hg13, h⟩ := ogd_some h
          refine go_ald4 hc dX5_readTwin_79 (ow_k13 (of_decide_eq_true hg12)) (ow_l13 (of_decide_eq_true hg12)) hg13 rfl (oh_c (of_decide_eq_true hg12) (oin_lt hg13)) ?_
          refine go_dup hc dX5_readTwin_80 rfl ?_
          refine go_getI hc ho flX5_221 dX5_readTwin_81 (oh_k (of_decide_eq_true hg12) (oin_lt hg13)) ?_
          refine go_iconst hc dX5_readTwin_84 ci_1 ?_
          refine go_iload_n hc dX5_readTwin_85 rfl rfl ?_
          refine go_ishl hc dX5_readTwin_86 ?_
          refine go_ior hc dX5_readTwin_87 ?_
          refine go_putI hc ho fpX5_221 dX5_readTwin_88 (oh_k (of_decide_eq_true hg12) (oin_lt hg13)) (fun g => oni g _) (fun _ => rfl) ?_
          refine go_aload_n hc dX5_readTwin_91 rfl rfl ?_
          obtain ⟨hg14, h⟩ := ogd_some h
          refine go_getR hc ho flX5_41 dX5_readTwin_92 ok_48 ?_
          refine go_dup hc dX5_readTwin_95 rfl ?_
          refine go_getI hc ho flX5_224 dX5_readTwin_96 (of_decide_eq_true hg14) ?_
          refine go_iconst hc dX5_readTwin_99 ci_1 ?_
          refine go_iadd hc dX5_readTwin_100 ?_
          refine go_putI hc ho fpX5_224 dX5_readTwin_101 (of_decide_eq_true hg14) (fun g => oni g _) (fun _ => rfl) ?_
          refine go_iconst hc dX5_readTwin_104 ci_1 ?_
          exact go_zret hc (oend_i h hE) hr rfl dX5_readTwin_105
        · rw [if_pos hh] at h
          refine go_aload_n hc dX5_readTwin_64 rfl rfl ?_
          refine go_iconst hc dX5_readTwin_65 ci_3 ?_
          refine go_iload_n hc dX5_readTwin_66 rfl rfl ?_
          obtain ⟨r15, σ16, hf17, h⟩ := obi_some h
          refine go_callVi hc ho cmX5_fail mlX5_87 dX5_readTwin_67 ok_48 (As := [.int (3 : Int32), .int (mI σ2 43 9)]) (rest := []) (rX5_fail (N := 0) hf17 (Nat.le_refl _)) rfl (Nat.le_trans (Nat.le_of_ble_eq_true rfl) hN) rfl (Nat.le_of_ble_eq_true rfl) (Or.inl hz) ?_
          obtain ⟨hg18, h⟩ := ogd_some h
          exact go_zret hc (oend_i h hE) hr (oisb_n hg18) dX5_readTwin_70
      · rw [if_neg hh] at h
        refine go_iconst hc dX5_readTwin_41 ci_0 ?_
        exact go_zret hc (oend_i h hE) hr rfl dX5_readTwin_42
    · rw [if_neg hh] at h
      refine go_iconst hc dX5_readTwin_16 ci_0 ?_
      exact go_zret hc (oend_i h hE) hr rfl dX5_readTwin_17
def fX5_readEnds (σ : OM) : Option (Int32 × OM) :=
  obi (fX5_takeName (4 : Int32) σ) (fun r1 σ2 =>
  if r1 < 0 then (
   some ((0 : Int32), σ2))
  else (if r1 < (6 : Int32) then (
   ogd (decide (okd (mR σ2 48 1) = 8)) (
   ogd (oin r1 6) (
   if (mI σ2 ((mR σ2 48 1) + 14 + r1.toNatClampNeg) 4) = ((-1) : Int32) then (
    ogd (decide (okd (mR σ2 48 1) = 8)) (
    ogd (oin r1 6) (
    obi (fX5_takeWhole (0 : Int32) (999 : Int32) σ2) (fun r8 σ9 =>
    if (mI (sI σ9 ((mR σ2 48 1) + 14 + r1.toNatClampNeg) 4 r8) 48 2) = 0 then (
     some ((1 : Int32), sI σ9 ((mR σ2 48 1) + 14 + r1.toNatClampNeg) 4 r8))
    else (some ((0 : Int32), sI σ9 ((mR σ2 48 1) + 14 + r1.toNatClampNeg) 4 r8))))))
   else (obi (fX5_fail (3 : Int32) (mI σ 43 9) σ2) (fun r11 σ12 =>
   ogd (oisb r11) (some (r11, σ12)))))))
  else (some ((0 : Int32), σ2))))
set_option maxRecDepth 100000 in
set_option maxHeartbeats 4000000 in
theorem rX5_readEnds {N : Nat} {σ : OM} {r0 : Int32} {σ0 : OM} (h : fX5_readEnds σ = some (r0, σ0)) (hN0 : 2 ≤ N) : oEv N MX5_readEnds [.ref 48] σ (some (.int r0)) σ0 := by
  refine oEv_of (lv := [.ref 48, .null, .null]) (by decide +kernel) (fun g q hq => hq) (fun g => Nat.le_of_ble_eq_true rfl) ?_
  intro K hc ho hL hN1 hr hE hz
  have hN : 2 ≤ kN K := by rw [hN1]; exact hN0
  unfold fX5_readEnds at h
  refine go_aload_n hc dX5_readEnds_0 rfl rfl ?_
  refine go_getC (b := 43) rfl hc ho flX5_37 dX5_readEnds_1 ok_48 ?_
  refine go_getI hc ho flX5_84 dX5_readEnds_4 ok_43 ?_
  refine go_istore_n hc (lv1 := [.ref 48, .int (mI σ 43 9), .null]) dX5_readEnds_7 rfl hL (by decide) (fun _ _ e => by cases e; rfl) rfl ?_
  refine go_aload_n hc dX5_readEnds_8 rfl rfl ?_
  refine go_iconst hc dX5_readEnds_9 ci_4 ?_
  obtain ⟨r1, σ2, hf3, h⟩ := obi_some h
  refine go_callVi hc ho cmX5_takeName mlX5_189 dX5_readEnds_10 ok_48 (As := [.int (4 : Int32)]) (rest := []) (rX5_takeName (N := 1) hf3 (Nat.le_refl _)) rfl (Nat.le_trans (Nat.le_of_ble_eq_true rfl) hN) rfl (Nat.le_of_ble_eq_true rfl) (Or.inl hz) ?_
  refine go_istore_n hc (lv1 := [.ref 48, .int (mI σ 43 9), .int r1]) dX5_readEnds_13 rfl hL (by decide) (fun _ _ e => by cases e; rfl) rfl ?_
  refine go_iload_n hc dX5_readEnds_14 rfl rfl ?_
  refine go_if_lt (tgt := 24) hc dX5_readEnds_15 rfl (fun hh => ?_) (fun hh => ?_)
  · rw [if_pos hh] at h
    refine go_iconst hc dX5_readEnds_24 ci_0 ?_
    exact go_zret hc (oend_i h hE) hr rfl dX5_readEnds_25
  · rw [if_neg hh] at h
    refine go_iload_n hc dX5_readEnds_18 rfl rfl ?_
    refine go_bipush hc dX5_readEnds_19 cb_6 ?_
    refine go_icmp_lt (tgt := 26) hc dX5_readEnds_21 rfl (fun hh => ?_) (fun hh => ?_)
    · rw [if_pos hh] at h
      refine go_aload_n hc dX5_readEnds_26 rfl rfl ?_
      obtain ⟨hg4, h⟩ := ogd_some h
      refine go_getR hc ho flX5_41 dX5_readEnds_27 ok_48 ?_
      refine go_getC (b := (mR σ2 48 1) + 13) (ow_c0_3 (of_decide_eq_true hg4)) hc ho flX5_202 dX5_readEnds_30 (of_decide_eq_true hg4) ?_
      refine go_iload_n hc dX5_readEnds_33 rfl rfl ?_
      obtain ⟨hg5, h⟩ := ogd_some h
      refine go_ald4 hc dX5_readEnds_34 (ow_k13 (of_decide_eq_true hg4)) (ow_l13 (of_decide_eq_true hg4)) hg5 rfl (oh_c (of_decide_eq_true hg4) (oin_lt hg5)) ?_
      refine go_getI hc ho flX5_227 dX5_readEnds_35 (oh_k (of_decide_eq_true hg4) (oin_lt hg5)) ?_
      refine go_iconst hc dX5_readEnds_38 ci_m1 ?_
      refine go_icmp_eq (tgt := 49) hc dX5_readEnds_39 rfl (fun hh => ?_) (fun hh => ?_)
      · rw [if_pos hh] at h
        refine go_aload_n hc dX5_readEnds_49 rfl rfl ?_
        obtain ⟨hg6, h⟩ := ogd_some h
        refine go_getR hc ho flX5_41 dX5_readEnds_50 ok_48 ?_
        refine go_getC (b := (mR σ2 48 1) + 13) (ow_c0_3 (of_decide_eq_true hg6)) hc ho flX5_202 dX5_readEnds_53 (of_decide_eq_true hg6) ?_
        refine go_iload_n hc dX5_readEnds_56 rfl rfl ?_
        obtain ⟨hg7, h⟩ := ogd_some h
        refine go_ald4 hc dX5_readEnds_57 (ow_k13 (of_decide_eq_true hg6)) (ow_l13 (of_decide_eq_true hg6)) hg7 rfl (oh_c (of_decide_eq_true hg6) (oin_lt hg7)) ?_
        refine go_aload_n hc dX5_readEnds_58 rfl rfl ?_
        refine go_iconst hc dX5_readEnds_59 ci_0 ?_
        refine go_sipush hc dX5_readEnds_60 cs_999 ?_
        obtain ⟨r8, σ9, hf10, h⟩ := obi_some h
        refine go_callVi hc ho cmX5_takeWhole mlX5_151 dX5_readEnds_63 ok_48 (As := [.int (0 : Int32), .int (999 : Int32)]) (rest := [.ref ((mR σ2 48 1) + 14 + r1.toNatClampNeg)]) (rX5_takeWhole (N := 1) hf10 (Nat.le_refl _)) rfl (Nat.le_trans (Nat.le_of_ble_eq_true rfl) hN) rfl (Nat.le_of_ble_eq_true rfl) (Or.inl hz) ?_
        refine go_putI hc ho fpX5_227 dX5_readEnds_66 (oh_k (of_decide_eq_true hg6) (oin_lt hg7)) (fun g => oni g _) (fun _ => rfl) ?_
        refine go_aload_n hc dX5_readEnds_69 rfl rfl ?_
        refine go_getI hc ho flX5_50 dX5_readEnds_70 ok_48 ?_
        refine go_if_ne (tgt := 80) hc dX5_readEnds_73 rfl (fun hh => ?_) (fun hh => ?_)
        · rw [if_neg hh] at h
          refine go_iconst hc dX5_readEnds_80 ci_0 ?_
          exact go_zret hc (oend_i h hE) hr rfl dX5_readEnds_81
        · rw [if_pos hh] at h
          refine go_iconst hc dX5_readEnds_76 ci_1 ?_
          refine go_goto (tgt := 81) hc dX5_readEnds_77 rfl ?_
          exact go_zret hc (oend_i h hE) hr rfl dX5_readEnds_81
      · rw [if_neg hh] at h
        refine go_aload_n hc dX5_readEnds_42 rfl rfl ?_
        refine go_iconst hc dX5_readEnds_43 ci_3 ?_
        refine go_iload_n hc dX5_readEnds_44 rfl rfl ?_
        obtain ⟨r11, σ12, hf13, h⟩ := obi_some h
        refine go_callVi hc ho cmX5_fail mlX5_87 dX5_readEnds_45 ok_48 (As := [.int (3 : Int32), .int (mI σ 43 9)]) (rest := []) (rX5_fail (N := 0) hf13 (Nat.le_refl _)) rfl (Nat.le_trans (Nat.le_of_ble_eq_true rfl) hN) rfl (Nat.le_of_ble_eq_true rfl) (Or.inl hz) ?_
        obtain ⟨hg14, h⟩ := ogd_some h
        exact go_zret hc (oend_i h hE) hr (oisb_n hg14) dX5_readEnds_48
    · rw [if_neg hh] at h
      refine go_iconst hc dX5_readEnds_24 ci_0 ?_
      exact go_zret hc (oend_i h hE) hr rfl dX5_readEnds_25
def fX2_addQuestion (w : Nat) (x0 : Int64) (σ : OM) : Option OM :=
  if (mI σ (w + 1) 6) < 0 then (
   some σ)
  else (if (8 : Int32) ≤ (mI σ (w + 1) 6) then (
   some σ)
  else (ogd (oin (mI σ (w + 1) 6) 8) (
  some (sI (sL σ (w + 3) ((mI σ (w + 1) 6).toNatClampNeg) x0) (w + 1) 6 ((mI (sL σ (w + 3) ((mI σ (w + 1) 6).toNatClampNeg) x0) (w + 1) 6) + (1 : Int32))))))
set_option maxRecDepth 100000 in
set_option maxHeartbeats 4000000 in
theorem rX2_addQuestion {N : Nat} {w : Nat} {x0 : Int64} {σ : OM} {σ0 : OM} (hw : okd w = 8) (h : fX2_addQuestion w x0 σ = some σ0) (hN0 : 0 ≤ N) : oEv N MX2_addQuestion [.ref (w + 1), .long x0] σ (none) σ0 := by
  refine oEv_of (lv := [.ref (w + 1), .long x0, .null]) (by decide +kernel) (fun g q hq => hq) (fun g => Nat.le_of_ble_eq_true rfl) ?_
  intro K hc ho hL hN1 hr hE hz
  have hN : 0 ≤ kN K := by rw [hN1]; exact hN0
  unfold fX2_addQuestion at h
  refine go_aload_n hc dX2_addQuestion_0 rfl rfl ?_
  refine go_getI hc ho flX2_42 dX2_addQuestion_1 (ow_k1 hw) ?_
  refine go_if_lt (tgt := 36) hc dX2_addQuestion_4 rfl (fun hh => ?_) (fun hh => ?_)
  · rw [if_pos hh] at h
    exact go_vret hc (oend_v h hE) hr dX2_addQuestion_36
  · rw [if_neg hh] at h
    refine go_aload_n hc dX2_addQuestion_7 rfl rfl ?_
    refine go_getI hc ho flX2_42 dX2_addQuestion_8 (ow_k1 hw) ?_
    refine go_bipush hc dX2_addQuestion_11 cb_8 ?_
    refine go_icmp_ge (tgt := 36) hc dX2_addQuestion_13 rfl (fun hh => ?_) (fun hh => ?_)
    · rw [if_pos hh] at h
      exact go_vret hc (oend_v h hE) hr dX2_addQuestion_36
    · rw [if_neg hh] at h
      refine go_aload_n hc dX2_addQuestion_16 rfl rfl ?_
      refine go_getC (b := w + 3) (ow_c1_7 hw) hc ho flX2_15 dX2_addQuestion_17 (ow_k1 hw) ?_
      refine go_aload_n hc dX2_addQuestion_20 rfl rfl ?_
      refine go_getI hc ho flX2_42 dX2_addQuestion_21 (ow_k1 hw) ?_
      refine go_lload_n hc dX2_addQuestion_24 rfl rfl ?_
      obtain ⟨hg1, h⟩ := ogd_some h
      refine go_last hc dX2_addQuestion_25 (ow_k3 hw) (ow_l3 hw) hg1 rfl ?_
      refine go_aload_n hc dX2_addQuestion_26 rfl rfl ?_
      refine go_dup hc dX2_addQuestion_27 rfl ?_
      refine go_getI hc ho flX2_42 dX2_addQuestion_28 (ow_k1 hw) ?_
      refine go_iconst hc dX2_addQuestion_31 ci_1 ?_
      refine go_iadd hc dX2_addQuestion_32 ?_
      refine go_putI hc ho fpX2_42 dX2_addQuestion_33 (ow_k1 hw) (fun g => oni g _) (fun _ => rfl) ?_
      exact go_vret hc (oend_v h hE) hr dX2_addQuestion_36
def fX5_readQuestion (σ : OM) : Option (Int32 × OM) :=
  ogd (decide (okd (mR σ 48 1) = 8)) (
  if (8 : Int32) ≤ (mI σ ((mR σ 48 1) + 1) 6) then (
   some ((0 : Int32), σ))
  else (obi (fX5_takeNewName (7 : Int32) (mI σ ((mR σ 48 1) + 1) 6) σ) (fun r2 σ3 =>
  if r2 = 0 then (
   some ((0 : Int32), σ3))
  else (ogd (decide (okd (mR σ3 48 1) = 8)) (
  obi (fX5_formula σ3) (fun r6 σ7 =>
  obv (fX2_addQuestion (mR σ3 48 1) r6 σ7) (fun σ10 =>
  if (mI σ10 48 2) = 0 then (
   some ((1 : Int32), σ10))
  else (some ((0 : Int32), σ10)))))))))
set_option maxRecDepth 100000 in
set_option maxHeartbeats 4000000 in
theorem rX5_readQuestion {N : Nat} {σ : OM} {r0 : Int32} {σ0 : OM} (h : fX5_readQuestion σ = some (r0, σ0)) (hN0 : 4 ≤ N) : oEv N MX5_readQuestion [.ref 48] σ (some (.int r0)) σ0 := by
  refine oEv_of (lv := [.ref 48, .null]) (by decide +kernel) (fun g q hq => hq) (fun g => Nat.le_of_ble_eq_true rfl) ?_
  intro K hc ho hL hN1 hr hE hz
  have hN : 4 ≤ kN K := by rw [hN1]; exact hN0
  unfold fX5_readQuestion at h
  refine go_aload_n hc dX5_readQuestion_0 rfl rfl ?_
  obtain ⟨hg1, h⟩ := ogd_some h
  refine go_getR hc ho flX5_41 dX5_readQuestion_1 ok_48 ?_
  refine go_getC (b := (mR σ 48 1) + 1) (ow_c0_0 (of_decide_eq_true hg1)) hc ho flX5_72 dX5_readQuestion_4 (of_decide_eq_true hg1) ?_
  refine go_getI hc ho flX5_230 dX5_readQuestion_7 (ow_k1 (of_decide_eq_true hg1)) ?_
  refine go_istore_n hc (lv1 := [.ref 48, .int (mI σ ((mR σ 48 1) + 1) 6)]) dX5_readQuestion_10 rfl hL (by decide) (fun _ _ e => by cases e; rfl) rfl ?_
  refine go_iload_n hc dX5_readQuestion_11 rfl rfl ?_
  refine go_bipush hc dX5_readQuestion_12 cb_8 ?_
  refine go_icmp_ge (tgt := 27) hc dX5_readQuestion_14 rfl (fun hh => ?_) (fun hh => ?_)
  · rw [if_pos hh] at h
    refine go_iconst hc dX5_readQuestion_27 ci_0 ?_
    exact go_zret hc (oend_i h hE) hr rfl dX5_readQuestion_28
  · rw [if_neg hh] at h
    refine go_aload_n hc dX5_readQuestion_17 rfl rfl ?_
    refine go_bipush hc dX5_readQuestion_18 cb_7 ?_
    refine go_iload_n hc dX5_readQuestion_20 rfl rfl ?_
    obtain ⟨r2, σ3, hf4, h⟩ := obi_some h
    refine go_callVi hc ho cmX5_takeNewName mlX5_160 dX5_readQuestion_21 ok_48 (As := [.int (7 : Int32), .int (mI σ ((mR σ 48 1) + 1) 6)]) (rest := []) (rX5_takeNewName (N := 1) hf4 (Nat.le_refl _)) rfl (Nat.le_trans (Nat.le_of_ble_eq_true rfl) hN) rfl (Nat.le_of_ble_eq_true rfl) (Or.inl hz) ?_
    refine go_if_ne (tgt := 29) hc dX5_readQuestion_24 rfl (fun hh => ?_) (fun hh => ?_)
    · rw [if_neg hh] at h
      refine go_aload_n hc dX5_readQuestion_29 rfl rfl ?_
      obtain ⟨hg5, h⟩ := ogd_some h
      refine go_getR hc ho flX5_41 dX5_readQuestion_30 ok_48 ?_
      refine go_getC (b := (mR σ3 48 1) + 1) (ow_c0_0 (of_decide_eq_true hg5)) hc ho flX5_72 dX5_readQuestion_33 (of_decide_eq_true hg5) ?_
      refine go_aload_n hc dX5_readQuestion_36 rfl rfl ?_
      obtain ⟨r6, σ7, hf8, h⟩ := obi_some h
      refine go_callVl hc ho cmX5_formula mlX5_168 dX5_readQuestion_37 ok_48 (As := []) (rest := [.ref ((mR σ3 48 1) + 1)]) (rX5_formula (N := 3) hf8 (Nat.le_refl _)) rfl (Nat.le_trans (Nat.le_of_ble_eq_true rfl) hN) rfl (Nat.le_of_ble_eq_true rfl) (Or.inl hz) ?_
      obtain ⟨σ10, hf11, h⟩ := obv_some h
      refine go_callVv hc ho cmX2_addQuestion mlX5_233 dX5_readQuestion_40 (ow_k1 (of_decide_eq_true hg5)) (As := [.long r6]) (rest := []) (rX2_addQuestion (N := 0) (of_decide_eq_true hg5) hf11 (Nat.le_refl _)) rfl (Nat.le_trans (Nat.le_of_ble_eq_true rfl) hN) rfl (Nat.le_of_ble_eq_true rfl) (Or.inl hz) ?_
      refine go_aload_n hc dX5_readQuestion_43 rfl rfl ?_
      refine go_getI hc ho flX5_50 dX5_readQuestion_44 ok_48 ?_
      refine go_if_ne (tgt := 54) hc dX5_readQuestion_47 rfl (fun hh => ?_) (fun hh => ?_)
      · rw [if_neg hh] at h
        refine go_iconst hc dX5_readQuestion_54 ci_0 ?_
        exact go_zret hc (oend_i h hE) hr rfl dX5_readQuestion_55
      · rw [if_pos hh] at h
        refine go_iconst hc dX5_readQuestion_50 ci_1 ?_
        refine go_goto (tgt := 55) hc dX5_readQuestion_51 rfl ?_
        exact go_zret hc (oend_i h hE) hr rfl dX5_readQuestion_55
    · rw [if_pos hh] at h
      refine go_iconst hc dX5_readQuestion_27 ci_0 ?_
      exact go_zret hc (oend_i h hE) hr rfl dX5_readQuestion_28
def fX5_takeYes (σ : OM) : Option (Int32 × OM) :=
  obi (fX6_isWord (7955827 : Int64) σ) (fun r1 σ2 =>
  if r1 = 0 then (
   obi (fX5_takeWord (28271 : Int64) σ2) (fun r4 σ5 =>
   if r4 = 0 then (
    some ((0 : Int32), σ5))
   else (if r1 = 0 then (
    some ((0 : Int32), σ5))
   else (some ((1 : Int32), σ5)))))
  else (obi (fX5_takeWord (7955827 : Int64) σ2) (fun r7 σ8 =>
  if r7 = 0 then (
   some ((0 : Int32), σ8))
  else (if r1 = 0 then (
   some ((0 : Int32), σ8))
  else (some ((1 : Int32), σ8))))))
set_option maxRecDepth 100000 in
set_option maxHeartbeats 4000000 in
theorem rX5_takeYes {N : Nat} {σ : OM} {r0 : Int32} {σ0 : OM} (h : fX5_takeYes σ = some (r0, σ0)) (hN0 : 2 ≤ N) : oEv N MX5_takeYes [.ref 48] σ (some (.int r0)) σ0 := by
  refine oEv_of (lv := [.ref 48, .null]) (by decide +kernel) (fun g q hq => hq) (fun g => Nat.le_of_ble_eq_true rfl) ?_
  intro K hc ho hL hN1 hr hE hz
  have hN : 2 ≤ kN K := by rw [hN1]; exact hN0
  unfold fX5_takeYes at h
  refine go_aload_n hc dX5_takeYes_0 rfl rfl ?_
  refine go_getC (b := 43) rfl hc ho flX5_37 dX5_takeYes_1 ok_48 ?_
  refine go_ldc2 hc ho klX5_298 dX5_takeYes_4 ?_
  obtain ⟨r1, σ2, hf3, h⟩ := obi_some h
  refine go_callVi hc ho cmX6_isWord mlX5_295 dX5_takeYes_7 ok_43 (As := [.long (7955827 : Int64)]) (rest := []) (rX6_isWord (N := 0) hf3 (Nat.le_refl _)) rfl (Nat.le_trans (Nat.le_of_ble_eq_true rfl) hN) rfl (Nat.le_of_ble_eq_true rfl) (Or.inl hz) ?_
  refine go_istore_n hc (lv1 := [.ref 48, .int r1]) dX5_takeYes_10 rfl hL (by decide) (fun _ _ e => by cases e; rfl) rfl ?_
  refine go_aload_n hc dX5_takeYes_11 rfl rfl ?_
  refine go_iload_n hc dX5_takeYes_12 rfl rfl ?_
  refine go_if_eq (tgt := 22) hc dX5_takeYes_13 rfl (fun hh => ?_) (fun hh => ?_)
  · rw [if_pos hh] at h
    refine go_ldc2 hc ho klX5_300 dX5_takeYes_22 ?_
    obtain ⟨r4, σ5, hf6, h⟩ := obi_some h
    refine go_callVi hc ho cmX5_takeWord mlX5_143 dX5_takeYes_25 ok_48 (As := [.long (28271 : Int64)]) (rest := []) (rX5_takeWord (N := 1) hf6 (Nat.le_refl _)) rfl (Nat.le_trans (Nat.le_of_ble_eq_true rfl) hN) rfl (Nat.le_of_ble_eq_true rfl) (Or.inl hz) ?_
    refine go_if_eq (tgt := 39) hc dX5_takeYes_28 rfl (fun hh => ?_) (fun hh => ?_)
    · rw [if_pos hh] at h
      refine go_iconst hc dX5_takeYes_39 ci_0 ?_
      exact go_zret hc (oend_i h hE) hr rfl dX5_takeYes_40
    · rw [if_neg hh] at h
      refine go_iload_n hc dX5_takeYes_31 rfl rfl ?_
      refine go_if_eq (tgt := 39) hc dX5_takeYes_32 rfl (fun hh => ?_) (fun hh => ?_)
      · rw [if_pos hh] at h
        refine go_iconst hc dX5_takeYes_39 ci_0 ?_
        exact go_zret hc (oend_i h hE) hr rfl dX5_takeYes_40
      · rw [if_neg hh] at h
        refine go_iconst hc dX5_takeYes_35 ci_1 ?_
        refine go_goto (tgt := 40) hc dX5_takeYes_36 rfl ?_
        exact go_zret hc (oend_i h hE) hr rfl dX5_takeYes_40
  · rw [if_neg hh] at h
    refine go_ldc2 hc ho klX5_298 dX5_takeYes_16 ?_
    refine go_goto (tgt := 25) hc dX5_takeYes_19 rfl ?_
    obtain ⟨r7, σ8, hf9, h⟩ := obi_some h
    refine go_callVi hc ho cmX5_takeWord mlX5_143 dX5_takeYes_25 ok_48 (As := [.long (7955827 : Int64)]) (rest := []) (rX5_takeWord (N := 1) hf9 (Nat.le_refl _)) rfl (Nat.le_trans (Nat.le_of_ble_eq_true rfl) hN) rfl (Nat.le_of_ble_eq_true rfl) (Or.inl hz) ?_
    refine go_if_eq (tgt := 39) hc dX5_takeYes_28 rfl (fun hh => ?_) (fun hh => ?_)
    · rw [if_pos hh] at h
      refine go_iconst hc dX5_takeYes_39 ci_0 ?_
      exact go_zret hc (oend_i h hE) hr rfl dX5_takeYes_40
    · rw [if_neg hh] at h
      refine go_iload_n hc dX5_takeYes_31 rfl rfl ?_
      refine go_if_eq (tgt := 39) hc dX5_takeYes_32 rfl (fun hh => ?_) (fun hh => ?_)
      · rw [if_pos hh] at h
        refine go_iconst hc dX5_takeYes_39 ci_0 ?_
        exact go_zret hc (oend_i h hE) hr rfl dX5_takeYes_40
      · rw [if_neg hh] at h
        refine go_iconst hc dX5_takeYes_35 ci_1 ?_
        refine go_goto (tgt := 40) hc dX5_takeYes_36 rfl ?_
        exact go_zret hc (oend_i h hE) hr rfl dX5_takeYes_40
def fX7_add (t : Nat) (x0 : Int32) (x1 : Int32) (x2 : Int32) (σ : OM) : Option OM :=
  if (mI σ t 0) < 0 then (
   some σ)
  else (if (mI σ t 0) < (20 : Int32) then (
   ogd (oin (mI σ t 0) 20) (
   ogd (oin (mI (sI σ (t + 1) ((mI σ t 0).toNatClampNeg) x0) t 0) 20) (
   ogd (oin (mI (sI (sI σ (t + 1) ((mI σ t 0).toNatClampNeg) x0) (t + 2) ((mI (sI σ (t + 1) ((mI σ t 0).toNatClampNeg) x0) t 0).toNatClampNeg) x1) t 0) 20) (
   some (sI (sI (sI (sI σ (t + 1) ((mI σ t 0).toNatClampNeg) x0) (t + 2) ((mI (sI σ (t + 1) ((mI σ t 0).toNatClampNeg) x0) t 0).toNatClampNeg) x1) (t + 3) ((mI (sI (sI σ (t + 1) ((mI σ t 0).toNatClampNeg) x0) (t + 2) ((mI (sI σ (t + 1) ((mI σ t 0).toNatClampNeg) x0) t 0).toNatClampNeg) x1) t 0).toNatClampNeg) (vp_nar .boolean x2)) t 0 ((mI (sI (sI (sI σ (t + 1) ((mI σ t 0).toNatClampNeg) x0) (t + 2) ((mI (sI σ (t + 1) ((mI σ t 0).toNatClampNeg) x0) t 0).toNatClampNeg) x1) (t + 3) ((mI (sI (sI σ (t + 1) ((mI σ t 0).toNatClampNeg) x0) (t + 2) ((mI (sI σ (t + 1) ((mI σ t 0).toNatClampNeg) x0) t 0).toNatClampNeg) x1) t 0).toNatClampNeg) (vp_nar .boolean x2)) t 0) + (1 : Int32)))))))
  else (some σ))
set_option maxRecDepth 100000 in
set_option maxHeartbeats 4000000 in
theorem rX7_add {N : Nat} {t : Nat} {x0 : Int32} {x1 : Int32} {x2 : Int32} {σ : OM} {σ0 : OM} (ht : okd t = 7) (h : fX7_add t x0 x1 x2 σ = some σ0) (hN0 : 0 ≤ N) : oEv N MX7_add [.ref t, .int x0, .int x1, .int x2] σ (none) σ0 := by
  refine oEv_of (lv := [.ref t, .int x0, .int x1, .int x2]) (by decide +kernel) (fun g q hq => hq) (fun g => Nat.le_of_ble_eq_true rfl) ?_
  intro K hc ho hL hN1 hr hE hz
  have hN : 0 ≤ kN K := by rw [hN1]; exact hN0
  unfold fX7_add at h
  refine go_aload_n hc dX7_add_0 rfl rfl ?_
  refine go_getI hc ho flX7_25 dX7_add_1 ht ?_
  refine go_if_lt (tgt := 16) hc dX7_add_4 rfl (fun hh => ?_) (fun hh => ?_)
  · rw [if_pos hh] at h
    exact go_vret hc (oend_v h hE) hr dX7_add_16
  · rw [if_neg hh] at h
    refine go_aload_n hc dX7_add_7 rfl rfl ?_
    refine go_getI hc ho flX7_25 dX7_add_8 ht ?_
    refine go_bipush hc dX7_add_11 cb_20 ?_
    refine go_icmp_lt (tgt := 17) hc dX7_add_13 rfl (fun hh => ?_) (fun hh => ?_)
    · rw [if_pos hh] at h
      refine go_aload_n hc dX7_add_17 rfl rfl ?_
      refine go_getC (b := t + 1) (ot_c1 ht) hc ho flX7_9 dX7_add_18 ht ?_
      refine go_aload_n hc dX7_add_21 rfl rfl ?_
      refine go_getI hc ho flX7_25 dX7_add_22 ht ?_
      refine go_iload_n hc dX7_add_25 rfl rfl ?_
      obtain ⟨hg1, h⟩ := ogd_some h
      refine go_iast hc dX7_add_26 (ot_k1 ht) (ot_l1 ht) hg1 rfl ?_
      refine go_aload_n hc dX7_add_27 rfl rfl ?_
      refine go_getC (b := t + 2) (ot_c2 ht) hc ho flX7_15 dX7_add_28 ht ?_
      refine go_aload_n hc dX7_add_31 rfl rfl ?_
      refine go_getI hc ho flX7_25 dX7_add_32 ht ?_
      refine go_iload_n hc dX7_add_35 rfl rfl ?_
      obtain ⟨hg2, h⟩ := ogd_some h
      refine go_iast hc dX7_add_36 (ot_k2 ht) (ot_l2 ht) hg2 rfl ?_
      refine go_aload_n hc dX7_add_37 rfl rfl ?_
      refine go_getC (b := t + 3) (ot_c3 ht) hc ho flX7_18 dX7_add_38 ht ?_
      refine go_aload_n hc dX7_add_41 rfl rfl ?_
      refine go_getI hc ho flX7_25 dX7_add_42 ht ?_
      refine go_iload_n hc dX7_add_45 rfl rfl ?_
      obtain ⟨hg3, h⟩ := ogd_some h
      refine go_zast hc dX7_add_46 (ot_k3 ht) (ot_l3 ht) hg3 rfl ?_
      refine go_aload_n hc dX7_add_47 rfl rfl ?_
      refine go_dup hc dX7_add_48 rfl ?_
      refine go_getI hc ho flX7_25 dX7_add_49 ht ?_
      refine go_iconst hc dX7_add_52 ci_1 ?_
      refine go_iadd hc dX7_add_53 ?_
      refine go_putI hc ho fpX7_25 dX7_add_54 ht (fun g => oni g _) (fun _ => rfl) ?_
      exact go_vret hc (oend_v h hE) hr dX7_add_57
    · rw [if_neg hh] at h
      exact go_vret hc (oend_v h hE) hr dX7_add_16
def fX5_readTold (σ : OM) : Option (Int32 × OM) :=
  obi (fX5_takeName (4 : Int32) σ) (fun r1 σ2 =>
  if 0 ≤ r1 then (
   obi (fX5_takeName (7 : Int32) σ2) (fun r4 σ5 =>
   if 0 ≤ r4 then (
    obi (fX5_takeYes σ5) (fun r7 σ8 =>
    if (mI σ8 48 2) = 0 then (
     ogd (decide (okd (mR σ8 48 1) = 8)) (
     obv (fX7_add ((mR σ8 48 1) + 5) r1 r4 r7 σ8) (fun σ12 =>
     some ((1 : Int32), σ12))))
    else (some ((0 : Int32), σ8))))
   else (some ((0 : Int32), σ5))))
  else (some ((0 : Int32), σ2)))
set_option maxRecDepth 100000 in
set_option maxHeartbeats 4000000 in
theorem rX5_readTold {N : Nat} {σ : OM} {r0 : Int32} {σ0 : OM} (h : fX5_readTold σ = some (r0, σ0)) (hN0 : 3 ≤ N) : oEv N MX5_readTold [.ref 48] σ (some (.int r0)) σ0 := by
  refine oEv_of (lv := [.ref 48, .null, .null, .null]) (by decide +kernel) (fun g q hq => hq) (fun g => Nat.le_of_ble_eq_true rfl) ?_
  intro K hc ho hL hN1 hr hE hz
  have hN : 3 ≤ kN K := by rw [hN1]; exact hN0
  unfold fX5_readTold at h
  refine go_aload_n hc dX5_readTold_0 rfl rfl ?_
  refine go_iconst hc dX5_readTold_1 ci_4 ?_
  obtain ⟨r1, σ2, hf3, h⟩ := obi_some h
  refine go_callVi hc ho cmX5_takeName mlX5_189 dX5_readTold_2 ok_48 (As := [.int (4 : Int32)]) (rest := []) (rX5_takeName (N := 1) hf3 (Nat.le_refl _)) rfl (Nat.le_trans (Nat.le_of_ble_eq_true rfl) hN) rfl (Nat.le_of_ble_eq_true rfl) (Or.inl hz) ?_
  refine go_istore_n hc (lv1 := [.ref 48, .int r1, .null, .null]) dX5_readTold_5 rfl hL (by decide) (fun _ _ e => by cases e; rfl) rfl ?_
  refine go_iload_n hc dX5_readTold_6 rfl rfl ?_
  refine go_if_ge (tgt := 12) hc dX5_readTold_7 rfl (fun hh => ?_) (fun hh => ?_)
  · rw [if_pos hh] at h
    refine go_aload_n hc dX5_readTold_12 rfl rfl ?_
    refine go_bipush hc dX5_readTold_13 cb_7 ?_
    obtain ⟨r4, σ5, hf6, h⟩ := obi_some h
    refine go_callVi hc ho cmX5_takeName mlX5_189 dX5_readTold_15 ok_48 (As := [.int (7 : Int32)]) (rest := []) (rX5_takeName (N := 1) hf6 (Nat.le_refl _)) rfl (Nat.le_trans (Nat.le_of_ble_eq_true rfl) hN) rfl (Nat.le_of_ble_eq_true rfl) (Or.inl hz) ?_
    refine go_istore_n hc (lv1 := [.ref 48, .int r1, .int r4, .null]) dX5_readTold_18 rfl hL (by decide) (fun _ _ e => by cases e; rfl) rfl ?_
    refine go_iload_n hc dX5_readTold_19 rfl rfl ?_
    refine go_if_ge (tgt := 25) hc dX5_readTold_20 rfl (fun hh => ?_) (fun hh => ?_)
    · rw [if_pos hh] at h
      refine go_aload_n hc dX5_readTold_25 rfl rfl ?_
      obtain ⟨r7, σ8, hf9, h⟩ := obi_some h
      refine go_callVi hc ho cmX5_takeYes mlX5_237 dX5_readTold_26 ok_48 (As := []) (rest := []) (rX5_takeYes (N := 2) hf9 (Nat.le_refl _)) rfl (Nat.le_trans (Nat.le_of_ble_eq_true rfl) hN) rfl (Nat.le_of_ble_eq_true rfl) (Or.inl hz) ?_
      refine go_istore_n hc (lv1 := [.ref 48, .int r1, .int r4, .int r7]) dX5_readTold_29 rfl hL (by decide) (fun _ _ e => by cases e; rfl) rfl ?_
      refine go_aload_n hc dX5_readTold_30 rfl rfl ?_
      refine go_getI hc ho flX5_50 dX5_readTold_31 ok_48 ?_
      refine go_if_eq (tgt := 39) hc dX5_readTold_34 rfl (fun hh => ?_) (fun hh => ?_)
      · rw [if_pos hh] at h
        refine go_aload_n hc dX5_readTold_39 rfl rfl ?_
        obtain ⟨hg10, h⟩ := ogd_some h
        refine go_getR hc ho flX5_41 dX5_readTold_40 ok_48 ?_
        refine go_getC (b := (mR σ8 48 1) + 5) (ow_c0_1 (of_decide_eq_true hg10)) hc ho flX5_147 dX5_readTold_43 (of_decide_eq_true hg10) ?_
        refine go_iload_n hc dX5_readTold_46 rfl rfl ?_
        refine go_iload_n hc dX5_readTold_47 rfl rfl ?_
        refine go_iload_n hc dX5_readTold_48 rfl rfl ?_
        obtain ⟨σ12, hf13, h⟩ := obv_some h
        refine go_callVv hc ho cmX7_add mlX5_240 dX5_readTold_49 (ow_k5 (of_decide_eq_true hg10)) (As := [.int r1, .int r4, .int r7]) (rest := []) (rX7_add (N := 0) (ow_k5 (of_decide_eq_true hg10)) hf13 (Nat.le_refl _)) rfl (Nat.le_trans (Nat.le_of_ble_eq_true rfl) hN) rfl (Nat.le_of_ble_eq_true rfl) (Or.inl hz) ?_
        refine go_iconst hc dX5_readTold_52 ci_1 ?_
        exact go_zret hc (oend_i h hE) hr rfl dX5_readTold_53
      · rw [if_neg hh] at h
        refine go_iconst hc dX5_readTold_37 ci_0 ?_
        exact go_zret hc (oend_i h hE) hr rfl dX5_readTold_38
    · rw [if_neg hh] at h
      refine go_iconst hc dX5_readTold_23 ci_0 ?_
      exact go_zret hc (oend_i h hE) hr rfl dX5_readTold_24
  · rw [if_neg hh] at h
    refine go_iconst hc dX5_readTold_10 ci_0 ?_
    exact go_zret hc (oend_i h hE) hr rfl dX5_readTold_11
def fX5_readStone_b34 (σ : OM) : Option (Int32 × OM) :=
  ogd (decide (okd (mR σ 48 1) = 8)) (
  if (mI (sI σ ((mR σ 48 1) + 1) 8 ((mI σ ((mR σ 48 1) + 1) 8) + (1 : Int32))) 48 2) = 0 then (
   some ((1 : Int32), sI σ ((mR σ 48 1) + 1) 8 ((mI σ ((mR σ 48 1) + 1) 8) + (1 : Int32))))
  else (some ((0 : Int32), sI σ ((mR σ 48 1) + 1) 8 ((mI σ ((mR σ 48 1) + 1) 8) + (1 : Int32)))))
set_option maxRecDepth 100000 in
set_option maxHeartbeats 4000000 in
theorem rX5_readStone_b34 {K : OK} (hc : kcc K = cX5_readStone) (ho : kow K = RX5) (hL : knL K = 1) (hN : 3 ≤ kN K) (hr : (kme K).sig.returnType = (some .boolean)) {r0 : Int32} {σ0 : OM} (hE : oEnd K (some (.int r0)) σ0) (hz : kz K = 0) {σ : OM} (h : fX5_readStone_b34 σ = some (r0, σ0)) : Go K 34 [.ref 48] [] σ := by
  unfold fX5_readStone_b34 at h
  refine go_aload_n hc dX5_readStone_34 rfl rfl ?_
  obtain ⟨hg1, h⟩ := ogd_some h
  refine go_getR hc ho flX5_41 dX5_readStone_35 ok_48 ?_
  refine go_getC (b := (mR σ 48 1) + 1) (ow_c0_0 (of_decide_eq_true hg1)) hc ho flX5_72 dX5_readStone_38 (of_decide_eq_true hg1) ?_
  refine go_dup hc dX5_readStone_41 rfl ?_
  refine go_getI hc ho flX5_247 dX5_readStone_42 (ow_k1 (of_decide_eq_true hg1)) ?_
  refine go_iconst hc dX5_readStone_45 ci_1 ?_
  refine go_iadd hc dX5_readStone_46 ?_
  refine go_putI hc ho fpX5_247 dX5_readStone_47 (ow_k1 (of_decide_eq_true hg1)) (fun g => oni g _) (fun _ => rfl) ?_
  refine go_aload_n hc dX5_readStone_50 rfl rfl ?_
  refine go_getI hc ho flX5_50 dX5_readStone_51 ok_48 ?_
  refine go_if_ne (tgt := 61) hc dX5_readStone_54 rfl (fun hh => ?_) (fun hh => ?_)
  · rw [if_neg hh] at h
    refine go_iconst hc dX5_readStone_61 ci_0 ?_
    exact go_zret hc (oend_i h hE) hr rfl dX5_readStone_62
  · rw [if_pos hh] at h
    refine go_iconst hc dX5_readStone_57 ci_1 ?_
    refine go_goto (tgt := 62) hc dX5_readStone_58 rfl ?_
    exact go_zret hc (oend_i h hE) hr rfl dX5_readStone_62
def fX5_readStone (σ : OM) : Option (Int32 × OM) :=
  obi (fX5_takeYes σ) (fun r1 σ2 =>
  if r1 = 0 then (
   fX5_readStone_b34 σ2)
  else (ogd (decide (okd (mR σ2 48 1) = 8)) (
  ogd (decide (okd (mR σ2 48 1) = 8)) (
  fX5_readStone_b34 (sI σ2 ((mR σ2 48 1) + 1) 9 ((mI σ2 ((mR σ2 48 1) + 1) 9) ||| ((1 : Int32) <<< ((mI σ2 ((mR σ2 48 1) + 1) 8) &&& 31))))))))
set_option maxRecDepth 100000 in
set_option maxHeartbeats 4000000 in
theorem rX5_readStone {N : Nat} {σ : OM} {r0 : Int32} {σ0 : OM} (h : fX5_readStone σ = some (r0, σ0)) (hN0 : 3 ≤ N) : oEv N MX5_readStone [.ref 48] σ (some (.int r0)) σ0 := by
  refine oEv_of (lv := [.ref 48]) (by decide +kernel) (fun g q hq => hq) (fun g => Nat.le_of_ble_eq_true rfl) ?_
  intro K hc ho hL hN1 hr hE hz
  have hN : 3 ≤ kN K := by rw [hN1]; exact hN0
  unfold fX5_readStone at h
  refine go_aload_n hc dX5_readStone_0 rfl rfl ?_
  obtain ⟨r1, σ2, hf3, h⟩ := obi_some h
  refine go_callVi hc ho cmX5_takeYes mlX5_237 dX5_readStone_1 ok_48 (As := []) (rest := []) (rX5_takeYes (N := 2) hf3 (Nat.le_refl _)) rfl (Nat.le_trans (Nat.le_of_ble_eq_true rfl) hN) rfl (Nat.le_of_ble_eq_true rfl) (Or.inl hz) ?_
  refine go_if_eq (tgt := 34) hc dX5_readStone_4 rfl (fun hh => ?_) (fun hh => ?_)
  · rw [if_pos hh] at h
    exact rX5_readStone_b34 hc ho hL hN hr hE hz h
  · rw [if_neg hh] at h
    refine go_aload_n hc dX5_readStone_7 rfl rfl ?_
    obtain ⟨hg4, h⟩ := ogd_some h
    refine go_getR hc ho flX5_41 dX5_readStone_8 ok_48 ?_
    refine go_getC (b := (mR σ2 48 1) + 1) (ow_c0_0 (of_decide_eq_true hg4)) hc ho flX5_72 dX5_readStone_11 (of_decide_eq_true hg4) ?_
    refine go_dup hc dX5_readStone_14 rfl ?_
    refine go_getI hc ho flX5_244 dX5_readStone_15 (ow_k1 (of_decide_eq_true hg4)) ?_
    refine go_iconst hc dX5_readStone_18 ci_1 ?_
    refine go_aload_n hc dX5_readStone_19 rfl rfl ?_
    obtain ⟨hg5, h⟩ := ogd_some h
    refine go_getR hc ho flX5_41 dX5_readStone_20 ok_48 ?_
    refine go_getC (b := (mR σ2 48 1) + 1) (ow_c0_0 (of_decide_eq_true hg5)) hc ho flX5_72 dX5_readStone_23 (of_decide_eq_true hg5) ?_
    refine go_getI hc ho flX5_247 dX5_readStone_26 (ow_k1 (of_decide_eq_true hg5)) ?_
    refine go_ishl hc dX5_readStone_29 ?_
    refine go_ior hc dX5_readStone_30 ?_
    refine go_putI hc ho fpX5_244 dX5_readStone_31 (ow_k1 (of_decide_eq_true hg4)) (fun g => oni g _) (fun _ => rfl) ?_
    exact rX5_readStone_b34 hc ho hL hN hr hE hz h
def fX7_areWed (t : Nat) (x0 : Int32) (x1 : Int32) (σ : OM) : Option (Int32 × OM) :=
  if x0 < 0 then (
   some ((0 : Int32), σ))
  else (if (6 : Int32) ≤ x0 then (
   some ((0 : Int32), σ))
  else (ogd (oin x0 6) (
  obi (fX9_bitOf ((mI σ (t + 4) x0.toNatClampNeg).toInt64) x1 σ) (fun r2 σ3 =>
  if r2 = (1 : Int32) then (
   some ((1 : Int32), σ3))
  else (some ((0 : Int32), σ3))))))
set_option maxRecDepth 100000 in
set_option maxHeartbeats 4000000 in
theorem rX7_areWed {N : Nat} {t : Nat} {x0 : Int32} {x1 : Int32} {σ : OM} {r0 : Int32} {σ0 : OM} (ht : okd t = 7) (h : fX7_areWed t x0 x1 σ = some (r0, σ0)) (hN0 : 1 ≤ N) : oEv N MX7_areWed [.ref t, .int x0, .int x1] σ (some (.int r0)) σ0 := by
  refine oEv_of (lv := [.ref t, .int x0, .int x1]) (by decide +kernel) (fun g q hq => hq) (fun g => Nat.le_of_ble_eq_true rfl) ?_
  intro K hc ho hL hN1 hr hE hz
  have hN : 1 ≤ kN K := by rw [hN1]; exact hN0
  unfold fX7_areWed at h
  refine go_iload_n hc dX7_areWed_0 rfl rfl ?_
  refine go_if_lt (tgt := 29) hc dX7_areWed_1 rfl (fun hh => ?_) (fun hh => ?_)
  · rw [if_pos hh] at h
    refine go_iconst hc dX7_areWed_29 ci_0 ?_
    exact go_zret hc (oend_i h hE) hr rfl dX7_areWed_30
  · rw [if_neg hh] at h
    refine go_iload_n hc dX7_areWed_4 rfl rfl ?_
    refine go_bipush hc dX7_areWed_5 cb_6 ?_
    refine go_icmp_ge (tgt := 29) hc dX7_areWed_7 rfl (fun hh => ?_) (fun hh => ?_)
    · rw [if_pos hh] at h
      refine go_iconst hc dX7_areWed_29 ci_0 ?_
      exact go_zret hc (oend_i h hE) hr rfl dX7_areWed_30
    · rw [if_neg hh] at h
      refine go_aload_n hc dX7_areWed_10 rfl rfl ?_
      refine go_getC (b := t + 4) (ot_c4 ht) hc ho flX7_22 dX7_areWed_11 ht ?_
      refine go_iload_n hc dX7_areWed_14 rfl rfl ?_
      obtain ⟨hg1, h⟩ := ogd_some h
      refine go_iald hc dX7_areWed_15 (ot_k4 ht) (ot_l4 ht) hg1 rfl ?_
      refine go_i2l hc dX7_areWed_16 ?_
      refine go_iload_n hc dX7_areWed_17 rfl rfl ?_
      obtain ⟨r2, σ3, hf4, h⟩ := obi_some h
      refine go_callSNi hc ho cmX9_bitOf mnX7_35 dX7_areWed_18 (As := [.long ((mI σ (t + 4) x0.toNatClampNeg).toInt64), .int x1]) (rest := []) (rX9_bitOf (N := 0) hf4 (Nat.le_refl _)) rfl (Nat.le_trans (Nat.le_of_ble_eq_true rfl) hN) rfl (Nat.le_of_ble_eq_true rfl) (Or.inl hz) ?_
      refine go_iconst hc dX7_areWed_21 ci_1 ?_
      refine go_icmp_ne (tgt := 29) hc dX7_areWed_22 rfl (fun hh => ?_) (fun hh => ?_)
      · rw [if_neg hh] at h
        refine go_iconst hc dX7_areWed_29 ci_0 ?_
        exact go_zret hc (oend_i h hE) hr rfl dX7_areWed_30
      · rw [if_pos hh] at h
        refine go_iconst hc dX7_areWed_25 ci_1 ?_
        refine go_goto (tgt := 30) hc dX7_areWed_26 rfl ?_
        exact go_zret hc (oend_i h hE) hr rfl dX7_areWed_30
def fX7_turnWedding (t : Nat) (x0 : Int32) (x1 : Int32) (σ : OM) : Option OM :=
  if x0 < 0 then (
   some σ)
  else (if (6 : Int32) ≤ x0 then (
   some σ)
  else (if x1 < 0 then (
   some σ)
  else (if (6 : Int32) ≤ x1 then (
   some σ)
  else (ogd (oin x0 6) (
  ogd (oin x0 6) (
  ogd (oin x1 6) (
  ogd (oin x1 6) (
  some (sI (sI σ (t + 4) x0.toNatClampNeg ((mI σ (t + 4) x0.toNatClampNeg) ^^^ ((1 : Int32) <<< (x1 &&& 31)))) (t + 4) x1.toNatClampNeg ((mI (sI σ (t + 4) x0.toNatClampNeg ((mI σ (t + 4) x0.toNatClampNeg) ^^^ ((1 : Int32) <<< (x1 &&& 31)))) (t + 4) x1.toNatClampNeg) ^^^ ((1 : Int32) <<< (x0 &&& 31))))))))))))
set_option maxRecDepth 100000 in
set_option maxHeartbeats 4000000 in
theorem rX7_turnWedding {N : Nat} {t : Nat} {x0 : Int32} {x1 : Int32} {σ : OM} {σ0 : OM} (ht : okd t = 7) (h : fX7_turnWedding t x0 x1 σ = some σ0) (hN0 : 0 ≤ N) : oEv N MX7_turnWedding [.ref t, .int x0, .int x1] σ (none) σ0 := by
  refine oEv_of (lv := [.ref t, .int x0, .int x1]) (by decide +kernel) (fun g q hq => hq) (fun g => Nat.le_of_ble_eq_true rfl) ?_
  intro K hc ho hL hN1 hr hE hz
  have hN : 0 ≤ kN K := by rw [hN1]; exact hN0
  unfold fX7_turnWedding at h
  refine go_iload_n hc dX7_turnWedding_0 rfl rfl ?_
  refine go_if_lt (tgt := 44) hc dX7_turnWedding_1 rfl (fun hh => ?_) (fun hh => ?_)
  · rw [if_pos hh] at h
    exact go_vret hc (oend_v h hE) hr dX7_turnWedding_44
  · rw [if_neg hh] at h
    refine go_iload_n hc dX7_turnWedding_4 rfl rfl ?_
    refine go_bipush hc dX7_turnWedding_5 cb_6 ?_
    refine go_icmp_ge (tgt := 44) hc dX7_turnWedding_7 rfl (fun hh => ?_) (fun hh => ?_)
    · rw [if_pos hh] at h
      exact go_vret hc (oend_v h hE) hr dX7_turnWedding_44
    · rw [if_neg hh] at h
      refine go_iload_n hc dX7_turnWedding_10 rfl rfl ?_
      refine go_if_lt (tgt := 44) hc dX7_turnWedding_11 rfl (fun hh => ?_) (fun hh => ?_)
      · rw [if_pos hh] at h
        exact go_vret hc (oend_v h hE) hr dX7_turnWedding_44
      · rw [if_neg hh] at h
        refine go_iload_n hc dX7_turnWedding_14 rfl rfl ?_
        refine go_bipush hc dX7_turnWedding_15 cb_6 ?_
        refine go_icmp_ge (tgt := 44) hc dX7_turnWedding_17 rfl (fun hh => ?_) (fun hh => ?_)
        · rw [if_pos hh] at h
          exact go_vret hc (oend_v h hE) hr dX7_turnWedding_44
        · rw [if_neg hh] at h
          refine go_aload_n hc dX7_turnWedding_20 rfl rfl ?_
          refine go_getC (b := t + 4) (ot_c4 ht) hc ho flX7_22 dX7_turnWedding_21 ht ?_
          refine go_iload_n hc dX7_turnWedding_24 rfl rfl ?_
          refine go_dup2_11 hc dX7_turnWedding_25 rfl rfl ?_
          obtain ⟨hg1, h⟩ := ogd_some h
          refine go_iald hc dX7_turnWedding_26 (ot_k4 ht) (ot_l4 ht) hg1 rfl ?_
          refine go_iconst hc dX7_turnWedding_27 ci_1 ?_
          refine go_iload_n hc dX7_turnWedding_28 rfl rfl ?_
          refine go_ishl hc dX7_turnWedding_29 ?_
          refine go_ixor hc dX7_turnWedding_30 ?_
          obtain ⟨hg2, h⟩ := ogd_some h
          refine go_iast hc dX7_turnWedding_31 (ot_k4 ht) (ot_l4 ht) hg2 rfl ?_
          refine go_aload_n hc dX7_turnWedding_32 rfl rfl ?_
          refine go_getC (b := t + 4) (ot_c4 ht) hc ho flX7_22 dX7_turnWedding_33 ht ?_
          refine go_iload_n hc dX7_turnWedding_36 rfl rfl ?_
          refine go_dup2_11 hc dX7_turnWedding_37 rfl rfl ?_
          obtain ⟨hg3, h⟩ := ogd_some h
          refine go_iald hc dX7_turnWedding_38 (ot_k4 ht) (ot_l4 ht) hg3 rfl ?_
          refine go_iconst hc dX7_turnWedding_39 ci_1 ?_
          refine go_iload_n hc dX7_turnWedding_40 rfl rfl ?_
          refine go_ishl hc dX7_turnWedding_41 ?_
          refine go_ixor hc dX7_turnWedding_42 ?_
          obtain ⟨hg4, h⟩ := ogd_some h
          refine go_iast hc dX7_turnWedding_43 (ot_k4 ht) (ot_l4 ht) hg4 rfl ?_
          exact go_vret hc (oend_v h hE) hr dX7_turnWedding_44
def fX7_marry (t : Nat) (x0 : Int32) (x1 : Int32) (σ : OM) : Option OM :=
  obi (fX7_areWed t x0 x1 σ) (fun r1 σ2 =>
  if r1 = 0 then (
   obv (fX7_turnWedding t x0 x1 σ2) (fun σ5 =>
   some (sI σ5 t 5 ((mI σ5 t 5) + (1 : Int32)))))
  else (some σ2))
set_option maxRecDepth 100000 in
set_option maxHeartbeats 4000000 in
theorem rX7_marry {N : Nat} {t : Nat} {x0 : Int32} {x1 : Int32} {σ : OM} {σ0 : OM} (ht : okd t = 7) (h : fX7_marry t x0 x1 σ = some σ0) (hN0 : 2 ≤ N) : oEv N MX7_marry [.ref t, .int x0, .int x1] σ (none) σ0 := by
  refine oEv_of (lv := [.ref t, .int x0, .int x1]) (by decide +kernel) (fun g q hq => hq) (fun g => Nat.le_of_ble_eq_true rfl) ?_
  intro K hc ho hL hN1 hr hE hz
  have hN : 2 ≤ kN K := by rw [hN1]; exact hN0
  unfold fX7_marry at h
  refine go_aload_n hc dX7_marry_0 rfl rfl ?_
  refine go_iload_n hc dX7_marry_1 rfl rfl ?_
  refine go_iload_n hc dX7_marry_2 rfl rfl ?_
  obtain ⟨r1, σ2, hf3, h⟩ := obi_some h
  refine go_callVi hc ho cmX7_areWed mlX7_39 dX7_marry_3 ht (As := [.int x0, .int x1]) (rest := []) (rX7_areWed (N := 1) ht hf3 (Nat.le_refl _)) rfl (Nat.le_trans (Nat.le_of_ble_eq_true rfl) hN) rfl (Nat.le_of_ble_eq_true rfl) (Or.inl hz) ?_
  refine go_if_ne (tgt := 25) hc dX7_marry_6 rfl (fun hh => ?_) (fun hh => ?_)
  · rw [if_neg hh] at h
    exact go_vret hc (oend_v h hE) hr dX7_marry_25
  · rw [if_pos hh] at h
    refine go_aload_n hc dX7_marry_9 rfl rfl ?_
    refine go_iload_n hc dX7_marry_10 rfl rfl ?_
    refine go_iload_n hc dX7_marry_11 rfl rfl ?_
    obtain ⟨σ5, hf6, h⟩ := obv_some h
    refine go_callVv hc ho cmX7_turnWedding mlX7_43 dX7_marry_12 ht (As := [.int x0, .int x1]) (rest := []) (rX7_turnWedding (N := 0) ht hf6 (Nat.le_refl _)) rfl (Nat.le_trans (Nat.le_of_ble_eq_true rfl) hN) rfl (Nat.le_of_ble_eq_true rfl) (Or.inl hz) ?_
    refine go_aload_n hc dX7_marry_15 rfl rfl ?_
    refine go_dup hc dX7_marry_16 rfl ?_
    refine go_getI hc ho flX7_29 dX7_marry_17 ht ?_
    refine go_iconst hc dX7_marry_20 ci_1 ?_
    refine go_iadd hc dX7_marry_21 ?_
    refine go_putI hc ho fpX7_29 dX7_marry_22 ht (fun g => oni g _) (fun _ => rfl) ?_
    exact go_vret hc (oend_v h hE) hr dX7_marry_25
def fX5_readWeds (σ : OM) : Option (Int32 × OM) :=
  obi (fX5_takeName (4 : Int32) σ) (fun r1 σ2 =>
  if 0 ≤ r1 then (
   obi (fX5_takeName (4 : Int32) σ2) (fun r4 σ5 =>
   if 0 ≤ r4 then (
    if r4 = r1 then (
     obi (fX5_fail (3 : Int32) (mI σ2 43 9) σ5) (fun r7 σ8 =>
     ogd (oisb r7) (some (r7, σ8))))
    else (ogd (decide (okd (mR σ5 48 1) = 8)) (
    obi (fX7_areWed ((mR σ5 48 1) + 5) r1 r4 σ5) (fun r12 σ13 =>
    if r12 = 0 then (
     ogd (decide (okd (mR σ13 48 1) = 8)) (
     obv (fX7_marry ((mR σ13 48 1) + 5) r1 r4 σ13) (fun σ17 =>
     some ((1 : Int32), σ17))))
    else (obi (fX5_fail (3 : Int32) (mI σ2 43 9) σ13) (fun r19 σ20 =>
    ogd (oisb r19) (some (r19, σ20))))))))
   else (some ((0 : Int32), σ5))))
  else (some ((0 : Int32), σ2)))
set_option maxRecDepth 100000 in
set_option maxHeartbeats 4000000 in
theorem rX5_readWeds {N : Nat} {σ : OM} {r0 : Int32} {σ0 : OM} (h : fX5_readWeds σ = some (r0, σ0)) (hN0 : 3 ≤ N) : oEv N MX5_readWeds [.ref 48] σ (some (.int r0)) σ0 := by
  refine oEv_of (lv := [.ref 48, .null, .null, .null]) (by decide +kernel) (fun g q hq => hq) (fun g => Nat.le_of_ble_eq_true rfl) ?_
  intro K hc ho hL hN1 hr hE hz
  have hN : 3 ≤ kN K := by rw [hN1]; exact hN0
  unfold fX5_readWeds at h
  refine go_aload_n hc dX5_readWeds_0 rfl rfl ?_
  refine go_iconst hc dX5_readWeds_1 ci_4 ?_
  obtain ⟨r1, σ2, hf3, h⟩ := obi_some h
  refine go_callVi hc ho cmX5_takeName mlX5_189 dX5_readWeds_2 ok_48 (As := [.int (4 : Int32)]) (rest := []) (rX5_takeName (N := 1) hf3 (Nat.le_refl _)) rfl (Nat.le_trans (Nat.le_of_ble_eq_true rfl) hN) rfl (Nat.le_of_ble_eq_true rfl) (Or.inl hz) ?_
  refine go_istore_n hc (lv1 := [.ref 48, .int r1, .null, .null]) dX5_readWeds_5 rfl hL (by decide) (fun _ _ e => by cases e; rfl) rfl ?_
  refine go_iload_n hc dX5_readWeds_6 rfl rfl ?_
  refine go_if_ge (tgt := 12) hc dX5_readWeds_7 rfl (fun hh => ?_) (fun hh => ?_)
  · rw [if_pos hh] at h
    refine go_aload_n hc dX5_readWeds_12 rfl rfl ?_
    refine go_getC (b := 43) rfl hc ho flX5_37 dX5_readWeds_13 ok_48 ?_
    refine go_getI hc ho flX5_84 dX5_readWeds_16 ok_43 ?_
    refine go_istore_n hc (lv1 := [.ref 48, .int r1, .int (mI σ2 43 9), .null]) dX5_readWeds_19 rfl hL (by decide) (fun _ _ e => by cases e; rfl) rfl ?_
    refine go_aload_n hc dX5_readWeds_20 rfl rfl ?_
    refine go_iconst hc dX5_readWeds_21 ci_4 ?_
    obtain ⟨r4, σ5, hf6, h⟩ := obi_some h
    refine go_callVi hc ho cmX5_takeName mlX5_189 dX5_readWeds_22 ok_48 (As := [.int (4 : Int32)]) (rest := []) (rX5_takeName (N := 1) hf6 (Nat.le_refl _)) rfl (Nat.le_trans (Nat.le_of_ble_eq_true rfl) hN) rfl (Nat.le_of_ble_eq_true rfl) (Or.inl hz) ?_
    refine go_istore_n hc (lv1 := [.ref 48, .int r1, .int (mI σ2 43 9), .int r4]) dX5_readWeds_25 rfl hL (by decide) (fun _ _ e => by cases e; rfl) rfl ?_
    refine go_iload_n hc dX5_readWeds_26 rfl rfl ?_
    refine go_if_ge (tgt := 32) hc dX5_readWeds_27 rfl (fun hh => ?_) (fun hh => ?_)
    · rw [if_pos hh] at h
      refine go_iload_n hc dX5_readWeds_32 rfl rfl ?_
      refine go_iload_n hc dX5_readWeds_33 rfl rfl ?_
      refine go_icmp_eq (tgt := 52) hc dX5_readWeds_34 rfl (fun hh => ?_) (fun hh => ?_)
      · rw [if_pos hh] at h
        refine go_aload_n hc dX5_readWeds_52 rfl rfl ?_
        refine go_iconst hc dX5_readWeds_53 ci_3 ?_
        refine go_iload_n hc dX5_readWeds_54 rfl rfl ?_
        obtain ⟨r7, σ8, hf9, h⟩ := obi_some h
        refine go_callVi hc ho cmX5_fail mlX5_87 dX5_readWeds_55 ok_48 (As := [.int (3 : Int32), .int (mI σ2 43 9)]) (rest := []) (rX5_fail (N := 0) hf9 (Nat.le_refl _)) rfl (Nat.le_trans (Nat.le_of_ble_eq_true rfl) hN) rfl (Nat.le_of_ble_eq_true rfl) (Or.inl hz) ?_
        obtain ⟨hg10, h⟩ := ogd_some h
        exact go_zret hc (oend_i h hE) hr (oisb_n hg10) dX5_readWeds_58
      · rw [if_neg hh] at h
        refine go_aload_n hc dX5_readWeds_37 rfl rfl ?_
        obtain ⟨hg11, h⟩ := ogd_some h
        refine go_getR hc ho flX5_41 dX5_readWeds_38 ok_48 ?_
        refine go_getC (b := (mR σ5 48 1) + 5) (ow_c0_1 (of_decide_eq_true hg11)) hc ho flX5_147 dX5_readWeds_41 (of_decide_eq_true hg11) ?_
        refine go_iload_n hc dX5_readWeds_44 rfl rfl ?_
        refine go_iload_n hc dX5_readWeds_45 rfl rfl ?_
        obtain ⟨r12, σ13, hf14, h⟩ := obi_some h
        refine go_callVi hc ho cmX7_areWed mlX5_250 dX5_readWeds_46 (ow_k5 (of_decide_eq_true hg11)) (As := [.int r1, .int r4]) (rest := []) (rX7_areWed (N := 1) (ow_k5 (of_decide_eq_true hg11)) hf14 (Nat.le_refl _)) rfl (Nat.le_trans (Nat.le_of_ble_eq_true rfl) hN) rfl (Nat.le_of_ble_eq_true rfl) (Or.inl hz) ?_
        refine go_if_eq (tgt := 59) hc dX5_readWeds_49 rfl (fun hh => ?_) (fun hh => ?_)
        · rw [if_pos hh] at h
          refine go_aload_n hc dX5_readWeds_59 rfl rfl ?_
          obtain ⟨hg15, h⟩ := ogd_some h
          refine go_getR hc ho flX5_41 dX5_readWeds_60 ok_48 ?_
          refine go_getC (b := (mR σ13 48 1) + 5) (ow_c0_1 (of_decide_eq_true hg15)) hc ho flX5_147 dX5_readWeds_63 (of_decide_eq_true hg15) ?_
          refine go_iload_n hc dX5_readWeds_66 rfl rfl ?_
          refine go_iload_n hc dX5_readWeds_67 rfl rfl ?_
          obtain ⟨σ17, hf18, h⟩ := obv_some h
          refine go_callVv hc ho cmX7_marry mlX5_253 dX5_readWeds_68 (ow_k5 (of_decide_eq_true hg15)) (As := [.int r1, .int r4]) (rest := []) (rX7_marry (N := 2) (ow_k5 (of_decide_eq_true hg15)) hf18 (Nat.le_refl _)) rfl (Nat.le_trans (Nat.le_of_ble_eq_true rfl) hN) rfl (Nat.le_of_ble_eq_true rfl) (Or.inl hz) ?_
          refine go_iconst hc dX5_readWeds_71 ci_1 ?_
          exact go_zret hc (oend_i h hE) hr rfl dX5_readWeds_72
        · rw [if_neg hh] at h
          refine go_aload_n hc dX5_readWeds_52 rfl rfl ?_
          refine go_iconst hc dX5_readWeds_53 ci_3 ?_
          refine go_iload_n hc dX5_readWeds_54 rfl rfl ?_
          obtain ⟨r19, σ20, hf21, h⟩ := obi_some h
          refine go_callVi hc ho cmX5_fail mlX5_87 dX5_readWeds_55 ok_48 (As := [.int (3 : Int32), .int (mI σ2 43 9)]) (rest := []) (rX5_fail (N := 0) hf21 (Nat.le_refl _)) rfl (Nat.le_trans (Nat.le_of_ble_eq_true rfl) hN) rfl (Nat.le_of_ble_eq_true rfl) (Or.inl hz) ?_
          obtain ⟨hg22, h⟩ := ogd_some h
          exact go_zret hc (oend_i h hE) hr (oisb_n hg22) dX5_readWeds_58
    · rw [if_neg hh] at h
      refine go_iconst hc dX5_readWeds_30 ci_0 ?_
      exact go_zret hc (oend_i h hE) hr rfl dX5_readWeds_31
  · rw [if_neg hh] at h
    refine go_iconst hc dX5_readWeds_10 ci_0 ?_
    exact go_zret hc (oend_i h hE) hr rfl dX5_readWeds_11
def fX5_readLine (x0 : Int32) (σ : OM) : Option (Int32 × OM) :=
  obi (fX5_mayBegin ((mI σ 43 8) - (256 : Int32)) x0 σ) (fun r1 σ2 =>
  if r1 = 0 then (
   some ((0 : Int32), σ2))
  else (obv (fX6_advance σ2) (fun σ5 =>
  if ((mI σ 43 8) - (256 : Int32)) = 0 then (
   obi (fX5_readWell σ5) (fun r7 σ8 =>
   ogd (oisb r7) (some (r7, σ8))))
  else if ((mI σ 43 8) - (256 : Int32)) = 1 then (
   obi (fX5_readFact σ5) (fun r11 σ12 =>
   ogd (oisb r11) (some (r11, σ12))))
  else if ((mI σ 43 8) - (256 : Int32)) = 2 then (
   obi (fX5_readLaw (mI σ 43 9) σ5) (fun r15 σ16 =>
   ogd (oisb r15) (some (r15, σ16))))
  else if ((mI σ 43 8) - (256 : Int32)) = 3 then (
   obi (fX5_readTruth (mI σ 43 9) σ5) (fun r19 σ20 =>
   ogd (oisb r19) (some (r19, σ20))))
  else if ((mI σ 43 8) - (256 : Int32)) = 4 then (
   obi (fX5_readHouse σ5) (fun r23 σ24 =>
   ogd (oisb r23) (some (r23, σ24))))
  else if ((mI σ 43 8) - (256 : Int32)) = 5 then (
   obi (fX5_readTwin σ5) (fun r27 σ28 =>
   ogd (oisb r27) (some (r27, σ28))))
  else if ((mI σ 43 8) - (256 : Int32)) = 6 then (
   obi (fX5_readEnds σ5) (fun r31 σ32 =>
   ogd (oisb r31) (some (r31, σ32))))
  else if ((mI σ 43 8) - (256 : Int32)) = 7 then (
   obi (fX5_readQuestion σ5) (fun r35 σ36 =>
   ogd (oisb r35) (some (r35, σ36))))
  else if ((mI σ 43 8) - (256 : Int32)) = 8 then (
   obi (fX5_readTold σ5) (fun r39 σ40 =>
   ogd (oisb r39) (some (r39, σ40))))
  else if ((mI σ 43 8) - (256 : Int32)) = 9 then (
   obi (fX5_readStone σ5) (fun r43 σ44 =>
   ogd (oisb r43) (some (r43, σ44))))
  else if ((mI σ 43 8) - (256 : Int32)) = 10 then (
   obi (fX5_readWeds σ5) (fun r47 σ48 =>
   ogd (oisb r47) (some (r47, σ48))))
  else (some ((0 : Int32), σ5)))))
set_option maxRecDepth 100000 in
set_option maxHeartbeats 4000000 in
theorem rX5_readLine {N : Nat} {x0 : Int32} {σ : OM} {r0 : Int32} {σ0 : OM} (h : fX5_readLine x0 σ = some (r0, σ0)) (hN0 : 5 ≤ N) : oEv N MX5_readLine [.ref 48, .int x0] σ (some (.int r0)) σ0 := by
  refine oEv_of (lv := [.ref 48, .int x0, .null, .null]) (by decide +kernel) (fun g q hq => hq) (fun g => Nat.le_of_ble_eq_true rfl) ?_
  intro K hc ho hL hN1 hr hE hz
  have hN : 5 ≤ kN K := by rw [hN1]; exact hN0
  unfold fX5_readLine at h
  refine go_aload_n hc dX5_readLine_0 rfl rfl ?_
  refine go_getC (b := 43) rfl hc ho flX5_37 dX5_readLine_1 ok_48 ?_
  refine go_getI hc ho flX5_84 dX5_readLine_4 ok_43 ?_
  refine go_istore_n hc (lv1 := [.ref 48, .int x0, .int (mI σ 43 9), .null]) dX5_readLine_7 rfl hL (by decide) (fun _ _ e => by cases e; rfl) rfl ?_
  refine go_aload_n hc dX5_readLine_8 rfl rfl ?_
  refine go_getC (b := 43) rfl hc ho flX5_37 dX5_readLine_9 ok_48 ?_
  refine go_getI hc ho flX5_94 dX5_readLine_12 ok_43 ?_
  refine go_sipush hc dX5_readLine_15 cs_256 ?_
  refine go_isub hc dX5_readLine_18 ?_
  refine go_istore_n hc (lv1 := [.ref 48, .int x0, .int (mI σ 43 9), .int ((mI σ 43 8) - (256 : Int32))]) dX5_readLine_19 rfl hL (by decide) (fun _ _ e => by cases e; rfl) rfl ?_
  refine go_aload_n hc dX5_readLine_20 rfl rfl ?_
  refine go_iload_n hc dX5_readLine_21 rfl rfl ?_
  refine go_iload_n hc dX5_readLine_22 rfl rfl ?_
  obtain ⟨r1, σ2, hf3, h⟩ := obi_some h
  refine go_callVi hc ho cmX5_mayBegin mlX5_100 dX5_readLine_23 ok_48 (As := [.int ((mI σ 43 8) - (256 : Int32)), .int x0]) (rest := []) (rX5_mayBegin (N := 1) hf3 (Nat.le_refl _)) rfl (Nat.le_trans (Nat.le_of_ble_eq_true rfl) hN) rfl (Nat.le_of_ble_eq_true rfl) (Or.inl hz) ?_
  refine go_if_ne (tgt := 31) hc dX5_readLine_26 rfl (fun hh => ?_) (fun hh => ?_)
  · rw [if_neg hh] at h
    refine go_aload_n hc dX5_readLine_31 rfl rfl ?_
    refine go_getC (b := 43) rfl hc ho flX5_37 dX5_readLine_32 ok_48 ?_
    obtain ⟨σ5, hf6, h⟩ := obv_some h
    refine go_callVv hc ho cmX6_advance mlX5_97 dX5_readLine_35 ok_43 (As := []) (rest := []) (rX6_advance (N := 0) hf6 (Nat.le_refl _)) rfl (Nat.le_trans (Nat.le_of_ble_eq_true rfl) hN) rfl (Nat.le_of_ble_eq_true rfl) (Or.inl hz) ?_
    refine go_iload_n hc dX5_readLine_38 rfl rfl ?_
    by_cases e0 : ((mI σ 43 8) - (256 : Int32)) = 0
    · rw [if_pos e0] at h
      refine go_tabIn (tgt := 96) (off := 57) hc dX5_readLine_39 (by rw [e0]; decide) (by rw [e0]; decide) (by rw [e0]; decide +kernel) rfl ?_
      refine go_aload_n hc dX5_readLine_96 rfl rfl ?_
      obtain ⟨r7, σ8, hf9, h⟩ := obi_some h
      refine go_callVi hc ho cmX5_readWell mlX5_104 dX5_readLine_97 ok_48 (As := []) (rest := []) (rX5_readWell (N := 2) hf9 (Nat.le_refl _)) rfl (Nat.le_trans (Nat.le_of_ble_eq_true rfl) hN) rfl (Nat.le_of_ble_eq_true rfl) (Or.inl hz) ?_
      obtain ⟨hg10, h⟩ := ogd_some h
      exact go_zret hc (oend_i h hE) hr (oisb_n hg10) dX5_readLine_100
    rw [if_neg e0] at h
    by_cases e1 : ((mI σ 43 8) - (256 : Int32)) = 1
    · rw [if_pos e1] at h
      refine go_tabIn (tgt := 101) (off := 62) hc dX5_readLine_39 (by rw [e1]; decide) (by rw [e1]; decide) (by rw [e1]; decide +kernel) rfl ?_
      refine go_aload_n hc dX5_readLine_101 rfl rfl ?_
      obtain ⟨r11, σ12, hf13, h⟩ := obi_some h
      refine go_callVi hc ho cmX5_readFact mlX5_107 dX5_readLine_102 ok_48 (As := []) (rest := []) (rX5_readFact (N := 2) hf13 (Nat.le_refl _)) rfl (Nat.le_trans (Nat.le_of_ble_eq_true rfl) hN) rfl (Nat.le_of_ble_eq_true rfl) (Or.inl hz) ?_
      obtain ⟨hg14, h⟩ := ogd_some h
      exact go_zret hc (oend_i h hE) hr (oisb_n hg14) dX5_readLine_105
    rw [if_neg e1] at h
    by_cases e2 : ((mI σ 43 8) - (256 : Int32)) = 2
    · rw [if_pos e2] at h
      refine go_tabIn (tgt := 106) (off := 67) hc dX5_readLine_39 (by rw [e2]; decide) (by rw [e2]; decide) (by rw [e2]; decide +kernel) rfl ?_
      refine go_aload_n hc dX5_readLine_106 rfl rfl ?_
      refine go_iload_n hc dX5_readLine_107 rfl rfl ?_
      obtain ⟨r15, σ16, hf17, h⟩ := obi_some h
      refine go_callVi hc ho cmX5_readLaw mlX5_110 dX5_readLine_108 ok_48 (As := [.int (mI σ 43 9)]) (rest := []) (rX5_readLaw (N := 4) hf17 (Nat.le_refl _)) rfl (Nat.le_trans (Nat.le_of_ble_eq_true rfl) hN) rfl (Nat.le_of_ble_eq_true rfl) (Or.inl hz) ?_
      obtain ⟨hg18, h⟩ := ogd_some h
      exact go_zret hc (oend_i h hE) hr (oisb_n hg18) dX5_readLine_111
    rw [if_neg e2] at h
    by_cases e3 : ((mI σ 43 8) - (256 : Int32)) = 3
    · rw [if_pos e3] at h
      refine go_tabIn (tgt := 112) (off := 73) hc dX5_readLine_39 (by rw [e3]; decide) (by rw [e3]; decide) (by rw [e3]; decide +kernel) rfl ?_
      refine go_aload_n hc dX5_readLine_112 rfl rfl ?_
      refine go_iload_n hc dX5_readLine_113 rfl rfl ?_
      obtain ⟨r19, σ20, hf21, h⟩ := obi_some h
      refine go_callVi hc ho cmX5_readTruth mlX5_114 dX5_readLine_114 ok_48 (As := [.int (mI σ 43 9)]) (rest := []) (rX5_readTruth (N := 3) hf21 (Nat.le_refl _)) rfl (Nat.le_trans (Nat.le_of_ble_eq_true rfl) hN) rfl (Nat.le_of_ble_eq_true rfl) (Or.inl hz) ?_
      obtain ⟨hg22, h⟩ := ogd_some h
      exact go_zret hc (oend_i h hE) hr (oisb_n hg22) dX5_readLine_117
    rw [if_neg e3] at h
    by_cases e4 : ((mI σ 43 8) - (256 : Int32)) = 4
    · rw [if_pos e4] at h
      refine go_tabIn (tgt := 118) (off := 79) hc dX5_readLine_39 (by rw [e4]; decide) (by rw [e4]; decide) (by rw [e4]; decide +kernel) rfl ?_
      refine go_aload_n hc dX5_readLine_118 rfl rfl ?_
      obtain ⟨r23, σ24, hf25, h⟩ := obi_some h
      refine go_callVi hc ho cmX5_readHouse mlX5_117 dX5_readLine_119 ok_48 (As := []) (rest := []) (rX5_readHouse (N := 2) hf25 (Nat.le_refl _)) rfl (Nat.le_trans (Nat.le_of_ble_eq_true rfl) hN) rfl (Nat.le_of_ble_eq_true rfl) (Or.inl hz) ?_
      obtain ⟨hg26, h⟩ := ogd_some h
      exact go_zret hc (oend_i h hE) hr (oisb_n hg26) dX5_readLine_122
    rw [if_neg e4] at h
    by_cases e5 : ((mI σ 43 8) - (256 : Int32)) = 5
    · rw [if_pos e5] at h
      refine go_tabIn (tgt := 123) (off := 84) hc dX5_readLine_39 (by rw [e5]; decide) (by rw [e5]; decide) (by rw [e5]; decide +kernel) rfl ?_
      refine go_aload_n hc dX5_readLine_123 rfl rfl ?_
      obtain ⟨r27, σ28, hf29, h⟩ := obi_some h
      refine go_callVi hc ho cmX5_readTwin mlX5_120 dX5_readLine_124 ok_48 (As := []) (rest := []) (rX5_readTwin (N := 2) hf29 (Nat.le_refl _)) rfl (Nat.le_trans (Nat.le_of_ble_eq_true rfl) hN) rfl (Nat.le_of_ble_eq_true rfl) (Or.inl hz) ?_
      obtain ⟨hg30, h⟩ := ogd_some h
      exact go_zret hc (oend_i h hE) hr (oisb_n hg30) dX5_readLine_127
    rw [if_neg e5] at h
    by_cases e6 : ((mI σ 43 8) - (256 : Int32)) = 6
    · rw [if_pos e6] at h
      refine go_tabIn (tgt := 128) (off := 89) hc dX5_readLine_39 (by rw [e6]; decide) (by rw [e6]; decide) (by rw [e6]; decide +kernel) rfl ?_
      refine go_aload_n hc dX5_readLine_128 rfl rfl ?_
      obtain ⟨r31, σ32, hf33, h⟩ := obi_some h
      refine go_callVi hc ho cmX5_readEnds mlX5_123 dX5_readLine_129 ok_48 (As := []) (rest := []) (rX5_readEnds (N := 2) hf33 (Nat.le_refl _)) rfl (Nat.le_trans (Nat.le_of_ble_eq_true rfl) hN) rfl (Nat.le_of_ble_eq_true rfl) (Or.inl hz) ?_
      obtain ⟨hg34, h⟩ := ogd_some h
      exact go_zret hc (oend_i h hE) hr (oisb_n hg34) dX5_readLine_132
    rw [if_neg e6] at h
    by_cases e7 : ((mI σ 43 8) - (256 : Int32)) = 7
    · rw [if_pos e7] at h
      refine go_tabIn (tgt := 133) (off := 94) hc dX5_readLine_39 (by rw [e7]; decide) (by rw [e7]; decide) (by rw [e7]; decide +kernel) rfl ?_
      refine go_aload_n hc dX5_readLine_133 rfl rfl ?_
      obtain ⟨r35, σ36, hf37, h⟩ := obi_some h
      refine go_callVi hc ho cmX5_readQuestion mlX5_126 dX5_readLine_134 ok_48 (As := []) (rest := []) (rX5_readQuestion (N := 4) hf37 (Nat.le_refl _)) rfl (Nat.le_trans (Nat.le_of_ble_eq_true rfl) hN) rfl (Nat.le_of_ble_eq_true rfl) (Or.inl hz) ?_
      obtain ⟨hg38, h⟩ := ogd_some h
      exact go_zret hc (oend_i h hE) hr (oisb_n hg38) dX5_readLine_137
    rw [if_neg e7] at h
    by_cases e8 : ((mI σ 43 8) - (256 : Int32)) = 8
    · rw [if_pos e8] at h
      refine go_tabIn (tgt := 138) (off := 99) hc dX5_readLine_39 (by rw [e8]; decide) (by rw [e8]; decide) (by rw [e8]; decide +kernel) rfl ?_
      refine go_aload_n hc dX5_readLine_138 rfl rfl ?_
      obtain ⟨r39, σ40, hf41, h⟩ := obi_some h
      refine go_callVi hc ho cmX5_readTold mlX5_129 dX5_readLine_139 ok_48 (As := []) (rest := []) (rX5_readTold (N := 3) hf41 (Nat.le_refl _)) rfl (Nat.le_trans (Nat.le_of_ble_eq_true rfl) hN) rfl (Nat.le_of_ble_eq_true rfl) (Or.inl hz) ?_
      obtain ⟨hg42, h⟩ := ogd_some h
      exact go_zret hc (oend_i h hE) hr (oisb_n hg42) dX5_readLine_142
    rw [if_neg e8] at h
    by_cases e9 : ((mI σ 43 8) - (256 : Int32)) = 9
    · rw [if_pos e9] at h
      refine go_tabIn (tgt := 143) (off := 104) hc dX5_readLine_39 (by rw [e9]; decide) (by rw [e9]; decide) (by rw [e9]; decide +kernel) rfl ?_
      refine go_aload_n hc dX5_readLine_143 rfl rfl ?_
      obtain ⟨r43, σ44, hf45, h⟩ := obi_some h
      refine go_callVi hc ho cmX5_readStone mlX5_132 dX5_readLine_144 ok_48 (As := []) (rest := []) (rX5_readStone (N := 3) hf45 (Nat.le_refl _)) rfl (Nat.le_trans (Nat.le_of_ble_eq_true rfl) hN) rfl (Nat.le_of_ble_eq_true rfl) (Or.inl hz) ?_
      obtain ⟨hg46, h⟩ := ogd_some h
      exact go_zret hc (oend_i h hE) hr (oisb_n hg46) dX5_readLine_147
    rw [if_neg e9] at h
    by_cases e10 : ((mI σ 43 8) - (256 : Int32)) = 10
    · rw [if_pos e10] at h
      refine go_tabIn (tgt := 148) (off := 109) hc dX5_readLine_39 (by rw [e10]; decide) (by rw [e10]; decide) (by rw [e10]; decide +kernel) rfl ?_
      refine go_aload_n hc dX5_readLine_148 rfl rfl ?_
      obtain ⟨r47, σ48, hf49, h⟩ := obi_some h
      refine go_callVi hc ho cmX5_readWeds mlX5_135 dX5_readLine_149 ok_48 (As := []) (rest := []) (rX5_readWeds (N := 3) hf49 (Nat.le_refl _)) rfl (Nat.le_trans (Nat.le_of_ble_eq_true rfl) hN) rfl (Nat.le_of_ble_eq_true rfl) (Or.inl hz) ?_
      obtain ⟨hg50, h⟩ := ogd_some h
      exact go_zret hc (oend_i h hE) hr (oisb_n hg50) dX5_readLine_152
    rw [if_neg e10] at h
    refine go_tabOut (tgt := 153) hc dX5_readLine_39 ((otab 11 (by decide) (fun k hk => by rcases (show k = 0 ∨ k = 1 ∨ k = 2 ∨ k = 3 ∨ k = 4 ∨ k = 5 ∨ k = 6 ∨ k = 7 ∨ k = 8 ∨ k = 9 ∨ k = 10 by omega) with rfl | rfl | rfl | rfl | rfl | rfl | rfl | rfl | rfl | rfl | rfl <;> first | exact e0 | exact e1 | exact e2 | exact e3 | exact e4 | exact e5 | exact e6 | exact e7 | exact e8 | exact e9 | exact e10)).imp id (fun q => by omega)) rfl ?_
    refine go_iconst hc dX5_readLine_153 ci_0 ?_
    exact go_zret hc (oend_i h hE) hr rfl dX5_readLine_154
  · rw [if_pos hh] at h
    refine go_iconst hc dX5_readLine_29 ci_0 ?_
    exact go_zret hc (oend_i h hE) hr rfl dX5_readLine_30
def fX5_goesOn (σ : OM) : Option (Int32 × OM) :=
  if (mI σ 43 8) = 0 then (
   some ((0 : Int32), σ))
  else (if (mI σ 43 8) = (59 : Int32) then (
   obv (fX6_advance σ) (fun σ2 =>
   some ((1 : Int32), σ2)))
  else (obi (fX5_fail (1 : Int32) (mI σ 43 9) σ) (fun r4 σ5 =>
  ogd (oisb r4) (some (r4, σ5)))))
set_option maxRecDepth 100000 in
set_option maxHeartbeats 4000000 in
theorem rX5_goesOn {N : Nat} {σ : OM} {r0 : Int32} {σ0 : OM} (h : fX5_goesOn σ = some (r0, σ0)) (hN0 : 1 ≤ N) : oEv N MX5_goesOn [.ref 48] σ (some (.int r0)) σ0 := by
  refine oEv_of (lv := [.ref 48]) (by decide +kernel) (fun g q hq => hq) (fun g => Nat.le_of_ble_eq_true rfl) ?_
  intro K hc ho hL hN1 hr hE hz
  have hN : 1 ≤ kN K := by rw [hN1]; exact hN0
  unfold fX5_goesOn at h
  refine go_aload_n hc dX5_goesOn_0 rfl rfl ?_
  refine go_getC (b := 43) rfl hc ho flX5_37 dX5_goesOn_1 ok_48 ?_
  refine go_getI hc ho flX5_94 dX5_goesOn_4 ok_43 ?_
  refine go_if_ne (tgt := 12) hc dX5_goesOn_7 rfl (fun hh => ?_) (fun hh => ?_)
  · rw [if_neg hh] at h
    refine go_aload_n hc dX5_goesOn_12 rfl rfl ?_
    refine go_getC (b := 43) rfl hc ho flX5_37 dX5_goesOn_13 ok_48 ?_
    refine go_getI hc ho flX5_94 dX5_goesOn_16 ok_43 ?_
    refine go_bipush hc dX5_goesOn_19 cb_59 ?_
    refine go_icmp_eq (tgt := 37) hc dX5_goesOn_21 rfl (fun hh => ?_) (fun hh => ?_)
    · rw [if_pos hh] at h
      refine go_aload_n hc dX5_goesOn_37 rfl rfl ?_
      refine go_getC (b := 43) rfl hc ho flX5_37 dX5_goesOn_38 ok_48 ?_
      obtain ⟨σ2, hf3, h⟩ := obv_some h
      refine go_callVv hc ho cmX6_advance mlX5_97 dX5_goesOn_41 ok_43 (As := []) (rest := []) (rX6_advance (N := 0) hf3 (Nat.le_refl _)) rfl (Nat.le_trans (Nat.le_of_ble_eq_true rfl) hN) rfl (Nat.le_of_ble_eq_true rfl) (Or.inl hz) ?_
      refine go_iconst hc dX5_goesOn_44 ci_1 ?_
      exact go_zret hc (oend_i h hE) hr rfl dX5_goesOn_45
    · rw [if_neg hh] at h
      refine go_aload_n hc dX5_goesOn_24 rfl rfl ?_
      refine go_iconst hc dX5_goesOn_25 ci_1 ?_
      refine go_aload_n hc dX5_goesOn_26 rfl rfl ?_
      refine go_getC (b := 43) rfl hc ho flX5_37 dX5_goesOn_27 ok_48 ?_
      refine go_getI hc ho flX5_84 dX5_goesOn_30 ok_43 ?_
      obtain ⟨r4, σ5, hf6, h⟩ := obi_some h
      refine go_callVi hc ho cmX5_fail mlX5_87 dX5_goesOn_33 ok_48 (As := [.int (1 : Int32), .int (mI σ 43 9)]) (rest := []) (rX5_fail (N := 0) hf6 (Nat.le_refl _)) rfl (Nat.le_trans (Nat.le_of_ble_eq_true rfl) hN) rfl (Nat.le_of_ble_eq_true rfl) (Or.inl hz) ?_
      obtain ⟨hg7, h⟩ := ogd_some h
      exact go_zret hc (oend_i h hE) hr (oisb_n hg7) dX5_goesOn_36
  · rw [if_pos hh] at h
    refine go_iconst hc dX5_goesOn_10 ci_0 ?_
    exact go_zret hc (oend_i h hE) hr rfl dX5_goesOn_11
def fX2_product_b4 : Nat → Nat → Int32 → Int32 → Int32 → OM → Option (Int32 × OM)
  | 0, _, _, _, _, _ => none
  | n + 1, bl0, l1, l2, l3, σ =>
    if (mI σ (bl0 + 1) 0) ≤ l3 then (
     some (l2, σ))
    else (if (6 : Int32) ≤ l3 then (
     some (l2, σ))
    else (obi (fX9_bitOf l1.toInt64 l3 σ) (fun r1 σ2 =>
    if r1 = (1 : Int32) then (
     ogd (oin l3 6) (
     fX2_product_b4 n bl0 l1 (l2 * (mI σ2 (bl0 + 2) l3.toNatClampNeg)) (l3 + 1) σ2))
    else (ogd (oin l3 6) (
    fX2_product_b4 n bl0 l1 (l2 * ((10 : Int32) - (mI σ2 (bl0 + 2) l3.toNatClampNeg))) (l3 + 1) σ2)))))
set_option maxRecDepth 100000 in
set_option maxHeartbeats 4000000 in
theorem rX2_product_b4 {K : OK} (hc : kcc K = cX2_product) (ho : kow K = RX2) (hL : knL K = 4) (hN : 1 ≤ kN K) (hr : (kme K).sig.returnType = (some .int)) {r0 : Int32} {σ0 : OM} (hE : oEnd K (some (.int r0)) σ0) (hz : kz K = 0) : ∀ (n : Nat) (bl0 : Nat) (l1 : Int32) (l2 : Int32) (l3 : Int32) (σ : OM), okd bl0 = 8 → fX2_product_b4 n bl0 l1 l2 l3 σ = some (r0, σ0) → Go K 4 [.ref (bl0 + 1), .int l1, .int l2, .int l3] [] σ := by
  intro n
  induction n with
  | zero =>
    intro bl0 l1 l2 l3 σ hbl0 h
    cases h
  | succ n ih =>
    intro bl0 l1 l2 l3 σ hbl0 h
    rw [fX2_product_b4] at h
    refine go_iload_n hc dX2_product_4 rfl rfl ?_
    refine go_aload_n hc dX2_product_5 rfl rfl ?_
    refine go_getI hc ho flX2_22 dX2_product_6 (ow_k1 hbl0) ?_
    refine go_icmp_ge (tgt := 55) hc dX2_product_9 rfl (fun hh => ?_) (fun hh => ?_)
    · rw [if_pos hh] at h
      refine go_iload_n hc dX2_product_55 rfl rfl ?_
      exact go_iret hc (oend_i h hE) hr dX2_product_56
    · rw [if_neg hh] at h
      refine go_iload_n hc dX2_product_12 rfl rfl ?_
      refine go_bipush hc dX2_product_13 cb_6 ?_
      refine go_icmp_ge (tgt := 55) hc dX2_product_15 rfl (fun hh => ?_) (fun hh => ?_)
      · rw [if_pos hh] at h
        refine go_iload_n hc dX2_product_55 rfl rfl ?_
        exact go_iret hc (oend_i h hE) hr dX2_product_56
      · rw [if_neg hh] at h
        refine go_iload_n hc dX2_product_18 rfl rfl ?_
        refine go_iload_n hc dX2_product_19 rfl rfl ?_
        refine go_i2l hc dX2_product_20 ?_
        refine go_iload_n hc dX2_product_21 rfl rfl ?_
        obtain ⟨r1, σ2, hf3, h⟩ := obi_some h
        refine go_callSNi hc ho cmX9_bitOf mnX2_55 dX2_product_22 (As := [.long l1.toInt64, .int l3]) (rest := [.int l2]) (rX9_bitOf (N := 0) hf3 (Nat.le_refl _)) rfl (Nat.le_trans (Nat.le_of_ble_eq_true rfl) hN) rfl (Nat.le_of_ble_eq_true rfl) (Or.inl hz) ?_
        refine go_iconst hc dX2_product_25 ci_1 ?_
        refine go_icmp_ne (tgt := 38) hc dX2_product_26 rfl (fun hh => ?_) (fun hh => ?_)
        · rw [if_neg hh] at h
          refine go_bipush hc dX2_product_38 cb_10 ?_
          refine go_aload_n hc dX2_product_40 rfl rfl ?_
          refine go_getC (b := bl0 + 2) (ow_c1_1 hbl0) hc ho flX2_9 dX2_product_41 (ow_k1 hbl0) ?_
          refine go_iload_n hc dX2_product_44 rfl rfl ?_
          obtain ⟨hg4, h⟩ := ogd_some h
          refine go_iald hc dX2_product_45 (ow_k2 hbl0) (ow_l2 hbl0) hg4 rfl ?_
          refine go_isub hc dX2_product_46 ?_
          refine go_imul hc dX2_product_47 ?_
          refine go_istore_n hc (lv1 := [.ref (bl0 + 1), .int l1, .int (l2 * ((10 : Int32) - (mI σ2 (bl0 + 2) l3.toNatClampNeg))), .int l3]) dX2_product_48 rfl hL (by decide) (fun _ _ e => by cases e; rfl) rfl ?_
          refine go_iinc hc (lv1 := [.ref (bl0 + 1), .int l1, .int (l2 * ((10 : Int32) - (mI σ2 (bl0 + 2) l3.toNatClampNeg))), .int (l3 + 1)]) dX2_product_49 rfl ci_1 hL (by decide) (fun _ _ e => by cases e; rfl) rfl ?_
          refine go_goto (tgt := 4) hc dX2_product_52 rfl ?_
          exact ih bl0 l1 (l2 * ((10 : Int32) - (mI σ2 (bl0 + 2) l3.toNatClampNeg))) (l3 + 1) _ hbl0 h
        · rw [if_pos hh] at h
          refine go_aload_n hc dX2_product_29 rfl rfl ?_
          refine go_getC (b := bl0 + 2) (ow_c1_1 hbl0) hc ho flX2_9 dX2_product_30 (ow_k1 hbl0) ?_
          refine go_iload_n hc dX2_product_33 rfl rfl ?_
          obtain ⟨hg5, h⟩ := ogd_some h
          refine go_iald hc dX2_product_34 (ow_k2 hbl0) (ow_l2 hbl0) hg5 rfl ?_
          refine go_goto (tgt := 47) hc dX2_product_35 rfl ?_
          refine go_imul hc dX2_product_47 ?_
          refine go_istore_n hc (lv1 := [.ref (bl0 + 1), .int l1, .int (l2 * (mI σ2 (bl0 + 2) l3.toNatClampNeg)), .int l3]) dX2_product_48 rfl hL (by decide) (fun _ _ e => by cases e; rfl) rfl ?_
          refine go_iinc hc (lv1 := [.ref (bl0 + 1), .int l1, .int (l2 * (mI σ2 (bl0 + 2) l3.toNatClampNeg)), .int (l3 + 1)]) dX2_product_49 rfl ci_1 hL (by decide) (fun _ _ e => by cases e; rfl) rfl ?_
          refine go_goto (tgt := 4) hc dX2_product_52 rfl ?_
          exact ih bl0 l1 (l2 * (mI σ2 (bl0 + 2) l3.toNatClampNeg)) (l3 + 1) _ hbl0 h
def fX2_product (w : Nat) (x0 : Int32) (σ : OM) : Option (Int32 × OM) :=
  fX2_product_b4 oF w x0 (1 : Int32) (0 : Int32) σ
set_option maxRecDepth 100000 in
set_option maxHeartbeats 4000000 in
theorem rX2_product {N : Nat} {w : Nat} {x0 : Int32} {σ : OM} {r0 : Int32} {σ0 : OM} (hw : okd w = 8) (h : fX2_product w x0 σ = some (r0, σ0)) (hN0 : 1 ≤ N) : oEv N MX2_product [.ref (w + 1), .int x0] σ (some (.int r0)) σ0 := by
  refine oEv_of (lv := [.ref (w + 1), .int x0, .null, .null]) (by decide +kernel) (fun g q hq => hq) (fun g => Nat.le_of_ble_eq_true rfl) ?_
  intro K hc ho hL hN1 hr hE hz
  have hN : 1 ≤ kN K := by rw [hN1]; exact hN0
  unfold fX2_product at h
  refine go_iconst hc dX2_product_0 ci_1 ?_
  refine go_istore_n hc (lv1 := [.ref (w + 1), .int x0, .int (1 : Int32), .null]) dX2_product_1 rfl hL (by decide) (fun _ _ e => by cases e; rfl) rfl ?_
  refine go_iconst hc dX2_product_2 ci_0 ?_
  refine go_istore_n hc (lv1 := [.ref (w + 1), .int x0, .int (1 : Int32), .int (0 : Int32)]) dX2_product_3 rfl hL (by decide) (fun _ _ e => by cases e; rfl) rfl ?_
  exact rX2_product_b4 hc ho hL hN hr hE hz oF w x0 (1 : Int32) (0 : Int32) _ hw h
def fX2_close_b29 : Nat → Nat → Int32 → Int32 → OM → Option OM
  | 0, _, _, _, _ => none
  | n + 1, bl0, l1, l2, σ =>
    if l1 ≤ l2 then (
     some σ)
    else (if (64 : Int32) ≤ l2 then (
     some σ)
    else (obi (fX2_product bl0 l2 σ) (fun r1 σ2 =>
    ogd (oin l2 64) (
    fX2_close_b29 n bl0 l1 (l2 + 1) (sI σ2 (bl0 + 4) l2.toNatClampNeg r1)))))
set_option maxRecDepth 100000 in
set_option maxHeartbeats 4000000 in
theorem rX2_close_b29 {K : OK} (hc : kcc K = cX2_close) (ho : kow K = RX2) (hL : knL K = 3) (hN : 2 ≤ kN K) (hr : (kme K).sig.returnType = none) {σ0 : OM} (hE : oEnd K (none) σ0) (hz : kz K = 0) : ∀ (n : Nat) (bl0 : Nat) (l1 : Int32) (l2 : Int32) (σ : OM), okd bl0 = 8 → fX2_close_b29 n bl0 l1 l2 σ = some σ0 → Go K 29 [.ref (bl0 + 1), .int l1, .int l2] [] σ := by
  intro n
  induction n with
  | zero =>
    intro bl0 l1 l2 σ hbl0 h
    cases h
  | succ n ih =>
    intro bl0 l1 l2 σ hbl0 h
    rw [fX2_close_b29] at h
    refine go_iload_n hc dX2_close_29 rfl rfl ?_
    refine go_iload_n hc dX2_close_30 rfl rfl ?_
    refine go_icmp_ge (tgt := 57) hc dX2_close_31 rfl (fun hh => ?_) (fun hh => ?_)
    · rw [if_pos hh] at h
      exact go_vret hc (oend_v h hE) hr dX2_close_57
    · rw [if_neg hh] at h
      refine go_iload_n hc dX2_close_34 rfl rfl ?_
      refine go_bipush hc dX2_close_35 cb_64 ?_
      refine go_icmp_ge (tgt := 57) hc dX2_close_37 rfl (fun hh => ?_) (fun hh => ?_)
      · rw [if_pos hh] at h
        exact go_vret hc (oend_v h hE) hr dX2_close_57
      · rw [if_neg hh] at h
        refine go_aload_n hc dX2_close_40 rfl rfl ?_
        refine go_getC (b := bl0 + 4) (ow_c1_10 hbl0) hc ho flX2_19 dX2_close_41 (ow_k1 hbl0) ?_
        refine go_iload_n hc dX2_close_44 rfl rfl ?_
        refine go_aload_n hc dX2_close_45 rfl rfl ?_
        refine go_iload_n hc dX2_close_46 rfl rfl ?_
        obtain ⟨r1, σ2, hf3, h⟩ := obi_some h
        refine go_callVi hc ho cmX2_product mlX2_51 dX2_close_47 (ow_k1 hbl0) (As := [.int l2]) (rest := [.int l2, .ref (bl0 + 4)]) (rX2_product (N := 1) hbl0 hf3 (Nat.le_refl _)) rfl (Nat.le_trans (Nat.le_of_ble_eq_true rfl) hN) rfl (Nat.le_of_ble_eq_true rfl) (Or.inl hz) ?_
        obtain ⟨hg4, h⟩ := ogd_some h
        refine go_iast hc dX2_close_50 (ow_k4 hbl0) (ow_l4 hbl0) hg4 rfl ?_
        refine go_iinc hc (lv1 := [.ref (bl0 + 1), .int l1, .int (l2 + 1)]) dX2_close_51 rfl ci_1 hL (by decide) (fun _ _ e => by cases e; rfl) rfl ?_
        refine go_goto (tgt := 29) hc dX2_close_54 rfl ?_
        exact ih bl0 l1 (l2 + 1) _ hbl0 h
def fX2_close (w : Nat) (σ : OM) : Option OM :=
  if (64 : Int32) ≤ ((1 : Int32) <<< ((mI σ (w + 1) 0) &&& 31)) then (
   fX2_close_b29 oF w ((1 : Int32) <<< ((mI σ (w + 1) 0) &&& 31)) (0 : Int32) σ)
  else (fX2_close_b29 oF w ((1 : Int32) <<< ((mI σ (w + 1) 0) &&& 31)) (0 : Int32) (sL σ (w + 1) 3 ((mL σ (w + 1) 3) &&& (((1 : Int64) <<< (((1 : Int32) <<< ((mI σ (w + 1) 0) &&& 31)).toInt64 &&& 63)) - (1 : Int64)))))
set_option maxRecDepth 100000 in
set_option maxHeartbeats 4000000 in
theorem rX2_close {N : Nat} {w : Nat} {σ : OM} {σ0 : OM} (hw : okd w = 8) (h : fX2_close w σ = some σ0) (hN0 : 2 ≤ N) : oEv N MX2_close [.ref (w + 1)] σ (none) σ0 := by
  refine oEv_of (lv := [.ref (w + 1), .null, .null]) (by decide +kernel) (fun g q hq => hq) (fun g => Nat.le_of_ble_eq_true rfl) ?_
  intro K hc ho hL hN1 hr hE hz
  have hN : 2 ≤ kN K := by rw [hN1]; exact hN0
  unfold fX2_close at h
  refine go_iconst hc dX2_close_0 ci_1 ?_
  refine go_aload_n hc dX2_close_1 rfl rfl ?_
  refine go_getI hc ho flX2_22 dX2_close_2 (ow_k1 hw) ?_
  refine go_ishl hc dX2_close_5 ?_
  refine go_istore_n hc (lv1 := [.ref (w + 1), .int ((1 : Int32) <<< ((mI σ (w + 1) 0) &&& 31)), .null]) dX2_close_6 rfl hL (by decide) (fun _ _ e => by cases e; rfl) rfl ?_
  refine go_iload_n hc dX2_close_7 rfl rfl ?_
  refine go_bipush hc dX2_close_8 cb_64 ?_
  refine go_icmp_ge (tgt := 27) hc dX2_close_10 rfl (fun hh => ?_) (fun hh => ?_)
  · rw [if_pos hh] at h
    refine go_iconst hc dX2_close_27 ci_0 ?_
    refine go_istore_n hc (lv1 := [.ref (w + 1), .int ((1 : Int32) <<< ((mI σ (w + 1) 0) &&& 31)), .int (0 : Int32)]) dX2_close_28 rfl hL (by decide) (fun _ _ e => by cases e; rfl) rfl ?_
    exact rX2_close_b29 hc ho hL hN hr hE hz oF w ((1 : Int32) <<< ((mI σ (w + 1) 0) &&& 31)) (0 : Int32) _ hw h
  · rw [if_neg hh] at h
    refine go_aload_n hc dX2_close_13 rfl rfl ?_
    refine go_dup hc dX2_close_14 rfl ?_
    refine go_getL hc ho flX2_31 dX2_close_15 (ow_k1 hw) ?_
    refine go_lconst hc dX2_close_18 cl_1 ?_
    refine go_iload_n hc dX2_close_19 rfl rfl ?_
    refine go_lshl hc dX2_close_20 ?_
    refine go_lconst hc dX2_close_21 cl_1 ?_
    refine go_lsub hc dX2_close_22 ?_
    refine go_land hc dX2_close_23 ?_
    refine go_putL hc ho fpX2_31 dX2_close_24 (ow_k1 hw) (fun g => onl g _) (fun _ => rfl) ?_
    refine go_iconst hc dX2_close_27 ci_0 ?_
    refine go_istore_n hc (lv1 := [.ref (w + 1), .int ((1 : Int32) <<< ((mI σ (w + 1) 0) &&& 31)), .int (0 : Int32)]) dX2_close_28 rfl hL (by decide) (fun _ _ e => by cases e; rfl) rfl ?_
    exact rX2_close_b29 hc ho hL hN hr hE hz oF w ((1 : Int32) <<< ((mI σ (w + 1) 0) &&& 31)) (0 : Int32) _ hw h
def fX2_soWorlds (w : Nat) (x0 : Int32) (σ : OM) : Option (Int64 × OM) :=
  if x0 < 0 then (
   some ((0 : Int64), σ))
  else (if (8 : Int32) ≤ x0 then (
   some ((0 : Int64), σ))
  else (ogd (oin x0 8) (
  some ((mL σ (w + 3) x0.toNatClampNeg), σ))))
set_option maxRecDepth 100000 in
set_option maxHeartbeats 4000000 in
theorem rX2_soWorlds {N : Nat} {w : Nat} {x0 : Int32} {σ : OM} {r0 : Int64} {σ0 : OM} (hw : okd w = 8) (h : fX2_soWorlds w x0 σ = some (r0, σ0)) (hN0 : 0 ≤ N) : oEv N MX2_soWorlds [.ref (w + 1), .int x0] σ (some (.long r0)) σ0 := by
  refine oEv_of (lv := [.ref (w + 1), .int x0]) (by decide +kernel) (fun g q hq => hq) (fun g => Nat.le_of_ble_eq_true rfl) ?_
  intro K hc ho hL hN1 hr hE hz
  have hN : 0 ≤ kN K := by rw [hN1]; exact hN0
  unfold fX2_soWorlds at h
  refine go_iload_n hc dX2_soWorlds_0 rfl rfl ?_
  refine go_if_lt (tgt := 19) hc dX2_soWorlds_1 rfl (fun hh => ?_) (fun hh => ?_)
  · rw [if_pos hh] at h
    refine go_lconst hc dX2_soWorlds_19 cl_0 ?_
    exact go_lret hc (oend_l h hE) hr dX2_soWorlds_20
  · rw [if_neg hh] at h
    refine go_iload_n hc dX2_soWorlds_4 rfl rfl ?_
    refine go_bipush hc dX2_soWorlds_5 cb_8 ?_
    refine go_icmp_ge (tgt := 19) hc dX2_soWorlds_7 rfl (fun hh => ?_) (fun hh => ?_)
    · rw [if_pos hh] at h
      refine go_lconst hc dX2_soWorlds_19 cl_0 ?_
      exact go_lret hc (oend_l h hE) hr dX2_soWorlds_20
    · rw [if_neg hh] at h
      refine go_aload_n hc dX2_soWorlds_10 rfl rfl ?_
      refine go_getC (b := w + 3) (ow_c1_7 hw) hc ho flX2_15 dX2_soWorlds_11 (ow_k1 hw) ?_
      refine go_iload_n hc dX2_soWorlds_14 rfl rfl ?_
      obtain ⟨hg1, h⟩ := ogd_some h
      refine go_lald hc dX2_soWorlds_15 (ow_k3 hw) (ow_l3 hw) hg1 rfl ?_
      refine go_goto (tgt := 20) hc dX2_soWorlds_16 rfl ?_
      exact go_lret hc (oend_l h hE) hr dX2_soWorlds_20
def fX2_worldsWith (w : Nat) (x0 : Int32) (x1 : Int32) (σ : OM) : Option (Int64 × OM) :=
  if x1 = 0 then (
   obi (fX2_soWorlds w x0 σ) (fun r1 σ2 =>
   some (((mL σ (w + 1) 3) &&& (r1 ^^^ ((-1) : Int64))), σ2)))
  else (obi (fX2_soWorlds w x0 σ) (fun r4 σ5 =>
  some (((mL σ (w + 1) 3) &&& r4), σ5)))
set_option maxRecDepth 100000 in
set_option maxHeartbeats 4000000 in
theorem rX2_worldsWith {N : Nat} {w : Nat} {x0 : Int32} {x1 : Int32} {σ : OM} {r0 : Int64} {σ0 : OM} (hw : okd w = 8) (h : fX2_worldsWith w x0 x1 σ = some (r0, σ0)) (hN0 : 1 ≤ N) : oEv N MX2_worldsWith [.ref (w + 1), .int x0, .int x1] σ (some (.long r0)) σ0 := by
  refine oEv_of (lv := [.ref (w + 1), .int x0, .int x1]) (by decide +kernel) (fun g q hq => hq) (fun g => Nat.le_of_ble_eq_true rfl) ?_
  intro K hc ho hL hN1 hr hE hz
  have hN : 1 ≤ kN K := by rw [hN1]; exact hN0
  unfold fX2_worldsWith at h
  refine go_aload_n hc dX2_worldsWith_0 rfl rfl ?_
  refine go_getL hc ho flX2_31 dX2_worldsWith_1 (ow_k1 hw) ?_
  refine go_iload_n hc dX2_worldsWith_4 rfl rfl ?_
  refine go_if_eq (tgt := 16) hc dX2_worldsWith_5 rfl (fun hh => ?_) (fun hh => ?_)
  · rw [if_pos hh] at h
    refine go_aload_n hc dX2_worldsWith_16 rfl rfl ?_
    refine go_iload_n hc dX2_worldsWith_17 rfl rfl ?_
    obtain ⟨r1, σ2, hf3, h⟩ := obi_some h
    refine go_callVl hc ho cmX2_soWorlds mlX2_65 dX2_worldsWith_18 (ow_k1 hw) (As := [.int x0]) (rest := [.long (mL σ (w + 1) 3)]) (rX2_soWorlds (N := 0) hw hf3 (Nat.le_refl _)) rfl (Nat.le_trans (Nat.le_of_ble_eq_true rfl) hN) rfl (Nat.le_of_ble_eq_true rfl) (Or.inl hz) ?_
    refine go_ldc2 hc ho klX2_29 dX2_worldsWith_21 ?_
    refine go_lxor hc dX2_worldsWith_24 ?_
    refine go_land hc dX2_worldsWith_25 ?_
    exact go_lret hc (oend_l h hE) hr dX2_worldsWith_26
  · rw [if_neg hh] at h
    refine go_aload_n hc dX2_worldsWith_8 rfl rfl ?_
    refine go_iload_n hc dX2_worldsWith_9 rfl rfl ?_
    obtain ⟨r4, σ5, hf6, h⟩ := obi_some h
    refine go_callVl hc ho cmX2_soWorlds mlX2_65 dX2_worldsWith_10 (ow_k1 hw) (As := [.int x0]) (rest := [.long (mL σ (w + 1) 3)]) (rX2_soWorlds (N := 0) hw hf6 (Nat.le_refl _)) rfl (Nat.le_trans (Nat.le_of_ble_eq_true rfl) hN) rfl (Nat.le_of_ble_eq_true rfl) (Or.inl hz) ?_
    refine go_goto (tgt := 25) hc dX2_worldsWith_13 rfl ?_
    refine go_land hc dX2_worldsWith_25 ?_
    exact go_lret hc (oend_l h hE) hr dX2_worldsWith_26
def fX3_gatherAnswers_b42 : Nat → Nat → Int32 → OM → Option OM
  | 0, _, _, _ => none
  | n + 1, bl0, l1, σ =>
    if (mI σ (bl0 + 5) 0) ≤ l1 then (
     some σ)
    else (if (20 : Int32) ≤ l1 then (
     some σ)
    else (ogd (oin l1 20) (
    if (mI σ (bl0 + 6) l1.toNatClampNeg) < 0 then (
     fX3_gatherAnswers_b42 n bl0 (l1 + 1) σ)
    else (if (6 : Int32) ≤ (mI σ (bl0 + 6) l1.toNatClampNeg) then (
     fX3_gatherAnswers_b42 n bl0 (l1 + 1) σ)
    else (ogd (oin (mI σ (bl0 + 6) l1.toNatClampNeg) 6) (
    ogd (oin l1 20) (
    ogd (oin l1 20) (
    obi (fX2_worldsWith bl0 (mI σ (bl0 + 7) l1.toNatClampNeg) (mI σ (bl0 + 8) l1.toNatClampNeg) σ) (fun r5 σ6 =>
    ogd (oin (mI σ (bl0 + 6) l1.toNatClampNeg) 6) (
    ogd (oin (mI σ (bl0 + 6) l1.toNatClampNeg) 6) (
    ogd (oin l1 20) (
    ogd (oin l1 20) (
    if (mI (sL σ6 (bl0 + 11) ((mI σ (bl0 + 6) l1.toNatClampNeg).toNatClampNeg) ((mL σ (bl0 + 11) ((mI σ (bl0 + 6) l1.toNatClampNeg).toNatClampNeg)) &&& r5)) (bl0 + 8) l1.toNatClampNeg) = 0 then (
     obi (fX2_worldsWith bl0 (mI (sL σ6 (bl0 + 11) ((mI σ (bl0 + 6) l1.toNatClampNeg).toNatClampNeg) ((mL σ (bl0 + 11) ((mI σ (bl0 + 6) l1.toNatClampNeg).toNatClampNeg)) &&& r5)) (bl0 + 7) l1.toNatClampNeg) (1 : Int32) (sL σ6 (bl0 + 11) ((mI σ (bl0 + 6) l1.toNatClampNeg).toNatClampNeg) ((mL σ (bl0 + 11) ((mI σ (bl0 + 6) l1.toNatClampNeg).toNatClampNeg)) &&& r5))) (fun r16 σ17 =>
     ogd (oin (mI σ (bl0 + 6) l1.toNatClampNeg) 6) (
     fX3_gatherAnswers_b42 n bl0 (l1 + 1) (sL σ17 (bl0 + 12) ((mI σ (bl0 + 6) l1.toNatClampNeg).toNatClampNeg) ((mL (sL σ6 (bl0 + 11) ((mI σ (bl0 + 6) l1.toNatClampNeg).toNatClampNeg) ((mL σ (bl0 + 11) ((mI σ (bl0 + 6) l1.toNatClampNeg).toNatClampNeg)) &&& r5)) (bl0 + 12) ((mI σ (bl0 + 6) l1.toNatClampNeg).toNatClampNeg)) &&& r16)))))
    else (obi (fX2_worldsWith bl0 (mI (sL σ6 (bl0 + 11) ((mI σ (bl0 + 6) l1.toNatClampNeg).toNatClampNeg) ((mL σ (bl0 + 11) ((mI σ (bl0 + 6) l1.toNatClampNeg).toNatClampNeg)) &&& r5)) (bl0 + 7) l1.toNatClampNeg) (0 : Int32) (sL σ6 (bl0 + 11) ((mI σ (bl0 + 6) l1.toNatClampNeg).toNatClampNeg) ((mL σ (bl0 + 11) ((mI σ (bl0 + 6) l1.toNatClampNeg).toNatClampNeg)) &&& r5))) (fun r12 σ13 =>
    ogd (oin (mI σ (bl0 + 6) l1.toNatClampNeg) 6) (
    fX3_gatherAnswers_b42 n bl0 (l1 + 1) (sL σ13 (bl0 + 12) ((mI σ (bl0 + 6) l1.toNatClampNeg).toNatClampNeg) ((mL (sL σ6 (bl0 + 11) ((mI σ (bl0 + 6) l1.toNatClampNeg).toNatClampNeg) ((mL σ (bl0 + 11) ((mI σ (bl0 + 6) l1.toNatClampNeg).toNatClampNeg)) &&& r5)) (bl0 + 12) ((mI σ (bl0 + 6) l1.toNatClampNeg).toNatClampNeg)) &&& r12))))))))))))))))))
set_option maxRecDepth 100000 in
set_option maxHeartbeats 4000000 in
theorem rX3_gatherAnswers_b42 {K : OK} (hc : kcc K = cX3_gatherAnswers) (ho : kow K = RX3) (hL : knL K = 3) (hN : 2 ≤ kN K) (hr : (kme K).sig.returnType = none) {σ0 : OM} (hE : oEnd K (none) σ0) (hz : kz K = 0) : ∀ (n : Nat) (bl0 : Nat) (l1 : Int32) (σ : OM), okd bl0 = 8 → fX3_gatherAnswers_b42 n bl0 l1 σ = some σ0 → Go K 42 [.ref (bl0 + 10), .int l1, .null] [] σ := by
  intro n
  induction n with
  | zero =>
    intro bl0 l1 σ hbl0 h
    cases h
  | succ n ih =>
    intro bl0 l1 σ hbl0 h
    rw [fX3_gatherAnswers_b42] at h
    refine go_iload_n hc dX3_gatherAnswers_42 rfl rfl ?_
    refine go_aload_n hc dX3_gatherAnswers_43 rfl rfl ?_
    refine go_getC (b := bl0 + 5) (ow_c10_1 hbl0) hc ho flX3_22 dX3_gatherAnswers_44 (ow_k10 hbl0) ?_
    refine go_getI hc ho flX3_58 dX3_gatherAnswers_47 (ow_k5 hbl0) ?_
    refine go_icmp_ge (tgt := 161) hc dX3_gatherAnswers_50 rfl (fun hh => ?_) (fun hh => ?_)
    · rw [if_pos hh] at h
      exact go_vret hc (oend_v h hE) hr dX3_gatherAnswers_161
    · rw [if_neg hh] at h
      refine go_iload_n hc dX3_gatherAnswers_53 rfl rfl ?_
      refine go_bipush hc dX3_gatherAnswers_54 cb_20 ?_
      refine go_icmp_ge (tgt := 161) hc dX3_gatherAnswers_56 rfl (fun hh => ?_) (fun hh => ?_)
      · rw [if_pos hh] at h
        exact go_vret hc (oend_v h hE) hr dX3_gatherAnswers_161
      · rw [if_neg hh] at h
        refine go_aload_n hc dX3_gatherAnswers_59 rfl rfl ?_
        refine go_getC (b := bl0 + 5) (ow_c10_1 hbl0) hc ho flX3_22 dX3_gatherAnswers_60 (ow_k10 hbl0) ?_
        refine go_getC (b := bl0 + 6) (ow_c5_1 hbl0) hc ho flX3_63 dX3_gatherAnswers_63 (ow_k5 hbl0) ?_
        refine go_iload_n hc dX3_gatherAnswers_66 rfl rfl ?_
        obtain ⟨hg1, h⟩ := ogd_some h
        refine go_iald hc dX3_gatherAnswers_67 (ow_k6 hbl0) (ow_l6 hbl0) hg1 rfl ?_
        refine go_istore_n hc (lv1 := [.ref (bl0 + 10), .int l1, .int (mI σ (bl0 + 6) l1.toNatClampNeg)]) dX3_gatherAnswers_68 rfl hL (by decide) (fun _ _ e => by cases e; rfl) rfl ?_
        refine go_iload_n hc dX3_gatherAnswers_69 rfl rfl ?_
        refine go_if_lt (tgt := 155) hc dX3_gatherAnswers_70 rfl (fun hh => ?_) (fun hh => ?_)
        · rw [if_pos hh] at h
          refine go_iinc hc (lv1 := [.ref (bl0 + 10), .int (l1 + 1), .int (mI σ (bl0 + 6) l1.toNatClampNeg)]) dX3_gatherAnswers_155 rfl ci_1 hL (by decide) (fun _ _ e => by cases e; rfl) rfl ?_
          refine go_goto (tgt := 42) hc dX3_gatherAnswers_158 rfl ?_
          refine go_mask [true, true, false] (lv1 := [.ref (bl0 + 10), .int (l1 + 1), .null]) rfl ?_
          exact ih bl0 (l1 + 1) _ hbl0 h
        · rw [if_neg hh] at h
          refine go_iload_n hc dX3_gatherAnswers_73 rfl rfl ?_
          refine go_bipush hc dX3_gatherAnswers_74 cb_6 ?_
          refine go_icmp_ge (tgt := 155) hc dX3_gatherAnswers_76 rfl (fun hh => ?_) (fun hh => ?_)
          · rw [if_pos hh] at h
            refine go_iinc hc (lv1 := [.ref (bl0 + 10), .int (l1 + 1), .int (mI σ (bl0 + 6) l1.toNatClampNeg)]) dX3_gatherAnswers_155 rfl ci_1 hL (by decide) (fun _ _ e => by cases e; rfl) rfl ?_
            refine go_goto (tgt := 42) hc dX3_gatherAnswers_158 rfl ?_
            refine go_mask [true, true, false] (lv1 := [.ref (bl0 + 10), .int (l1 + 1), .null]) rfl ?_
            exact ih bl0 (l1 + 1) _ hbl0 h
          · rw [if_neg hh] at h
            refine go_aload_n hc dX3_gatherAnswers_79 rfl rfl ?_
            refine go_getC (b := bl0 + 11) (ow_c10_2 hbl0) hc ho flX3_9 dX3_gatherAnswers_80 (ow_k10 hbl0) ?_
            refine go_iload_n hc dX3_gatherAnswers_83 rfl rfl ?_
            refine go_dup2_11 hc dX3_gatherAnswers_84 rfl rfl ?_
            obtain ⟨hg2, h⟩ := ogd_some h
            refine go_lald hc dX3_gatherAnswers_85 (ow_k11 hbl0) (ow_l11 hbl0) hg2 rfl ?_
            refine go_aload_n hc dX3_gatherAnswers_86 rfl rfl ?_
            refine go_getC (b := bl0 + 1) (ow_c10_0 hbl0) hc ho flX3_18 dX3_gatherAnswers_87 (ow_k10 hbl0) ?_
            refine go_aload_n hc dX3_gatherAnswers_90 rfl rfl ?_
            refine go_getC (b := bl0 + 5) (ow_c10_1 hbl0) hc ho flX3_22 dX3_gatherAnswers_91 (ow_k10 hbl0) ?_
            refine go_getC (b := bl0 + 7) (ow_c5_2 hbl0) hc ho flX3_67 dX3_gatherAnswers_94 (ow_k5 hbl0) ?_
            refine go_iload_n hc dX3_gatherAnswers_97 rfl rfl ?_
            obtain ⟨hg3, h⟩ := ogd_some h
            refine go_iald hc dX3_gatherAnswers_98 (ow_k7 hbl0) (ow_l7 hbl0) hg3 rfl ?_
            refine go_aload_n hc dX3_gatherAnswers_99 rfl rfl ?_
            refine go_getC (b := bl0 + 5) (ow_c10_1 hbl0) hc ho flX3_22 dX3_gatherAnswers_100 (ow_k10 hbl0) ?_
            refine go_getC (b := bl0 + 8) (ow_c5_3 hbl0) hc ho flX3_70 dX3_gatherAnswers_103 (ow_k5 hbl0) ?_
            refine go_iload_n hc dX3_gatherAnswers_106 rfl rfl ?_
            obtain ⟨hg4, h⟩ := ogd_some h
            refine go_zald hc dX3_gatherAnswers_107 (ow_k8 hbl0) (ow_l8 hbl0) hg4 rfl ?_
            obtain ⟨r5, σ6, hf7, h⟩ := obi_some h
            refine go_callVl hc ho cmX2_worldsWith mlX3_74 dX3_gatherAnswers_108 (ow_k1 hbl0) (As := [.int (mI σ (bl0 + 7) l1.toNatClampNeg), .int (mI σ (bl0 + 8) l1.toNatClampNeg)]) (rest := [.long (mL σ (bl0 + 11) ((mI σ (bl0 + 6) l1.toNatClampNeg).toNatClampNeg)), .int (mI σ (bl0 + 6) l1.toNatClampNeg), .ref (bl0 + 11)]) (rX2_worldsWith (N := 1) hbl0 hf7 (Nat.le_refl _)) rfl (Nat.le_trans (Nat.le_of_ble_eq_true rfl) hN) rfl (Nat.le_of_ble_eq_true rfl) (Or.inl hz) ?_
            refine go_land hc dX3_gatherAnswers_111 ?_
            obtain ⟨hg8, h⟩ := ogd_some h
            refine go_last hc dX3_gatherAnswers_112 (ow_k11 hbl0) (ow_l11 hbl0) hg8 rfl ?_
            refine go_aload_n hc dX3_gatherAnswers_113 rfl rfl ?_
            refine go_getC (b := bl0 + 12) (ow_c10_3 hbl0) hc ho flX3_15 dX3_gatherAnswers_114 (ow_k10 hbl0) ?_
            refine go_iload_n hc dX3_gatherAnswers_117 rfl rfl ?_
            refine go_dup2_11 hc dX3_gatherAnswers_118 rfl rfl ?_
            obtain ⟨hg9, h⟩ := ogd_some h
            refine go_lald hc dX3_gatherAnswers_119 (ow_k12 hbl0) (ow_l12 hbl0) hg9 rfl ?_
            refine go_aload_n hc dX3_gatherAnswers_120 rfl rfl ?_
            refine go_getC (b := bl0 + 1) (ow_c10_0 hbl0) hc ho flX3_18 dX3_gatherAnswers_121 (ow_k10 hbl0) ?_
            refine go_aload_n hc dX3_gatherAnswers_124 rfl rfl ?_
            refine go_getC (b := bl0 + 5) (ow_c10_1 hbl0) hc ho flX3_22 dX3_gatherAnswers_125 (ow_k10 hbl0) ?_
            refine go_getC (b := bl0 + 7) (ow_c5_2 hbl0) hc ho flX3_67 dX3_gatherAnswers_128 (ow_k5 hbl0) ?_
            refine go_iload_n hc dX3_gatherAnswers_131 rfl rfl ?_
            obtain ⟨hg10, h⟩ := ogd_some h
            refine go_iald hc dX3_gatherAnswers_132 (ow_k7 hbl0) (ow_l7 hbl0) hg10 rfl ?_
            refine go_aload_n hc dX3_gatherAnswers_133 rfl rfl ?_
            refine go_getC (b := bl0 + 5) (ow_c10_1 hbl0) hc ho flX3_22 dX3_gatherAnswers_134 (ow_k10 hbl0) ?_
            refine go_getC (b := bl0 + 8) (ow_c5_3 hbl0) hc ho flX3_70 dX3_gatherAnswers_137 (ow_k5 hbl0) ?_
            refine go_iload_n hc dX3_gatherAnswers_140 rfl rfl ?_
            obtain ⟨hg11, h⟩ := ogd_some h
            refine go_zald hc dX3_gatherAnswers_141 (ow_k8 hbl0) (ow_l8 hbl0) hg11 rfl ?_
            refine go_if_ne (tgt := 149) hc dX3_gatherAnswers_142 rfl (fun hh => ?_) (fun hh => ?_)
            · rw [if_neg hh] at h
              refine go_iconst hc dX3_gatherAnswers_149 ci_0 ?_
              obtain ⟨r12, σ13, hf14, h⟩ := obi_some h
              refine go_callVl hc ho cmX2_worldsWith mlX3_74 dX3_gatherAnswers_150 (ow_k1 hbl0) (As := [.int (mI (sL σ6 (bl0 + 11) ((mI σ (bl0 + 6) l1.toNatClampNeg).toNatClampNeg) ((mL σ (bl0 + 11) ((mI σ (bl0 + 6) l1.toNatClampNeg).toNatClampNeg)) &&& r5)) (bl0 + 7) l1.toNatClampNeg), .int (0 : Int32)]) (rest := [.long (mL (sL σ6 (bl0 + 11) ((mI σ (bl0 + 6) l1.toNatClampNeg).toNatClampNeg) ((mL σ (bl0 + 11) ((mI σ (bl0 + 6) l1.toNatClampNeg).toNatClampNeg)) &&& r5)) (bl0 + 12) ((mI σ (bl0 + 6) l1.toNatClampNeg).toNatClampNeg)), .int (mI σ (bl0 + 6) l1.toNatClampNeg), .ref (bl0 + 12)]) (rX2_worldsWith (N := 1) hbl0 hf14 (Nat.le_refl _)) rfl (Nat.le_trans (Nat.le_of_ble_eq_true rfl) hN) rfl (Nat.le_of_ble_eq_true rfl) (Or.inl hz) ?_
              refine go_land hc dX3_gatherAnswers_153 ?_
              obtain ⟨hg15, h⟩ := ogd_some h
              refine go_last hc dX3_gatherAnswers_154 (ow_k12 hbl0) (ow_l12 hbl0) hg15 rfl ?_
              refine go_iinc hc (lv1 := [.ref (bl0 + 10), .int (l1 + 1), .int (mI σ (bl0 + 6) l1.toNatClampNeg)]) dX3_gatherAnswers_155 rfl ci_1 hL (by decide) (fun _ _ e => by cases e; rfl) rfl ?_
              refine go_goto (tgt := 42) hc dX3_gatherAnswers_158 rfl ?_
              refine go_mask [true, true, false] (lv1 := [.ref (bl0 + 10), .int (l1 + 1), .null]) rfl ?_
              exact ih bl0 (l1 + 1) _ hbl0 h
            · rw [if_pos hh] at h
              refine go_iconst hc dX3_gatherAnswers_145 ci_1 ?_
              refine go_goto (tgt := 150) hc dX3_gatherAnswers_146 rfl ?_
              obtain ⟨r16, σ17, hf18, h⟩ := obi_some h
              refine go_callVl hc ho cmX2_worldsWith mlX3_74 dX3_gatherAnswers_150 (ow_k1 hbl0) (As := [.int (mI (sL σ6 (bl0 + 11) ((mI σ (bl0 + 6) l1.toNatClampNeg).toNatClampNeg) ((mL σ (bl0 + 11) ((mI σ (bl0 + 6) l1.toNatClampNeg).toNatClampNeg)) &&& r5)) (bl0 + 7) l1.toNatClampNeg), .int (1 : Int32)]) (rest := [.long (mL (sL σ6 (bl0 + 11) ((mI σ (bl0 + 6) l1.toNatClampNeg).toNatClampNeg) ((mL σ (bl0 + 11) ((mI σ (bl0 + 6) l1.toNatClampNeg).toNatClampNeg)) &&& r5)) (bl0 + 12) ((mI σ (bl0 + 6) l1.toNatClampNeg).toNatClampNeg)), .int (mI σ (bl0 + 6) l1.toNatClampNeg), .ref (bl0 + 12)]) (rX2_worldsWith (N := 1) hbl0 hf18 (Nat.le_refl _)) rfl (Nat.le_trans (Nat.le_of_ble_eq_true rfl) hN) rfl (Nat.le_of_ble_eq_true rfl) (Or.inl hz) ?_
              refine go_land hc dX3_gatherAnswers_153 ?_
              obtain ⟨hg19, h⟩ := ogd_some h
              refine go_last hc dX3_gatherAnswers_154 (ow_k12 hbl0) (ow_l12 hbl0) hg19 rfl ?_
              refine go_iinc hc (lv1 := [.ref (bl0 + 10), .int (l1 + 1), .int (mI σ (bl0 + 6) l1.toNatClampNeg)]) dX3_gatherAnswers_155 rfl ci_1 hL (by decide) (fun _ _ e => by cases e; rfl) rfl ?_
              refine go_goto (tgt := 42) hc dX3_gatherAnswers_158 rfl ?_
              refine go_mask [true, true, false] (lv1 := [.ref (bl0 + 10), .int (l1 + 1), .null]) rfl ?_
              exact ih bl0 (l1 + 1) _ hbl0 h
def fX3_gatherAnswers_b2 : Nat → Nat → Int32 → OM → Option OM
  | 0, _, _, _ => none
  | n + 1, bl0, l1, σ =>
    if (6 : Int32) ≤ l1 then (
     fX3_gatherAnswers_b42 oF bl0 (0 : Int32) σ)
    else (ogd (oin l1 6) (
    ogd (oin l1 6) (
    fX3_gatherAnswers_b2 n bl0 (l1 + 1) (sL (sL σ (bl0 + 11) l1.toNatClampNeg (mL σ (bl0 + 1) 3)) (bl0 + 12) l1.toNatClampNeg (mL (sL σ (bl0 + 11) l1.toNatClampNeg (mL σ (bl0 + 1) 3)) (bl0 + 1) 3)))))
set_option maxRecDepth 100000 in
set_option maxHeartbeats 4000000 in
theorem rX3_gatherAnswers_b2 {K : OK} (hc : kcc K = cX3_gatherAnswers) (ho : kow K = RX3) (hL : knL K = 3) (hN : 2 ≤ kN K) (hr : (kme K).sig.returnType = none) {σ0 : OM} (hE : oEnd K (none) σ0) (hz : kz K = 0) : ∀ (n : Nat) (bl0 : Nat) (l1 : Int32) (σ : OM), okd bl0 = 8 → fX3_gatherAnswers_b2 n bl0 l1 σ = some σ0 → Go K 2 [.ref (bl0 + 10), .int l1, .null] [] σ := by
  intro n
  induction n with
  | zero =>
    intro bl0 l1 σ hbl0 h
    cases h
  | succ n ih =>
    intro bl0 l1 σ hbl0 h
    rw [fX3_gatherAnswers_b2] at h
    refine go_iload_n hc dX3_gatherAnswers_2 rfl rfl ?_
    refine go_bipush hc dX3_gatherAnswers_3 cb_6 ?_
    refine go_icmp_ge (tgt := 40) hc dX3_gatherAnswers_5 rfl (fun hh => ?_) (fun hh => ?_)
    · rw [if_pos hh] at h
      refine go_iconst hc dX3_gatherAnswers_40 ci_0 ?_
      refine go_istore_n hc (lv1 := [.ref (bl0 + 10), .int (0 : Int32), .null]) dX3_gatherAnswers_41 rfl hL (by decide) (fun _ _ e => by cases e; rfl) rfl ?_
      exact rX3_gatherAnswers_b42 hc ho hL hN hr hE hz oF bl0 (0 : Int32) _ hbl0 h
    · rw [if_neg hh] at h
      refine go_aload_n hc dX3_gatherAnswers_8 rfl rfl ?_
      refine go_getC (b := bl0 + 11) (ow_c10_2 hbl0) hc ho flX3_9 dX3_gatherAnswers_9 (ow_k10 hbl0) ?_
      refine go_iload_n hc dX3_gatherAnswers_12 rfl rfl ?_
      refine go_aload_n hc dX3_gatherAnswers_13 rfl rfl ?_
      refine go_getC (b := bl0 + 1) (ow_c10_0 hbl0) hc ho flX3_18 dX3_gatherAnswers_14 (ow_k10 hbl0) ?_
      refine go_getL hc ho flX3_52 dX3_gatherAnswers_17 (ow_k1 hbl0) ?_
      obtain ⟨hg1, h⟩ := ogd_some h
      refine go_last hc dX3_gatherAnswers_20 (ow_k11 hbl0) (ow_l11 hbl0) hg1 rfl ?_
      refine go_aload_n hc dX3_gatherAnswers_21 rfl rfl ?_
      refine go_getC (b := bl0 + 12) (ow_c10_3 hbl0) hc ho flX3_15 dX3_gatherAnswers_22 (ow_k10 hbl0) ?_
      refine go_iload_n hc dX3_gatherAnswers_25 rfl rfl ?_
      refine go_aload_n hc dX3_gatherAnswers_26 rfl rfl ?_
      refine go_getC (b := bl0 + 1) (ow_c10_0 hbl0) hc ho flX3_18 dX3_gatherAnswers_27 (ow_k10 hbl0) ?_
      refine go_getL hc ho flX3_52 dX3_gatherAnswers_30 (ow_k1 hbl0) ?_
      obtain ⟨hg2, h⟩ := ogd_some h
      refine go_last hc dX3_gatherAnswers_33 (ow_k12 hbl0) (ow_l12 hbl0) hg2 rfl ?_
      refine go_iinc hc (lv1 := [.ref (bl0 + 10), .int (l1 + 1), .null]) dX3_gatherAnswers_34 rfl ci_1 hL (by decide) (fun _ _ e => by cases e; rfl) rfl ?_
      refine go_goto (tgt := 2) hc dX3_gatherAnswers_37 rfl ?_
      exact ih bl0 (l1 + 1) _ hbl0 h
def fX3_gatherAnswers (w : Nat) (σ : OM) : Option OM :=
  fX3_gatherAnswers_b2 oF w (0 : Int32) σ
set_option maxRecDepth 100000 in
set_option maxHeartbeats 4000000 in
theorem rX3_gatherAnswers {N : Nat} {w : Nat} {σ : OM} {σ0 : OM} (hw : okd w = 8) (h : fX3_gatherAnswers w σ = some σ0) (hN0 : 2 ≤ N) : oEv N MX3_gatherAnswers [.ref (w + 10)] σ (none) σ0 := by
  refine oEv_of (lv := [.ref (w + 10), .null, .null]) (by decide +kernel) (fun g q hq => hq) (fun g => Nat.le_of_ble_eq_true rfl) ?_
  intro K hc ho hL hN1 hr hE hz
  have hN : 2 ≤ kN K := by rw [hN1]; exact hN0
  unfold fX3_gatherAnswers at h
  refine go_iconst hc dX3_gatherAnswers_0 ci_0 ?_
  refine go_istore_n hc (lv1 := [.ref (w + 10), .int (0 : Int32), .null]) dX3_gatherAnswers_1 rfl hL (by decide) (fun _ _ e => by cases e; rfl) rfl ?_
  exact rX3_gatherAnswers_b2 hc ho hL hN hr hE hz oF w (0 : Int32) _ hw h
def fX3_worldsIfLying_b11 : Nat → Nat → Int32 → Int32 → Int64 → Int32 → OM → Option (Int64 × OM)
  | 0, _, _, _, _, _, _ => none
  | n + 1, bl0, l1, l2, l3, l5, σ =>
    if l2 ≤ l5 then (
     some (l3, σ))
    else (if (6 : Int32) ≤ l5 then (
     some (l3, σ))
    else (obi (fX9_bitOf l1.toInt64 l5 σ) (fun r1 σ2 =>
    if r1 = (1 : Int32) then (
     ogd (oin l5 6) (
     fX3_worldsIfLying_b11 n bl0 l1 l2 (l3 &&& (mL σ2 (bl0 + 12) l5.toNatClampNeg)) (l5 + 1) σ2))
    else (ogd (oin l5 6) (
    fX3_worldsIfLying_b11 n bl0 l1 l2 (l3 &&& (mL σ2 (bl0 + 11) l5.toNatClampNeg)) (l5 + 1) σ2)))))
set_option maxRecDepth 100000 in
set_option maxHeartbeats 4000000 in
theorem rX3_worldsIfLying_b11 {K : OK} (hc : kcc K = cX3_worldsIfLying) (ho : kow K = RX3) (hL : knL K = 6) (hN : 1 ≤ kN K) (hr : (kme K).sig.returnType = (some .long)) {r0 : Int64} {σ0 : OM} (hE : oEnd K (some (.long r0)) σ0) (hz : kz K = 0) : ∀ (n : Nat) (bl0 : Nat) (l1 : Int32) (l2 : Int32) (l3 : Int64) (l5 : Int32) (σ : OM), okd bl0 = 8 → fX3_worldsIfLying_b11 n bl0 l1 l2 l3 l5 σ = some (r0, σ0) → Go K 11 [.ref (bl0 + 10), .int l1, .int l2, .long l3, .null, .int l5] [] σ := by
  intro n
  induction n with
  | zero =>
    intro bl0 l1 l2 l3 l5 σ hbl0 h
    cases h
  | succ n ih =>
    intro bl0 l1 l2 l3 l5 σ hbl0 h
    rw [fX3_worldsIfLying_b11] at h
    refine go_iload hc dX3_worldsIfLying_11 rfl ?_
    refine go_iload_n hc dX3_worldsIfLying_13 rfl rfl ?_
    refine go_icmp_ge (tgt := 61) hc dX3_worldsIfLying_14 rfl (fun hh => ?_) (fun hh => ?_)
    · rw [if_pos hh] at h
      refine go_lload_n hc dX3_worldsIfLying_61 rfl rfl ?_
      exact go_lret hc (oend_l h hE) hr dX3_worldsIfLying_62
    · rw [if_neg hh] at h
      refine go_iload hc dX3_worldsIfLying_17 rfl ?_
      refine go_bipush hc dX3_worldsIfLying_19 cb_6 ?_
      refine go_icmp_ge (tgt := 61) hc dX3_worldsIfLying_21 rfl (fun hh => ?_) (fun hh => ?_)
      · rw [if_pos hh] at h
        refine go_lload_n hc dX3_worldsIfLying_61 rfl rfl ?_
        exact go_lret hc (oend_l h hE) hr dX3_worldsIfLying_62
      · rw [if_neg hh] at h
        refine go_lload_n hc dX3_worldsIfLying_24 rfl rfl ?_
        refine go_iload_n hc dX3_worldsIfLying_25 rfl rfl ?_
        refine go_i2l hc dX3_worldsIfLying_26 ?_
        refine go_iload hc dX3_worldsIfLying_27 rfl ?_
        obtain ⟨r1, σ2, hf3, h⟩ := obi_some h
        refine go_callSNi hc ho cmX9_bitOf mnX3_78 dX3_worldsIfLying_29 (As := [.long l1.toInt64, .int l5]) (rest := [.long l3]) (rX9_bitOf (N := 0) hf3 (Nat.le_refl _)) rfl (Nat.le_trans (Nat.le_of_ble_eq_true rfl) hN) rfl (Nat.le_of_ble_eq_true rfl) (Or.inl hz) ?_
        refine go_iconst hc dX3_worldsIfLying_32 ci_1 ?_
        refine go_icmp_ne (tgt := 46) hc dX3_worldsIfLying_33 rfl (fun hh => ?_) (fun hh => ?_)
        · rw [if_neg hh] at h
          refine go_aload_n hc dX3_worldsIfLying_46 rfl rfl ?_
          refine go_getC (b := bl0 + 11) (ow_c10_2 hbl0) hc ho flX3_9 dX3_worldsIfLying_47 (ow_k10 hbl0) ?_
          refine go_iload hc dX3_worldsIfLying_50 rfl ?_
          obtain ⟨hg4, h⟩ := ogd_some h
          refine go_lald hc dX3_worldsIfLying_52 (ow_k11 hbl0) (ow_l11 hbl0) hg4 rfl ?_
          refine go_land hc dX3_worldsIfLying_53 ?_
          refine go_lstore_n hc (lv1 := [.ref (bl0 + 10), .int l1, .int l2, .long (l3 &&& (mL σ2 (bl0 + 11) l5.toNatClampNeg)), .null, .int l5]) dX3_worldsIfLying_54 rfl hL (by decide) (fun _ _ e => by cases e; rfl) rfl ?_
          refine go_iinc hc (lv1 := [.ref (bl0 + 10), .int l1, .int l2, .long (l3 &&& (mL σ2 (bl0 + 11) l5.toNatClampNeg)), .null, .int (l5 + 1)]) dX3_worldsIfLying_55 rfl ci_1 hL (by decide) (fun _ _ e => by cases e; rfl) rfl ?_
          refine go_goto (tgt := 11) hc dX3_worldsIfLying_58 rfl ?_
          exact ih bl0 l1 l2 (l3 &&& (mL σ2 (bl0 + 11) l5.toNatClampNeg)) (l5 + 1) _ hbl0 h
        · rw [if_pos hh] at h
          refine go_aload_n hc dX3_worldsIfLying_36 rfl rfl ?_
          refine go_getC (b := bl0 + 12) (ow_c10_3 hbl0) hc ho flX3_15 dX3_worldsIfLying_37 (ow_k10 hbl0) ?_
          refine go_iload hc dX3_worldsIfLying_40 rfl ?_
          obtain ⟨hg5, h⟩ := ogd_some h
          refine go_lald hc dX3_worldsIfLying_42 (ow_k12 hbl0) (ow_l12 hbl0) hg5 rfl ?_
          refine go_goto (tgt := 53) hc dX3_worldsIfLying_43 rfl ?_
          refine go_land hc dX3_worldsIfLying_53 ?_
          refine go_lstore_n hc (lv1 := [.ref (bl0 + 10), .int l1, .int l2, .long (l3 &&& (mL σ2 (bl0 + 12) l5.toNatClampNeg)), .null, .int l5]) dX3_worldsIfLying_54 rfl hL (by decide) (fun _ _ e => by cases e; rfl) rfl ?_
          refine go_iinc hc (lv1 := [.ref (bl0 + 10), .int l1, .int l2, .long (l3 &&& (mL σ2 (bl0 + 12) l5.toNatClampNeg)), .null, .int (l5 + 1)]) dX3_worldsIfLying_55 rfl ci_1 hL (by decide) (fun _ _ e => by cases e; rfl) rfl ?_
          refine go_goto (tgt := 11) hc dX3_worldsIfLying_58 rfl ?_
          exact ih bl0 l1 l2 (l3 &&& (mL σ2 (bl0 + 12) l5.toNatClampNeg)) (l5 + 1) _ hbl0 h
def fX3_worldsIfLying (w : Nat) (x0 : Int32) (x1 : Int32) (σ : OM) : Option (Int64 × OM) :=
  fX3_worldsIfLying_b11 oF w x0 x1 (mL σ (w + 1) 3) (0 : Int32) σ
set_option maxRecDepth 100000 in
set_option maxHeartbeats 4000000 in
theorem rX3_worldsIfLying {N : Nat} {w : Nat} {x0 : Int32} {x1 : Int32} {σ : OM} {r0 : Int64} {σ0 : OM} (hw : okd w = 8) (h : fX3_worldsIfLying w x0 x1 σ = some (r0, σ0)) (hN0 : 1 ≤ N) : oEv N MX3_worldsIfLying [.ref (w + 10), .int x0, .int x1] σ (some (.long r0)) σ0 := by
  refine oEv_of (lv := [.ref (w + 10), .int x0, .int x1, .null, .null, .null]) (by decide +kernel) (fun g q hq => hq) (fun g => Nat.le_of_ble_eq_true rfl) ?_
  intro K hc ho hL hN1 hr hE hz
  have hN : 1 ≤ kN K := by rw [hN1]; exact hN0
  unfold fX3_worldsIfLying at h
  refine go_aload_n hc dX3_worldsIfLying_0 rfl rfl ?_
  refine go_getC (b := w + 1) (ow_c10_0 hw) hc ho flX3_18 dX3_worldsIfLying_1 (ow_k10 hw) ?_
  refine go_getL hc ho flX3_52 dX3_worldsIfLying_4 (ow_k1 hw) ?_
  refine go_lstore_n hc (lv1 := [.ref (w + 10), .int x0, .int x1, .long (mL σ (w + 1) 3), .null, .null]) dX3_worldsIfLying_7 rfl hL (by decide) (fun _ _ e => by cases e; rfl) rfl ?_
  refine go_iconst hc dX3_worldsIfLying_8 ci_0 ?_
  refine go_istore hc (lv1 := [.ref (w + 10), .int x0, .int x1, .long (mL σ (w + 1) 3), .null, .int (0 : Int32)]) dX3_worldsIfLying_9 hL (by decide) (fun _ _ e => by cases e; rfl) rfl ?_
  exact rX3_worldsIfLying_b11 hc ho hL hN hr hE hz oF w x0 x1 (mL σ (w + 1) 3) (0 : Int32) _ hw h
def fJ6_bitCount_0f7a4 (x0 : Int32) (σ : OM) : Option (Int32 × OM) :=
  some (((((((((x0 - (((x0).toUInt32 >>> ((1 : Int32).toUInt32 &&& Int32.toUInt32 31)).toInt32 &&& (1431655765 : Int32))) &&& (858993459 : Int32)) + ((((x0 - (((x0).toUInt32 >>> ((1 : Int32).toUInt32 &&& Int32.toUInt32 31)).toInt32 &&& (1431655765 : Int32)))).toUInt32 >>> ((2 : Int32).toUInt32 &&& Int32.toUInt32 31)).toInt32 &&& (858993459 : Int32))) + (((((x0 - (((x0).toUInt32 >>> ((1 : Int32).toUInt32 &&& Int32.toUInt32 31)).toInt32 &&& (1431655765 : Int32))) &&& (858993459 : Int32)) + ((((x0 - (((x0).toUInt32 >>> ((1 : Int32).toUInt32 &&& Int32.toUInt32 31)).toInt32 &&& (1431655765 : Int32)))).toUInt32 >>> ((2 : Int32).toUInt32 &&& Int32.toUInt32 31)).toInt32 &&& (858993459 : Int32)))).toUInt32 >>> ((4 : Int32).toUInt32 &&& Int32.toUInt32 31)).toInt32) &&& (252645135 : Int32)) + (((((((x0 - (((x0).toUInt32 >>> ((1 : Int32).toUInt32 &&& Int32.toUInt32 31)).toInt32 &&& (1431655765 : Int32))) &&& (858993459 : Int32)) + ((((x0 - (((x0).toUInt32 >>> ((1 : Int32).toUInt32 &&& Int32.toUInt32 31)).toInt32 &&& (1431655765 : Int32)))).toUInt32 >>> ((2 : Int32).toUInt32 &&& Int32.toUInt32 31)).toInt32 &&& (858993459 : Int32))) + (((((x0 - (((x0).toUInt32 >>> ((1 : Int32).toUInt32 &&& Int32.toUInt32 31)).toInt32 &&& (1431655765 : Int32))) &&& (858993459 : Int32)) + ((((x0 - (((x0).toUInt32 >>> ((1 : Int32).toUInt32 &&& Int32.toUInt32 31)).toInt32 &&& (1431655765 : Int32)))).toUInt32 >>> ((2 : Int32).toUInt32 &&& Int32.toUInt32 31)).toInt32 &&& (858993459 : Int32)))).toUInt32 >>> ((4 : Int32).toUInt32 &&& Int32.toUInt32 31)).toInt32) &&& (252645135 : Int32))).toUInt32 >>> ((8 : Int32).toUInt32 &&& Int32.toUInt32 31)).toInt32) + ((((((((x0 - (((x0).toUInt32 >>> ((1 : Int32).toUInt32 &&& Int32.toUInt32 31)).toInt32 &&& (1431655765 : Int32))) &&& (858993459 : Int32)) + ((((x0 - (((x0).toUInt32 >>> ((1 : Int32).toUInt32 &&& Int32.toUInt32 31)).toInt32 &&& (1431655765 : Int32)))).toUInt32 >>> ((2 : Int32).toUInt32 &&& Int32.toUInt32 31)).toInt32 &&& (858993459 : Int32))) + (((((x0 - (((x0).toUInt32 >>> ((1 : Int32).toUInt32 &&& Int32.toUInt32 31)).toInt32 &&& (1431655765 : Int32))) &&& (858993459 : Int32)) + ((((x0 - (((x0).toUInt32 >>> ((1 : Int32).toUInt32 &&& Int32.toUInt32 31)).toInt32 &&& (1431655765 : Int32)))).toUInt32 >>> ((2 : Int32).toUInt32 &&& Int32.toUInt32 31)).toInt32 &&& (858993459 : Int32)))).toUInt32 >>> ((4 : Int32).toUInt32 &&& Int32.toUInt32 31)).toInt32) &&& (252645135 : Int32)) + (((((((x0 - (((x0).toUInt32 >>> ((1 : Int32).toUInt32 &&& Int32.toUInt32 31)).toInt32 &&& (1431655765 : Int32))) &&& (858993459 : Int32)) + ((((x0 - (((x0).toUInt32 >>> ((1 : Int32).toUInt32 &&& Int32.toUInt32 31)).toInt32 &&& (1431655765 : Int32)))).toUInt32 >>> ((2 : Int32).toUInt32 &&& Int32.toUInt32 31)).toInt32 &&& (858993459 : Int32))) + (((((x0 - (((x0).toUInt32 >>> ((1 : Int32).toUInt32 &&& Int32.toUInt32 31)).toInt32 &&& (1431655765 : Int32))) &&& (858993459 : Int32)) + ((((x0 - (((x0).toUInt32 >>> ((1 : Int32).toUInt32 &&& Int32.toUInt32 31)).toInt32 &&& (1431655765 : Int32)))).toUInt32 >>> ((2 : Int32).toUInt32 &&& Int32.toUInt32 31)).toInt32 &&& (858993459 : Int32)))).toUInt32 >>> ((4 : Int32).toUInt32 &&& Int32.toUInt32 31)).toInt32) &&& (252645135 : Int32))).toUInt32 >>> ((8 : Int32).toUInt32 &&& Int32.toUInt32 31)).toInt32)).toUInt32 >>> ((16 : Int32).toUInt32 &&& Int32.toUInt32 31)).toInt32) &&& (63 : Int32)), σ)
set_option maxRecDepth 100000 in
set_option maxHeartbeats 4000000 in
theorem rJ6_bitCount_0f7a4 {N : Nat} {x0 : Int32} {σ : OM} {r0 : Int32} {σ0 : OM} (h : fJ6_bitCount_0f7a4 x0 σ = some (r0, σ0)) (hN0 : 0 ≤ N) : oEv N MJ6_bitCount_0f7a4 [.int x0] σ (some (.int r0)) σ0 := by
  refine oEv_of (lv := [.int x0]) (by decide +kernel) (fun g q hq => hq) (fun g => Nat.le_of_ble_eq_true rfl) ?_
  intro K hc ho hL hN1 hr hE hz
  have hN : 0 ≤ kN K := by rw [hN1]; exact hN0
  unfold fJ6_bitCount_0f7a4 at h
  refine go_iload_n hc dJ6_bitCount_0f7a4_0 rfl rfl ?_
  refine go_iload_n hc dJ6_bitCount_0f7a4_1 rfl rfl ?_
  refine go_iconst hc dJ6_bitCount_0f7a4_2 ci_1 ?_
  refine go_iushr hc dJ6_bitCount_0f7a4_3 ?_
  refine go_ldcw hc ho kcJ6_265 dJ6_bitCount_0f7a4_4 ?_
  refine go_iand hc dJ6_bitCount_0f7a4_7 ?_
  refine go_isub hc dJ6_bitCount_0f7a4_8 ?_
  refine go_istore_n hc (lv1 := [.int (x0 - (((x0).toUInt32 >>> ((1 : Int32).toUInt32 &&& Int32.toUInt32 31)).toInt32 &&& (1431655765 : Int32)))]) dJ6_bitCount_0f7a4_9 rfl hL (by decide) (fun _ e _ => absurd rfl e) rfl ?_
  refine go_iload_n hc dJ6_bitCount_0f7a4_10 rfl rfl ?_
  refine go_ldcw hc ho kcJ6_266 dJ6_bitCount_0f7a4_11 ?_
  refine go_iand hc dJ6_bitCount_0f7a4_14 ?_
  refine go_iload_n hc dJ6_bitCount_0f7a4_15 rfl rfl ?_
  refine go_iconst hc dJ6_bitCount_0f7a4_16 ci_2 ?_
  refine go_iushr hc dJ6_bitCount_0f7a4_17 ?_
  refine go_ldcw hc ho kcJ6_266 dJ6_bitCount_0f7a4_18 ?_
  refine go_iand hc dJ6_bitCount_0f7a4_21 ?_
  refine go_iadd hc dJ6_bitCount_0f7a4_22 ?_
  refine go_istore_n hc (lv1 := [.int (((x0 - (((x0).toUInt32 >>> ((1 : Int32).toUInt32 &&& Int32.toUInt32 31)).toInt32 &&& (1431655765 : Int32))) &&& (858993459 : Int32)) + ((((x0 - (((x0).toUInt32 >>> ((1 : Int32).toUInt32 &&& Int32.toUInt32 31)).toInt32 &&& (1431655765 : Int32)))).toUInt32 >>> ((2 : Int32).toUInt32 &&& Int32.toUInt32 31)).toInt32 &&& (858993459 : Int32)))]) dJ6_bitCount_0f7a4_23 rfl hL (by decide) (fun _ e _ => absurd rfl e) rfl ?_
  refine go_iload_n hc dJ6_bitCount_0f7a4_24 rfl rfl ?_
  refine go_iload_n hc dJ6_bitCount_0f7a4_25 rfl rfl ?_
  refine go_iconst hc dJ6_bitCount_0f7a4_26 ci_4 ?_
  refine go_iushr hc dJ6_bitCount_0f7a4_27 ?_
  refine go_iadd hc dJ6_bitCount_0f7a4_28 ?_
  refine go_ldcw hc ho kcJ6_267 dJ6_bitCount_0f7a4_29 ?_
  refine go_iand hc dJ6_bitCount_0f7a4_32 ?_
  refine go_istore_n hc (lv1 := [.int (((((x0 - (((x0).toUInt32 >>> ((1 : Int32).toUInt32 &&& Int32.toUInt32 31)).toInt32 &&& (1431655765 : Int32))) &&& (858993459 : Int32)) + ((((x0 - (((x0).toUInt32 >>> ((1 : Int32).toUInt32 &&& Int32.toUInt32 31)).toInt32 &&& (1431655765 : Int32)))).toUInt32 >>> ((2 : Int32).toUInt32 &&& Int32.toUInt32 31)).toInt32 &&& (858993459 : Int32))) + (((((x0 - (((x0).toUInt32 >>> ((1 : Int32).toUInt32 &&& Int32.toUInt32 31)).toInt32 &&& (1431655765 : Int32))) &&& (858993459 : Int32)) + ((((x0 - (((x0).toUInt32 >>> ((1 : Int32).toUInt32 &&& Int32.toUInt32 31)).toInt32 &&& (1431655765 : Int32)))).toUInt32 >>> ((2 : Int32).toUInt32 &&& Int32.toUInt32 31)).toInt32 &&& (858993459 : Int32)))).toUInt32 >>> ((4 : Int32).toUInt32 &&& Int32.toUInt32 31)).toInt32) &&& (252645135 : Int32))]) dJ6_bitCount_0f7a4_33 rfl hL (by decide) (fun _ e _ => absurd rfl e) rfl ?_
  refine go_iload_n hc dJ6_bitCount_0f7a4_34 rfl rfl ?_
  refine go_iload_n hc dJ6_bitCount_0f7a4_35 rfl rfl ?_
  refine go_bipush hc dJ6_bitCount_0f7a4_36 cb_8 ?_
  refine go_iushr hc dJ6_bitCount_0f7a4_38 ?_
  refine go_iadd hc dJ6_bitCount_0f7a4_39 ?_
  refine go_istore_n hc (lv1 := [.int ((((((x0 - (((x0).toUInt32 >>> ((1 : Int32).toUInt32 &&& Int32.toUInt32 31)).toInt32 &&& (1431655765 : Int32))) &&& (858993459 : Int32)) + ((((x0 - (((x0).toUInt32 >>> ((1 : Int32).toUInt32 &&& Int32.toUInt32 31)).toInt32 &&& (1431655765 : Int32)))).toUInt32 >>> ((2 : Int32).toUInt32 &&& Int32.toUInt32 31)).toInt32 &&& (858993459 : Int32))) + (((((x0 - (((x0).toUInt32 >>> ((1 : Int32).toUInt32 &&& Int32.toUInt32 31)).toInt32 &&& (1431655765 : Int32))) &&& (858993459 : Int32)) + ((((x0 - (((x0).toUInt32 >>> ((1 : Int32).toUInt32 &&& Int32.toUInt32 31)).toInt32 &&& (1431655765 : Int32)))).toUInt32 >>> ((2 : Int32).toUInt32 &&& Int32.toUInt32 31)).toInt32 &&& (858993459 : Int32)))).toUInt32 >>> ((4 : Int32).toUInt32 &&& Int32.toUInt32 31)).toInt32) &&& (252645135 : Int32)) + (((((((x0 - (((x0).toUInt32 >>> ((1 : Int32).toUInt32 &&& Int32.toUInt32 31)).toInt32 &&& (1431655765 : Int32))) &&& (858993459 : Int32)) + ((((x0 - (((x0).toUInt32 >>> ((1 : Int32).toUInt32 &&& Int32.toUInt32 31)).toInt32 &&& (1431655765 : Int32)))).toUInt32 >>> ((2 : Int32).toUInt32 &&& Int32.toUInt32 31)).toInt32 &&& (858993459 : Int32))) + (((((x0 - (((x0).toUInt32 >>> ((1 : Int32).toUInt32 &&& Int32.toUInt32 31)).toInt32 &&& (1431655765 : Int32))) &&& (858993459 : Int32)) + ((((x0 - (((x0).toUInt32 >>> ((1 : Int32).toUInt32 &&& Int32.toUInt32 31)).toInt32 &&& (1431655765 : Int32)))).toUInt32 >>> ((2 : Int32).toUInt32 &&& Int32.toUInt32 31)).toInt32 &&& (858993459 : Int32)))).toUInt32 >>> ((4 : Int32).toUInt32 &&& Int32.toUInt32 31)).toInt32) &&& (252645135 : Int32))).toUInt32 >>> ((8 : Int32).toUInt32 &&& Int32.toUInt32 31)).toInt32)]) dJ6_bitCount_0f7a4_40 rfl hL (by decide) (fun _ e _ => absurd rfl e) rfl ?_
  refine go_iload_n hc dJ6_bitCount_0f7a4_41 rfl rfl ?_
  refine go_iload_n hc dJ6_bitCount_0f7a4_42 rfl rfl ?_
  refine go_bipush hc dJ6_bitCount_0f7a4_43 cb_16 ?_
  refine go_iushr hc dJ6_bitCount_0f7a4_45 ?_
  refine go_iadd hc dJ6_bitCount_0f7a4_46 ?_
  refine go_istore_n hc (lv1 := [.int (((((((x0 - (((x0).toUInt32 >>> ((1 : Int32).toUInt32 &&& Int32.toUInt32 31)).toInt32 &&& (1431655765 : Int32))) &&& (858993459 : Int32)) + ((((x0 - (((x0).toUInt32 >>> ((1 : Int32).toUInt32 &&& Int32.toUInt32 31)).toInt32 &&& (1431655765 : Int32)))).toUInt32 >>> ((2 : Int32).toUInt32 &&& Int32.toUInt32 31)).toInt32 &&& (858993459 : Int32))) + (((((x0 - (((x0).toUInt32 >>> ((1 : Int32).toUInt32 &&& Int32.toUInt32 31)).toInt32 &&& (1431655765 : Int32))) &&& (858993459 : Int32)) + ((((x0 - (((x0).toUInt32 >>> ((1 : Int32).toUInt32 &&& Int32.toUInt32 31)).toInt32 &&& (1431655765 : Int32)))).toUInt32 >>> ((2 : Int32).toUInt32 &&& Int32.toUInt32 31)).toInt32 &&& (858993459 : Int32)))).toUInt32 >>> ((4 : Int32).toUInt32 &&& Int32.toUInt32 31)).toInt32) &&& (252645135 : Int32)) + (((((((x0 - (((x0).toUInt32 >>> ((1 : Int32).toUInt32 &&& Int32.toUInt32 31)).toInt32 &&& (1431655765 : Int32))) &&& (858993459 : Int32)) + ((((x0 - (((x0).toUInt32 >>> ((1 : Int32).toUInt32 &&& Int32.toUInt32 31)).toInt32 &&& (1431655765 : Int32)))).toUInt32 >>> ((2 : Int32).toUInt32 &&& Int32.toUInt32 31)).toInt32 &&& (858993459 : Int32))) + (((((x0 - (((x0).toUInt32 >>> ((1 : Int32).toUInt32 &&& Int32.toUInt32 31)).toInt32 &&& (1431655765 : Int32))) &&& (858993459 : Int32)) + ((((x0 - (((x0).toUInt32 >>> ((1 : Int32).toUInt32 &&& Int32.toUInt32 31)).toInt32 &&& (1431655765 : Int32)))).toUInt32 >>> ((2 : Int32).toUInt32 &&& Int32.toUInt32 31)).toInt32 &&& (858993459 : Int32)))).toUInt32 >>> ((4 : Int32).toUInt32 &&& Int32.toUInt32 31)).toInt32) &&& (252645135 : Int32))).toUInt32 >>> ((8 : Int32).toUInt32 &&& Int32.toUInt32 31)).toInt32) + ((((((((x0 - (((x0).toUInt32 >>> ((1 : Int32).toUInt32 &&& Int32.toUInt32 31)).toInt32 &&& (1431655765 : Int32))) &&& (858993459 : Int32)) + ((((x0 - (((x0).toUInt32 >>> ((1 : Int32).toUInt32 &&& Int32.toUInt32 31)).toInt32 &&& (1431655765 : Int32)))).toUInt32 >>> ((2 : Int32).toUInt32 &&& Int32.toUInt32 31)).toInt32 &&& (858993459 : Int32))) + (((((x0 - (((x0).toUInt32 >>> ((1 : Int32).toUInt32 &&& Int32.toUInt32 31)).toInt32 &&& (1431655765 : Int32))) &&& (858993459 : Int32)) + ((((x0 - (((x0).toUInt32 >>> ((1 : Int32).toUInt32 &&& Int32.toUInt32 31)).toInt32 &&& (1431655765 : Int32)))).toUInt32 >>> ((2 : Int32).toUInt32 &&& Int32.toUInt32 31)).toInt32 &&& (858993459 : Int32)))).toUInt32 >>> ((4 : Int32).toUInt32 &&& Int32.toUInt32 31)).toInt32) &&& (252645135 : Int32)) + (((((((x0 - (((x0).toUInt32 >>> ((1 : Int32).toUInt32 &&& Int32.toUInt32 31)).toInt32 &&& (1431655765 : Int32))) &&& (858993459 : Int32)) + ((((x0 - (((x0).toUInt32 >>> ((1 : Int32).toUInt32 &&& Int32.toUInt32 31)).toInt32 &&& (1431655765 : Int32)))).toUInt32 >>> ((2 : Int32).toUInt32 &&& Int32.toUInt32 31)).toInt32 &&& (858993459 : Int32))) + (((((x0 - (((x0).toUInt32 >>> ((1 : Int32).toUInt32 &&& Int32.toUInt32 31)).toInt32 &&& (1431655765 : Int32))) &&& (858993459 : Int32)) + ((((x0 - (((x0).toUInt32 >>> ((1 : Int32).toUInt32 &&& Int32.toUInt32 31)).toInt32 &&& (1431655765 : Int32)))).toUInt32 >>> ((2 : Int32).toUInt32 &&& Int32.toUInt32 31)).toInt32 &&& (858993459 : Int32)))).toUInt32 >>> ((4 : Int32).toUInt32 &&& Int32.toUInt32 31)).toInt32) &&& (252645135 : Int32))).toUInt32 >>> ((8 : Int32).toUInt32 &&& Int32.toUInt32 31)).toInt32)).toUInt32 >>> ((16 : Int32).toUInt32 &&& Int32.toUInt32 31)).toInt32)]) dJ6_bitCount_0f7a4_47 rfl hL (by decide) (fun _ e _ => absurd rfl e) rfl ?_
  refine go_iload_n hc dJ6_bitCount_0f7a4_48 rfl rfl ?_
  refine go_bipush hc dJ6_bitCount_0f7a4_49 cb_63 ?_
  refine go_iand hc dJ6_bitCount_0f7a4_51 ?_
  exact go_iret hc (oend_i h hE) hr dJ6_bitCount_0f7a4_52
def fX3_findLiars_b29 : Nat → Nat → Int32 → Int32 → Int32 → OM → Option OM
  | 0, _, _, _, _, _ => none
  | n + 1, bl0, l1, l2, l3, σ =>
    if ((1 : Int32) <<< (l1 &&& 31)) ≤ l3 then (
     some σ)
    else (obi (fX3_worldsIfLying bl0 l3 l1 σ) (fun r1 σ2 =>
    if (lg_cmp r1 (0 : Int64)) = 0 then (
     fX3_findLiars_b29 n bl0 l1 l2 (l3 + 1) σ2)
    else (obi (fJ6_bitCount_0f7a4 l3 (sI σ2 (bl0 + 10) 5 ((mI σ2 (bl0 + 10) 5) + (1 : Int32)))) (fun r4 σ5 =>
    if l2 ≤ r4 then (
     if r4 = l2 then (
      fX3_findLiars_b29 n bl0 l1 l2 (l3 + 1) (sI (sI σ5 (bl0 + 10) 6 ((mI σ5 (bl0 + 10) 6) ||| l3)) (bl0 + 10) 7 ((mI (sI σ5 (bl0 + 10) 6 ((mI σ5 (bl0 + 10) 6) ||| l3)) (bl0 + 10) 7) &&& l3)))
     else (fX3_findLiars_b29 n bl0 l1 l2 (l3 + 1) σ5))
    else (fX3_findLiars_b29 n bl0 l1 r4 (l3 + 1) (sI (sI (sI σ5 (bl0 + 10) 4 l3) (bl0 + 10) 6 l3) (bl0 + 10) 7 l3))))))
set_option maxRecDepth 100000 in
set_option maxHeartbeats 4000000 in
theorem rX3_findLiars_b29 {K : OK} (hc : kcc K = cX3_findLiars) (ho : kow K = RX3) (hL : knL K = 5) (hN : 3 ≤ kN K) (hr : (kme K).sig.returnType = none) {σ0 : OM} (hE : oEnd K (none) σ0) (hz : kz K = 0) : ∀ (n : Nat) (bl0 : Nat) (l1 : Int32) (l2 : Int32) (l3 : Int32) (σ : OM), okd bl0 = 8 → fX3_findLiars_b29 n bl0 l1 l2 l3 σ = some σ0 → Go K 29 [.ref (bl0 + 10), .int l1, .int l2, .int l3, .null] [] σ := by
  intro n
  induction n with
  | zero =>
    intro bl0 l1 l2 l3 σ hbl0 h
    cases h
  | succ n ih =>
    intro bl0 l1 l2 l3 σ hbl0 h
    rw [fX3_findLiars_b29] at h
    refine go_iload_n hc dX3_findLiars_29 rfl rfl ?_
    refine go_iconst hc dX3_findLiars_30 ci_1 ?_
    refine go_iload_n hc dX3_findLiars_31 rfl rfl ?_
    refine go_ishl hc dX3_findLiars_32 ?_
    refine go_icmp_ge (tgt := 122) hc dX3_findLiars_33 rfl (fun hh => ?_) (fun hh => ?_)
    · rw [if_pos hh] at h
      exact go_vret hc (oend_v h hE) hr dX3_findLiars_122
    · rw [if_neg hh] at h
      refine go_aload_n hc dX3_findLiars_36 rfl rfl ?_
      refine go_iload_n hc dX3_findLiars_37 rfl rfl ?_
      refine go_iload_n hc dX3_findLiars_38 rfl rfl ?_
      obtain ⟨r1, σ2, hf3, h⟩ := obi_some h
      refine go_callVl hc ho cmX3_worldsIfLying mlX3_42 dX3_findLiars_39 (ow_k10 hbl0) (As := [.int l3, .int l1]) (rest := []) (rX3_worldsIfLying (N := 1) hbl0 hf3 (Nat.le_refl _)) rfl (Nat.le_trans (Nat.le_of_ble_eq_true rfl) hN) rfl (Nat.le_of_ble_eq_true rfl) (Or.inl hz) ?_
      refine go_lconst hc dX3_findLiars_42 cl_0 ?_
      refine go_lcmp hc dX3_findLiars_43 ?_
      refine go_if_eq (tgt := 116) hc dX3_findLiars_44 rfl (fun hh => ?_) (fun hh => ?_)
      · rw [if_pos hh] at h
        refine go_iinc hc (lv1 := [.ref (bl0 + 10), .int l1, .int l2, .int (l3 + 1), .null]) dX3_findLiars_116 rfl ci_1 hL (by decide) (fun _ _ e => by cases e; rfl) rfl ?_
        refine go_goto (tgt := 29) hc dX3_findLiars_119 rfl ?_
        exact ih bl0 l1 l2 (l3 + 1) _ hbl0 h
      · rw [if_neg hh] at h
        refine go_aload_n hc dX3_findLiars_47 rfl rfl ?_
        refine go_dup hc dX3_findLiars_48 rfl ?_
        refine go_getI hc ho flX3_33 dX3_findLiars_49 (ow_k10 hbl0) ?_
        refine go_iconst hc dX3_findLiars_52 ci_1 ?_
        refine go_iadd hc dX3_findLiars_53 ?_
        refine go_putI hc ho fpX3_33 dX3_findLiars_54 (ow_k10 hbl0) (fun g => oni g _) (fun _ => rfl) ?_
        refine go_iload_n hc dX3_findLiars_57 rfl rfl ?_
        obtain ⟨r4, σ5, hf6, h⟩ := obi_some h
        refine go_callSi hc ho cmJ6_bitCount_0f7a4 mlX3_46 dX3_findLiars_58 (As := [.int l3]) (rest := []) (rJ6_bitCount_0f7a4 (N := 0) hf6 (Nat.le_refl _)) rfl (Nat.le_trans (Nat.le_of_ble_eq_true rfl) hN) rfl (Nat.le_of_ble_eq_true rfl) (Or.inl hz) ?_
        refine go_istore hc (lv1 := [.ref (bl0 + 10), .int l1, .int l2, .int l3, .int r4]) dX3_findLiars_61 hL (by decide) (fun _ _ e => by cases e; rfl) rfl ?_
        refine go_iload hc dX3_findLiars_63 rfl ?_
        refine go_iload_n hc dX3_findLiars_65 rfl rfl ?_
        refine go_icmp_ge (tgt := 90) hc dX3_findLiars_66 rfl (fun hh => ?_) (fun hh => ?_)
        · rw [if_pos hh] at h
          refine go_iload hc dX3_findLiars_90 rfl ?_
          refine go_iload_n hc dX3_findLiars_92 rfl rfl ?_
          refine go_icmp_ne (tgt := 116) hc dX3_findLiars_93 rfl (fun hh => ?_) (fun hh => ?_)
          · rw [if_neg hh] at h
            refine go_iinc hc (lv1 := [.ref (bl0 + 10), .int l1, .int l2, .int (l3 + 1), .int r4]) dX3_findLiars_116 rfl ci_1 hL (by decide) (fun _ _ e => by cases e; rfl) rfl ?_
            refine go_goto (tgt := 29) hc dX3_findLiars_119 rfl ?_
            refine go_mask [true, true, true, true, false] (lv1 := [.ref (bl0 + 10), .int l1, .int l2, .int (l3 + 1), .null]) rfl ?_
            exact ih bl0 l1 l2 (l3 + 1) _ hbl0 h
          · rw [if_pos hh] at h
            refine go_aload_n hc dX3_findLiars_96 rfl rfl ?_
            refine go_dup hc dX3_findLiars_97 rfl ?_
            refine go_getI hc ho flX3_36 dX3_findLiars_98 (ow_k10 hbl0) ?_
            refine go_iload_n hc dX3_findLiars_101 rfl rfl ?_
            refine go_ior hc dX3_findLiars_102 ?_
            refine go_putI hc ho fpX3_36 dX3_findLiars_103 (ow_k10 hbl0) (fun g => oni g _) (fun _ => rfl) ?_
            refine go_aload_n hc dX3_findLiars_106 rfl rfl ?_
            refine go_dup hc dX3_findLiars_107 rfl ?_
            refine go_getI hc ho flX3_39 dX3_findLiars_108 (ow_k10 hbl0) ?_
            refine go_iload_n hc dX3_findLiars_111 rfl rfl ?_
            refine go_iand hc dX3_findLiars_112 ?_
            refine go_putI hc ho fpX3_39 dX3_findLiars_113 (ow_k10 hbl0) (fun g => oni g _) (fun _ => rfl) ?_
            refine go_iinc hc (lv1 := [.ref (bl0 + 10), .int l1, .int l2, .int (l3 + 1), .int r4]) dX3_findLiars_116 rfl ci_1 hL (by decide) (fun _ _ e => by cases e; rfl) rfl ?_
            refine go_goto (tgt := 29) hc dX3_findLiars_119 rfl ?_
            refine go_mask [true, true, true, true, false] (lv1 := [.ref (bl0 + 10), .int l1, .int l2, .int (l3 + 1), .null]) rfl ?_
            exact ih bl0 l1 l2 (l3 + 1) _ hbl0 h
        · rw [if_neg hh] at h
          refine go_iload hc dX3_findLiars_69 rfl ?_
          refine go_istore_n hc (lv1 := [.ref (bl0 + 10), .int l1, .int r4, .int l3, .int r4]) dX3_findLiars_71 rfl hL (by decide) (fun _ _ e => by cases e; rfl) rfl ?_
          refine go_aload_n hc dX3_findLiars_72 rfl rfl ?_
          refine go_iload_n hc dX3_findLiars_73 rfl rfl ?_
          refine go_putI hc ho fpX3_29 dX3_findLiars_74 (ow_k10 hbl0) (fun g => oni g _) (fun _ => rfl) ?_
          refine go_aload_n hc dX3_findLiars_77 rfl rfl ?_
          refine go_iload_n hc dX3_findLiars_78 rfl rfl ?_
          refine go_putI hc ho fpX3_36 dX3_findLiars_79 (ow_k10 hbl0) (fun g => oni g _) (fun _ => rfl) ?_
          refine go_aload_n hc dX3_findLiars_82 rfl rfl ?_
          refine go_iload_n hc dX3_findLiars_83 rfl rfl ?_
          refine go_putI hc ho fpX3_39 dX3_findLiars_84 (ow_k10 hbl0) (fun g => oni g _) (fun _ => rfl) ?_
          refine go_goto (tgt := 116) hc dX3_findLiars_87 rfl ?_
          refine go_iinc hc (lv1 := [.ref (bl0 + 10), .int l1, .int r4, .int (l3 + 1), .int r4]) dX3_findLiars_116 rfl ci_1 hL (by decide) (fun _ _ e => by cases e; rfl) rfl ?_
          refine go_goto (tgt := 29) hc dX3_findLiars_119 rfl ?_
          refine go_mask [true, true, true, true, false] (lv1 := [.ref (bl0 + 10), .int l1, .int r4, .int (l3 + 1), .null]) rfl ?_
          exact ih bl0 l1 r4 (l3 + 1) _ hbl0 h
def fX3_findLiars (w : Nat) (x0 : Int32) (σ : OM) : Option OM :=
  obv (fX3_gatherAnswers w σ) (fun σ2 =>
  fX3_findLiars_b29 oF w x0 (7 : Int32) (0 : Int32) (sI (sI (sI (sI σ2 (w + 10) 4 (0 : Int32)) (w + 10) 5 (0 : Int32)) (w + 10) 6 (0 : Int32)) (w + 10) 7 (0 : Int32)))
set_option maxRecDepth 100000 in
set_option maxHeartbeats 4000000 in
theorem rX3_findLiars {N : Nat} {w : Nat} {x0 : Int32} {σ : OM} {σ0 : OM} (hw : okd w = 8) (h : fX3_findLiars w x0 σ = some σ0) (hN0 : 3 ≤ N) : oEv N MX3_findLiars [.ref (w + 10), .int x0] σ (none) σ0 := by
  refine oEv_of (lv := [.ref (w + 10), .int x0, .null, .null, .null]) (by decide +kernel) (fun g q hq => hq) (fun g => Nat.le_of_ble_eq_true rfl) ?_
  intro K hc ho hL hN1 hr hE hz
  have hN : 3 ≤ kN K := by rw [hN1]; exact hN0
  unfold fX3_findLiars at h
  refine go_aload_n hc dX3_findLiars_0 rfl rfl ?_
  obtain ⟨σ2, hf3, h⟩ := obv_some h
  refine go_callVv hc ho cmX3_gatherAnswers mlX3_26 dX3_findLiars_1 (ow_k10 hw) (As := []) (rest := []) (rX3_gatherAnswers (N := 2) hw hf3 (Nat.le_refl _)) rfl (Nat.le_trans (Nat.le_of_ble_eq_true rfl) hN) rfl (Nat.le_of_ble_eq_true rfl) (Or.inl hz) ?_
  refine go_aload_n hc dX3_findLiars_4 rfl rfl ?_
  refine go_iconst hc dX3_findLiars_5 ci_0 ?_
  refine go_putI hc ho fpX3_29 dX3_findLiars_6 (ow_k10 hw) (fun g => oni g _) (fun _ => rfl) ?_
  refine go_aload_n hc dX3_findLiars_9 rfl rfl ?_
  refine go_iconst hc dX3_findLiars_10 ci_0 ?_
  refine go_putI hc ho fpX3_33 dX3_findLiars_11 (ow_k10 hw) (fun g => oni g _) (fun _ => rfl) ?_
  refine go_aload_n hc dX3_findLiars_14 rfl rfl ?_
  refine go_iconst hc dX3_findLiars_15 ci_0 ?_
  refine go_putI hc ho fpX3_36 dX3_findLiars_16 (ow_k10 hw) (fun g => oni g _) (fun _ => rfl) ?_
  refine go_aload_n hc dX3_findLiars_19 rfl rfl ?_
  refine go_iconst hc dX3_findLiars_20 ci_0 ?_
  refine go_putI hc ho fpX3_39 dX3_findLiars_21 (ow_k10 hw) (fun g => oni g _) (fun _ => rfl) ?_
  refine go_bipush hc dX3_findLiars_24 cb_7 ?_
  refine go_istore_n hc (lv1 := [.ref (w + 10), .int x0, .int (7 : Int32), .null, .null]) dX3_findLiars_26 rfl hL (by decide) (fun _ _ e => by cases e; rfl) rfl ?_
  refine go_iconst hc dX3_findLiars_27 ci_0 ?_
  refine go_istore_n hc (lv1 := [.ref (w + 10), .int x0, .int (7 : Int32), .int (0 : Int32), .null]) dX3_findLiars_28 rfl hL (by decide) (fun _ _ e => by cases e; rfl) rfl ?_
  exact rX3_findLiars_b29 hc ho hL hN hr hE hz oF w x0 (7 : Int32) (0 : Int32) _ hw h
def fX8_close (w : Nat) (σ : OM) : Option OM :=
  obv (fX2_close w σ) (fun σ2 =>
  obv (fX3_findLiars w (mI σ2 w 4) σ2) (fun σ5 =>
  some σ5))
set_option maxRecDepth 100000 in
set_option maxHeartbeats 4000000 in
theorem rX8_close {N : Nat} {w : Nat} {σ : OM} {σ0 : OM} (hw : okd w = 8) (h : fX8_close w σ = some σ0) (hN0 : 4 ≤ N) : oEv N MX8_close [.ref w] σ (none) σ0 := by
  refine oEv_of (lv := [.ref w]) (by decide +kernel) (fun g q hq => hq) (fun g => Nat.le_of_ble_eq_true rfl) ?_
  intro K hc ho hL hN1 hr hE hz
  have hN : 4 ≤ kN K := by rw [hN1]; exact hN0
  unfold fX8_close at h
  refine go_aload_n hc dX8_close_0 rfl rfl ?_
  refine go_getC (b := w + 1) (ow_c0_0 hw) hc ho flX8_12 dX8_close_1 hw ?_
  obtain ⟨σ2, hf3, h⟩ := obv_some h
  refine go_callVv hc ho cmX2_close mlX8_57 dX8_close_4 (ow_k1 hw) (As := []) (rest := []) (rX2_close (N := 2) hw hf3 (Nat.le_refl _)) rfl (Nat.le_trans (Nat.le_of_ble_eq_true rfl) hN) rfl (Nat.le_of_ble_eq_true rfl) (Or.inl hz) ?_
  refine go_aload_n hc dX8_close_7 rfl rfl ?_
  refine go_getC (b := w + 10) (ow_c0_2 hw) hc ho flX8_30 dX8_close_8 hw ?_
  refine go_aload_n hc dX8_close_11 rfl rfl ?_
  refine go_getI hc ho flX8_49 dX8_close_12 hw ?_
  obtain ⟨σ5, hf6, h⟩ := obv_some h
  refine go_callVv hc ho cmX3_findLiars mlX8_60 dX8_close_15 (ow_k10 hw) (As := [.int (mI σ2 w 4)]) (rest := []) (rX3_findLiars (N := 3) hw hf6 (Nat.le_refl _)) rfl (Nat.le_trans (Nat.le_of_ble_eq_true rfl) hN) rfl (Nat.le_of_ble_eq_true rfl) (Or.inl hz) ?_
  exact go_vret hc (oend_v h hE) hr dX8_close_18
def fX5_read_b139 (σ : OM) : Option OM :=
  obi (fX5_fail (6 : Int32) (mI σ 43 9) σ) (fun r1 σ2 =>
  if (mI σ2 48 2) = 0 then (
   ogd (decide (okd (mR σ2 48 1) = 8)) (
   obv (fX8_close (mR σ2 48 1) σ2) (fun σ6 =>
   some σ6)))
  else (some σ2))
set_option maxRecDepth 100000 in
set_option maxHeartbeats 4000000 in
theorem rX5_read_b139 {K : OK} (hc : kcc K = cX5_read) (ho : kow K = RX5) (hL : knL K = 5) (hN : 6 ≤ kN K) (hr : (kme K).sig.returnType = none) {σ0 : OM} (hE : oEnd K (none) σ0) (hz : kz K = 0) {σ : OM} (h : fX5_read_b139 σ = some σ0) : Go K 139 [.ref 48, .null, .null, .null, .null] [] σ := by
  unfold fX5_read_b139 at h
  refine go_aload_n hc dX5_read_139 rfl rfl ?_
  refine go_bipush hc dX5_read_140 cb_6 ?_
  refine go_aload_n hc dX5_read_142 rfl rfl ?_
  refine go_getC (b := 43) rfl hc ho flX5_37 dX5_read_143 ok_48 ?_
  refine go_getI hc ho flX5_84 dX5_read_146 ok_43 ?_
  obtain ⟨r1, σ2, hf3, h⟩ := obi_some h
  refine go_callVi hc ho cmX5_fail mlX5_87 dX5_read_149 ok_48 (As := [.int (6 : Int32), .int (mI σ 43 9)]) (rest := []) (rX5_fail (N := 0) hf3 (Nat.le_refl _)) rfl (Nat.le_trans (Nat.le_of_ble_eq_true rfl) hN) rfl (Nat.le_of_ble_eq_true rfl) (Or.inl hz) ?_
  refine go_pop hc dX5_read_152 rfl ?_
  refine go_aload_n hc dX5_read_153 rfl rfl ?_
  refine go_getI hc ho flX5_50 dX5_read_154 ok_48 ?_
  refine go_if_ne (tgt := 167) hc dX5_read_157 rfl (fun hh => ?_) (fun hh => ?_)
  · rw [if_neg hh] at h
    exact go_vret hc (oend_v h hE) hr dX5_read_167
  · rw [if_pos hh] at h
    refine go_aload_n hc dX5_read_160 rfl rfl ?_
    obtain ⟨hg4, h⟩ := ogd_some h
    refine go_getR hc ho flX5_41 dX5_read_161 ok_48 ?_
    obtain ⟨σ6, hf7, h⟩ := obv_some h
    refine go_callVv hc ho cmX8_close mlX5_91 dX5_read_164 (of_decide_eq_true hg4) (As := []) (rest := []) (rX8_close (N := 4) (of_decide_eq_true hg4) hf7 (Nat.le_refl _)) rfl (Nat.le_trans (Nat.le_of_ble_eq_true rfl) hN) rfl (Nat.le_of_ble_eq_true rfl) (Or.inl hz) ?_
    exact go_vret hc (oend_v h hE) hr dX5_read_167
def fX5_read_b109 (σ : OM) : Option OM :=
  if (mI σ 48 2) = 0 then (
   ogd (decide (okd (mR σ 48 1) = 8)) (
   if (mI σ ((mR σ 48 1) + 1) 0) = 0 then (
    fX5_read_b139 σ)
   else (ogd (decide (okd (mR σ 48 1) = 8)) (
   if (mI σ (mR σ 48 1) 4) = 0 then (
    fX5_read_b139 σ)
   else (if (mI σ 48 2) = 0 then (
    ogd (decide (okd (mR σ 48 1) = 8)) (
    obv (fX8_close (mR σ 48 1) σ) (fun σ9 =>
    some σ9)))
   else (some σ))))))
  else (if (mI σ 48 2) = 0 then (
   ogd (decide (okd (mR σ 48 1) = 8)) (
   obv (fX8_close (mR σ 48 1) σ) (fun σ3 =>
   some σ3)))
  else (some σ))
set_option maxRecDepth 100000 in
set_option maxHeartbeats 4000000 in
theorem rX5_read_b109 {K : OK} (hc : kcc K = cX5_read) (ho : kow K = RX5) (hL : knL K = 5) (hN : 6 ≤ kN K) (hr : (kme K).sig.returnType = none) {σ0 : OM} (hE : oEnd K (none) σ0) (hz : kz K = 0) {σ : OM} (h : fX5_read_b109 σ = some σ0) : Go K 109 [.ref 48, .null, .null, .null, .null] [] σ := by
  unfold fX5_read_b109 at h
  refine go_aload_n hc dX5_read_109 rfl rfl ?_
  refine go_getI hc ho flX5_50 dX5_read_110 ok_48 ?_
  refine go_if_ne (tgt := 153) hc dX5_read_113 rfl (fun hh => ?_) (fun hh => ?_)
  · rw [if_neg hh] at h
    refine go_aload_n hc dX5_read_153 rfl rfl ?_
    refine go_getI hc ho flX5_50 dX5_read_154 ok_48 ?_
    refine go_if_ne (tgt := 167) hc dX5_read_157 rfl (fun hh => ?_) (fun hh => ?_)
    · rw [if_neg hh] at h
      exact go_vret hc (oend_v h hE) hr dX5_read_167
    · rw [if_pos hh] at h
      refine go_aload_n hc dX5_read_160 rfl rfl ?_
      obtain ⟨hg1, h⟩ := ogd_some h
      refine go_getR hc ho flX5_41 dX5_read_161 ok_48 ?_
      obtain ⟨σ3, hf4, h⟩ := obv_some h
      refine go_callVv hc ho cmX8_close mlX5_91 dX5_read_164 (of_decide_eq_true hg1) (As := []) (rest := []) (rX8_close (N := 4) (of_decide_eq_true hg1) hf4 (Nat.le_refl _)) rfl (Nat.le_trans (Nat.le_of_ble_eq_true rfl) hN) rfl (Nat.le_of_ble_eq_true rfl) (Or.inl hz) ?_
      exact go_vret hc (oend_v h hE) hr dX5_read_167
  · rw [if_pos hh] at h
    refine go_aload_n hc dX5_read_116 rfl rfl ?_
    obtain ⟨hg5, h⟩ := ogd_some h
    refine go_getR hc ho flX5_41 dX5_read_117 ok_48 ?_
    refine go_getC (b := (mR σ 48 1) + 1) (ow_c0_0 (of_decide_eq_true hg5)) hc ho flX5_72 dX5_read_120 (of_decide_eq_true hg5) ?_
    refine go_getI hc ho flX5_76 dX5_read_123 (ow_k1 (of_decide_eq_true hg5)) ?_
    refine go_if_eq (tgt := 139) hc dX5_read_126 rfl (fun hh => ?_) (fun hh => ?_)
    · rw [if_pos hh] at h
      exact rX5_read_b139 hc ho hL hN hr hE hz h
    · rw [if_neg hh] at h
      refine go_aload_n hc dX5_read_129 rfl rfl ?_
      obtain ⟨hg6, h⟩ := ogd_some h
      refine go_getR hc ho flX5_41 dX5_read_130 ok_48 ?_
      refine go_getI hc ho flX5_81 dX5_read_133 (of_decide_eq_true hg6) ?_
      refine go_if_ne (tgt := 153) hc dX5_read_136 rfl (fun hh => ?_) (fun hh => ?_)
      · rw [if_neg hh] at h
        refine go_aload_n hc dX5_read_153 rfl rfl ?_
        refine go_getI hc ho flX5_50 dX5_read_154 ok_48 ?_
        refine go_if_ne (tgt := 167) hc dX5_read_157 rfl (fun hh => ?_) (fun hh => ?_)
        · rw [if_neg hh] at h
          exact go_vret hc (oend_v h hE) hr dX5_read_167
        · rw [if_pos hh] at h
          refine go_aload_n hc dX5_read_160 rfl rfl ?_
          obtain ⟨hg7, h⟩ := ogd_some h
          refine go_getR hc ho flX5_41 dX5_read_161 ok_48 ?_
          obtain ⟨σ9, hf10, h⟩ := obv_some h
          refine go_callVv hc ho cmX8_close mlX5_91 dX5_read_164 (of_decide_eq_true hg7) (As := []) (rest := []) (rX8_close (N := 4) (of_decide_eq_true hg7) hf10 (Nat.le_refl _)) rfl (Nat.le_trans (Nat.le_of_ble_eq_true rfl) hN) rfl (Nat.le_of_ble_eq_true rfl) (Or.inl hz) ?_
          exact go_vret hc (oend_v h hE) hr dX5_read_167
      · rw [if_pos hh] at h
        exact rX5_read_b139 hc ho hL hN hr hE hz h
def fX5_read_b84 (rc61 : Int32 → Int32 → OM → Option OM) (l4 : Int32) (k1 : Int32) (σ : OM) : Option OM :=
  obi (fX5_readLine k1 σ) (fun r1 σ2 =>
  if r1 = 0 then (
   rc61 (0 : Int32) (l4 + 1) σ2)
  else (obi (fX5_goesOn σ2) (fun r4 σ5 =>
  if r4 = 0 then (
   rc61 (0 : Int32) (l4 + 1) σ5)
  else (rc61 (1 : Int32) (l4 + 1) σ5))))
set_option maxRecDepth 100000 in
set_option maxHeartbeats 4000000 in
theorem rX5_read_b84 {K : OK} (hc : kcc K = cX5_read) (ho : kow K = RX5) (hL : knL K = 5) (hN : 6 ≤ kN K) (hr : (kme K).sig.returnType = none) {σ0 : OM} (hE : oEnd K (none) σ0) (hz : kz K = 0) {rc61 : Int32 → Int32 → OM → Option OM} (hrc61 : ∀ (l3 : Int32) (l4 : Int32) (σ : OM), rc61 l3 l4 σ = some σ0 → Go K 61 [.ref 48, .null, .null, .int l3, .int l4] [] σ) {l4 : Int32} {k1 : Int32} {σ : OM} (h : fX5_read_b84 rc61 l4 k1 σ = some σ0) : Go K 84 [.ref 48, .null, .null, .null, .int l4] [.int k1, .ref 48] σ := by
  unfold fX5_read_b84 at h
  obtain ⟨r1, σ2, hf3, h⟩ := obi_some h
  refine go_callVi hc ho cmX5_readLine mlX5_64 dX5_read_84 ok_48 (As := [.int k1]) (rest := []) (rX5_readLine (N := 5) hf3 (Nat.le_refl _)) rfl (Nat.le_trans (Nat.le_of_ble_eq_true rfl) hN) rfl (Nat.le_of_ble_eq_true rfl) (Or.inl hz) ?_
  refine go_if_eq (tgt := 101) hc dX5_read_87 rfl (fun hh => ?_) (fun hh => ?_)
  · rw [if_pos hh] at h
    refine go_iconst hc dX5_read_101 ci_0 ?_
    refine go_istore_n hc (lv1 := [.ref 48, .null, .null, .int (0 : Int32), .int l4]) dX5_read_102 rfl hL (by decide) (fun _ _ e => by cases e; rfl) rfl ?_
    refine go_iinc hc (lv1 := [.ref 48, .null, .null, .int (0 : Int32), .int (l4 + 1)]) dX5_read_103 rfl ci_1 hL (by decide) (fun _ _ e => by cases e; rfl) rfl ?_
    refine go_goto (tgt := 61) hc dX5_read_106 rfl ?_
    exact hrc61 (0 : Int32) (l4 + 1) _ h
  · rw [if_neg hh] at h
    refine go_aload_n hc dX5_read_90 rfl rfl ?_
    obtain ⟨r4, σ5, hf6, h⟩ := obi_some h
    refine go_callVi hc ho cmX5_goesOn mlX5_68 dX5_read_91 ok_48 (As := []) (rest := []) (rX5_goesOn (N := 1) hf6 (Nat.le_refl _)) rfl (Nat.le_trans (Nat.le_of_ble_eq_true rfl) hN) rfl (Nat.le_of_ble_eq_true rfl) (Or.inl hz) ?_
    refine go_if_eq (tgt := 101) hc dX5_read_94 rfl (fun hh => ?_) (fun hh => ?_)
    · rw [if_pos hh] at h
      refine go_iconst hc dX5_read_101 ci_0 ?_
      refine go_istore_n hc (lv1 := [.ref 48, .null, .null, .int (0 : Int32), .int l4]) dX5_read_102 rfl hL (by decide) (fun _ _ e => by cases e; rfl) rfl ?_
      refine go_iinc hc (lv1 := [.ref 48, .null, .null, .int (0 : Int32), .int (l4 + 1)]) dX5_read_103 rfl ci_1 hL (by decide) (fun _ _ e => by cases e; rfl) rfl ?_
      refine go_goto (tgt := 61) hc dX5_read_106 rfl ?_
      exact hrc61 (0 : Int32) (l4 + 1) _ h
    · rw [if_neg hh] at h
      refine go_iconst hc dX5_read_97 ci_1 ?_
      refine go_goto (tgt := 102) hc dX5_read_98 rfl ?_
      refine go_istore_n hc (lv1 := [.ref 48, .null, .null, .int (1 : Int32), .int l4]) dX5_read_102 rfl hL (by decide) (fun _ _ e => by cases e; rfl) rfl ?_
      refine go_iinc hc (lv1 := [.ref 48, .null, .null, .int (1 : Int32), .int (l4 + 1)]) dX5_read_103 rfl ci_1 hL (by decide) (fun _ _ e => by cases e; rfl) rfl ?_
      refine go_goto (tgt := 61) hc dX5_read_106 rfl ?_
      exact hrc61 (1 : Int32) (l4 + 1) _ h
def fX5_read_b61 : Nat → Int32 → Int32 → OM → Option OM
  | 0, _, _, _ => none
  | n + 1, l3, l4, σ =>
    if (900 : Int32) < l4 then (
     fX5_read_b109 σ)
    else (if l3 = 0 then (
     fX5_read_b109 σ)
    else (if l4 = 0 then (
     fX5_read_b84 (fX5_read_b61 n) l4 (1 : Int32) σ)
    else (fX5_read_b84 (fX5_read_b61 n) l4 (0 : Int32) σ)))
set_option maxRecDepth 100000 in
set_option maxHeartbeats 4000000 in
theorem rX5_read_b61 {K : OK} (hc : kcc K = cX5_read) (ho : kow K = RX5) (hL : knL K = 5) (hN : 6 ≤ kN K) (hr : (kme K).sig.returnType = none) {σ0 : OM} (hE : oEnd K (none) σ0) (hz : kz K = 0) : ∀ (n : Nat) (l3 : Int32) (l4 : Int32) (σ : OM), fX5_read_b61 n l3 l4 σ = some σ0 → Go K 61 [.ref 48, .null, .null, .int l3, .int l4] [] σ := by
  intro n
  induction n with
  | zero =>
    intro l3 l4 σ h
    cases h
  | succ n ih =>
    intro l3 l4 σ h
    rw [fX5_read_b61] at h
    refine go_iload hc dX5_read_61 rfl ?_
    refine go_sipush hc dX5_read_63 cs_900 ?_
    refine go_icmp_gt (tgt := 109) hc dX5_read_66 rfl (fun hh => ?_) (fun hh => ?_)
    · rw [if_pos hh] at h
      refine go_mask [true, false, false, false, false] (lv1 := [.ref 48, .null, .null, .null, .null]) rfl ?_
      exact rX5_read_b109 hc ho hL hN hr hE hz h
    · rw [if_neg hh] at h
      refine go_iload_n hc dX5_read_69 rfl rfl ?_
      refine go_if_eq (tgt := 109) hc dX5_read_70 rfl (fun hh => ?_) (fun hh => ?_)
      · rw [if_pos hh] at h
        refine go_mask [true, false, false, false, false] (lv1 := [.ref 48, .null, .null, .null, .null]) rfl ?_
        exact rX5_read_b109 hc ho hL hN hr hE hz h
      · rw [if_neg hh] at h
        refine go_aload_n hc dX5_read_73 rfl rfl ?_
        refine go_iload hc dX5_read_74 rfl ?_
        refine go_if_ne (tgt := 83) hc dX5_read_76 rfl (fun hh => ?_) (fun hh => ?_)
        · rw [if_neg hh] at h
          refine go_iconst hc dX5_read_83 ci_0 ?_
          refine go_mask [true, false, false, false, true] (lv1 := [.ref 48, .null, .null, .null, .int l4]) rfl ?_
          exact rX5_read_b84 hc ho hL hN hr hE hz ih h
        · rw [if_pos hh] at h
          refine go_iconst hc dX5_read_79 ci_1 ?_
          refine go_goto (tgt := 84) hc dX5_read_80 rfl ?_
          refine go_mask [true, false, false, false, true] (lv1 := [.ref 48, .null, .null, .null, .int l4]) rfl ?_
          exact rX5_read_b84 hc ho hL hN hr hE hz ih h
def fX5_read_b48 (l2 : Int32) (σ : OM) : Option OM :=
  obv (fX6_begin l2 σ) (fun σ2 =>
  fX5_read_b61 oF (1 : Int32) (0 : Int32) σ2)
set_option maxRecDepth 100000 in
set_option maxHeartbeats 4000000 in
theorem rX5_read_b48 {K : OK} (hc : kcc K = cX5_read) (ho : kow K = RX5) (hL : knL K = 5) (hN : 6 ≤ kN K) (hr : (kme K).sig.returnType = none) {σ0 : OM} (hE : oEnd K (none) σ0) (hz : kz K = 0) {l2 : Int32} {σ : OM} (h : fX5_read_b48 l2 σ = some σ0) : Go K 48 [.ref 48, .null, .int l2, .null, .null] [] σ := by
  unfold fX5_read_b48 at h
  refine go_aload_n hc dX5_read_48 rfl rfl ?_
  refine go_getC (b := 43) rfl hc ho flX5_37 dX5_read_49 ok_48 ?_
  refine go_iload_n hc dX5_read_52 rfl rfl ?_
  obtain ⟨σ2, hf3, h⟩ := obv_some h
  refine go_callVv hc ho cmX6_begin mlX5_60 dX5_read_53 ok_43 (As := [.int l2]) (rest := []) (rX6_begin (N := 3) hf3 (Nat.le_refl _)) rfl (Nat.le_trans (Nat.le_of_ble_eq_true rfl) hN) rfl (Nat.le_of_ble_eq_true rfl) (Or.inl hz) ?_
  refine go_iconst hc dX5_read_56 ci_1 ?_
  refine go_istore_n hc (lv1 := [.ref 48, .null, .int l2, .int (1 : Int32), .null]) dX5_read_57 rfl hL (by decide) (fun _ _ e => by cases e; rfl) rfl ?_
  refine go_iconst hc dX5_read_58 ci_0 ?_
  refine go_istore hc (lv1 := [.ref 48, .null, .int l2, .int (1 : Int32), .int (0 : Int32)]) dX5_read_59 hL (by decide) (fun _ _ e => by cases e; rfl) rfl ?_
  refine go_mask [true, false, false, true, true] (lv1 := [.ref 48, .null, .null, .int (1 : Int32), .int (0 : Int32)]) rfl ?_
  exact rX5_read_b61 hc ho hL hN hr hE hz oF (1 : Int32) (0 : Int32) _ h
def fX5_read_b29 : Nat → Int32 → Int32 → OM → Option OM
  | 0, _, _, _ => none
  | n + 1, l2, l3, σ =>
    if (11 : Int32) ≤ l3 then (
     fX5_read_b48 l2 σ)
    else (ogd (oin l3 11) (
    fX5_read_b29 n l2 (l3 + 1) (sI σ 49 l3.toNatClampNeg (0 : Int32))))
set_option maxRecDepth 100000 in
set_option maxHeartbeats 4000000 in
theorem rX5_read_b29 {K : OK} (hc : kcc K = cX5_read) (ho : kow K = RX5) (hL : knL K = 5) (hN : 6 ≤ kN K) (hr : (kme K).sig.returnType = none) {σ0 : OM} (hE : oEnd K (none) σ0) (hz : kz K = 0) : ∀ (n : Nat) (l2 : Int32) (l3 : Int32) (σ : OM), fX5_read_b29 n l2 l3 σ = some σ0 → Go K 29 [.ref 48, .null, .int l2, .int l3, .null] [] σ := by
  intro n
  induction n with
  | zero =>
    intro l2 l3 σ h
    cases h
  | succ n ih =>
    intro l2 l3 σ h
    rw [fX5_read_b29] at h
    refine go_iload_n hc dX5_read_29 rfl rfl ?_
    refine go_bipush hc dX5_read_30 cb_11 ?_
    refine go_icmp_ge (tgt := 48) hc dX5_read_32 rfl (fun hh => ?_) (fun hh => ?_)
    · rw [if_pos hh] at h
      refine go_mask [true, false, true, false, false] (lv1 := [.ref 48, .null, .int l2, .null, .null]) rfl ?_
      exact rX5_read_b48 hc ho hL hN hr hE hz h
    · rw [if_neg hh] at h
      refine go_aload_n hc dX5_read_35 rfl rfl ?_
      refine go_getC (b := 49) rfl hc ho flX5_13 dX5_read_36 ok_48 ?_
      refine go_iload_n hc dX5_read_39 rfl rfl ?_
      refine go_iconst hc dX5_read_40 ci_0 ?_
      obtain ⟨hg1, h⟩ := ogd_some h
      refine go_iast hc dX5_read_41 ok_49 ol_49 hg1 rfl ?_
      refine go_iinc hc (lv1 := [.ref 48, .null, .int l2, .int (l3 + 1), .null]) dX5_read_42 rfl ci_1 hL (by decide) (fun _ _ e => by cases e; rfl) rfl ?_
      refine go_goto (tgt := 29) hc dX5_read_45 rfl ?_
      exact ih l2 (l3 + 1) _ h
def fX5_read (wx0 : Nat) (x1 : Int32) (σ : OM) : Option OM :=
  ogd (decide (okd (mR (sR σ 48 1 wx0) 48 1) = 8)) (
  obv (fX8_clear (mR (sR σ 48 1 wx0) 48 1) (sR σ 48 1 wx0)) (fun σ3 =>
  fX5_read_b29 oF x1 (0 : Int32) (sI (sI (sI σ3 48 2 (0 : Int32)) 48 3 (0 : Int32)) 48 8 (0 : Int32))))
set_option maxRecDepth 100000 in
set_option maxHeartbeats 4000000 in
theorem rX5_read {N : Nat} {wx0 : Nat} {x1 : Int32} {σ : OM} {σ0 : OM} (hwx0 : okd wx0 = 8) (h : fX5_read wx0 x1 σ = some σ0) (hN0 : 6 ≤ N) : oEv N MX5_read [.ref 48, .ref wx0, .int x1] σ (none) σ0 := by
  refine oEv_of (lv := [.ref 48, .ref wx0, .int x1, .null, .null]) (by decide +kernel) (fun g q hq => hq) (fun g => Nat.le_of_ble_eq_true rfl) ?_
  intro K hc ho hL hN1 hr hE hz
  have hN : 6 ≤ kN K := by rw [hN1]; exact hN0
  unfold fX5_read at h
  refine go_aload_n hc dX5_read_0 rfl rfl ?_
  refine go_aload_n hc dX5_read_1 rfl rfl ?_
  refine go_putR hc ho fpX5_41 dX5_read_2 ok_48 (fun _ => rfl) (fun _ => rfl) ?_
  refine go_aload_n hc dX5_read_5 rfl rfl ?_
  obtain ⟨hg1, h⟩ := ogd_some h
  refine go_getR hc ho flX5_41 dX5_read_6 ok_48 ?_
  obtain ⟨σ3, hf4, h⟩ := obv_some h
  refine go_callVv hc ho cmX8_clear mlX5_45 dX5_read_9 (of_decide_eq_true hg1) (As := []) (rest := []) (rX8_clear (N := 1) (of_decide_eq_true hg1) hf4 (Nat.le_refl _)) rfl (Nat.le_trans (Nat.le_of_ble_eq_true rfl) hN) rfl (Nat.le_of_ble_eq_true rfl) (Or.inl hz) ?_
  refine go_aload_n hc dX5_read_12 rfl rfl ?_
  refine go_iconst hc dX5_read_13 ci_0 ?_
  refine go_putI hc ho fpX5_50 dX5_read_14 ok_48 (fun g => oni g _) (fun _ => rfl) ?_
  refine go_aload_n hc dX5_read_17 rfl rfl ?_
  refine go_iconst hc dX5_read_18 ci_0 ?_
  refine go_putI hc ho fpX5_54 dX5_read_19 ok_48 (fun g => oni g _) (fun _ => rfl) ?_
  refine go_aload_n hc dX5_read_22 rfl rfl ?_
  refine go_iconst hc dX5_read_23 ci_0 ?_
  refine go_putI hc ho fpX5_57 dX5_read_24 ok_48 (fun g => oni g _) (fun _ => rfl) ?_
  refine go_iconst hc dX5_read_27 ci_0 ?_
  refine go_istore_n hc (lv1 := [.ref 48, .ref wx0, .int x1, .int (0 : Int32), .null]) dX5_read_28 rfl hL (by decide) (fun _ _ e => by cases e; rfl) rfl ?_
  refine go_mask [true, false, true, true, false] (lv1 := [.ref 48, .null, .int x1, .int (0 : Int32), .null]) rfl ?_
  exact rX5_read_b29 hc ho hL hN hr hE hz oF x1 (0 : Int32) _ h
def fX0_clear (σ : OM) : Option OM :=
  some (sI σ 61 3 (0 : Int32))
set_option maxRecDepth 100000 in
set_option maxHeartbeats 4000000 in
theorem rX0_clear {N : Nat} {σ : OM} {σ0 : OM} (h : fX0_clear σ = some σ0) (hN0 : 0 ≤ N) : oEv N MX0_clear [.ref 61] σ (none) σ0 := by
  refine oEv_of (lv := [.ref 61]) (by decide +kernel) (fun g q hq => hq) (fun g => Nat.le_of_ble_eq_true rfl) ?_
  intro K hc ho hL hN1 hr hE hz
  have hN : 0 ≤ kN K := by rw [hN1]; exact hN0
  unfold fX0_clear at h
  refine go_aload_n hc dX0_clear_0 rfl rfl ?_
  refine go_iconst hc dX0_clear_1 ci_0 ?_
  refine go_putI hc ho fpX0_19 dX0_clear_2 ok_61 (fun g => oni g _) (fun _ => rfl) ?_
  exact go_vret hc (oend_v h hE) hr dX0_clear_5
def fX9_answer (x0 : Int32) (σ : OM) : Option (Int32 × OM) :=
  some (x0, sI σ 0 9 (0 : Int32))
set_option maxRecDepth 100000 in
set_option maxHeartbeats 4000000 in
theorem rX9_answer {N : Nat} {x0 : Int32} {σ : OM} {r0 : Int32} {σ0 : OM} (h : fX9_answer x0 σ = some (r0, σ0)) (hN0 : 0 ≤ N) : oEv N MX9_answer [.ref 0, .int x0] σ (some (.int r0)) σ0 := by
  refine oEv_of (lv := [.ref 0, .int x0]) (by decide +kernel) (fun g q hq => hq) (fun g => Nat.le_of_ble_eq_true rfl) ?_
  intro K hc ho hL hN1 hr hE hz
  have hN : 0 ≤ kN K := by rw [hN1]; exact hN0
  unfold fX9_answer at h
  refine go_aload_n hc dX9_answer_0 rfl rfl ?_
  refine go_iconst hc dX9_answer_1 ci_0 ?_
  refine go_putI hc ho fpX9_106 dX9_answer_2 ok_0 (fun g => oni g _) (fun _ => rfl) ?_
  refine go_iload_n hc dX9_answer_5 rfl rfl ?_
  exact go_iret hc (oend_i h hE) hr dX9_answer_6
def fX9_well (x0 : Int32) (σ : OM) : Option (Int32 × OM) :=
  if x0 < 0 then (
   obi (fX9_refuse (2 : Int32) σ) (fun r1 σ2 =>
   some (r1, σ2)))
  else (if x0 ≤ (mI σ 43 1) then (
   ogd (decide (okd (mR σ 0 1) = 8)) (
   obv (fX5_read (mR σ 0 1) x0 σ) (fun σ6 =>
   if (mI (sI (sI (sI σ6 43 1 (0 : Int32)) 0 10 (mI (sI σ6 43 1 (0 : Int32)) 48 2)) 0 11 (mI (sI (sI σ6 43 1 (0 : Int32)) 0 10 (mI (sI σ6 43 1 (0 : Int32)) 48 2)) 48 3)) 0 10) = 0 then (
    ogd (decide (okd (mR (sI (sI (sI σ6 43 1 (0 : Int32)) 0 10 (mI (sI σ6 43 1 (0 : Int32)) 48 2)) 0 11 (mI (sI (sI σ6 43 1 (0 : Int32)) 0 10 (mI (sI σ6 43 1 (0 : Int32)) 48 2)) 48 3)) 0 0) = 8)) (
    ogd (decide (okd (mR (sI (sI (sI σ6 43 1 (0 : Int32)) 0 10 (mI (sI σ6 43 1 (0 : Int32)) 48 2)) 0 11 (mI (sI (sI σ6 43 1 (0 : Int32)) 0 10 (mI (sI σ6 43 1 (0 : Int32)) 48 2)) 48 3)) 0 1) = 8)) (
    obv (fX0_clear (sI (sI (sR (sR (sI (sI (sI σ6 43 1 (0 : Int32)) 0 10 (mI (sI σ6 43 1 (0 : Int32)) 48 2)) 0 11 (mI (sI (sI σ6 43 1 (0 : Int32)) 0 10 (mI (sI σ6 43 1 (0 : Int32)) 48 2)) 48 3)) 0 0 (mR (sI (sI (sI σ6 43 1 (0 : Int32)) 0 10 (mI (sI σ6 43 1 (0 : Int32)) 48 2)) 0 11 (mI (sI (sI σ6 43 1 (0 : Int32)) 0 10 (mI (sI σ6 43 1 (0 : Int32)) 48 2)) 48 3)) 0 1)) 0 1 (mR (sI (sI (sI σ6 43 1 (0 : Int32)) 0 10 (mI (sI σ6 43 1 (0 : Int32)) 48 2)) 0 11 (mI (sI (sI σ6 43 1 (0 : Int32)) 0 10 (mI (sI σ6 43 1 (0 : Int32)) 48 2)) 48 3)) 0 0)) 0 7 (1 : Int32)) 0 8 (0 : Int32))) (fun σ11 =>
    ogd (decide (okd (mR σ11 0 0) = 8)) (
    obi (fX9_answer (mI σ11 (mR σ11 0 0) 4) σ11) (fun r14 σ15 =>
    some (r14, σ15)))))))
   else (obi (fX9_refuse (4 : Int32) (sI (sI (sI σ6 43 1 (0 : Int32)) 0 10 (mI (sI σ6 43 1 (0 : Int32)) 48 2)) 0 11 (mI (sI (sI σ6 43 1 (0 : Int32)) 0 10 (mI (sI σ6 43 1 (0 : Int32)) 48 2)) 48 3))) (fun r17 σ18 =>
   some (r17, σ18))))))
  else (obi (fX9_refuse (2 : Int32) σ) (fun r20 σ21 =>
  some (r20, σ21))))
set_option maxRecDepth 100000 in
set_option maxHeartbeats 4000000 in
theorem rX9_well {N : Nat} {x0 : Int32} {σ : OM} {r0 : Int32} {σ0 : OM} (h : fX9_well x0 σ = some (r0, σ0)) (hN0 : 7 ≤ N) : oEv N MX9_well [.ref 0, .int x0] σ (some (.int r0)) σ0 := by
  refine oEv_of (lv := [.ref 0, .int x0, .null]) (by decide +kernel) (fun g q hq => hq) (fun g => Nat.le_of_ble_eq_true rfl) ?_
  intro K hc ho hL hN1 hr hE hz
  have hN : 7 ≤ kN K := by rw [hN1]; exact hN0
  unfold fX9_well at h
  refine go_iload_n hc dX9_well_0 rfl rfl ?_
  refine go_if_lt (tgt := 15) hc dX9_well_1 rfl (fun hh => ?_) (fun hh => ?_)
  · rw [if_pos hh] at h
    refine go_aload_n hc dX9_well_15 rfl rfl ?_
    refine go_iconst hc dX9_well_16 ci_2 ?_
    obtain ⟨r1, σ2, hf3, h⟩ := obi_some h
    refine go_callVi hc ho cmX9_refuse mlX9_70 dX9_well_17 ok_0 (As := [.int (2 : Int32)]) (rest := []) (rX9_refuse (N := 0) hf3 (Nat.le_refl _)) rfl (Nat.le_trans (Nat.le_of_ble_eq_true rfl) hN) rfl (Nat.le_of_ble_eq_true rfl) (Or.inl hz) ?_
    exact go_iret hc (oend_i h hE) hr dX9_well_20
  · rw [if_neg hh] at h
    refine go_iload_n hc dX9_well_4 rfl rfl ?_
    refine go_aload_n hc dX9_well_5 rfl rfl ?_
    refine go_getC (b := 43) rfl hc ho flX9_22 dX9_well_6 ok_0 ?_
    refine go_getI hc ho flX9_62 dX9_well_9 ok_43 ?_
    refine go_icmp_le (tgt := 21) hc dX9_well_12 rfl (fun hh => ?_) (fun hh => ?_)
    · rw [if_pos hh] at h
      refine go_aload_n hc dX9_well_21 rfl rfl ?_
      refine go_getC (b := 48) rfl hc ho flX9_31 dX9_well_22 ok_0 ?_
      refine go_aload_n hc dX9_well_25 rfl rfl ?_
      obtain ⟨hg4, h⟩ := ogd_some h
      refine go_getR hc ho flX9_16 dX9_well_26 ok_0 ?_
      refine go_iload_n hc dX9_well_29 rfl rfl ?_
      obtain ⟨σ6, hf7, h⟩ := obv_some h
      refine go_callVv hc ho cmX5_read mlX9_74 dX9_well_30 ok_48 (As := [.ref (mR σ 0 1), .int x0]) (rest := []) (rX5_read (N := 6) (of_decide_eq_true hg4) hf7 (Nat.le_refl _)) rfl (Nat.le_trans (Nat.le_of_ble_eq_true rfl) hN) rfl (Nat.le_of_ble_eq_true rfl) (Or.inl hz) ?_
      refine go_aload_n hc dX9_well_33 rfl rfl ?_
      refine go_getC (b := 43) rfl hc ho flX9_22 dX9_well_34 ok_0 ?_
      refine go_iconst hc dX9_well_37 ci_0 ?_
      refine go_putI hc ho fpX9_62 dX9_well_38 ok_43 (fun g => oni g _) (fun _ => rfl) ?_
      refine go_aload_n hc dX9_well_41 rfl rfl ?_
      refine go_aload_n hc dX9_well_42 rfl rfl ?_
      refine go_getC (b := 48) rfl hc ho flX9_31 dX9_well_43 ok_0 ?_
      refine go_getI hc ho flX9_78 dX9_well_46 ok_48 ?_
      refine go_putI hc ho fpX9_81 dX9_well_49 ok_0 (fun g => oni g _) (fun _ => rfl) ?_
      refine go_aload_n hc dX9_well_52 rfl rfl ?_
      refine go_aload_n hc dX9_well_53 rfl rfl ?_
      refine go_getC (b := 48) rfl hc ho flX9_31 dX9_well_54 ok_0 ?_
      refine go_getI hc ho flX9_84 dX9_well_57 ok_48 ?_
      refine go_putI hc ho fpX9_87 dX9_well_60 ok_0 (fun g => oni g _) (fun _ => rfl) ?_
      refine go_aload_n hc dX9_well_63 rfl rfl ?_
      refine go_getI hc ho flX9_81 dX9_well_64 ok_0 ?_
      refine go_if_eq (tgt := 76) hc dX9_well_67 rfl (fun hh => ?_) (fun hh => ?_)
      · rw [if_pos hh] at h
        refine go_aload_n hc dX9_well_76 rfl rfl ?_
        obtain ⟨hg8, h⟩ := ogd_some h
        refine go_getR hc ho flX9_10 dX9_well_77 ok_0 ?_
        refine go_astore_n hc (lv1 := [.ref 0, .int x0, .ref (mR (sI (sI (sI σ6 43 1 (0 : Int32)) 0 10 (mI (sI σ6 43 1 (0 : Int32)) 48 2)) 0 11 (mI (sI (sI σ6 43 1 (0 : Int32)) 0 10 (mI (sI σ6 43 1 (0 : Int32)) 48 2)) 48 3)) 0 0)]) dX9_well_80 rfl hL (by decide) (fun _ _ e => by cases e; rfl) rfl ?_
        refine go_aload_n hc dX9_well_81 rfl rfl ?_
        refine go_aload_n hc dX9_well_82 rfl rfl ?_
        obtain ⟨hg9, h⟩ := ogd_some h
        refine go_getR hc ho flX9_16 dX9_well_83 ok_0 ?_
        refine go_putR hc ho fpX9_10 dX9_well_86 ok_0 (fun _ => rfl) (fun _ => rfl) ?_
        refine go_aload_n hc dX9_well_89 rfl rfl ?_
        refine go_aload_n hc dX9_well_90 rfl rfl ?_
        refine go_putR hc ho fpX9_16 dX9_well_91 ok_0 (fun _ => rfl) (fun _ => rfl) ?_
        refine go_aload_n hc dX9_well_94 rfl rfl ?_
        refine go_iconst hc dX9_well_95 ci_1 ?_
        refine go_putI hc ho fpX9_90 dX9_well_96 ok_0 (fun _ => rfl) (fun _ => rfl) ?_
        refine go_aload_n hc dX9_well_99 rfl rfl ?_
        refine go_iconst hc dX9_well_100 ci_0 ?_
        refine go_putI hc ho fpX9_94 dX9_well_101 ok_0 (fun g => oni g _) (fun _ => rfl) ?_
        refine go_aload_n hc dX9_well_104 rfl rfl ?_
        refine go_getC (b := 61) rfl hc ho flX9_51 dX9_well_105 ok_0 ?_
        obtain ⟨σ11, hf12, h⟩ := obv_some h
        refine go_callVv hc ho cmX0_clear mlX9_97 dX9_well_108 ok_61 (As := []) (rest := []) (rX0_clear (N := 0) hf12 (Nat.le_refl _)) rfl (Nat.le_trans (Nat.le_of_ble_eq_true rfl) hN) rfl (Nat.le_of_ble_eq_true rfl) (Or.inl hz) ?_
        refine go_aload_n hc dX9_well_111 rfl rfl ?_
        refine go_aload_n hc dX9_well_112 rfl rfl ?_
        obtain ⟨hg13, h⟩ := ogd_some h
        refine go_getR hc ho flX9_10 dX9_well_113 ok_0 ?_
        refine go_getI hc ho flX9_100 dX9_well_116 (of_decide_eq_true hg13) ?_
        obtain ⟨r14, σ15, hf16, h⟩ := obi_some h
        refine go_callVi hc ho cmX9_answer mlX9_103 dX9_well_119 ok_0 (As := [.int (mI σ11 (mR σ11 0 0) 4)]) (rest := []) (rX9_answer (N := 0) hf16 (Nat.le_refl _)) rfl (Nat.le_trans (Nat.le_of_ble_eq_true rfl) hN) rfl (Nat.le_of_ble_eq_true rfl) (Or.inl hz) ?_
        exact go_iret hc (oend_i h hE) hr dX9_well_122
      · rw [if_neg hh] at h
        refine go_aload_n hc dX9_well_70 rfl rfl ?_
        refine go_iconst hc dX9_well_71 ci_4 ?_
        obtain ⟨r17, σ18, hf19, h⟩ := obi_some h
        refine go_callVi hc ho cmX9_refuse mlX9_70 dX9_well_72 ok_0 (As := [.int (4 : Int32)]) (rest := []) (rX9_refuse (N := 0) hf19 (Nat.le_refl _)) rfl (Nat.le_trans (Nat.le_of_ble_eq_true rfl) hN) rfl (Nat.le_of_ble_eq_true rfl) (Or.inl hz) ?_
        exact go_iret hc (oend_i h hE) hr dX9_well_75
    · rw [if_neg hh] at h
      refine go_aload_n hc dX9_well_15 rfl rfl ?_
      refine go_iconst hc dX9_well_16 ci_2 ?_
      obtain ⟨r20, σ21, hf22, h⟩ := obi_some h
      refine go_callVi hc ho cmX9_refuse mlX9_70 dX9_well_17 ok_0 (As := [.int (2 : Int32)]) (rest := []) (rX9_refuse (N := 0) hf22 (Nat.le_refl _)) rfl (Nat.le_trans (Nat.le_of_ble_eq_true rfl) hN) rfl (Nat.le_of_ble_eq_true rfl) (Or.inl hz) ?_
      exact go_iret hc (oend_i h hE) hr dX9_well_20
def fX9_fault (σ : OM) : Option (Int32 × OM) :=
  some ((mI σ 0 10), σ)
set_option maxRecDepth 100000 in
set_option maxHeartbeats 4000000 in
theorem rX9_fault {N : Nat} {σ : OM} {r0 : Int32} {σ0 : OM} (h : fX9_fault σ = some (r0, σ0)) (hN0 : 0 ≤ N) : oEv N MX9_fault [.ref 0] σ (some (.int r0)) σ0 := by
  refine oEv_of (lv := [.ref 0]) (by decide +kernel) (fun g q hq => hq) (fun g => Nat.le_of_ble_eq_true rfl) ?_
  intro K hc ho hL hN1 hr hE hz
  have hN : 0 ≤ kN K := by rw [hN1]; exact hN0
  unfold fX9_fault at h
  refine go_aload_n hc dX9_fault_0 rfl rfl ?_
  refine go_getI hc ho flX9_81 dX9_fault_1 ok_0 ?_
  exact go_iret hc (oend_i h hE) hr dX9_fault_4
def fX9_where (σ : OM) : Option (Int32 × OM) :=
  if (mI σ 0 9) = (4 : Int32) then (
   some ((mI σ 0 11), σ))
  else (some (((-1) : Int32), σ))
set_option maxRecDepth 100000 in
set_option maxHeartbeats 4000000 in
theorem rX9_where {N : Nat} {σ : OM} {r0 : Int32} {σ0 : OM} (h : fX9_where σ = some (r0, σ0)) (hN0 : 0 ≤ N) : oEv N MX9_where [.ref 0] σ (some (.int r0)) σ0 := by
  refine oEv_of (lv := [.ref 0]) (by decide +kernel) (fun g q hq => hq) (fun g => Nat.le_of_ble_eq_true rfl) ?_
  intro K hc ho hL hN1 hr hE hz
  have hN : 0 ≤ kN K := by rw [hN1]; exact hN0
  unfold fX9_where at h
  refine go_aload_n hc dX9_where_0 rfl rfl ?_
  refine go_getI hc ho flX9_106 dX9_where_1 ok_0 ?_
  refine go_iconst hc dX9_where_4 ci_4 ?_
  refine go_icmp_ne (tgt := 15) hc dX9_where_5 rfl (fun hh => ?_) (fun hh => ?_)
  · rw [if_neg hh] at h
    refine go_iconst hc dX9_where_15 ci_m1 ?_
    exact go_iret hc (oend_i h hE) hr dX9_where_16
  · rw [if_pos hh] at h
    refine go_aload_n hc dX9_where_8 rfl rfl ?_
    refine go_getI hc ho flX9_87 dX9_where_9 ok_0 ?_
    refine go_goto (tgt := 16) hc dX9_where_12 rfl ?_
    exact go_iret hc (oend_i h hE) hr dX9_where_16
def fX9_isWorld (x0 : Int32) (σ : OM) : Option (Int32 × OM) :=
  if (mI σ 0 7) = 0 then (
   some ((0 : Int32), σ))
  else (if x0 < 0 then (
   some ((0 : Int32), σ))
  else (ogd (decide (okd (mR σ 0 0) = 8)) (
  if ((1 : Int32) <<< ((mI σ ((mR σ 0 0) + 1) 0) &&& 31)) ≤ x0 then (
   some ((0 : Int32), σ))
  else (if (64 : Int32) ≤ x0 then (
   some ((0 : Int32), σ))
  else (some ((1 : Int32), σ))))))
set_option maxRecDepth 100000 in
set_option maxHeartbeats 4000000 in
theorem rX9_isWorld {N : Nat} {x0 : Int32} {σ : OM} {r0 : Int32} {σ0 : OM} (h : fX9_isWorld x0 σ = some (r0, σ0)) (hN0 : 0 ≤ N) : oEv N MX9_isWorld [.ref 0, .int x0] σ (some (.int r0)) σ0 := by
  refine oEv_of (lv := [.ref 0, .int x0]) (by decide +kernel) (fun g q hq => hq) (fun g => Nat.le_of_ble_eq_true rfl) ?_
  intro K hc ho hL hN1 hr hE hz
  have hN : 0 ≤ kN K := by rw [hN1]; exact hN0
  unfold fX9_isWorld at h
  refine go_aload_n hc dX9_isWorld_0 rfl rfl ?_
  refine go_getI hc ho flX9_90 dX9_isWorld_1 ok_0 ?_
  refine go_if_eq (tgt := 37) hc dX9_isWorld_4 rfl (fun hh => ?_) (fun hh => ?_)
  · rw [if_pos hh] at h
    refine go_iconst hc dX9_isWorld_37 ci_0 ?_
    exact go_zret hc (oend_i h hE) hr rfl dX9_isWorld_38
  · rw [if_neg hh] at h
    refine go_iload_n hc dX9_isWorld_7 rfl rfl ?_
    refine go_if_lt (tgt := 37) hc dX9_isWorld_8 rfl (fun hh => ?_) (fun hh => ?_)
    · rw [if_pos hh] at h
      refine go_iconst hc dX9_isWorld_37 ci_0 ?_
      exact go_zret hc (oend_i h hE) hr rfl dX9_isWorld_38
    · rw [if_neg hh] at h
      refine go_iload_n hc dX9_isWorld_11 rfl rfl ?_
      refine go_iconst hc dX9_isWorld_12 ci_1 ?_
      refine go_aload_n hc dX9_isWorld_13 rfl rfl ?_
      obtain ⟨hg1, h⟩ := ogd_some h
      refine go_getR hc ho flX9_10 dX9_isWorld_14 ok_0 ?_
      refine go_getC (b := (mR σ 0 0) + 1) (ow_c0_0 (of_decide_eq_true hg1)) hc ho flX9_37 dX9_isWorld_17 (of_decide_eq_true hg1) ?_
      refine go_getI hc ho flX9_184 dX9_isWorld_20 (ow_k1 (of_decide_eq_true hg1)) ?_
      refine go_ishl hc dX9_isWorld_23 ?_
      refine go_icmp_ge (tgt := 37) hc dX9_isWorld_24 rfl (fun hh => ?_) (fun hh => ?_)
      · rw [if_pos hh] at h
        refine go_iconst hc dX9_isWorld_37 ci_0 ?_
        exact go_zret hc (oend_i h hE) hr rfl dX9_isWorld_38
      · rw [if_neg hh] at h
        refine go_iload_n hc dX9_isWorld_27 rfl rfl ?_
        refine go_bipush hc dX9_isWorld_28 cb_64 ?_
        refine go_icmp_ge (tgt := 37) hc dX9_isWorld_30 rfl (fun hh => ?_) (fun hh => ?_)
        · rw [if_pos hh] at h
          refine go_iconst hc dX9_isWorld_37 ci_0 ?_
          exact go_zret hc (oend_i h hE) hr rfl dX9_isWorld_38
        · rw [if_neg hh] at h
          refine go_iconst hc dX9_isWorld_33 ci_1 ?_
          refine go_goto (tgt := 38) hc dX9_isWorld_34 rfl ?_
          exact go_zret hc (oend_i h hE) hr rfl dX9_isWorld_38
def fX9_canBe (x0 : Int32) (σ : OM) : Option (Int32 × OM) :=
  obi (fX9_isWorld x0 σ) (fun r1 σ2 =>
  if r1 = 0 then (
   obi (fX9_refuse (1 : Int32) σ2) (fun r11 σ12 =>
   some (r11, σ12)))
  else (ogd (decide (okd (mR σ2 0 0) = 8)) (
  obi (fX9_bitOf (mL σ2 ((mR σ2 0 0) + 1) 3) x0 σ2) (fun r5 σ6 =>
  obi (fX9_answer r5 σ6) (fun r8 σ9 =>
  some (r8, σ9))))))
set_option maxRecDepth 100000 in
set_option maxHeartbeats 4000000 in
theorem rX9_canBe {N : Nat} {x0 : Int32} {σ : OM} {r0 : Int32} {σ0 : OM} (h : fX9_canBe x0 σ = some (r0, σ0)) (hN0 : 1 ≤ N) : oEv N MX9_canBe [.ref 0, .int x0] σ (some (.int r0)) σ0 := by
  refine oEv_of (lv := [.ref 0, .int x0]) (by decide +kernel) (fun g q hq => hq) (fun g => Nat.le_of_ble_eq_true rfl) ?_
  intro K hc ho hL hN1 hr hE hz
  have hN : 1 ≤ kN K := by rw [hN1]; exact hN0
  unfold fX9_canBe at h
  refine go_aload_n hc dX9_canBe_0 rfl rfl ?_
  refine go_iload_n hc dX9_canBe_1 rfl rfl ?_
  obtain ⟨r1, σ2, hf3, h⟩ := obi_some h
  refine go_callVi hc ho cmX9_isWorld mlX9_109 dX9_canBe_2 ok_0 (As := [.int x0]) (rest := []) (rX9_isWorld (N := 0) hf3 (Nat.le_refl _)) rfl (Nat.le_trans (Nat.le_of_ble_eq_true rfl) hN) rfl (Nat.le_of_ble_eq_true rfl) (Or.inl hz) ?_
  refine go_if_ne (tgt := 14) hc dX9_canBe_5 rfl (fun hh => ?_) (fun hh => ?_)
  · rw [if_neg hh] at h
    refine go_aload_n hc dX9_canBe_14 rfl rfl ?_
    refine go_aload_n hc dX9_canBe_15 rfl rfl ?_
    obtain ⟨hg4, h⟩ := ogd_some h
    refine go_getR hc ho flX9_10 dX9_canBe_16 ok_0 ?_
    refine go_getC (b := (mR σ2 0 0) + 1) (ow_c0_0 (of_decide_eq_true hg4)) hc ho flX9_37 dX9_canBe_19 (of_decide_eq_true hg4) ?_
    refine go_getL hc ho flX9_113 dX9_canBe_22 (ow_k1 (of_decide_eq_true hg4)) ?_
    refine go_iload_n hc dX9_canBe_25 rfl rfl ?_
    obtain ⟨r5, σ6, hf7, h⟩ := obi_some h
    refine go_callSi hc ho cmX9_bitOf mlX9_119 dX9_canBe_26 (As := [.long (mL σ2 ((mR σ2 0 0) + 1) 3), .int x0]) (rest := [.ref 0]) (rX9_bitOf (N := 0) hf7 (Nat.le_refl _)) rfl (Nat.le_trans (Nat.le_of_ble_eq_true rfl) hN) rfl (Nat.le_of_ble_eq_true rfl) (Or.inl hz) ?_
    obtain ⟨r8, σ9, hf10, h⟩ := obi_some h
    refine go_callVi hc ho cmX9_answer mlX9_103 dX9_canBe_29 ok_0 (As := [.int r5]) (rest := []) (rX9_answer (N := 0) hf10 (Nat.le_refl _)) rfl (Nat.le_trans (Nat.le_of_ble_eq_true rfl) hN) rfl (Nat.le_of_ble_eq_true rfl) (Or.inl hz) ?_
    exact go_iret hc (oend_i h hE) hr dX9_canBe_32
  · rw [if_pos hh] at h
    refine go_aload_n hc dX9_canBe_8 rfl rfl ?_
    refine go_iconst hc dX9_canBe_9 ci_1 ?_
    obtain ⟨r11, σ12, hf13, h⟩ := obi_some h
    refine go_callVi hc ho cmX9_refuse mlX9_70 dX9_canBe_10 ok_0 (As := [.int (1 : Int32)]) (rest := []) (rX9_refuse (N := 0) hf13 (Nat.le_refl _)) rfl (Nat.le_trans (Nat.le_of_ble_eq_true rfl) hN) rfl (Nat.le_of_ble_eq_true rfl) (Or.inl hz) ?_
    exact go_iret hc (oend_i h hE) hr dX9_canBe_13
def fJ13_bitCount_95d88 (x0 : Int64) (σ : OM) : Option (Int32 × OM) :=
  some ((((((((((x0 - (((x0).toUInt64 >>> ((1 : Int32).toInt64.toUInt64 &&& Int64.toUInt64 63)).toInt64 &&& (6148914691236517205 : Int64))) &&& (3689348814741910323 : Int64)) + ((((x0 - (((x0).toUInt64 >>> ((1 : Int32).toInt64.toUInt64 &&& Int64.toUInt64 63)).toInt64 &&& (6148914691236517205 : Int64)))).toUInt64 >>> ((2 : Int32).toInt64.toUInt64 &&& Int64.toUInt64 63)).toInt64 &&& (3689348814741910323 : Int64))) + (((((x0 - (((x0).toUInt64 >>> ((1 : Int32).toInt64.toUInt64 &&& Int64.toUInt64 63)).toInt64 &&& (6148914691236517205 : Int64))) &&& (3689348814741910323 : Int64)) + ((((x0 - (((x0).toUInt64 >>> ((1 : Int32).toInt64.toUInt64 &&& Int64.toUInt64 63)).toInt64 &&& (6148914691236517205 : Int64)))).toUInt64 >>> ((2 : Int32).toInt64.toUInt64 &&& Int64.toUInt64 63)).toInt64 &&& (3689348814741910323 : Int64)))).toUInt64 >>> ((4 : Int32).toInt64.toUInt64 &&& Int64.toUInt64 63)).toInt64) &&& (1085102592571150095 : Int64)) + (((((((x0 - (((x0).toUInt64 >>> ((1 : Int32).toInt64.toUInt64 &&& Int64.toUInt64 63)).toInt64 &&& (6148914691236517205 : Int64))) &&& (3689348814741910323 : Int64)) + ((((x0 - (((x0).toUInt64 >>> ((1 : Int32).toInt64.toUInt64 &&& Int64.toUInt64 63)).toInt64 &&& (6148914691236517205 : Int64)))).toUInt64 >>> ((2 : Int32).toInt64.toUInt64 &&& Int64.toUInt64 63)).toInt64 &&& (3689348814741910323 : Int64))) + (((((x0 - (((x0).toUInt64 >>> ((1 : Int32).toInt64.toUInt64 &&& Int64.toUInt64 63)).toInt64 &&& (6148914691236517205 : Int64))) &&& (3689348814741910323 : Int64)) + ((((x0 - (((x0).toUInt64 >>> ((1 : Int32).toInt64.toUInt64 &&& Int64.toUInt64 63)).toInt64 &&& (6148914691236517205 : Int64)))).toUInt64 >>> ((2 : Int32).toInt64.toUInt64 &&& Int64.toUInt64 63)).toInt64 &&& (3689348814741910323 : Int64)))).toUInt64 >>> ((4 : Int32).toInt64.toUInt64 &&& Int64.toUInt64 63)).toInt64) &&& (1085102592571150095 : Int64))).toUInt64 >>> ((8 : Int32).toInt64.toUInt64 &&& Int64.toUInt64 63)).toInt64) + ((((((((x0 - (((x0).toUInt64 >>> ((1 : Int32).toInt64.toUInt64 &&& Int64.toUInt64 63)).toInt64 &&& (6148914691236517205 : Int64))) &&& (3689348814741910323 : Int64)) + ((((x0 - (((x0).toUInt64 >>> ((1 : Int32).toInt64.toUInt64 &&& Int64.toUInt64 63)).toInt64 &&& (6148914691236517205 : Int64)))).toUInt64 >>> ((2 : Int32).toInt64.toUInt64 &&& Int64.toUInt64 63)).toInt64 &&& (3689348814741910323 : Int64))) + (((((x0 - (((x0).toUInt64 >>> ((1 : Int32).toInt64.toUInt64 &&& Int64.toUInt64 63)).toInt64 &&& (6148914691236517205 : Int64))) &&& (3689348814741910323 : Int64)) + ((((x0 - (((x0).toUInt64 >>> ((1 : Int32).toInt64.toUInt64 &&& Int64.toUInt64 63)).toInt64 &&& (6148914691236517205 : Int64)))).toUInt64 >>> ((2 : Int32).toInt64.toUInt64 &&& Int64.toUInt64 63)).toInt64 &&& (3689348814741910323 : Int64)))).toUInt64 >>> ((4 : Int32).toInt64.toUInt64 &&& Int64.toUInt64 63)).toInt64) &&& (1085102592571150095 : Int64)) + (((((((x0 - (((x0).toUInt64 >>> ((1 : Int32).toInt64.toUInt64 &&& Int64.toUInt64 63)).toInt64 &&& (6148914691236517205 : Int64))) &&& (3689348814741910323 : Int64)) + ((((x0 - (((x0).toUInt64 >>> ((1 : Int32).toInt64.toUInt64 &&& Int64.toUInt64 63)).toInt64 &&& (6148914691236517205 : Int64)))).toUInt64 >>> ((2 : Int32).toInt64.toUInt64 &&& Int64.toUInt64 63)).toInt64 &&& (3689348814741910323 : Int64))) + (((((x0 - (((x0).toUInt64 >>> ((1 : Int32).toInt64.toUInt64 &&& Int64.toUInt64 63)).toInt64 &&& (6148914691236517205 : Int64))) &&& (3689348814741910323 : Int64)) + ((((x0 - (((x0).toUInt64 >>> ((1 : Int32).toInt64.toUInt64 &&& Int64.toUInt64 63)).toInt64 &&& (6148914691236517205 : Int64)))).toUInt64 >>> ((2 : Int32).toInt64.toUInt64 &&& Int64.toUInt64 63)).toInt64 &&& (3689348814741910323 : Int64)))).toUInt64 >>> ((4 : Int32).toInt64.toUInt64 &&& Int64.toUInt64 63)).toInt64) &&& (1085102592571150095 : Int64))).toUInt64 >>> ((8 : Int32).toInt64.toUInt64 &&& Int64.toUInt64 63)).toInt64)).toUInt64 >>> ((16 : Int32).toInt64.toUInt64 &&& Int64.toUInt64 63)).toInt64) + (((((((((x0 - (((x0).toUInt64 >>> ((1 : Int32).toInt64.toUInt64 &&& Int64.toUInt64 63)).toInt64 &&& (6148914691236517205 : Int64))) &&& (3689348814741910323 : Int64)) + ((((x0 - (((x0).toUInt64 >>> ((1 : Int32).toInt64.toUInt64 &&& Int64.toUInt64 63)).toInt64 &&& (6148914691236517205 : Int64)))).toUInt64 >>> ((2 : Int32).toInt64.toUInt64 &&& Int64.toUInt64 63)).toInt64 &&& (3689348814741910323 : Int64))) + (((((x0 - (((x0).toUInt64 >>> ((1 : Int32).toInt64.toUInt64 &&& Int64.toUInt64 63)).toInt64 &&& (6148914691236517205 : Int64))) &&& (3689348814741910323 : Int64)) + ((((x0 - (((x0).toUInt64 >>> ((1 : Int32).toInt64.toUInt64 &&& Int64.toUInt64 63)).toInt64 &&& (6148914691236517205 : Int64)))).toUInt64 >>> ((2 : Int32).toInt64.toUInt64 &&& Int64.toUInt64 63)).toInt64 &&& (3689348814741910323 : Int64)))).toUInt64 >>> ((4 : Int32).toInt64.toUInt64 &&& Int64.toUInt64 63)).toInt64) &&& (1085102592571150095 : Int64)) + (((((((x0 - (((x0).toUInt64 >>> ((1 : Int32).toInt64.toUInt64 &&& Int64.toUInt64 63)).toInt64 &&& (6148914691236517205 : Int64))) &&& (3689348814741910323 : Int64)) + ((((x0 - (((x0).toUInt64 >>> ((1 : Int32).toInt64.toUInt64 &&& Int64.toUInt64 63)).toInt64 &&& (6148914691236517205 : Int64)))).toUInt64 >>> ((2 : Int32).toInt64.toUInt64 &&& Int64.toUInt64 63)).toInt64 &&& (3689348814741910323 : Int64))) + (((((x0 - (((x0).toUInt64 >>> ((1 : Int32).toInt64.toUInt64 &&& Int64.toUInt64 63)).toInt64 &&& (6148914691236517205 : Int64))) &&& (3689348814741910323 : Int64)) + ((((x0 - (((x0).toUInt64 >>> ((1 : Int32).toInt64.toUInt64 &&& Int64.toUInt64 63)).toInt64 &&& (6148914691236517205 : Int64)))).toUInt64 >>> ((2 : Int32).toInt64.toUInt64 &&& Int64.toUInt64 63)).toInt64 &&& (3689348814741910323 : Int64)))).toUInt64 >>> ((4 : Int32).toInt64.toUInt64 &&& Int64.toUInt64 63)).toInt64) &&& (1085102592571150095 : Int64))).toUInt64 >>> ((8 : Int32).toInt64.toUInt64 &&& Int64.toUInt64 63)).toInt64) + ((((((((x0 - (((x0).toUInt64 >>> ((1 : Int32).toInt64.toUInt64 &&& Int64.toUInt64 63)).toInt64 &&& (6148914691236517205 : Int64))) &&& (3689348814741910323 : Int64)) + ((((x0 - (((x0).toUInt64 >>> ((1 : Int32).toInt64.toUInt64 &&& Int64.toUInt64 63)).toInt64 &&& (6148914691236517205 : Int64)))).toUInt64 >>> ((2 : Int32).toInt64.toUInt64 &&& Int64.toUInt64 63)).toInt64 &&& (3689348814741910323 : Int64))) + (((((x0 - (((x0).toUInt64 >>> ((1 : Int32).toInt64.toUInt64 &&& Int64.toUInt64 63)).toInt64 &&& (6148914691236517205 : Int64))) &&& (3689348814741910323 : Int64)) + ((((x0 - (((x0).toUInt64 >>> ((1 : Int32).toInt64.toUInt64 &&& Int64.toUInt64 63)).toInt64 &&& (6148914691236517205 : Int64)))).toUInt64 >>> ((2 : Int32).toInt64.toUInt64 &&& Int64.toUInt64 63)).toInt64 &&& (3689348814741910323 : Int64)))).toUInt64 >>> ((4 : Int32).toInt64.toUInt64 &&& Int64.toUInt64 63)).toInt64) &&& (1085102592571150095 : Int64)) + (((((((x0 - (((x0).toUInt64 >>> ((1 : Int32).toInt64.toUInt64 &&& Int64.toUInt64 63)).toInt64 &&& (6148914691236517205 : Int64))) &&& (3689348814741910323 : Int64)) + ((((x0 - (((x0).toUInt64 >>> ((1 : Int32).toInt64.toUInt64 &&& Int64.toUInt64 63)).toInt64 &&& (6148914691236517205 : Int64)))).toUInt64 >>> ((2 : Int32).toInt64.toUInt64 &&& Int64.toUInt64 63)).toInt64 &&& (3689348814741910323 : Int64))) + (((((x0 - (((x0).toUInt64 >>> ((1 : Int32).toInt64.toUInt64 &&& Int64.toUInt64 63)).toInt64 &&& (6148914691236517205 : Int64))) &&& (3689348814741910323 : Int64)) + ((((x0 - (((x0).toUInt64 >>> ((1 : Int32).toInt64.toUInt64 &&& Int64.toUInt64 63)).toInt64 &&& (6148914691236517205 : Int64)))).toUInt64 >>> ((2 : Int32).toInt64.toUInt64 &&& Int64.toUInt64 63)).toInt64 &&& (3689348814741910323 : Int64)))).toUInt64 >>> ((4 : Int32).toInt64.toUInt64 &&& Int64.toUInt64 63)).toInt64) &&& (1085102592571150095 : Int64))).toUInt64 >>> ((8 : Int32).toInt64.toUInt64 &&& Int64.toUInt64 63)).toInt64)).toUInt64 >>> ((16 : Int32).toInt64.toUInt64 &&& Int64.toUInt64 63)).toInt64)).toUInt64 >>> ((32 : Int32).toInt64.toUInt64 &&& Int64.toUInt64 63)).toInt64).toInt32 &&& (127 : Int32)), σ)
set_option maxRecDepth 100000 in
set_option maxHeartbeats 4000000 in
theorem rJ13_bitCount_95d88 {N : Nat} {x0 : Int64} {σ : OM} {r0 : Int32} {σ0 : OM} (h : fJ13_bitCount_95d88 x0 σ = some (r0, σ0)) (hN0 : 0 ≤ N) : oEv N MJ13_bitCount_95d88 [.long x0] σ (some (.int r0)) σ0 := by
  refine oEv_of (lv := [.long x0, .null]) (by decide +kernel) (fun g q hq => hq) (fun g => Nat.le_of_ble_eq_true rfl) ?_
  intro K hc ho hL hN1 hr hE hz
  have hN : 0 ≤ kN K := by rw [hN1]; exact hN0
  unfold fJ13_bitCount_95d88 at h
  refine go_lload_n hc dJ13_bitCount_95d88_0 rfl rfl ?_
  refine go_lload_n hc dJ13_bitCount_95d88_1 rfl rfl ?_
  refine go_iconst hc dJ13_bitCount_95d88_2 ci_1 ?_
  refine go_lushr hc dJ13_bitCount_95d88_3 ?_
  refine go_ldc2 hc ho klJ13_314 dJ13_bitCount_95d88_4 ?_
  refine go_land hc dJ13_bitCount_95d88_7 ?_
  refine go_lsub hc dJ13_bitCount_95d88_8 ?_
  refine go_lstore_n hc (lv1 := [.long (x0 - (((x0).toUInt64 >>> ((1 : Int32).toInt64.toUInt64 &&& Int64.toUInt64 63)).toInt64 &&& (6148914691236517205 : Int64))), .null]) dJ13_bitCount_95d88_9 rfl hL (by decide) (fun _ e _ => absurd rfl e) rfl ?_
  refine go_lload_n hc dJ13_bitCount_95d88_10 rfl rfl ?_
  refine go_ldc2 hc ho klJ13_316 dJ13_bitCount_95d88_11 ?_
  refine go_land hc dJ13_bitCount_95d88_14 ?_
  refine go_lload_n hc dJ13_bitCount_95d88_15 rfl rfl ?_
  refine go_iconst hc dJ13_bitCount_95d88_16 ci_2 ?_
  refine go_lushr hc dJ13_bitCount_95d88_17 ?_
  refine go_ldc2 hc ho klJ13_316 dJ13_bitCount_95d88_18 ?_
  refine go_land hc dJ13_bitCount_95d88_21 ?_
  refine go_ladd hc dJ13_bitCount_95d88_22 ?_
  refine go_lstore_n hc (lv1 := [.long (((x0 - (((x0).toUInt64 >>> ((1 : Int32).toInt64.toUInt64 &&& Int64.toUInt64 63)).toInt64 &&& (6148914691236517205 : Int64))) &&& (3689348814741910323 : Int64)) + ((((x0 - (((x0).toUInt64 >>> ((1 : Int32).toInt64.toUInt64 &&& Int64.toUInt64 63)).toInt64 &&& (6148914691236517205 : Int64)))).toUInt64 >>> ((2 : Int32).toInt64.toUInt64 &&& Int64.toUInt64 63)).toInt64 &&& (3689348814741910323 : Int64))), .null]) dJ13_bitCount_95d88_23 rfl hL (by decide) (fun _ e _ => absurd rfl e) rfl ?_
  refine go_lload_n hc dJ13_bitCount_95d88_24 rfl rfl ?_
  refine go_lload_n hc dJ13_bitCount_95d88_25 rfl rfl ?_
  refine go_iconst hc dJ13_bitCount_95d88_26 ci_4 ?_
  refine go_lushr hc dJ13_bitCount_95d88_27 ?_
  refine go_ladd hc dJ13_bitCount_95d88_28 ?_
  refine go_ldc2 hc ho klJ13_318 dJ13_bitCount_95d88_29 ?_
  refine go_land hc dJ13_bitCount_95d88_32 ?_
  refine go_lstore_n hc (lv1 := [.long (((((x0 - (((x0).toUInt64 >>> ((1 : Int32).toInt64.toUInt64 &&& Int64.toUInt64 63)).toInt64 &&& (6148914691236517205 : Int64))) &&& (3689348814741910323 : Int64)) + ((((x0 - (((x0).toUInt64 >>> ((1 : Int32).toInt64.toUInt64 &&& Int64.toUInt64 63)).toInt64 &&& (6148914691236517205 : Int64)))).toUInt64 >>> ((2 : Int32).toInt64.toUInt64 &&& Int64.toUInt64 63)).toInt64 &&& (3689348814741910323 : Int64))) + (((((x0 - (((x0).toUInt64 >>> ((1 : Int32).toInt64.toUInt64 &&& Int64.toUInt64 63)).toInt64 &&& (6148914691236517205 : Int64))) &&& (3689348814741910323 : Int64)) + ((((x0 - (((x0).toUInt64 >>> ((1 : Int32).toInt64.toUInt64 &&& Int64.toUInt64 63)).toInt64 &&& (6148914691236517205 : Int64)))).toUInt64 >>> ((2 : Int32).toInt64.toUInt64 &&& Int64.toUInt64 63)).toInt64 &&& (3689348814741910323 : Int64)))).toUInt64 >>> ((4 : Int32).toInt64.toUInt64 &&& Int64.toUInt64 63)).toInt64) &&& (1085102592571150095 : Int64)), .null]) dJ13_bitCount_95d88_33 rfl hL (by decide) (fun _ e _ => absurd rfl e) rfl ?_
  refine go_lload_n hc dJ13_bitCount_95d88_34 rfl rfl ?_
  refine go_lload_n hc dJ13_bitCount_95d88_35 rfl rfl ?_
  refine go_bipush hc dJ13_bitCount_95d88_36 cb_8 ?_
  refine go_lushr hc dJ13_bitCount_95d88_38 ?_
  refine go_ladd hc dJ13_bitCount_95d88_39 ?_
  refine go_lstore_n hc (lv1 := [.long ((((((x0 - (((x0).toUInt64 >>> ((1 : Int32).toInt64.toUInt64 &&& Int64.toUInt64 63)).toInt64 &&& (6148914691236517205 : Int64))) &&& (3689348814741910323 : Int64)) + ((((x0 - (((x0).toUInt64 >>> ((1 : Int32).toInt64.toUInt64 &&& Int64.toUInt64 63)).toInt64 &&& (6148914691236517205 : Int64)))).toUInt64 >>> ((2 : Int32).toInt64.toUInt64 &&& Int64.toUInt64 63)).toInt64 &&& (3689348814741910323 : Int64))) + (((((x0 - (((x0).toUInt64 >>> ((1 : Int32).toInt64.toUInt64 &&& Int64.toUInt64 63)).toInt64 &&& (6148914691236517205 : Int64))) &&& (3689348814741910323 : Int64)) + ((((x0 - (((x0).toUInt64 >>> ((1 : Int32).toInt64.toUInt64 &&& Int64.toUInt64 63)).toInt64 &&& (6148914691236517205 : Int64)))).toUInt64 >>> ((2 : Int32).toInt64.toUInt64 &&& Int64.toUInt64 63)).toInt64 &&& (3689348814741910323 : Int64)))).toUInt64 >>> ((4 : Int32).toInt64.toUInt64 &&& Int64.toUInt64 63)).toInt64) &&& (1085102592571150095 : Int64)) + (((((((x0 - (((x0).toUInt64 >>> ((1 : Int32).toInt64.toUInt64 &&& Int64.toUInt64 63)).toInt64 &&& (6148914691236517205 : Int64))) &&& (3689348814741910323 : Int64)) + ((((x0 - (((x0).toUInt64 >>> ((1 : Int32).toInt64.toUInt64 &&& Int64.toUInt64 63)).toInt64 &&& (6148914691236517205 : Int64)))).toUInt64 >>> ((2 : Int32).toInt64.toUInt64 &&& Int64.toUInt64 63)).toInt64 &&& (3689348814741910323 : Int64))) + (((((x0 - (((x0).toUInt64 >>> ((1 : Int32).toInt64.toUInt64 &&& Int64.toUInt64 63)).toInt64 &&& (6148914691236517205 : Int64))) &&& (3689348814741910323 : Int64)) + ((((x0 - (((x0).toUInt64 >>> ((1 : Int32).toInt64.toUInt64 &&& Int64.toUInt64 63)).toInt64 &&& (6148914691236517205 : Int64)))).toUInt64 >>> ((2 : Int32).toInt64.toUInt64 &&& Int64.toUInt64 63)).toInt64 &&& (3689348814741910323 : Int64)))).toUInt64 >>> ((4 : Int32).toInt64.toUInt64 &&& Int64.toUInt64 63)).toInt64) &&& (1085102592571150095 : Int64))).toUInt64 >>> ((8 : Int32).toInt64.toUInt64 &&& Int64.toUInt64 63)).toInt64), .null]) dJ13_bitCount_95d88_40 rfl hL (by decide) (fun _ e _ => absurd rfl e) rfl ?_
  refine go_lload_n hc dJ13_bitCount_95d88_41 rfl rfl ?_
  refine go_lload_n hc dJ13_bitCount_95d88_42 rfl rfl ?_
  refine go_bipush hc dJ13_bitCount_95d88_43 cb_16 ?_
  refine go_lushr hc dJ13_bitCount_95d88_45 ?_
  refine go_ladd hc dJ13_bitCount_95d88_46 ?_
  refine go_lstore_n hc (lv1 := [.long (((((((x0 - (((x0).toUInt64 >>> ((1 : Int32).toInt64.toUInt64 &&& Int64.toUInt64 63)).toInt64 &&& (6148914691236517205 : Int64))) &&& (3689348814741910323 : Int64)) + ((((x0 - (((x0).toUInt64 >>> ((1 : Int32).toInt64.toUInt64 &&& Int64.toUInt64 63)).toInt64 &&& (6148914691236517205 : Int64)))).toUInt64 >>> ((2 : Int32).toInt64.toUInt64 &&& Int64.toUInt64 63)).toInt64 &&& (3689348814741910323 : Int64))) + (((((x0 - (((x0).toUInt64 >>> ((1 : Int32).toInt64.toUInt64 &&& Int64.toUInt64 63)).toInt64 &&& (6148914691236517205 : Int64))) &&& (3689348814741910323 : Int64)) + ((((x0 - (((x0).toUInt64 >>> ((1 : Int32).toInt64.toUInt64 &&& Int64.toUInt64 63)).toInt64 &&& (6148914691236517205 : Int64)))).toUInt64 >>> ((2 : Int32).toInt64.toUInt64 &&& Int64.toUInt64 63)).toInt64 &&& (3689348814741910323 : Int64)))).toUInt64 >>> ((4 : Int32).toInt64.toUInt64 &&& Int64.toUInt64 63)).toInt64) &&& (1085102592571150095 : Int64)) + (((((((x0 - (((x0).toUInt64 >>> ((1 : Int32).toInt64.toUInt64 &&& Int64.toUInt64 63)).toInt64 &&& (6148914691236517205 : Int64))) &&& (3689348814741910323 : Int64)) + ((((x0 - (((x0).toUInt64 >>> ((1 : Int32).toInt64.toUInt64 &&& Int64.toUInt64 63)).toInt64 &&& (6148914691236517205 : Int64)))).toUInt64 >>> ((2 : Int32).toInt64.toUInt64 &&& Int64.toUInt64 63)).toInt64 &&& (3689348814741910323 : Int64))) + (((((x0 - (((x0).toUInt64 >>> ((1 : Int32).toInt64.toUInt64 &&& Int64.toUInt64 63)).toInt64 &&& (6148914691236517205 : Int64))) &&& (3689348814741910323 : Int64)) + ((((x0 - (((x0).toUInt64 >>> ((1 : Int32).toInt64.toUInt64 &&& Int64.toUInt64 63)).toInt64 &&& (6148914691236517205 : Int64)))).toUInt64 >>> ((2 : Int32).toInt64.toUInt64 &&& Int64.toUInt64 63)).toInt64 &&& (3689348814741910323 : Int64)))).toUInt64 >>> ((4 : Int32).toInt64.toUInt64 &&& Int64.toUInt64 63)).toInt64) &&& (1085102592571150095 : Int64))).toUInt64 >>> ((8 : Int32).toInt64.toUInt64 &&& Int64.toUInt64 63)).toInt64) + ((((((((x0 - (((x0).toUInt64 >>> ((1 : Int32).toInt64.toUInt64 &&& Int64.toUInt64 63)).toInt64 &&& (6148914691236517205 : Int64))) &&& (3689348814741910323 : Int64)) + ((((x0 - (((x0).toUInt64 >>> ((1 : Int32).toInt64.toUInt64 &&& Int64.toUInt64 63)).toInt64 &&& (6148914691236517205 : Int64)))).toUInt64 >>> ((2 : Int32).toInt64.toUInt64 &&& Int64.toUInt64 63)).toInt64 &&& (3689348814741910323 : Int64))) + (((((x0 - (((x0).toUInt64 >>> ((1 : Int32).toInt64.toUInt64 &&& Int64.toUInt64 63)).toInt64 &&& (6148914691236517205 : Int64))) &&& (3689348814741910323 : Int64)) + ((((x0 - (((x0).toUInt64 >>> ((1 : Int32).toInt64.toUInt64 &&& Int64.toUInt64 63)).toInt64 &&& (6148914691236517205 : Int64)))).toUInt64 >>> ((2 : Int32).toInt64.toUInt64 &&& Int64.toUInt64 63)).toInt64 &&& (3689348814741910323 : Int64)))).toUInt64 >>> ((4 : Int32).toInt64.toUInt64 &&& Int64.toUInt64 63)).toInt64) &&& (1085102592571150095 : Int64)) + (((((((x0 - (((x0).toUInt64 >>> ((1 : Int32).toInt64.toUInt64 &&& Int64.toUInt64 63)).toInt64 &&& (6148914691236517205 : Int64))) &&& (3689348814741910323 : Int64)) + ((((x0 - (((x0).toUInt64 >>> ((1 : Int32).toInt64.toUInt64 &&& Int64.toUInt64 63)).toInt64 &&& (6148914691236517205 : Int64)))).toUInt64 >>> ((2 : Int32).toInt64.toUInt64 &&& Int64.toUInt64 63)).toInt64 &&& (3689348814741910323 : Int64))) + (((((x0 - (((x0).toUInt64 >>> ((1 : Int32).toInt64.toUInt64 &&& Int64.toUInt64 63)).toInt64 &&& (6148914691236517205 : Int64))) &&& (3689348814741910323 : Int64)) + ((((x0 - (((x0).toUInt64 >>> ((1 : Int32).toInt64.toUInt64 &&& Int64.toUInt64 63)).toInt64 &&& (6148914691236517205 : Int64)))).toUInt64 >>> ((2 : Int32).toInt64.toUInt64 &&& Int64.toUInt64 63)).toInt64 &&& (3689348814741910323 : Int64)))).toUInt64 >>> ((4 : Int32).toInt64.toUInt64 &&& Int64.toUInt64 63)).toInt64) &&& (1085102592571150095 : Int64))).toUInt64 >>> ((8 : Int32).toInt64.toUInt64 &&& Int64.toUInt64 63)).toInt64)).toUInt64 >>> ((16 : Int32).toInt64.toUInt64 &&& Int64.toUInt64 63)).toInt64), .null]) dJ13_bitCount_95d88_47 rfl hL (by decide) (fun _ e _ => absurd rfl e) rfl ?_
  refine go_lload_n hc dJ13_bitCount_95d88_48 rfl rfl ?_
  refine go_lload_n hc dJ13_bitCount_95d88_49 rfl rfl ?_
  refine go_bipush hc dJ13_bitCount_95d88_50 cb_32 ?_
  refine go_lushr hc dJ13_bitCount_95d88_52 ?_
  refine go_ladd hc dJ13_bitCount_95d88_53 ?_
  refine go_lstore_n hc (lv1 := [.long ((((((((x0 - (((x0).toUInt64 >>> ((1 : Int32).toInt64.toUInt64 &&& Int64.toUInt64 63)).toInt64 &&& (6148914691236517205 : Int64))) &&& (3689348814741910323 : Int64)) + ((((x0 - (((x0).toUInt64 >>> ((1 : Int32).toInt64.toUInt64 &&& Int64.toUInt64 63)).toInt64 &&& (6148914691236517205 : Int64)))).toUInt64 >>> ((2 : Int32).toInt64.toUInt64 &&& Int64.toUInt64 63)).toInt64 &&& (3689348814741910323 : Int64))) + (((((x0 - (((x0).toUInt64 >>> ((1 : Int32).toInt64.toUInt64 &&& Int64.toUInt64 63)).toInt64 &&& (6148914691236517205 : Int64))) &&& (3689348814741910323 : Int64)) + ((((x0 - (((x0).toUInt64 >>> ((1 : Int32).toInt64.toUInt64 &&& Int64.toUInt64 63)).toInt64 &&& (6148914691236517205 : Int64)))).toUInt64 >>> ((2 : Int32).toInt64.toUInt64 &&& Int64.toUInt64 63)).toInt64 &&& (3689348814741910323 : Int64)))).toUInt64 >>> ((4 : Int32).toInt64.toUInt64 &&& Int64.toUInt64 63)).toInt64) &&& (1085102592571150095 : Int64)) + (((((((x0 - (((x0).toUInt64 >>> ((1 : Int32).toInt64.toUInt64 &&& Int64.toUInt64 63)).toInt64 &&& (6148914691236517205 : Int64))) &&& (3689348814741910323 : Int64)) + ((((x0 - (((x0).toUInt64 >>> ((1 : Int32).toInt64.toUInt64 &&& Int64.toUInt64 63)).toInt64 &&& (6148914691236517205 : Int64)))).toUInt64 >>> ((2 : Int32).toInt64.toUInt64 &&& Int64.toUInt64 63)).toInt64 &&& (3689348814741910323 : Int64))) + (((((x0 - (((x0).toUInt64 >>> ((1 : Int32).toInt64.toUInt64 &&& Int64.toUInt64 63)).toInt64 &&& (6148914691236517205 : Int64))) &&& (3689348814741910323 : Int64)) + ((((x0 - (((x0).toUInt64 >>> ((1 : Int32).toInt64.toUInt64 &&& Int64.toUInt64 63)).toInt64 &&& (6148914691236517205 : Int64)))).toUInt64 >>> ((2 : Int32).toInt64.toUInt64 &&& Int64.toUInt64 63)).toInt64 &&& (3689348814741910323 : Int64)))).toUInt64 >>> ((4 : Int32).toInt64.toUInt64 &&& Int64.toUInt64 63)).toInt64) &&& (1085102592571150095 : Int64))).toUInt64 >>> ((8 : Int32).toInt64.toUInt64 &&& Int64.toUInt64 63)).toInt64) + ((((((((x0 - (((x0).toUInt64 >>> ((1 : Int32).toInt64.toUInt64 &&& Int64.toUInt64 63)).toInt64 &&& (6148914691236517205 : Int64))) &&& (3689348814741910323 : Int64)) + ((((x0 - (((x0).toUInt64 >>> ((1 : Int32).toInt64.toUInt64 &&& Int64.toUInt64 63)).toInt64 &&& (6148914691236517205 : Int64)))).toUInt64 >>> ((2 : Int32).toInt64.toUInt64 &&& Int64.toUInt64 63)).toInt64 &&& (3689348814741910323 : Int64))) + (((((x0 - (((x0).toUInt64 >>> ((1 : Int32).toInt64.toUInt64 &&& Int64.toUInt64 63)).toInt64 &&& (6148914691236517205 : Int64))) &&& (3689348814741910323 : Int64)) + ((((x0 - (((x0).toUInt64 >>> ((1 : Int32).toInt64.toUInt64 &&& Int64.toUInt64 63)).toInt64 &&& (6148914691236517205 : Int64)))).toUInt64 >>> ((2 : Int32).toInt64.toUInt64 &&& Int64.toUInt64 63)).toInt64 &&& (3689348814741910323 : Int64)))).toUInt64 >>> ((4 : Int32).toInt64.toUInt64 &&& Int64.toUInt64 63)).toInt64) &&& (1085102592571150095 : Int64)) + (((((((x0 - (((x0).toUInt64 >>> ((1 : Int32).toInt64.toUInt64 &&& Int64.toUInt64 63)).toInt64 &&& (6148914691236517205 : Int64))) &&& (3689348814741910323 : Int64)) + ((((x0 - (((x0).toUInt64 >>> ((1 : Int32).toInt64.toUInt64 &&& Int64.toUInt64 63)).toInt64 &&& (6148914691236517205 : Int64)))).toUInt64 >>> ((2 : Int32).toInt64.toUInt64 &&& Int64.toUInt64 63)).toInt64 &&& (3689348814741910323 : Int64))) + (((((x0 - (((x0).toUInt64 >>> ((1 : Int32).toInt64.toUInt64 &&& Int64.toUInt64 63)).toInt64 &&& (6148914691236517205 : Int64))) &&& (3689348814741910323 : Int64)) + ((((x0 - (((x0).toUInt64 >>> ((1 : Int32).toInt64.toUInt64 &&& Int64.toUInt64 63)).toInt64 &&& (6148914691236517205 : Int64)))).toUInt64 >>> ((2 : Int32).toInt64.toUInt64 &&& Int64.toUInt64 63)).toInt64 &&& (3689348814741910323 : Int64)))).toUInt64 >>> ((4 : Int32).toInt64.toUInt64 &&& Int64.toUInt64 63)).toInt64) &&& (1085102592571150095 : Int64))).toUInt64 >>> ((8 : Int32).toInt64.toUInt64 &&& Int64.toUInt64 63)).toInt64)).toUInt64 >>> ((16 : Int32).toInt64.toUInt64 &&& Int64.toUInt64 63)).toInt64) + (((((((((x0 - (((x0).toUInt64 >>> ((1 : Int32).toInt64.toUInt64 &&& Int64.toUInt64 63)).toInt64 &&& (6148914691236517205 : Int64))) &&& (3689348814741910323 : Int64)) + ((((x0 - (((x0).toUInt64 >>> ((1 : Int32).toInt64.toUInt64 &&& Int64.toUInt64 63)).toInt64 &&& (6148914691236517205 : Int64)))).toUInt64 >>> ((2 : Int32).toInt64.toUInt64 &&& Int64.toUInt64 63)).toInt64 &&& (3689348814741910323 : Int64))) + (((((x0 - (((x0).toUInt64 >>> ((1 : Int32).toInt64.toUInt64 &&& Int64.toUInt64 63)).toInt64 &&& (6148914691236517205 : Int64))) &&& (3689348814741910323 : Int64)) + ((((x0 - (((x0).toUInt64 >>> ((1 : Int32).toInt64.toUInt64 &&& Int64.toUInt64 63)).toInt64 &&& (6148914691236517205 : Int64)))).toUInt64 >>> ((2 : Int32).toInt64.toUInt64 &&& Int64.toUInt64 63)).toInt64 &&& (3689348814741910323 : Int64)))).toUInt64 >>> ((4 : Int32).toInt64.toUInt64 &&& Int64.toUInt64 63)).toInt64) &&& (1085102592571150095 : Int64)) + (((((((x0 - (((x0).toUInt64 >>> ((1 : Int32).toInt64.toUInt64 &&& Int64.toUInt64 63)).toInt64 &&& (6148914691236517205 : Int64))) &&& (3689348814741910323 : Int64)) + ((((x0 - (((x0).toUInt64 >>> ((1 : Int32).toInt64.toUInt64 &&& Int64.toUInt64 63)).toInt64 &&& (6148914691236517205 : Int64)))).toUInt64 >>> ((2 : Int32).toInt64.toUInt64 &&& Int64.toUInt64 63)).toInt64 &&& (3689348814741910323 : Int64))) + (((((x0 - (((x0).toUInt64 >>> ((1 : Int32).toInt64.toUInt64 &&& Int64.toUInt64 63)).toInt64 &&& (6148914691236517205 : Int64))) &&& (3689348814741910323 : Int64)) + ((((x0 - (((x0).toUInt64 >>> ((1 : Int32).toInt64.toUInt64 &&& Int64.toUInt64 63)).toInt64 &&& (6148914691236517205 : Int64)))).toUInt64 >>> ((2 : Int32).toInt64.toUInt64 &&& Int64.toUInt64 63)).toInt64 &&& (3689348814741910323 : Int64)))).toUInt64 >>> ((4 : Int32).toInt64.toUInt64 &&& Int64.toUInt64 63)).toInt64) &&& (1085102592571150095 : Int64))).toUInt64 >>> ((8 : Int32).toInt64.toUInt64 &&& Int64.toUInt64 63)).toInt64) + ((((((((x0 - (((x0).toUInt64 >>> ((1 : Int32).toInt64.toUInt64 &&& Int64.toUInt64 63)).toInt64 &&& (6148914691236517205 : Int64))) &&& (3689348814741910323 : Int64)) + ((((x0 - (((x0).toUInt64 >>> ((1 : Int32).toInt64.toUInt64 &&& Int64.toUInt64 63)).toInt64 &&& (6148914691236517205 : Int64)))).toUInt64 >>> ((2 : Int32).toInt64.toUInt64 &&& Int64.toUInt64 63)).toInt64 &&& (3689348814741910323 : Int64))) + (((((x0 - (((x0).toUInt64 >>> ((1 : Int32).toInt64.toUInt64 &&& Int64.toUInt64 63)).toInt64 &&& (6148914691236517205 : Int64))) &&& (3689348814741910323 : Int64)) + ((((x0 - (((x0).toUInt64 >>> ((1 : Int32).toInt64.toUInt64 &&& Int64.toUInt64 63)).toInt64 &&& (6148914691236517205 : Int64)))).toUInt64 >>> ((2 : Int32).toInt64.toUInt64 &&& Int64.toUInt64 63)).toInt64 &&& (3689348814741910323 : Int64)))).toUInt64 >>> ((4 : Int32).toInt64.toUInt64 &&& Int64.toUInt64 63)).toInt64) &&& (1085102592571150095 : Int64)) + (((((((x0 - (((x0).toUInt64 >>> ((1 : Int32).toInt64.toUInt64 &&& Int64.toUInt64 63)).toInt64 &&& (6148914691236517205 : Int64))) &&& (3689348814741910323 : Int64)) + ((((x0 - (((x0).toUInt64 >>> ((1 : Int32).toInt64.toUInt64 &&& Int64.toUInt64 63)).toInt64 &&& (6148914691236517205 : Int64)))).toUInt64 >>> ((2 : Int32).toInt64.toUInt64 &&& Int64.toUInt64 63)).toInt64 &&& (3689348814741910323 : Int64))) + (((((x0 - (((x0).toUInt64 >>> ((1 : Int32).toInt64.toUInt64 &&& Int64.toUInt64 63)).toInt64 &&& (6148914691236517205 : Int64))) &&& (3689348814741910323 : Int64)) + ((((x0 - (((x0).toUInt64 >>> ((1 : Int32).toInt64.toUInt64 &&& Int64.toUInt64 63)).toInt64 &&& (6148914691236517205 : Int64)))).toUInt64 >>> ((2 : Int32).toInt64.toUInt64 &&& Int64.toUInt64 63)).toInt64 &&& (3689348814741910323 : Int64)))).toUInt64 >>> ((4 : Int32).toInt64.toUInt64 &&& Int64.toUInt64 63)).toInt64) &&& (1085102592571150095 : Int64))).toUInt64 >>> ((8 : Int32).toInt64.toUInt64 &&& Int64.toUInt64 63)).toInt64)).toUInt64 >>> ((16 : Int32).toInt64.toUInt64 &&& Int64.toUInt64 63)).toInt64)).toUInt64 >>> ((32 : Int32).toInt64.toUInt64 &&& Int64.toUInt64 63)).toInt64), .null]) dJ13_bitCount_95d88_54 rfl hL (by decide) (fun _ e _ => absurd rfl e) rfl ?_
  refine go_lload_n hc dJ13_bitCount_95d88_55 rfl rfl ?_
  refine go_l2i hc dJ13_bitCount_95d88_56 ?_
  refine go_bipush hc dJ13_bitCount_95d88_57 cb_127 ?_
  refine go_iand hc dJ13_bitCount_95d88_59 ?_
  exact go_iret hc (oend_i h hE) hr dJ13_bitCount_95d88_60
def fX9_worlds (σ : OM) : Option (Int32 × OM) :=
  if (mI σ 0 7) = 0 then (
   obi (fX9_refuse (1 : Int32) σ) (fun r8 σ9 =>
   some (r8, σ9)))
  else (ogd (decide (okd (mR σ 0 0) = 8)) (
  obi (fJ13_bitCount_95d88 (mL σ ((mR σ 0 0) + 1) 3) σ) (fun r2 σ3 =>
  obi (fX9_answer r2 σ3) (fun r5 σ6 =>
  some (r5, σ6)))))
set_option maxRecDepth 100000 in
set_option maxHeartbeats 4000000 in
theorem rX9_worlds {N : Nat} {σ : OM} {r0 : Int32} {σ0 : OM} (h : fX9_worlds σ = some (r0, σ0)) (hN0 : 1 ≤ N) : oEv N MX9_worlds [.ref 0] σ (some (.int r0)) σ0 := by
  refine oEv_of (lv := [.ref 0]) (by decide +kernel) (fun g q hq => hq) (fun g => Nat.le_of_ble_eq_true rfl) ?_
  intro K hc ho hL hN1 hr hE hz
  have hN : 1 ≤ kN K := by rw [hN1]; exact hN0
  unfold fX9_worlds at h
  refine go_aload_n hc dX9_worlds_0 rfl rfl ?_
  refine go_getI hc ho flX9_90 dX9_worlds_1 ok_0 ?_
  refine go_if_ne (tgt := 13) hc dX9_worlds_4 rfl (fun hh => ?_) (fun hh => ?_)
  · rw [if_neg hh] at h
    refine go_aload_n hc dX9_worlds_13 rfl rfl ?_
    refine go_aload_n hc dX9_worlds_14 rfl rfl ?_
    obtain ⟨hg1, h⟩ := ogd_some h
    refine go_getR hc ho flX9_10 dX9_worlds_15 ok_0 ?_
    refine go_getC (b := (mR σ 0 0) + 1) (ow_c0_0 (of_decide_eq_true hg1)) hc ho flX9_37 dX9_worlds_18 (of_decide_eq_true hg1) ?_
    refine go_getL hc ho flX9_113 dX9_worlds_21 (ow_k1 (of_decide_eq_true hg1)) ?_
    obtain ⟨r2, σ3, hf4, h⟩ := obi_some h
    refine go_callSi hc ho cmJ13_bitCount_95d88 mlX9_123 dX9_worlds_24 (As := [.long (mL σ ((mR σ 0 0) + 1) 3)]) (rest := [.ref 0]) (rJ13_bitCount_95d88 (N := 0) hf4 (Nat.le_refl _)) rfl (Nat.le_trans (Nat.le_of_ble_eq_true rfl) hN) rfl (Nat.le_of_ble_eq_true rfl) (Or.inl hz) ?_
    obtain ⟨r5, σ6, hf7, h⟩ := obi_some h
    refine go_callVi hc ho cmX9_answer mlX9_103 dX9_worlds_27 ok_0 (As := [.int r2]) (rest := []) (rX9_answer (N := 0) hf7 (Nat.le_refl _)) rfl (Nat.le_trans (Nat.le_of_ble_eq_true rfl) hN) rfl (Nat.le_of_ble_eq_true rfl) (Or.inl hz) ?_
    exact go_iret hc (oend_i h hE) hr dX9_worlds_30
  · rw [if_pos hh] at h
    refine go_aload_n hc dX9_worlds_7 rfl rfl ?_
    refine go_iconst hc dX9_worlds_8 ci_1 ?_
    obtain ⟨r8, σ9, hf10, h⟩ := obi_some h
    refine go_callVi hc ho cmX9_refuse mlX9_70 dX9_worlds_9 ok_0 (As := [.int (1 : Int32)]) (rest := []) (rX9_refuse (N := 0) hf10 (Nat.le_refl _)) rfl (Nat.le_trans (Nat.le_of_ble_eq_true rfl) hN) rfl (Nat.le_of_ble_eq_true rfl) (Or.inl hz) ?_
    exact go_iret hc (oend_i h hE) hr dX9_worlds_12
def fX9_odds (x0 : Int32) (σ : OM) : Option (Int32 × OM) :=
  obi (fX9_isWorld x0 σ) (fun r1 σ2 =>
  if r1 = 0 then (
   obi (fX9_refuse (1 : Int32) σ2) (fun r9 σ10 =>
   some (r9, σ10)))
  else (ogd (decide (okd (mR σ2 0 0) = 8)) (
  ogd (oin x0 64) (
  obi (fX9_answer (mI σ2 ((mR σ2 0 0) + 4) x0.toNatClampNeg) σ2) (fun r6 σ7 =>
  some (r6, σ7))))))
set_option maxRecDepth 100000 in
set_option maxHeartbeats 4000000 in
theorem rX9_odds {N : Nat} {x0 : Int32} {σ : OM} {r0 : Int32} {σ0 : OM} (h : fX9_odds x0 σ = some (r0, σ0)) (hN0 : 1 ≤ N) : oEv N MX9_odds [.ref 0, .int x0] σ (some (.int r0)) σ0 := by
  refine oEv_of (lv := [.ref 0, .int x0]) (by decide +kernel) (fun g q hq => hq) (fun g => Nat.le_of_ble_eq_true rfl) ?_
  intro K hc ho hL hN1 hr hE hz
  have hN : 1 ≤ kN K := by rw [hN1]; exact hN0
  unfold fX9_odds at h
  refine go_aload_n hc dX9_odds_0 rfl rfl ?_
  refine go_iload_n hc dX9_odds_1 rfl rfl ?_
  obtain ⟨r1, σ2, hf3, h⟩ := obi_some h
  refine go_callVi hc ho cmX9_isWorld mlX9_109 dX9_odds_2 ok_0 (As := [.int x0]) (rest := []) (rX9_isWorld (N := 0) hf3 (Nat.le_refl _)) rfl (Nat.le_trans (Nat.le_of_ble_eq_true rfl) hN) rfl (Nat.le_of_ble_eq_true rfl) (Or.inl hz) ?_
  refine go_if_ne (tgt := 14) hc dX9_odds_5 rfl (fun hh => ?_) (fun hh => ?_)
  · rw [if_neg hh] at h
    refine go_aload_n hc dX9_odds_14 rfl rfl ?_
    refine go_aload_n hc dX9_odds_15 rfl rfl ?_
    obtain ⟨hg4, h⟩ := ogd_some h
    refine go_getR hc ho flX9_10 dX9_odds_16 ok_0 ?_
    refine go_getC (b := (mR σ2 0 0) + 1) (ow_c0_0 (of_decide_eq_true hg4)) hc ho flX9_37 dX9_odds_19 (of_decide_eq_true hg4) ?_
    refine go_getC (b := (mR σ2 0 0) + 4) (ow_c1_10 (of_decide_eq_true hg4)) hc ho flX9_129 dX9_odds_22 (ow_k1 (of_decide_eq_true hg4)) ?_
    refine go_iload_n hc dX9_odds_25 rfl rfl ?_
    obtain ⟨hg5, h⟩ := ogd_some h
    refine go_iald hc dX9_odds_26 (ow_k4 (of_decide_eq_true hg4)) (ow_l4 (of_decide_eq_true hg4)) hg5 rfl ?_
    obtain ⟨r6, σ7, hf8, h⟩ := obi_some h
    refine go_callVi hc ho cmX9_answer mlX9_103 dX9_odds_27 ok_0 (As := [.int (mI σ2 ((mR σ2 0 0) + 4) x0.toNatClampNeg)]) (rest := []) (rX9_answer (N := 0) hf8 (Nat.le_refl _)) rfl (Nat.le_trans (Nat.le_of_ble_eq_true rfl) hN) rfl (Nat.le_of_ble_eq_true rfl) (Or.inl hz) ?_
    exact go_iret hc (oend_i h hE) hr dX9_odds_30
  · rw [if_pos hh] at h
    refine go_aload_n hc dX9_odds_8 rfl rfl ?_
    refine go_iconst hc dX9_odds_9 ci_1 ?_
    obtain ⟨r9, σ10, hf11, h⟩ := obi_some h
    refine go_callVi hc ho cmX9_refuse mlX9_70 dX9_odds_10 ok_0 (As := [.int (1 : Int32)]) (rest := []) (rX9_refuse (N := 0) hf11 (Nat.le_refl _)) rfl (Nat.le_trans (Nat.le_of_ble_eq_true rfl) hN) rfl (Nat.le_of_ble_eq_true rfl) (Or.inl hz) ?_
    exact go_iret hc (oend_i h hE) hr dX9_odds_13
def fX9_isQuestion (x0 : Int32) (σ : OM) : Option (Int32 × OM) :=
  if x0 < 0 then (
   some ((0 : Int32), σ))
  else (ogd (decide (okd (mR σ 0 0) = 8)) (
  if (mI σ ((mR σ 0 0) + 1) 6) ≤ x0 then (
   some ((0 : Int32), σ))
  else (if (8 : Int32) ≤ x0 then (
   some ((0 : Int32), σ))
  else (some ((1 : Int32), σ)))))
set_option maxRecDepth 100000 in
set_option maxHeartbeats 4000000 in
theorem rX9_isQuestion {N : Nat} {x0 : Int32} {σ : OM} {r0 : Int32} {σ0 : OM} (h : fX9_isQuestion x0 σ = some (r0, σ0)) (hN0 : 0 ≤ N) : oEv N MX9_isQuestion [.ref 0, .int x0] σ (some (.int r0)) σ0 := by
  refine oEv_of (lv := [.ref 0, .int x0]) (by decide +kernel) (fun g q hq => hq) (fun g => Nat.le_of_ble_eq_true rfl) ?_
  intro K hc ho hL hN1 hr hE hz
  have hN : 0 ≤ kN K := by rw [hN1]; exact hN0
  unfold fX9_isQuestion at h
  refine go_iload_n hc dX9_isQuestion_0 rfl rfl ?_
  refine go_if_lt (tgt := 28) hc dX9_isQuestion_1 rfl (fun hh => ?_) (fun hh => ?_)
  · rw [if_pos hh] at h
    refine go_iconst hc dX9_isQuestion_28 ci_0 ?_
    exact go_zret hc (oend_i h hE) hr rfl dX9_isQuestion_29
  · rw [if_neg hh] at h
    refine go_iload_n hc dX9_isQuestion_4 rfl rfl ?_
    refine go_aload_n hc dX9_isQuestion_5 rfl rfl ?_
    obtain ⟨hg1, h⟩ := ogd_some h
    refine go_getR hc ho flX9_10 dX9_isQuestion_6 ok_0 ?_
    refine go_getC (b := (mR σ 0 0) + 1) (ow_c0_0 (of_decide_eq_true hg1)) hc ho flX9_37 dX9_isQuestion_9 (of_decide_eq_true hg1) ?_
    refine go_getI hc ho flX9_144 dX9_isQuestion_12 (ow_k1 (of_decide_eq_true hg1)) ?_
    refine go_icmp_ge (tgt := 28) hc dX9_isQuestion_15 rfl (fun hh => ?_) (fun hh => ?_)
    · rw [if_pos hh] at h
      refine go_iconst hc dX9_isQuestion_28 ci_0 ?_
      exact go_zret hc (oend_i h hE) hr rfl dX9_isQuestion_29
    · rw [if_neg hh] at h
      refine go_iload_n hc dX9_isQuestion_18 rfl rfl ?_
      refine go_bipush hc dX9_isQuestion_19 cb_8 ?_
      refine go_icmp_ge (tgt := 28) hc dX9_isQuestion_21 rfl (fun hh => ?_) (fun hh => ?_)
      · rw [if_pos hh] at h
        refine go_iconst hc dX9_isQuestion_28 ci_0 ?_
        exact go_zret hc (oend_i h hE) hr rfl dX9_isQuestion_29
      · rw [if_neg hh] at h
        refine go_iconst hc dX9_isQuestion_24 ci_1 ?_
        refine go_goto (tgt := 29) hc dX9_isQuestion_25 rfl ?_
        exact go_zret hc (oend_i h hE) hr rfl dX9_isQuestion_29
def fX9_isSo (x0 : Int32) (x1 : Int32) (σ : OM) : Option (Int32 × OM) :=
  obi (fX9_isQuestion x0 σ) (fun r1 σ2 =>
  if r1 = 0 then (
   obi (fX9_refuse (1 : Int32) σ2) (fun r4 σ5 =>
   some (r4, σ5)))
  else (obi (fX9_isWorld x1 σ2) (fun r7 σ8 =>
  if r7 = 0 then (
   obi (fX9_refuse (1 : Int32) σ8) (fun r20 σ21 =>
   some (r20, σ21)))
  else (ogd (decide (okd (mR σ8 0 0) = 8)) (
  obi (fX2_soWorlds (mR σ8 0 0) x0 σ8) (fun r11 σ12 =>
  obi (fX9_bitOf r11 x1 σ12) (fun r14 σ15 =>
  obi (fX9_answer r14 σ15) (fun r17 σ18 =>
  some (r17, σ18)))))))))
set_option maxRecDepth 100000 in
set_option maxHeartbeats 4000000 in
theorem rX9_isSo {N : Nat} {x0 : Int32} {x1 : Int32} {σ : OM} {r0 : Int32} {σ0 : OM} (h : fX9_isSo x0 x1 σ = some (r0, σ0)) (hN0 : 1 ≤ N) : oEv N MX9_isSo [.ref 0, .int x0, .int x1] σ (some (.int r0)) σ0 := by
  refine oEv_of (lv := [.ref 0, .int x0, .int x1]) (by decide +kernel) (fun g q hq => hq) (fun g => Nat.le_of_ble_eq_true rfl) ?_
  intro K hc ho hL hN1 hr hE hz
  have hN : 1 ≤ kN K := by rw [hN1]; exact hN0
  unfold fX9_isSo at h
  refine go_aload_n hc dX9_isSo_0 rfl rfl ?_
  refine go_iload_n hc dX9_isSo_1 rfl rfl ?_
  obtain ⟨r1, σ2, hf3, h⟩ := obi_some h
  refine go_callVi hc ho cmX9_isQuestion mlX9_133 dX9_isSo_2 ok_0 (As := [.int x0]) (rest := []) (rX9_isQuestion (N := 0) hf3 (Nat.le_refl _)) rfl (Nat.le_trans (Nat.le_of_ble_eq_true rfl) hN) rfl (Nat.le_of_ble_eq_true rfl) (Or.inl hz) ?_
  refine go_if_eq (tgt := 16) hc dX9_isSo_5 rfl (fun hh => ?_) (fun hh => ?_)
  · rw [if_pos hh] at h
    refine go_aload_n hc dX9_isSo_16 rfl rfl ?_
    refine go_iconst hc dX9_isSo_17 ci_1 ?_
    obtain ⟨r4, σ5, hf6, h⟩ := obi_some h
    refine go_callVi hc ho cmX9_refuse mlX9_70 dX9_isSo_18 ok_0 (As := [.int (1 : Int32)]) (rest := []) (rX9_refuse (N := 0) hf6 (Nat.le_refl _)) rfl (Nat.le_trans (Nat.le_of_ble_eq_true rfl) hN) rfl (Nat.le_of_ble_eq_true rfl) (Or.inl hz) ?_
    exact go_iret hc (oend_i h hE) hr dX9_isSo_21
  · rw [if_neg hh] at h
    refine go_aload_n hc dX9_isSo_8 rfl rfl ?_
    refine go_iload_n hc dX9_isSo_9 rfl rfl ?_
    obtain ⟨r7, σ8, hf9, h⟩ := obi_some h
    refine go_callVi hc ho cmX9_isWorld mlX9_109 dX9_isSo_10 ok_0 (As := [.int x1]) (rest := []) (rX9_isWorld (N := 0) hf9 (Nat.le_refl _)) rfl (Nat.le_trans (Nat.le_of_ble_eq_true rfl) hN) rfl (Nat.le_of_ble_eq_true rfl) (Or.inl hz) ?_
    refine go_if_ne (tgt := 22) hc dX9_isSo_13 rfl (fun hh => ?_) (fun hh => ?_)
    · rw [if_neg hh] at h
      refine go_aload_n hc dX9_isSo_22 rfl rfl ?_
      refine go_aload_n hc dX9_isSo_23 rfl rfl ?_
      obtain ⟨hg10, h⟩ := ogd_some h
      refine go_getR hc ho flX9_10 dX9_isSo_24 ok_0 ?_
      refine go_getC (b := (mR σ8 0 0) + 1) (ow_c0_0 (of_decide_eq_true hg10)) hc ho flX9_37 dX9_isSo_27 (of_decide_eq_true hg10) ?_
      refine go_iload_n hc dX9_isSo_30 rfl rfl ?_
      obtain ⟨r11, σ12, hf13, h⟩ := obi_some h
      refine go_callVl hc ho cmX2_soWorlds mlX9_136 dX9_isSo_31 (ow_k1 (of_decide_eq_true hg10)) (As := [.int x0]) (rest := [.ref 0]) (rX2_soWorlds (N := 0) (of_decide_eq_true hg10) hf13 (Nat.le_refl _)) rfl (Nat.le_trans (Nat.le_of_ble_eq_true rfl) hN) rfl (Nat.le_of_ble_eq_true rfl) (Or.inl hz) ?_
      refine go_iload_n hc dX9_isSo_34 rfl rfl ?_
      obtain ⟨r14, σ15, hf16, h⟩ := obi_some h
      refine go_callSi hc ho cmX9_bitOf mlX9_119 dX9_isSo_35 (As := [.long r11, .int x1]) (rest := [.ref 0]) (rX9_bitOf (N := 0) hf16 (Nat.le_refl _)) rfl (Nat.le_trans (Nat.le_of_ble_eq_true rfl) hN) rfl (Nat.le_of_ble_eq_true rfl) (Or.inl hz) ?_
      obtain ⟨r17, σ18, hf19, h⟩ := obi_some h
      refine go_callVi hc ho cmX9_answer mlX9_103 dX9_isSo_38 ok_0 (As := [.int r14]) (rest := []) (rX9_answer (N := 0) hf19 (Nat.le_refl _)) rfl (Nat.le_trans (Nat.le_of_ble_eq_true rfl) hN) rfl (Nat.le_of_ble_eq_true rfl) (Or.inl hz) ?_
      exact go_iret hc (oend_i h hE) hr dX9_isSo_41
    · rw [if_pos hh] at h
      refine go_aload_n hc dX9_isSo_16 rfl rfl ?_
      refine go_iconst hc dX9_isSo_17 ci_1 ?_
      obtain ⟨r20, σ21, hf22, h⟩ := obi_some h
      refine go_callVi hc ho cmX9_refuse mlX9_70 dX9_isSo_18 ok_0 (As := [.int (1 : Int32)]) (rest := []) (rX9_refuse (N := 0) hf22 (Nat.le_refl _)) rfl (Nat.le_trans (Nat.le_of_ble_eq_true rfl) hN) rfl (Nat.le_of_ble_eq_true rfl) (Or.inl hz) ?_
      exact go_iret hc (oend_i h hE) hr dX9_isSo_21
