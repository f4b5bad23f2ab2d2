def fX7_yesBy_b4 : Nat → Nat → Int32 → Int32 → Int32 → OM → Option (Int32 × OM)
  | 0, _, _, _, _, _ => none
  | n + 1, bl0, l1, l2, l3, σ =>
    if (mI σ bl0 0) ≤ l3 then (
     some (l2, σ))
    else (if (20 : Int32) ≤ l3 then (
     some (l2, σ))
    else (ogd (oin l3 20) (
    if (mI σ (bl0 + 1) l3.toNatClampNeg) = l1 then (
     ogd (oin l3 20) (
     if (mI σ (bl0 + 3) l3.toNatClampNeg) = 0 then (
      fX7_yesBy_b4 n bl0 l1 l2 (l3 + 1) σ)
     else (fX7_yesBy_b4 n bl0 l1 (l2 + 1) (l3 + 1) σ)))
    else (fX7_yesBy_b4 n bl0 l1 l2 (l3 + 1) σ))))
set_option maxRecDepth 100000 in
set_option maxHeartbeats 4000000 in
theorem rX7_yesBy_b4 {K : OK} (hc : kcc K = cX7_yesBy) (ho : kow K = RX7) (hL : knL K = 4) (hN : 0 ≤ kN K) (hr : (kme K).sig.returnType = (some .int)) {r0 : Int32} {σ0 : OM} (hE : oEnd K (some (.int r0)) σ0) (hz : kz K = 0) : ∀ (n : Nat) (bl0 : Nat) (l1 : Int32) (l2 : Int32) (l3 : Int32) (σ : OM), okd bl0 = 7 → fX7_yesBy_b4 n bl0 l1 l2 l3 σ = some (r0, σ0) → Go K 4 [.ref bl0, .int l1, .int l2, .int l3] [] σ := by
  intro n
  induction n with
  | zero =>
    intro bl0 l1 l2 l3 σ hbl0 h
    cases h
  | succ n ih =>
    intro bl0 l1 l2 l3 σ hbl0 h
    rw [fX7_yesBy_b4] at h
    refine go_iload_n hc dX7_yesBy_4 rfl rfl ?_
    refine go_aload_n hc dX7_yesBy_5 rfl rfl ?_
    refine go_getI hc ho flX7_25 dX7_yesBy_6 hbl0 ?_
    refine go_icmp_ge (tgt := 46) hc dX7_yesBy_9 rfl (fun hh => ?_) (fun hh => ?_)
    · rw [if_pos hh] at h
      refine go_iload_n hc dX7_yesBy_46 rfl rfl ?_
      exact go_iret hc (oend_i h hE) hr dX7_yesBy_47
    · rw [if_neg hh] at h
      refine go_iload_n hc dX7_yesBy_12 rfl rfl ?_
      refine go_bipush hc dX7_yesBy_13 cb_20 ?_
      refine go_icmp_ge (tgt := 46) hc dX7_yesBy_15 rfl (fun hh => ?_) (fun hh => ?_)
      · rw [if_pos hh] at h
        refine go_iload_n hc dX7_yesBy_46 rfl rfl ?_
        exact go_iret hc (oend_i h hE) hr dX7_yesBy_47
      · rw [if_neg hh] at h
        refine go_aload_n hc dX7_yesBy_18 rfl rfl ?_
        refine go_getC (b := bl0 + 1) (ot_c1 hbl0) hc ho flX7_9 dX7_yesBy_19 hbl0 ?_
        refine go_iload_n hc dX7_yesBy_22 rfl rfl ?_
        obtain ⟨hg1, h⟩ := ogd_some h
        refine go_iald hc dX7_yesBy_23 (ot_k1 hbl0) (ot_l1 hbl0) hg1 rfl ?_
        refine go_iload_n hc dX7_yesBy_24 rfl rfl ?_
        refine go_icmp_ne (tgt := 40) hc dX7_yesBy_25 rfl (fun hh => ?_) (fun hh => ?_)
        · rw [if_neg hh] at h
          refine go_iinc hc (lv1 := [.ref bl0, .int l1, .int l2, .int (l3 + 1)]) dX7_yesBy_40 rfl ci_1 hL (by decide) (fun _ _ e => by cases e; rfl) rfl ?_
          refine go_goto (tgt := 4) hc dX7_yesBy_43 rfl ?_
          exact ih bl0 l1 l2 (l3 + 1) _ hbl0 h
        · rw [if_pos hh] at h
          refine go_aload_n hc dX7_yesBy_28 rfl rfl ?_
          refine go_getC (b := bl0 + 3) (ot_c3 hbl0) hc ho flX7_18 dX7_yesBy_29 hbl0 ?_
          refine go_iload_n hc dX7_yesBy_32 rfl rfl ?_
          obtain ⟨hg2, h⟩ := ogd_some h
          refine go_zald hc dX7_yesBy_33 (ot_k3 hbl0) (ot_l3 hbl0) hg2 rfl ?_
          refine go_if_eq (tgt := 40) hc dX7_yesBy_34 rfl (fun hh => ?_) (fun hh => ?_)
          · rw [if_pos hh] at h
            refine go_iinc hc (lv1 := [.ref bl0, .int l1, .int l2, .int (l3 + 1)]) dX7_yesBy_40 rfl ci_1 hL (by decide) (fun _ _ e => by cases e; rfl) rfl ?_
            refine go_goto (tgt := 4) hc dX7_yesBy_43 rfl ?_
            exact ih bl0 l1 l2 (l3 + 1) _ hbl0 h
          · rw [if_neg hh] at h
            refine go_iinc hc (lv1 := [.ref bl0, .int l1, .int (l2 + 1), .int l3]) dX7_yesBy_37 rfl ci_1 hL (by decide) (fun _ _ e => by cases e; rfl) rfl ?_
            refine go_iinc hc (lv1 := [.ref bl0, .int l1, .int (l2 + 1), .int (l3 + 1)]) dX7_yesBy_40 rfl ci_1 hL (by decide) (fun _ _ e => by cases e; rfl) rfl ?_
            refine go_goto (tgt := 4) hc dX7_yesBy_43 rfl ?_
            exact ih bl0 l1 (l2 + 1) (l3 + 1) _ hbl0 h
def fX7_yesBy (t : Nat) (x0 : Int32) (σ : OM) : Option (Int32 × OM) :=
  fX7_yesBy_b4 oF t x0 (0 : Int32) (0 : Int32) σ
set_option maxRecDepth 100000 in
set_option maxHeartbeats 4000000 in
theorem rX7_yesBy {N : Nat} {t : Nat} {x0 : Int32} {σ : OM} {r0 : Int32} {σ0 : OM} (ht : okd t = 7) (h : fX7_yesBy t x0 σ = some (r0, σ0)) (hN0 : 0 ≤ N) : oEv N MX7_yesBy [.ref t, .int x0] σ (some (.int r0)) σ0 := by
  refine oEv_of (lv := [.ref t, .int x0, .null, .null]) (by decide +kernel) (fun g q hq => hq) (fun g => Nat.le_of_ble_eq_true rfl) ?_
  intro K hc ho hL hN1 hr hE hz
  have hN : 0 ≤ kN K := by rw [hN1]; exact hN0
  unfold fX7_yesBy at h
  refine go_iconst hc dX7_yesBy_0 ci_0 ?_
  refine go_istore_n hc (lv1 := [.ref t, .int x0, .int (0 : Int32), .null]) dX7_yesBy_1 rfl hL (by decide) (fun _ _ e => by cases e; rfl) rfl ?_
  refine go_iconst hc dX7_yesBy_2 ci_0 ?_
  refine go_istore_n hc (lv1 := [.ref t, .int x0, .int (0 : Int32), .int (0 : Int32)]) dX7_yesBy_3 rfl hL (by decide) (fun _ _ e => by cases e; rfl) rfl ?_
  exact rX7_yesBy_b4 hc ho hL hN hr hE hz oF t x0 (0 : Int32) (0 : Int32) _ ht h
def fX9_graves (x0 : Int32) (σ : OM) : Option (Int32 × OM) :=
  obi (fX9_isHouse x0 σ) (fun r1 σ2 =>
  if r1 = 0 then (
   obi (fX9_refuse (1 : Int32) σ2) (fun r11 σ12 =>
   some (r11, σ12)))
  else (ogd (decide (okd (mR σ2 0 0) = 8)) (
  obi (fX7_yesBy ((mR σ2 0 0) + 5) x0 σ2) (fun r5 σ6 =>
  obi (fX9_answer r5 σ6) (fun r8 σ9 =>
  some (r8, σ9))))))
set_option maxRecDepth 100000 in
set_option maxHeartbeats 4000000 in
theorem rX9_graves {N : Nat} {x0 : Int32} {σ : OM} {r0 : Int32} {σ0 : OM} (h : fX9_graves x0 σ = some (r0, σ0)) (hN0 : 1 ≤ N) : oEv N MX9_graves [.ref 0, .int x0] σ (some (.int r0)) σ0 := by
  refine oEv_of (lv := [.ref 0, .int x0]) (by decide +kernel) (fun g q hq => hq) (fun g => Nat.le_of_ble_eq_true rfl) ?_
  intro K hc ho hL hN1 hr hE hz
  have hN : 1 ≤ kN K := by rw [hN1]; exact hN0
  unfold fX9_graves at h
  refine go_aload_n hc dX9_graves_0 rfl rfl ?_
  refine go_iload_n hc dX9_graves_1 rfl rfl ?_
  obtain ⟨r1, σ2, hf3, h⟩ := obi_some h
  refine go_callVi hc ho cmX9_isHouse mlX9_161 dX9_graves_2 ok_0 (As := [.int x0]) (rest := []) (rX9_isHouse (N := 0) hf3 (Nat.le_refl _)) rfl (Nat.le_trans (Nat.le_of_ble_eq_true rfl) hN) rfl (Nat.le_of_ble_eq_true rfl) (Or.inl hz) ?_
  refine go_if_ne (tgt := 14) hc dX9_graves_5 rfl (fun hh => ?_) (fun hh => ?_)
  · rw [if_neg hh] at h
    refine go_aload_n hc dX9_graves_14 rfl rfl ?_
    refine go_aload_n hc dX9_graves_15 rfl rfl ?_
    obtain ⟨hg4, h⟩ := ogd_some h
    refine go_getR hc ho flX9_10 dX9_graves_16 ok_0 ?_
    refine go_getC (b := (mR σ2 0 0) + 5) (ow_c0_1 (of_decide_eq_true hg4)) hc ho flX9_170 dX9_graves_19 (of_decide_eq_true hg4) ?_
    refine go_iload_n hc dX9_graves_22 rfl rfl ?_
    obtain ⟨r5, σ6, hf7, h⟩ := obi_some h
    refine go_callVi hc ho cmX7_yesBy mlX9_234 dX9_graves_23 (ow_k5 (of_decide_eq_true hg4)) (As := [.int x0]) (rest := [.ref 0]) (rX7_yesBy (N := 0) (ow_k5 (of_decide_eq_true hg4)) hf7 (Nat.le_refl _)) rfl (Nat.le_trans (Nat.le_of_ble_eq_true rfl) hN) rfl (Nat.le_of_ble_eq_true rfl) (Or.inl hz) ?_
    obtain ⟨r8, σ9, hf10, h⟩ := obi_some h
    refine go_callVi hc ho cmX9_answer mlX9_103 dX9_graves_26 ok_0 (As := [.int r5]) (rest := []) (rX9_answer (N := 0) hf10 (Nat.le_refl _)) rfl (Nat.le_trans (Nat.le_of_ble_eq_true rfl) hN) rfl (Nat.le_of_ble_eq_true rfl) (Or.inl hz) ?_
    exact go_iret hc (oend_i h hE) hr dX9_graves_29
  · rw [if_pos hh] at h
    refine go_aload_n hc dX9_graves_8 rfl rfl ?_
    refine go_iconst hc dX9_graves_9 ci_1 ?_
    obtain ⟨r11, σ12, hf13, h⟩ := obi_some h
    refine go_callVi hc ho cmX9_refuse mlX9_70 dX9_graves_10 ok_0 (As := [.int (1 : Int32)]) (rest := []) (rX9_refuse (N := 0) hf13 (Nat.le_refl _)) rfl (Nat.le_trans (Nat.le_of_ble_eq_true rfl) hN) rfl (Nat.le_of_ble_eq_true rfl) (Or.inl hz) ?_
    exact go_iret hc (oend_i h hE) hr dX9_graves_13
def fX9_isStone (x0 : Int32) (σ : OM) : Option (Int32 × OM) :=
  if x0 < 0 then (
   some ((0 : Int32), σ))
  else (ogd (decide (okd (mR σ 0 0) = 8)) (
  if (mI σ ((mR σ 0 0) + 1) 8) ≤ x0 then (
   some ((0 : Int32), σ))
  else (some ((1 : Int32), σ))))
set_option maxRecDepth 100000 in
set_option maxHeartbeats 4000000 in
theorem rX9_isStone {N : Nat} {x0 : Int32} {σ : OM} {r0 : Int32} {σ0 : OM} (h : fX9_isStone x0 σ = some (r0, σ0)) (hN0 : 0 ≤ N) : oEv N MX9_isStone [.ref 0, .int x0] σ (some (.int r0)) σ0 := by
  refine oEv_of (lv := [.ref 0, .int x0]) (by decide +kernel) (fun g q hq => hq) (fun g => Nat.le_of_ble_eq_true rfl) ?_
  intro K hc ho hL hN1 hr hE hz
  have hN : 0 ≤ kN K := by rw [hN1]; exact hN0
  unfold fX9_isStone at h
  refine go_iload_n hc dX9_isStone_0 rfl rfl ?_
  refine go_if_lt (tgt := 22) hc dX9_isStone_1 rfl (fun hh => ?_) (fun hh => ?_)
  · rw [if_pos hh] at h
    refine go_iconst hc dX9_isStone_22 ci_0 ?_
    exact go_zret hc (oend_i h hE) hr rfl dX9_isStone_23
  · rw [if_neg hh] at h
    refine go_iload_n hc dX9_isStone_4 rfl rfl ?_
    refine go_aload_n hc dX9_isStone_5 rfl rfl ?_
    obtain ⟨hg1, h⟩ := ogd_some h
    refine go_getR hc ho flX9_10 dX9_isStone_6 ok_0 ?_
    refine go_getC (b := (mR σ 0 0) + 1) (ow_c0_0 (of_decide_eq_true hg1)) hc ho flX9_37 dX9_isStone_9 (of_decide_eq_true hg1) ?_
    refine go_getI hc ho flX9_335 dX9_isStone_12 (ow_k1 (of_decide_eq_true hg1)) ?_
    refine go_icmp_ge (tgt := 22) hc dX9_isStone_15 rfl (fun hh => ?_) (fun hh => ?_)
    · rw [if_pos hh] at h
      refine go_iconst hc dX9_isStone_22 ci_0 ?_
      exact go_zret hc (oend_i h hE) hr rfl dX9_isStone_23
    · rw [if_neg hh] at h
      refine go_iconst hc dX9_isStone_18 ci_1 ?_
      refine go_goto (tgt := 23) hc dX9_isStone_19 rfl ?_
      exact go_zret hc (oend_i h hE) hr rfl dX9_isStone_23
def fX2_stoneSaysYes (w : Nat) (x0 : Int32) (σ : OM) : Option (Int32 × OM) :=
  obi (fX9_bitOf ((mI σ (w + 1) 9).toInt64) x0 σ) (fun r1 σ2 =>
  if r1 = (1 : Int32) then (
   some ((1 : Int32), σ2))
  else (some ((0 : Int32), σ2)))
set_option maxRecDepth 100000 in
set_option maxHeartbeats 4000000 in
theorem rX2_stoneSaysYes {N : Nat} {w : Nat} {x0 : Int32} {σ : OM} {r0 : Int32} {σ0 : OM} (hw : okd w = 8) (h : fX2_stoneSaysYes w x0 σ = some (r0, σ0)) (hN0 : 1 ≤ N) : oEv N MX2_stoneSaysYes [.ref (w + 1), .int x0] σ (some (.int r0)) σ0 := by
  refine oEv_of (lv := [.ref (w + 1), .int x0]) (by decide +kernel) (fun g q hq => hq) (fun g => Nat.le_of_ble_eq_true rfl) ?_
  intro K hc ho hL hN1 hr hE hz
  have hN : 1 ≤ kN K := by rw [hN1]; exact hN0
  unfold fX2_stoneSaysYes at h
  refine go_aload_n hc dX2_stoneSaysYes_0 rfl rfl ?_
  refine go_getI hc ho flX2_48 dX2_stoneSaysYes_1 (ow_k1 hw) ?_
  refine go_i2l hc dX2_stoneSaysYes_4 ?_
  refine go_iload_n hc dX2_stoneSaysYes_5 rfl rfl ?_
  obtain ⟨r1, σ2, hf3, h⟩ := obi_some h
  refine go_callSNi hc ho cmX9_bitOf mnX2_55 dX2_stoneSaysYes_6 (As := [.long ((mI σ (w + 1) 9).toInt64), .int x0]) (rest := []) (rX9_bitOf (N := 0) hf3 (Nat.le_refl _)) rfl (Nat.le_trans (Nat.le_of_ble_eq_true rfl) hN) rfl (Nat.le_of_ble_eq_true rfl) (Or.inl hz) ?_
  refine go_iconst hc dX2_stoneSaysYes_9 ci_1 ?_
  refine go_icmp_ne (tgt := 17) hc dX2_stoneSaysYes_10 rfl (fun hh => ?_) (fun hh => ?_)
  · rw [if_neg hh] at h
    refine go_iconst hc dX2_stoneSaysYes_17 ci_0 ?_
    exact go_zret hc (oend_i h hE) hr rfl dX2_stoneSaysYes_18
  · rw [if_pos hh] at h
    refine go_iconst hc dX2_stoneSaysYes_13 ci_1 ?_
    refine go_goto (tgt := 18) hc dX2_stoneSaysYes_14 rfl ?_
    exact go_zret hc (oend_i h hE) hr rfl dX2_stoneSaysYes_18
def fX2_askable_b6 : Nat → Nat → Int32 → Int64 → Int32 → Int32 → OM → Option (Int32 × OM)
  | 0, _, _, _, _, _, _ => none
  | n + 1, bl0, l1, l2, l4, l5, σ =>
    if (mI σ (bl0 + 1) 6) ≤ l5 then (
     some (l4, σ))
    else (obi (fX2_stoneSaysYes bl0 l1 σ) (fun r1 σ2 =>
    obi (fX2_worldsWith bl0 l5 r1 σ2) (fun r4 σ5 =>
    if (lg_cmp (l2 &&& r4) (0 : Int64)) = 0 then (
     fX2_askable_b6 n bl0 l1 l2 l4 (l5 + 1) σ5)
    else (fX2_askable_b6 n bl0 l1 l2 (l4 ||| ((1 : Int32) <<< (l5 &&& 31))) (l5 + 1) σ5))))
set_option maxRecDepth 100000 in
set_option maxHeartbeats 4000000 in
theorem rX2_askable_b6 {K : OK} (hc : kcc K = cX2_askable) (ho : kow K = RX2) (hL : knL K = 6) (hN : 2 ≤ kN K) (hr : (kme K).sig.returnType = (some .int)) {r0 : Int32} {σ0 : OM} (hE : oEnd K (some (.int r0)) σ0) (hz : kz K = 0) : ∀ (n : Nat) (bl0 : Nat) (l1 : Int32) (l2 : Int64) (l4 : Int32) (l5 : Int32) (σ : OM), okd bl0 = 8 → fX2_askable_b6 n bl0 l1 l2 l4 l5 σ = some (r0, σ0) → Go K 6 [.ref (bl0 + 1), .int l1, .long l2, .null, .int l4, .int l5] [] σ := by
  intro n
  induction n with
  | zero =>
    intro bl0 l1 l2 l4 l5 σ hbl0 h
    cases h
  | succ n ih =>
    intro bl0 l1 l2 l4 l5 σ hbl0 h
    rw [fX2_askable_b6] at h
    refine go_iload hc dX2_askable_6 rfl ?_
    refine go_aload_n hc dX2_askable_8 rfl rfl ?_
    refine go_getI hc ho flX2_42 dX2_askable_9 (ow_k1 hbl0) ?_
    refine go_icmp_ge (tgt := 48) hc dX2_askable_12 rfl (fun hh => ?_) (fun hh => ?_)
    · rw [if_pos hh] at h
      refine go_iload hc dX2_askable_48 rfl ?_
      exact go_iret hc (oend_i h hE) hr dX2_askable_50
    · rw [if_neg hh] at h
      refine go_lload_n hc dX2_askable_15 rfl rfl ?_
      refine go_aload_n hc dX2_askable_16 rfl rfl ?_
      refine go_iload hc dX2_askable_17 rfl ?_
      refine go_aload_n hc dX2_askable_19 rfl rfl ?_
      refine go_iload_n hc dX2_askable_20 rfl rfl ?_
      obtain ⟨r1, σ2, hf3, h⟩ := obi_some h
      refine go_callVi hc ho cmX2_stoneSaysYes mlX2_73 dX2_askable_21 (ow_k1 hbl0) (As := [.int l1]) (rest := [.int l5, .ref (bl0 + 1), .long l2]) (rX2_stoneSaysYes (N := 1) hbl0 hf3 (Nat.le_refl _)) rfl (Nat.le_trans (Nat.le_of_ble_eq_true rfl) hN) rfl (Nat.le_of_ble_eq_true rfl) (Or.inl hz) ?_
      obtain ⟨r4, σ5, hf6, h⟩ := obi_some h
      refine go_callVl hc ho cmX2_worldsWith mlX2_77 dX2_askable_24 (ow_k1 hbl0) (As := [.int l5, .int r1]) (rest := [.long l2]) (rX2_worldsWith (N := 1) hbl0 hf6 (Nat.le_refl _)) rfl (Nat.le_trans (Nat.le_of_ble_eq_true rfl) hN) rfl (Nat.le_of_ble_eq_true rfl) (Or.inl hz) ?_
      refine go_land hc dX2_askable_27 ?_
      refine go_lconst hc dX2_askable_28 cl_0 ?_
      refine go_lcmp hc dX2_askable_29 ?_
      refine go_if_eq (tgt := 42) hc dX2_askable_30 rfl (fun hh => ?_) (fun hh => ?_)
      · rw [if_pos hh] at h
        refine go_iinc hc (lv1 := [.ref (bl0 + 1), .int l1, .long l2, .null, .int l4, .int (l5 + 1)]) dX2_askable_42 rfl ci_1 hL (by decide) (fun _ _ e => by cases e; rfl) rfl ?_
        refine go_goto (tgt := 6) hc dX2_askable_45 rfl ?_
        exact ih bl0 l1 l2 l4 (l5 + 1) _ hbl0 h
      · rw [if_neg hh] at h
        refine go_iload hc dX2_askable_33 rfl ?_
        refine go_iconst hc dX2_askable_35 ci_1 ?_
        refine go_iload hc dX2_askable_36 rfl ?_
        refine go_ishl hc dX2_askable_38 ?_
        refine go_ior hc dX2_askable_39 ?_
        refine go_istore hc (lv1 := [.ref (bl0 + 1), .int l1, .long l2, .null, .int (l4 ||| ((1 : Int32) <<< (l5 &&& 31))), .int l5]) dX2_askable_40 hL (by decide) (fun _ _ e => by cases e; rfl) rfl ?_
        refine go_iinc hc (lv1 := [.ref (bl0 + 1), .int l1, .long l2, .null, .int (l4 ||| ((1 : Int32) <<< (l5 &&& 31))), .int (l5 + 1)]) dX2_askable_42 rfl ci_1 hL (by decide) (fun _ _ e => by cases e; rfl) rfl ?_
        refine go_goto (tgt := 6) hc dX2_askable_45 rfl ?_
        exact ih bl0 l1 l2 (l4 ||| ((1 : Int32) <<< (l5 &&& 31))) (l5 + 1) _ hbl0 h
def fX2_askable (w : Nat) (x0 : Int32) (x1 : Int64) (σ : OM) : Option (Int32 × OM) :=
  fX2_askable_b6 oF w x0 x1 (0 : Int32) (0 : Int32) σ
set_option maxRecDepth 100000 in
set_option maxHeartbeats 4000000 in
theorem rX2_askable {N : Nat} {w : Nat} {x0 : Int32} {x1 : Int64} {σ : OM} {r0 : Int32} {σ0 : OM} (hw : okd w = 8) (h : fX2_askable w x0 x1 σ = some (r0, σ0)) (hN0 : 2 ≤ N) : oEv N MX2_askable [.ref (w + 1), .int x0, .long x1] σ (some (.int r0)) σ0 := by
  refine oEv_of (lv := [.ref (w + 1), .int x0, .long x1, .null, .null, .null]) (by decide +kernel) (fun g q hq => hq) (fun g => Nat.le_of_ble_eq_true rfl) ?_
  intro K hc ho hL hN1 hr hE hz
  have hN : 2 ≤ kN K := by rw [hN1]; exact hN0
  unfold fX2_askable at h
  refine go_iconst hc dX2_askable_0 ci_0 ?_
  refine go_istore hc (lv1 := [.ref (w + 1), .int x0, .long x1, .null, .int (0 : Int32), .null]) dX2_askable_1 hL (by decide) (fun _ _ e => by cases e; rfl) rfl ?_
  refine go_iconst hc dX2_askable_3 ci_0 ?_
  refine go_istore hc (lv1 := [.ref (w + 1), .int x0, .long x1, .null, .int (0 : Int32), .int (0 : Int32)]) dX2_askable_4 hL (by decide) (fun _ _ e => by cases e; rfl) rfl ?_
  exact rX2_askable_b6 hc ho hL hN hr hE hz oF w x0 x1 (0 : Int32) (0 : Int32) _ hw h
def fX9_could (x0 : Int32) (σ : OM) : Option (Int32 × OM) :=
  obi (fX9_isStone x0 σ) (fun r1 σ2 =>
  if r1 = 0 then (
   obi (fX9_refuse (1 : Int32) σ2) (fun r15 σ16 =>
   some (r15, σ16)))
  else (ogd (decide (okd (mR σ2 0 0) = 8)) (
  ogd (decide (okd (mR σ2 0 0) = 8)) (
  obi (fX3_worldsOfAll (mR σ2 0 0) σ2) (fun r6 σ7 =>
  obi (fX2_askable (mR σ2 0 0) x0 r6 σ7) (fun r9 σ10 =>
  obi (fX9_answer r9 σ10) (fun r12 σ13 =>
  some (r12, σ13))))))))
set_option maxRecDepth 100000 in
set_option maxHeartbeats 4000000 in
theorem rX9_could {N : Nat} {x0 : Int32} {σ : OM} {r0 : Int32} {σ0 : OM} (h : fX9_could x0 σ = some (r0, σ0)) (hN0 : 5 ≤ N) : oEv N MX9_could [.ref 0, .int x0] σ (some (.int r0)) σ0 := by
  refine oEv_of (lv := [.ref 0, .int x0]) (by decide +kernel) (fun g q hq => hq) (fun g => Nat.le_of_ble_eq_true rfl) ?_
  intro K hc ho hL hN1 hr hE hz
  have hN : 5 ≤ kN K := by rw [hN1]; exact hN0
  unfold fX9_could at h
  refine go_aload_n hc dX9_could_0 rfl rfl ?_
  refine go_iload_n hc dX9_could_1 rfl rfl ?_
  obtain ⟨r1, σ2, hf3, h⟩ := obi_some h
  refine go_callVi hc ho cmX9_isStone mlX9_237 dX9_could_2 ok_0 (As := [.int x0]) (rest := []) (rX9_isStone (N := 0) hf3 (Nat.le_refl _)) rfl (Nat.le_trans (Nat.le_of_ble_eq_true rfl) hN) rfl (Nat.le_of_ble_eq_true rfl) (Or.inl hz) ?_
  refine go_if_ne (tgt := 14) hc dX9_could_5 rfl (fun hh => ?_) (fun hh => ?_)
  · rw [if_neg hh] at h
    refine go_aload_n hc dX9_could_14 rfl rfl ?_
    refine go_aload_n hc dX9_could_15 rfl rfl ?_
    obtain ⟨hg4, h⟩ := ogd_some h
    refine go_getR hc ho flX9_10 dX9_could_16 ok_0 ?_
    refine go_getC (b := (mR σ2 0 0) + 1) (ow_c0_0 (of_decide_eq_true hg4)) hc ho flX9_37 dX9_could_19 (of_decide_eq_true hg4) ?_
    refine go_iload_n hc dX9_could_22 rfl rfl ?_
    refine go_aload_n hc dX9_could_23 rfl rfl ?_
    obtain ⟨hg5, h⟩ := ogd_some h
    refine go_getR hc ho flX9_10 dX9_could_24 ok_0 ?_
    refine go_getC (b := (mR σ2 0 0) + 10) (ow_c0_2 (of_decide_eq_true hg5)) hc ho flX9_149 dX9_could_27 (of_decide_eq_true hg5) ?_
    obtain ⟨r6, σ7, hf8, h⟩ := obi_some h
    refine go_callVl hc ho cmX3_worldsOfAll mlX9_191 dX9_could_30 (ow_k10 (of_decide_eq_true hg5)) (As := []) (rest := [.int x0, .ref ((mR σ2 0 0) + 1), .ref 0]) (rX3_worldsOfAll (N := 4) (of_decide_eq_true hg5) hf8 (Nat.le_refl _)) rfl (Nat.le_trans (Nat.le_of_ble_eq_true rfl) hN) rfl (Nat.le_of_ble_eq_true rfl) (Or.inl hz) ?_
    obtain ⟨r9, σ10, hf11, h⟩ := obi_some h
    refine go_callVi hc ho cmX2_askable mlX9_240 dX9_could_33 (ow_k1 (of_decide_eq_true hg4)) (As := [.int x0, .long r6]) (rest := [.ref 0]) (rX2_askable (N := 2) (of_decide_eq_true hg4) hf11 (Nat.le_refl _)) rfl (Nat.le_trans (Nat.le_of_ble_eq_true rfl) hN) rfl (Nat.le_of_ble_eq_true rfl) (Or.inl hz) ?_
    obtain ⟨r12, σ13, hf14, h⟩ := obi_some h
    refine go_callVi hc ho cmX9_answer mlX9_103 dX9_could_36 ok_0 (As := [.int r9]) (rest := []) (rX9_answer (N := 0) hf14 (Nat.le_refl _)) rfl (Nat.le_trans (Nat.le_of_ble_eq_true rfl) hN) rfl (Nat.le_of_ble_eq_true rfl) (Or.inl hz) ?_
    exact go_iret hc (oend_i h hE) hr dX9_could_39
  · rw [if_pos hh] at h
    refine go_aload_n hc dX9_could_8 rfl rfl ?_
    refine go_iconst hc dX9_could_9 ci_1 ?_
    obtain ⟨r15, σ16, hf17, h⟩ := obi_some h
    refine go_callVi hc ho cmX9_refuse mlX9_70 dX9_could_10 ok_0 (As := [.int (1 : Int32)]) (rest := []) (rX9_refuse (N := 0) hf17 (Nat.le_refl _)) rfl (Nat.le_trans (Nat.le_of_ble_eq_true rfl) hN) rfl (Nat.le_of_ble_eq_true rfl) (Or.inl hz) ?_
    exact go_iret hc (oend_i h hE) hr dX9_could_13
def fX9_surely_b93 (l6 : Int32) (σ : OM) : Option (Int32 × OM) :=
  obi (fX9_answer l6 σ) (fun r1 σ2 =>
  some (r1, σ2))
set_option maxRecDepth 100000 in
set_option maxHeartbeats 4000000 in
theorem rX9_surely_b93 {K : OK} (hc : kcc K = cX9_surely) (ho : kow K = RX9) (hL : knL K = 8) (hN : 5 ≤ kN K) (hr : (kme K).sig.returnType = (some .int)) {r0 : Int32} {σ0 : OM} (hE : oEnd K (some (.int r0)) σ0) (hz : kz K = 0) {l6 : Int32} {σ : OM} (h : fX9_surely_b93 l6 σ = some (r0, σ0)) : Go K 93 [.ref 0, .null, .null, .null, .null, .null, .int l6, .null] [] σ := by
  unfold fX9_surely_b93 at h
  refine go_aload_n hc dX9_surely_93 rfl rfl ?_
  refine go_iload hc dX9_surely_94 rfl ?_
  obtain ⟨r1, σ2, hf3, h⟩ := obi_some h
  refine go_callVi hc ho cmX9_answer mlX9_103 dX9_surely_96 ok_0 (As := [.int l6]) (rest := []) (rX9_answer (N := 0) hf3 (Nat.le_refl _)) rfl (Nat.le_trans (Nat.le_of_ble_eq_true rfl) hN) rfl (Nat.le_of_ble_eq_true rfl) (Or.inl hz) ?_
  exact go_iret hc (oend_i h hE) hr dX9_surely_99
def fX9_surely_b54 : Nat → Nat → Int64 → Int32 → Int32 → Int32 → OM → Option (Int32 × OM)
  | 0, _, _, _, _, _, _ => none
  | n + 1, bl2, l3, l5, l6, l7, σ =>
    if (mI σ (bl2 + 1) 6) ≤ l7 then (
     fX9_surely_b93 l6 σ)
    else (obi (fX2_soWorlds bl2 l7 σ) (fun r1 σ2 =>
    obi (fX9_verdict l3 r1 σ2) (fun r4 σ5 =>
    if r4 = l5 then (
     fX9_surely_b54 n bl2 l3 l5 (l6 ||| ((1 : Int32) <<< (l7 &&& 31))) (l7 + 1) σ5)
    else (fX9_surely_b54 n bl2 l3 l5 l6 (l7 + 1) σ5))))
set_option maxRecDepth 100000 in
set_option maxHeartbeats 4000000 in
theorem rX9_surely_b54 {K : OK} (hc : kcc K = cX9_surely) (ho : kow K = RX9) (hL : knL K = 8) (hN : 5 ≤ kN K) (hr : (kme K).sig.returnType = (some .int)) {r0 : Int32} {σ0 : OM} (hE : oEnd K (some (.int r0)) σ0) (hz : kz K = 0) : ∀ (n : Nat) (bl2 : Nat) (l3 : Int64) (l5 : Int32) (l6 : Int32) (l7 : Int32) (σ : OM), okd bl2 = 8 → fX9_surely_b54 n bl2 l3 l5 l6 l7 σ = some (r0, σ0) → Go K 54 [.ref 0, .null, .ref (bl2 + 1), .long l3, .null, .int l5, .int l6, .int l7] [] σ := by
  intro n
  induction n with
  | zero =>
    intro bl2 l3 l5 l6 l7 σ hbl2 h
    cases h
  | succ n ih =>
    intro bl2 l3 l5 l6 l7 σ hbl2 h
    rw [fX9_surely_b54] at h
    refine go_iload hc dX9_surely_54 rfl ?_
    refine go_aload_n hc dX9_surely_56 rfl rfl ?_
    refine go_getI hc ho flX9_144 dX9_surely_57 (ow_k1 hbl2) ?_
    refine go_icmp_ge (tgt := 93) hc dX9_surely_60 rfl (fun hh => ?_) (fun hh => ?_)
    · rw [if_pos hh] at h
      refine go_mask [true, false, false, false, false, false, true, false] (lv1 := [.ref 0, .null, .null, .null, .null, .null, .int l6, .null]) rfl ?_
      exact rX9_surely_b93 hc ho hL hN hr hE hz h
    · rw [if_neg hh] at h
      refine go_lload_n hc dX9_surely_63 rfl rfl ?_
      refine go_aload_n hc dX9_surely_64 rfl rfl ?_
      refine go_iload hc dX9_surely_65 rfl ?_
      obtain ⟨r1, σ2, hf3, h⟩ := obi_some h
      refine go_callVl hc ho cmX2_soWorlds mlX9_136 dX9_surely_67 (ow_k1 hbl2) (As := [.int l7]) (rest := [.long l3]) (rX2_soWorlds (N := 0) hbl2 hf3 (Nat.le_refl _)) rfl (Nat.le_trans (Nat.le_of_ble_eq_true rfl) hN) rfl (Nat.le_of_ble_eq_true rfl) (Or.inl hz) ?_
      obtain ⟨r4, σ5, hf6, h⟩ := obi_some h
      refine go_callSi hc ho cmX9_verdict mlX9_180 dX9_surely_70 (As := [.long l3, .long r1]) (rest := []) (rX9_verdict (N := 0) hf6 (Nat.le_refl _)) rfl (Nat.le_trans (Nat.le_of_ble_eq_true rfl) hN) rfl (Nat.le_of_ble_eq_true rfl) (Or.inl hz) ?_
      refine go_iload hc dX9_surely_73 rfl ?_
      refine go_icmp_ne (tgt := 87) hc dX9_surely_75 rfl (fun hh => ?_) (fun hh => ?_)
      · rw [if_neg hh] at h
        refine go_iinc hc (lv1 := [.ref 0, .null, .ref (bl2 + 1), .long l3, .null, .int l5, .int l6, .int (l7 + 1)]) dX9_surely_87 rfl ci_1 hL (by decide) (fun _ _ e => by cases e; rfl) rfl ?_
        refine go_goto (tgt := 54) hc dX9_surely_90 rfl ?_
        exact ih bl2 l3 l5 l6 (l7 + 1) _ hbl2 h
      · rw [if_pos hh] at h
        refine go_iload hc dX9_surely_78 rfl ?_
        refine go_iconst hc dX9_surely_80 ci_1 ?_
        refine go_iload hc dX9_surely_81 rfl ?_
        refine go_ishl hc dX9_surely_83 ?_
        refine go_ior hc dX9_surely_84 ?_
        refine go_istore hc (lv1 := [.ref 0, .null, .ref (bl2 + 1), .long l3, .null, .int l5, .int (l6 ||| ((1 : Int32) <<< (l7 &&& 31))), .int l7]) dX9_surely_85 hL (by decide) (fun _ _ e => by cases e; rfl) rfl ?_
        refine go_iinc hc (lv1 := [.ref 0, .null, .ref (bl2 + 1), .long l3, .null, .int l5, .int (l6 ||| ((1 : Int32) <<< (l7 &&& 31))), .int (l7 + 1)]) dX9_surely_87 rfl ci_1 hL (by decide) (fun _ _ e => by cases e; rfl) rfl ?_
        refine go_goto (tgt := 54) hc dX9_surely_90 rfl ?_
        exact ih bl2 l3 l5 (l6 ||| ((1 : Int32) <<< (l7 &&& 31))) (l7 + 1) _ hbl2 h
def fX9_surely (x0 : Int32) (σ : OM) : Option (Int32 × OM) :=
  obi (fX9_isStone x0 σ) (fun r1 σ2 =>
  if r1 = 0 then (
   obi (fX9_refuse (1 : Int32) σ2) (fun r12 σ13 =>
   some (r12, σ13)))
  else (ogd (decide (okd (mR σ2 0 0) = 8)) (
  ogd (decide (okd (mR σ2 0 0) = 8)) (
  obi (fX3_worldsOfAll (mR σ2 0 0) σ2) (fun r6 σ7 =>
  obi (fX2_stoneSaysYes (mR σ2 0 0) x0 σ7) (fun r9 σ10 =>
  if r9 = 0 then (
   fX9_surely_b54 oF (mR σ2 0 0) r6 (0 : Int32) (0 : Int32) (0 : Int32) σ10)
  else (fX9_surely_b54 oF (mR σ2 0 0) r6 (1 : Int32) (0 : Int32) (0 : Int32) σ10)))))))
set_option maxRecDepth 100000 in
set_option maxHeartbeats 4000000 in
theorem rX9_surely {N : Nat} {x0 : Int32} {σ : OM} {r0 : Int32} {σ0 : OM} (h : fX9_surely x0 σ = some (r0, σ0)) (hN0 : 5 ≤ N) : oEv N MX9_surely [.ref 0, .int x0] σ (some (.int r0)) σ0 := by
  refine oEv_of (lv := [.ref 0, .int x0, .null, .null, .null, .null, .null, .null]) (by decide +kernel) (fun g q hq => hq) (fun g => Nat.le_of_ble_eq_true rfl) ?_
  intro K hc ho hL hN1 hr hE hz
  have hN : 5 ≤ kN K := by rw [hN1]; exact hN0
  unfold fX9_surely at h
  refine go_aload_n hc dX9_surely_0 rfl rfl ?_
  refine go_iload_n hc dX9_surely_1 rfl rfl ?_
  obtain ⟨r1, σ2, hf3, h⟩ := obi_some h
  refine go_callVi hc ho cmX9_isStone mlX9_237 dX9_surely_2 ok_0 (As := [.int x0]) (rest := []) (rX9_isStone (N := 0) hf3 (Nat.le_refl _)) rfl (Nat.le_trans (Nat.le_of_ble_eq_true rfl) hN) rfl (Nat.le_of_ble_eq_true rfl) (Or.inl hz) ?_
  refine go_if_ne (tgt := 14) hc dX9_surely_5 rfl (fun hh => ?_) (fun hh => ?_)
  · rw [if_neg hh] at h
    refine go_aload_n hc dX9_surely_14 rfl rfl ?_
    obtain ⟨hg4, h⟩ := ogd_some h
    refine go_getR hc ho flX9_10 dX9_surely_15 ok_0 ?_
    refine go_getC (b := (mR σ2 0 0) + 1) (ow_c0_0 (of_decide_eq_true hg4)) hc ho flX9_37 dX9_surely_18 (of_decide_eq_true hg4) ?_
    refine go_astore_n hc (lv1 := [.ref 0, .int x0, .ref ((mR σ2 0 0) + 1), .null, .null, .null, .null, .null]) dX9_surely_21 rfl hL (by decide) (fun _ _ e => by cases e; rfl) rfl ?_
    refine go_aload_n hc dX9_surely_22 rfl rfl ?_
    obtain ⟨hg5, h⟩ := ogd_some h
    refine go_getR hc ho flX9_10 dX9_surely_23 ok_0 ?_
    refine go_getC (b := (mR σ2 0 0) + 10) (ow_c0_2 (of_decide_eq_true hg5)) hc ho flX9_149 dX9_surely_26 (of_decide_eq_true hg5) ?_
    obtain ⟨r6, σ7, hf8, h⟩ := obi_some h
    refine go_callVl hc ho cmX3_worldsOfAll mlX9_191 dX9_surely_29 (ow_k10 (of_decide_eq_true hg5)) (As := []) (rest := []) (rX3_worldsOfAll (N := 4) (of_decide_eq_true hg5) hf8 (Nat.le_refl _)) rfl (Nat.le_trans (Nat.le_of_ble_eq_true rfl) hN) rfl (Nat.le_of_ble_eq_true rfl) (Or.inl hz) ?_
    refine go_lstore_n hc (lv1 := [.ref 0, .int x0, .ref ((mR σ2 0 0) + 1), .long r6, .null, .null, .null, .null]) dX9_surely_32 rfl hL (by decide) (fun _ _ e => by cases e; rfl) rfl ?_
    refine go_aload_n hc dX9_surely_33 rfl rfl ?_
    refine go_iload_n hc dX9_surely_34 rfl rfl ?_
    obtain ⟨r9, σ10, hf11, h⟩ := obi_some h
    refine go_callVi hc ho cmX2_stoneSaysYes mlX9_244 dX9_surely_35 (ow_k1 (of_decide_eq_true hg4)) (As := [.int x0]) (rest := []) (rX2_stoneSaysYes (N := 1) (of_decide_eq_true hg4) hf11 (Nat.le_refl _)) rfl (Nat.le_trans (Nat.le_of_ble_eq_true rfl) hN) rfl (Nat.le_of_ble_eq_true rfl) (Or.inl hz) ?_
    refine go_if_eq (tgt := 45) hc dX9_surely_38 rfl (fun hh => ?_) (fun hh => ?_)
    · rw [if_pos hh] at h
      refine go_iconst hc dX9_surely_45 ci_0 ?_
      refine go_istore hc (lv1 := [.ref 0, .int x0, .ref ((mR σ2 0 0) + 1), .long r6, .null, .int (0 : Int32), .null, .null]) dX9_surely_46 hL (by decide) (fun _ _ e => by cases e; rfl) rfl ?_
      refine go_iconst hc dX9_surely_48 ci_0 ?_
      refine go_istore hc (lv1 := [.ref 0, .int x0, .ref ((mR σ2 0 0) + 1), .long r6, .null, .int (0 : Int32), .int (0 : Int32), .null]) dX9_surely_49 hL (by decide) (fun _ _ e => by cases e; rfl) rfl ?_
      refine go_iconst hc dX9_surely_51 ci_0 ?_
      refine go_istore hc (lv1 := [.ref 0, .int x0, .ref ((mR σ2 0 0) + 1), .long r6, .null, .int (0 : Int32), .int (0 : Int32), .int (0 : Int32)]) dX9_surely_52 hL (by decide) (fun _ _ e => by cases e; rfl) rfl ?_
      refine go_mask [true, false, true, true, false, true, true, true] (lv1 := [.ref 0, .null, .ref ((mR σ2 0 0) + 1), .long r6, .null, .int (0 : Int32), .int (0 : Int32), .int (0 : Int32)]) rfl ?_
      exact rX9_surely_b54 hc ho hL hN hr hE hz oF (mR σ2 0 0) r6 (0 : Int32) (0 : Int32) (0 : Int32) _ (of_decide_eq_true hg4) h
    · rw [if_neg hh] at h
      refine go_iconst hc dX9_surely_41 ci_1 ?_
      refine go_goto (tgt := 46) hc dX9_surely_42 rfl ?_
      refine go_istore hc (lv1 := [.ref 0, .int x0, .ref ((mR σ2 0 0) + 1), .long r6, .null, .int (1 : Int32), .null, .null]) dX9_surely_46 hL (by decide) (fun _ _ e => by cases e; rfl) rfl ?_
      refine go_iconst hc dX9_surely_48 ci_0 ?_
      refine go_istore hc (lv1 := [.ref 0, .int x0, .ref ((mR σ2 0 0) + 1), .long r6, .null, .int (1 : Int32), .int (0 : Int32), .null]) dX9_surely_49 hL (by decide) (fun _ _ e => by cases e; rfl) rfl ?_
      refine go_iconst hc dX9_surely_51 ci_0 ?_
      refine go_istore hc (lv1 := [.ref 0, .int x0, .ref ((mR σ2 0 0) + 1), .long r6, .null, .int (1 : Int32), .int (0 : Int32), .int (0 : Int32)]) dX9_surely_52 hL (by decide) (fun _ _ e => by cases e; rfl) rfl ?_
      refine go_mask [true, false, true, true, false, true, true, true] (lv1 := [.ref 0, .null, .ref ((mR σ2 0 0) + 1), .long r6, .null, .int (1 : Int32), .int (0 : Int32), .int (0 : Int32)]) rfl ?_
      exact rX9_surely_b54 hc ho hL hN hr hE hz oF (mR σ2 0 0) r6 (1 : Int32) (0 : Int32) (0 : Int32) _ (of_decide_eq_true hg4) h
  · rw [if_pos hh] at h
    refine go_aload_n hc dX9_surely_8 rfl rfl ?_
    refine go_iconst hc dX9_surely_9 ci_1 ?_
    obtain ⟨r12, σ13, hf14, h⟩ := obi_some h
    refine go_callVi hc ho cmX9_refuse mlX9_70 dX9_surely_10 ok_0 (As := [.int (1 : Int32)]) (rest := []) (rX9_refuse (N := 0) hf14 (Nat.le_refl _)) rfl (Nat.le_trans (Nat.le_of_ble_eq_true rfl) hN) rfl (Nat.le_of_ble_eq_true rfl) (Or.inl hz) ?_
    exact go_iret hc (oend_i h hE) hr dX9_surely_13
def fJ9_max_7cf53 (x0 : Int32) (x1 : Int32) (σ : OM) : Option (Int32 × OM) :=
  if x0 < x1 then (
   some (x1, σ))
  else (some (x0, σ))
set_option maxRecDepth 100000 in
set_option maxHeartbeats 4000000 in
theorem rJ9_max_7cf53 {N : Nat} {x0 : Int32} {x1 : Int32} {σ : OM} {r0 : Int32} {σ0 : OM} (h : fJ9_max_7cf53 x0 x1 σ = some (r0, σ0)) (hN0 : 0 ≤ N) : oEv N MJ9_max_7cf53 [.int x0, .int x1] σ (some (.int r0)) σ0 := by
  refine oEv_of (lv := [.int x0, .int x1]) (by decide +kernel) (fun g q hq => hq) (fun g => Nat.le_of_ble_eq_true rfl) ?_
  intro K hc ho hL hN1 hr hE hz
  have hN : 0 ≤ kN K := by rw [hN1]; exact hN0
  unfold fJ9_max_7cf53 at h
  refine go_iload_n hc dJ9_max_7cf53_0 rfl rfl ?_
  refine go_iload_n hc dJ9_max_7cf53_1 rfl rfl ?_
  refine go_icmp_lt (tgt := 9) hc dJ9_max_7cf53_2 rfl (fun hh => ?_) (fun hh => ?_)
  · rw [if_pos hh] at h
    refine go_iload_n hc dJ9_max_7cf53_9 rfl rfl ?_
    exact go_iret hc (oend_i h hE) hr dJ9_max_7cf53_10
  · rw [if_neg hh] at h
    refine go_iload_n hc dJ9_max_7cf53_5 rfl rfl ?_
    refine go_goto (tgt := 10) hc dJ9_max_7cf53_6 rfl ?_
    exact go_iret hc (oend_i h hE) hr dJ9_max_7cf53_10
def fX2_mostLeft (w : Nat) (x0 : Int64) (x1 : Int32) (σ : OM) : Option (Int32 × OM) :=
  obi (fX2_worldsWith w x1 (1 : Int32) σ) (fun r1 σ2 =>
  obi (fX2_weightOf w (x0 &&& r1) σ2) (fun r4 σ5 =>
  obi (fX2_worldsWith w x1 (0 : Int32) σ5) (fun r7 σ8 =>
  obi (fX2_weightOf w (x0 &&& r7) σ8) (fun r10 σ11 =>
  obi (fJ9_max_7cf53 r4 r10 σ11) (fun r13 σ14 =>
  some (r13, σ14))))))
set_option maxRecDepth 100000 in
set_option maxHeartbeats 4000000 in
theorem rX2_mostLeft {N : Nat} {w : Nat} {x0 : Int64} {x1 : Int32} {σ : OM} {r0 : Int32} {σ0 : OM} (hw : okd w = 8) (h : fX2_mostLeft w x0 x1 σ = some (r0, σ0)) (hN0 : 2 ≤ N) : oEv N MX2_mostLeft [.ref (w + 1), .long x0, .int x1] σ (some (.int r0)) σ0 := by
  refine oEv_of (lv := [.ref (w + 1), .long x0, .null, .int x1]) (by decide +kernel) (fun g q hq => hq) (fun g => Nat.le_of_ble_eq_true rfl) ?_
  intro K hc ho hL hN1 hr hE hz
  have hN : 2 ≤ kN K := by rw [hN1]; exact hN0
  unfold fX2_mostLeft at h
  refine go_aload_n hc dX2_mostLeft_0 rfl rfl ?_
  refine go_lload_n hc dX2_mostLeft_1 rfl rfl ?_
  refine go_aload_n hc dX2_mostLeft_2 rfl rfl ?_
  refine go_iload_n hc dX2_mostLeft_3 rfl rfl ?_
  refine go_iconst hc dX2_mostLeft_4 ci_1 ?_
  obtain ⟨r1, σ2, hf3, h⟩ := obi_some h
  refine go_callVl hc ho cmX2_worldsWith mlX2_77 dX2_mostLeft_5 (ow_k1 hw) (As := [.int x1, .int (1 : Int32)]) (rest := [.long x0, .ref (w + 1)]) (rX2_worldsWith (N := 1) hw hf3 (Nat.le_refl _)) rfl (Nat.le_trans (Nat.le_of_ble_eq_true rfl) hN) rfl (Nat.le_of_ble_eq_true rfl) (Or.inl hz) ?_
  refine go_land hc dX2_mostLeft_8 ?_
  obtain ⟨r4, σ5, hf6, h⟩ := obi_some h
  refine go_callVi hc ho cmX2_weightOf mlX2_101 dX2_mostLeft_9 (ow_k1 hw) (As := [.long (x0 &&& r1)]) (rest := []) (rX2_weightOf (N := 1) hw hf6 (Nat.le_refl _)) rfl (Nat.le_trans (Nat.le_of_ble_eq_true rfl) hN) rfl (Nat.le_of_ble_eq_true rfl) (Or.inl hz) ?_
  refine go_aload_n hc dX2_mostLeft_12 rfl rfl ?_
  refine go_lload_n hc dX2_mostLeft_13 rfl rfl ?_
  refine go_aload_n hc dX2_mostLeft_14 rfl rfl ?_
  refine go_iload_n hc dX2_mostLeft_15 rfl rfl ?_
  refine go_iconst hc dX2_mostLeft_16 ci_0 ?_
  obtain ⟨r7, σ8, hf9, h⟩ := obi_some h
  refine go_callVl hc ho cmX2_worldsWith mlX2_77 dX2_mostLeft_17 (ow_k1 hw) (As := [.int x1, .int (0 : Int32)]) (rest := [.long x0, .ref (w + 1), .int r4]) (rX2_worldsWith (N := 1) hw hf9 (Nat.le_refl _)) rfl (Nat.le_trans (Nat.le_of_ble_eq_true rfl) hN) rfl (Nat.le_of_ble_eq_true rfl) (Or.inl hz) ?_
  refine go_land hc dX2_mostLeft_20 ?_
  obtain ⟨r10, σ11, hf12, h⟩ := obi_some h
  refine go_callVi hc ho cmX2_weightOf mlX2_101 dX2_mostLeft_21 (ow_k1 hw) (As := [.long (x0 &&& r7)]) (rest := [.int r4]) (rX2_weightOf (N := 1) hw hf12 (Nat.le_refl _)) rfl (Nat.le_trans (Nat.le_of_ble_eq_true rfl) hN) rfl (Nat.le_of_ble_eq_true rfl) (Or.inl hz) ?_
  obtain ⟨r13, σ14, hf15, h⟩ := obi_some h
  refine go_callSi hc ho cmJ9_max_7cf53 mlX2_84 dX2_mostLeft_24 (As := [.int r4, .int r10]) (rest := []) (rJ9_max_7cf53 (N := 0) hf15 (Nat.le_refl _)) rfl (Nat.le_trans (Nat.le_of_ble_eq_true rfl) hN) rfl (Nat.le_of_ble_eq_true rfl) (Or.inl hz) ?_
  exact go_iret hc (oend_i h hE) hr dX2_mostLeft_27
def fX2_bestIn_b9 : Nat → Nat → Int64 → Int32 → Int32 → Int32 → OM → Option (Int32 × OM)
  | 0, _, _, _, _, _, _ => none
  | n + 1, bl0, l1, l3, l4, l5, σ =>
    if (mI σ (bl0 + 1) 6) ≤ l5 then (
     some (l3, σ))
    else (obi (fX2_mostLeft bl0 l1 l5 σ) (fun r1 σ2 =>
    if l3 = ((-2) : Int32) then (
     fX2_bestIn_b9 n bl0 l1 l5 r1 (l5 + 1) σ2)
    else (if l4 ≤ r1 then (
     fX2_bestIn_b9 n bl0 l1 l3 l4 (l5 + 1) σ2)
    else (fX2_bestIn_b9 n bl0 l1 l5 r1 (l5 + 1) σ2))))
set_option maxRecDepth 100000 in
set_option maxHeartbeats 4000000 in
theorem rX2_bestIn_b9 {K : OK} (hc : kcc K = cX2_bestIn) (ho : kow K = RX2) (hL : knL K = 7) (hN : 3 ≤ kN K) (hr : (kme K).sig.returnType = (some .int)) {r0 : Int32} {σ0 : OM} (hE : oEnd K (some (.int r0)) σ0) (hz : kz K = 0) : ∀ (n : Nat) (bl0 : Nat) (l1 : Int64) (l3 : Int32) (l4 : Int32) (l5 : Int32) (σ : OM), okd bl0 = 8 → fX2_bestIn_b9 n bl0 l1 l3 l4 l5 σ = some (r0, σ0) → Go K 9 [.ref (bl0 + 1), .long l1, .null, .int l3, .int l4, .int l5, .null] [] σ := by
  intro n
  induction n with
  | zero =>
    intro bl0 l1 l3 l4 l5 σ hbl0 h
    cases h
  | succ n ih =>
    intro bl0 l1 l3 l4 l5 σ hbl0 h
    rw [fX2_bestIn_b9] at h
    refine go_iload hc dX2_bestIn_9 rfl ?_
    refine go_aload_n hc dX2_bestIn_11 rfl rfl ?_
    refine go_getI hc ho flX2_42 dX2_bestIn_12 (ow_k1 hbl0) ?_
    refine go_icmp_ge (tgt := 53) hc dX2_bestIn_15 rfl (fun hh => ?_) (fun hh => ?_)
    · rw [if_pos hh] at h
      refine go_iload_n hc dX2_bestIn_53 rfl rfl ?_
      exact go_iret hc (oend_i h hE) hr dX2_bestIn_54
    · rw [if_neg hh] at h
      refine go_aload_n hc dX2_bestIn_18 rfl rfl ?_
      refine go_lload_n hc dX2_bestIn_19 rfl rfl ?_
      refine go_iload hc dX2_bestIn_20 rfl ?_
      obtain ⟨r1, σ2, hf3, h⟩ := obi_some h
      refine go_callVi hc ho cmX2_mostLeft mlX2_98 dX2_bestIn_22 (ow_k1 hbl0) (As := [.long l1, .int l5]) (rest := []) (rX2_mostLeft (N := 2) hbl0 hf3 (Nat.le_refl _)) rfl (Nat.le_trans (Nat.le_of_ble_eq_true rfl) hN) rfl (Nat.le_of_ble_eq_true rfl) (Or.inl hz) ?_
      refine go_istore hc (lv1 := [.ref (bl0 + 1), .long l1, .null, .int l3, .int l4, .int l5, .int r1]) dX2_bestIn_25 hL (by decide) (fun _ _ e => by cases e; rfl) rfl ?_
      refine go_iload_n hc dX2_bestIn_27 rfl rfl ?_
      refine go_bipush hc dX2_bestIn_28 cb_m2 ?_
      refine go_icmp_eq (tgt := 40) hc dX2_bestIn_30 rfl (fun hh => ?_) (fun hh => ?_)
      · rw [if_pos hh] at h
        refine go_iload hc dX2_bestIn_40 rfl ?_
        refine go_istore_n hc (lv1 := [.ref (bl0 + 1), .long l1, .null, .int l5, .int l4, .int l5, .int r1]) dX2_bestIn_42 rfl hL (by decide) (fun _ _ e => by cases e; rfl) rfl ?_
        refine go_iload hc dX2_bestIn_43 rfl ?_
        refine go_istore hc (lv1 := [.ref (bl0 + 1), .long l1, .null, .int l5, .int r1, .int l5, .int r1]) dX2_bestIn_45 hL (by decide) (fun _ _ e => by cases e; rfl) rfl ?_
        refine go_iinc hc (lv1 := [.ref (bl0 + 1), .long l1, .null, .int l5, .int r1, .int (l5 + 1), .int r1]) dX2_bestIn_47 rfl ci_1 hL (by decide) (fun _ _ e => by cases e; rfl) rfl ?_
        refine go_goto (tgt := 9) hc dX2_bestIn_50 rfl ?_
        refine go_mask [true, true, false, true, true, true, false] (lv1 := [.ref (bl0 + 1), .long l1, .null, .int l5, .int r1, .int (l5 + 1), .null]) rfl ?_
        exact ih bl0 l1 l5 r1 (l5 + 1) _ hbl0 h
      · rw [if_neg hh] at h
        refine go_iload hc dX2_bestIn_33 rfl ?_
        refine go_iload hc dX2_bestIn_35 rfl ?_
        refine go_icmp_ge (tgt := 47) hc dX2_bestIn_37 rfl (fun hh => ?_) (fun hh => ?_)
        · rw [if_pos hh] at h
          refine go_iinc hc (lv1 := [.ref (bl0 + 1), .long l1, .null, .int l3, .int l4, .int (l5 + 1), .int r1]) dX2_bestIn_47 rfl ci_1 hL (by decide) (fun _ _ e => by cases e; rfl) rfl ?_
          refine go_goto (tgt := 9) hc dX2_bestIn_50 rfl ?_
          refine go_mask [true, true, false, true, true, true, false] (lv1 := [.ref (bl0 + 1), .long l1, .null, .int l3, .int l4, .int (l5 + 1), .null]) rfl ?_
          exact ih bl0 l1 l3 l4 (l5 + 1) _ hbl0 h
        · rw [if_neg hh] at h
          refine go_iload hc dX2_bestIn_40 rfl ?_
          refine go_istore_n hc (lv1 := [.ref (bl0 + 1), .long l1, .null, .int l5, .int l4, .int l5, .int r1]) dX2_bestIn_42 rfl hL (by decide) (fun _ _ e => by cases e; rfl) rfl ?_
          refine go_iload hc dX2_bestIn_43 rfl ?_
          refine go_istore hc (lv1 := [.ref (bl0 + 1), .long l1, .null, .int l5, .int r1, .int l5, .int r1]) dX2_bestIn_45 hL (by decide) (fun _ _ e => by cases e; rfl) rfl ?_
          refine go_iinc hc (lv1 := [.ref (bl0 + 1), .long l1, .null, .int l5, .int r1, .int (l5 + 1), .int r1]) dX2_bestIn_47 rfl ci_1 hL (by decide) (fun _ _ e => by cases e; rfl) rfl ?_
          refine go_goto (tgt := 9) hc dX2_bestIn_50 rfl ?_
          refine go_mask [true, true, false, true, true, true, false] (lv1 := [.ref (bl0 + 1), .long l1, .null, .int l5, .int r1, .int (l5 + 1), .null]) rfl ?_
          exact ih bl0 l1 l5 r1 (l5 + 1) _ hbl0 h
def fX2_bestIn (w : Nat) (x0 : Int64) (σ : OM) : Option (Int32 × OM) :=
  fX2_bestIn_b9 oF w x0 ((-2) : Int32) (0 : Int32) (0 : Int32) σ
set_option maxRecDepth 100000 in
set_option maxHeartbeats 4000000 in
theorem rX2_bestIn {N : Nat} {w : Nat} {x0 : Int64} {σ : OM} {r0 : Int32} {σ0 : OM} (hw : okd w = 8) (h : fX2_bestIn w x0 σ = some (r0, σ0)) (hN0 : 3 ≤ N) : oEv N MX2_bestIn [.ref (w + 1), .long x0] σ (some (.int r0)) σ0 := by
  refine oEv_of (lv := [.ref (w + 1), .long x0, .null, .null, .null, .null, .null]) (by decide +kernel) (fun g q hq => hq) (fun g => Nat.le_of_ble_eq_true rfl) ?_
  intro K hc ho hL hN1 hr hE hz
  have hN : 3 ≤ kN K := by rw [hN1]; exact hN0
  unfold fX2_bestIn at h
  refine go_bipush hc dX2_bestIn_0 cb_m2 ?_
  refine go_istore_n hc (lv1 := [.ref (w + 1), .long x0, .null, .int ((-2) : Int32), .null, .null, .null]) dX2_bestIn_2 rfl hL (by decide) (fun _ _ e => by cases e; rfl) rfl ?_
  refine go_iconst hc dX2_bestIn_3 ci_0 ?_
  refine go_istore hc (lv1 := [.ref (w + 1), .long x0, .null, .int ((-2) : Int32), .int (0 : Int32), .null, .null]) dX2_bestIn_4 hL (by decide) (fun _ _ e => by cases e; rfl) rfl ?_
  refine go_iconst hc dX2_bestIn_6 ci_0 ?_
  refine go_istore hc (lv1 := [.ref (w + 1), .long x0, .null, .int ((-2) : Int32), .int (0 : Int32), .int (0 : Int32), .null]) dX2_bestIn_7 hL (by decide) (fun _ _ e => by cases e; rfl) rfl ?_
  exact rX2_bestIn_b9 hc ho hL hN hr hE hz oF w x0 ((-2) : Int32) (0 : Int32) (0 : Int32) _ hw h
def fX9_best (x0 : Int32) (σ : OM) : Option (Int32 × OM) :=
  obi (fX9_isHouse x0 σ) (fun r1 σ2 =>
  if r1 = 0 then (
   obi (fX9_refuse (1 : Int32) σ2) (fun r15 σ16 =>
   some (r15, σ16)))
  else (ogd (decide (okd (mR σ2 0 0) = 8)) (
  ogd (decide (okd (mR σ2 0 0) = 8)) (
  obi (fX3_worldsOf (mR σ2 0 0) x0 σ2) (fun r6 σ7 =>
  obi (fX2_bestIn (mR σ2 0 0) r6 σ7) (fun r9 σ10 =>
  obi (fX9_answer r9 σ10) (fun r12 σ13 =>
  some (r12, σ13))))))))
set_option maxRecDepth 100000 in
set_option maxHeartbeats 4000000 in
theorem rX9_best {N : Nat} {x0 : Int32} {σ : OM} {r0 : Int32} {σ0 : OM} (h : fX9_best x0 σ = some (r0, σ0)) (hN0 : 5 ≤ N) : oEv N MX9_best [.ref 0, .int x0] σ (some (.int r0)) σ0 := by
  refine oEv_of (lv := [.ref 0, .int x0]) (by decide +kernel) (fun g q hq => hq) (fun g => Nat.le_of_ble_eq_true rfl) ?_
  intro K hc ho hL hN1 hr hE hz
  have hN : 5 ≤ kN K := by rw [hN1]; exact hN0
  unfold fX9_best at h
  refine go_aload_n hc dX9_best_0 rfl rfl ?_
  refine go_iload_n hc dX9_best_1 rfl rfl ?_
  obtain ⟨r1, σ2, hf3, h⟩ := obi_some h
  refine go_callVi hc ho cmX9_isHouse mlX9_161 dX9_best_2 ok_0 (As := [.int x0]) (rest := []) (rX9_isHouse (N := 0) hf3 (Nat.le_refl _)) rfl (Nat.le_trans (Nat.le_of_ble_eq_true rfl) hN) rfl (Nat.le_of_ble_eq_true rfl) (Or.inl hz) ?_
  refine go_if_ne (tgt := 14) hc dX9_best_5 rfl (fun hh => ?_) (fun hh => ?_)
  · rw [if_neg hh] at h
    refine go_aload_n hc dX9_best_14 rfl rfl ?_
    refine go_aload_n hc dX9_best_15 rfl rfl ?_
    obtain ⟨hg4, h⟩ := ogd_some h
    refine go_getR hc ho flX9_10 dX9_best_16 ok_0 ?_
    refine go_getC (b := (mR σ2 0 0) + 1) (ow_c0_0 (of_decide_eq_true hg4)) hc ho flX9_37 dX9_best_19 (of_decide_eq_true hg4) ?_
    refine go_aload_n hc dX9_best_22 rfl rfl ?_
    obtain ⟨hg5, h⟩ := ogd_some h
    refine go_getR hc ho flX9_10 dX9_best_23 ok_0 ?_
    refine go_getC (b := (mR σ2 0 0) + 10) (ow_c0_2 (of_decide_eq_true hg5)) hc ho flX9_149 dX9_best_26 (of_decide_eq_true hg5) ?_
    refine go_iload_n hc dX9_best_29 rfl rfl ?_
    obtain ⟨r6, σ7, hf8, h⟩ := obi_some h
    refine go_callVl hc ho cmX3_worldsOf mlX9_177 dX9_best_30 (ow_k10 (of_decide_eq_true hg5)) (As := [.int x0]) (rest := [.ref ((mR σ2 0 0) + 1), .ref 0]) (rX3_worldsOf (N := 4) (of_decide_eq_true hg5) hf8 (Nat.le_refl _)) rfl (Nat.le_trans (Nat.le_of_ble_eq_true rfl) hN) rfl (Nat.le_of_ble_eq_true rfl) (Or.inl hz) ?_
    obtain ⟨r9, σ10, hf11, h⟩ := obi_some h
    refine go_callVi hc ho cmX2_bestIn mlX9_247 dX9_best_33 (ow_k1 (of_decide_eq_true hg4)) (As := [.long r6]) (rest := [.ref 0]) (rX2_bestIn (N := 3) (of_decide_eq_true hg4) hf11 (Nat.le_refl _)) rfl (Nat.le_trans (Nat.le_of_ble_eq_true rfl) hN) rfl (Nat.le_of_ble_eq_true rfl) (Or.inl hz) ?_
    obtain ⟨r12, σ13, hf14, h⟩ := obi_some h
    refine go_callVi hc ho cmX9_answer mlX9_103 dX9_best_36 ok_0 (As := [.int r9]) (rest := []) (rX9_answer (N := 0) hf14 (Nat.le_refl _)) rfl (Nat.le_trans (Nat.le_of_ble_eq_true rfl) hN) rfl (Nat.le_of_ble_eq_true rfl) (Or.inl hz) ?_
    exact go_iret hc (oend_i h hE) hr dX9_best_39
  · rw [if_pos hh] at h
    refine go_aload_n hc dX9_best_8 rfl rfl ?_
    refine go_iconst hc dX9_best_9 ci_1 ?_
    obtain ⟨r15, σ16, hf17, h⟩ := obi_some h
    refine go_callVi hc ho cmX9_refuse mlX9_70 dX9_best_10 ok_0 (As := [.int (1 : Int32)]) (rest := []) (rX9_refuse (N := 0) hf17 (Nat.le_refl _)) rfl (Nat.le_trans (Nat.le_of_ble_eq_true rfl) hN) rfl (Nat.le_of_ble_eq_true rfl) (Or.inl hz) ?_
    exact go_iret hc (oend_i h hE) hr dX9_best_13
def fX9_bestLeft (x0 : Int32) (σ : OM) : Option (Int32 × OM) :=
  obi (fX9_isHouse x0 σ) (fun r1 σ2 =>
  if r1 = 0 then (
   obi (fX9_refuse (1 : Int32) σ2) (fun r25 σ26 =>
   some (r25, σ26)))
  else (ogd (decide (okd (mR σ2 0 0) = 8)) (
  obi (fX3_worldsOf (mR σ2 0 0) x0 σ2) (fun r5 σ6 =>
  ogd (decide (okd (mR σ6 0 0) = 8)) (
  obi (fX2_bestIn (mR σ6 0 0) r5 σ6) (fun r9 σ10 =>
  obi (fX9_isQuestion r9 σ10) (fun r12 σ13 =>
  if r12 = 0 then (
   obi (fX9_refuse (6 : Int32) σ13) (fun r22 σ23 =>
   some (r22, σ23)))
  else (ogd (decide (okd (mR σ13 0 0) = 8)) (
  obi (fX2_mostLeft (mR σ13 0 0) r5 r9 σ13) (fun r16 σ17 =>
  obi (fX9_answer r16 σ17) (fun r19 σ20 =>
  some (r19, σ20))))))))))))
set_option maxRecDepth 100000 in
set_option maxHeartbeats 4000000 in
theorem rX9_bestLeft {N : Nat} {x0 : Int32} {σ : OM} {r0 : Int32} {σ0 : OM} (h : fX9_bestLeft x0 σ = some (r0, σ0)) (hN0 : 5 ≤ N) : oEv N MX9_bestLeft [.ref 0, .int x0] σ (some (.int r0)) σ0 := by
  refine oEv_of (lv := [.ref 0, .int x0, .null, .null, .null]) (by decide +kernel) (fun g q hq => hq) (fun g => Nat.le_of_ble_eq_true rfl) ?_
  intro K hc ho hL hN1 hr hE hz
  have hN : 5 ≤ kN K := by rw [hN1]; exact hN0
  unfold fX9_bestLeft at h
  refine go_aload_n hc dX9_bestLeft_0 rfl rfl ?_
  refine go_iload_n hc dX9_bestLeft_1 rfl rfl ?_
  obtain ⟨r1, σ2, hf3, h⟩ := obi_some h
  refine go_callVi hc ho cmX9_isHouse mlX9_161 dX9_bestLeft_2 ok_0 (As := [.int x0]) (rest := []) (rX9_isHouse (N := 0) hf3 (Nat.le_refl _)) rfl (Nat.le_trans (Nat.le_of_ble_eq_true rfl) hN) rfl (Nat.le_of_ble_eq_true rfl) (Or.inl hz) ?_
  refine go_if_ne (tgt := 14) hc dX9_bestLeft_5 rfl (fun hh => ?_) (fun hh => ?_)
  · rw [if_neg hh] at h
    refine go_aload_n hc dX9_bestLeft_14 rfl rfl ?_
    obtain ⟨hg4, h⟩ := ogd_some h
    refine go_getR hc ho flX9_10 dX9_bestLeft_15 ok_0 ?_
    refine go_getC (b := (mR σ2 0 0) + 10) (ow_c0_2 (of_decide_eq_true hg4)) hc ho flX9_149 dX9_bestLeft_18 (of_decide_eq_true hg4) ?_
    refine go_iload_n hc dX9_bestLeft_21 rfl rfl ?_
    obtain ⟨r5, σ6, hf7, h⟩ := obi_some h
    refine go_callVl hc ho cmX3_worldsOf mlX9_177 dX9_bestLeft_22 (ow_k10 (of_decide_eq_true hg4)) (As := [.int x0]) (rest := []) (rX3_worldsOf (N := 4) (of_decide_eq_true hg4) hf7 (Nat.le_refl _)) rfl (Nat.le_trans (Nat.le_of_ble_eq_true rfl) hN) rfl (Nat.le_of_ble_eq_true rfl) (Or.inl hz) ?_
    refine go_lstore_n hc (lv1 := [.ref 0, .int x0, .long r5, .null, .null]) dX9_bestLeft_25 rfl hL (by decide) (fun _ _ e => by cases e; rfl) rfl ?_
    refine go_aload_n hc dX9_bestLeft_26 rfl rfl ?_
    obtain ⟨hg8, h⟩ := ogd_some h
    refine go_getR hc ho flX9_10 dX9_bestLeft_27 ok_0 ?_
    refine go_getC (b := (mR σ6 0 0) + 1) (ow_c0_0 (of_decide_eq_true hg8)) hc ho flX9_37 dX9_bestLeft_30 (of_decide_eq_true hg8) ?_
    refine go_lload_n hc dX9_bestLeft_33 rfl rfl ?_
    obtain ⟨r9, σ10, hf11, h⟩ := obi_some h
    refine go_callVi hc ho cmX2_bestIn mlX9_247 dX9_bestLeft_34 (ow_k1 (of_decide_eq_true hg8)) (As := [.long r5]) (rest := []) (rX2_bestIn (N := 3) (of_decide_eq_true hg8) hf11 (Nat.le_refl _)) rfl (Nat.le_trans (Nat.le_of_ble_eq_true rfl) hN) rfl (Nat.le_of_ble_eq_true rfl) (Or.inl hz) ?_
    refine go_istore hc (lv1 := [.ref 0, .int x0, .long r5, .null, .int r9]) dX9_bestLeft_37 hL (by decide) (fun _ _ e => by cases e; rfl) rfl ?_
    refine go_aload_n hc dX9_bestLeft_39 rfl rfl ?_
    refine go_iload hc dX9_bestLeft_40 rfl ?_
    obtain ⟨r12, σ13, hf14, h⟩ := obi_some h
    refine go_callVi hc ho cmX9_isQuestion mlX9_133 dX9_bestLeft_42 ok_0 (As := [.int r9]) (rest := []) (rX9_isQuestion (N := 0) hf14 (Nat.le_refl _)) rfl (Nat.le_trans (Nat.le_of_ble_eq_true rfl) hN) rfl (Nat.le_of_ble_eq_true rfl) (Or.inl hz) ?_
    refine go_if_ne (tgt := 55) hc dX9_bestLeft_45 rfl (fun hh => ?_) (fun hh => ?_)
    · rw [if_neg hh] at h
      refine go_aload_n hc dX9_bestLeft_55 rfl rfl ?_
      refine go_aload_n hc dX9_bestLeft_56 rfl rfl ?_
      obtain ⟨hg15, h⟩ := ogd_some h
      refine go_getR hc ho flX9_10 dX9_bestLeft_57 ok_0 ?_
      refine go_getC (b := (mR σ13 0 0) + 1) (ow_c0_0 (of_decide_eq_true hg15)) hc ho flX9_37 dX9_bestLeft_60 (of_decide_eq_true hg15) ?_
      refine go_lload_n hc dX9_bestLeft_63 rfl rfl ?_
      refine go_iload hc dX9_bestLeft_64 rfl ?_
      obtain ⟨r16, σ17, hf18, h⟩ := obi_some h
      refine go_callVi hc ho cmX2_mostLeft mlX9_250 dX9_bestLeft_66 (ow_k1 (of_decide_eq_true hg15)) (As := [.long r5, .int r9]) (rest := [.ref 0]) (rX2_mostLeft (N := 2) (of_decide_eq_true hg15) hf18 (Nat.le_refl _)) rfl (Nat.le_trans (Nat.le_of_ble_eq_true rfl) hN) rfl (Nat.le_of_ble_eq_true rfl) (Or.inl hz) ?_
      obtain ⟨r19, σ20, hf21, h⟩ := obi_some h
      refine go_callVi hc ho cmX9_answer mlX9_103 dX9_bestLeft_69 ok_0 (As := [.int r16]) (rest := []) (rX9_answer (N := 0) hf21 (Nat.le_refl _)) rfl (Nat.le_trans (Nat.le_of_ble_eq_true rfl) hN) rfl (Nat.le_of_ble_eq_true rfl) (Or.inl hz) ?_
      exact go_iret hc (oend_i h hE) hr dX9_bestLeft_72
    · rw [if_pos hh] at h
      refine go_aload_n hc dX9_bestLeft_48 rfl rfl ?_
      refine go_bipush hc dX9_bestLeft_49 cb_6 ?_
      obtain ⟨r22, σ23, hf24, h⟩ := obi_some h
      refine go_callVi hc ho cmX9_refuse mlX9_70 dX9_bestLeft_51 ok_0 (As := [.int (6 : Int32)]) (rest := []) (rX9_refuse (N := 0) hf24 (Nat.le_refl _)) rfl (Nat.le_trans (Nat.le_of_ble_eq_true rfl) hN) rfl (Nat.le_of_ble_eq_true rfl) (Or.inl hz) ?_
      exact go_iret hc (oend_i h hE) hr dX9_bestLeft_54
  · rw [if_pos hh] at h
    refine go_aload_n hc dX9_bestLeft_8 rfl rfl ?_
    refine go_iconst hc dX9_bestLeft_9 ci_1 ?_
    obtain ⟨r25, σ26, hf27, h⟩ := obi_some h
    refine go_callVi hc ho cmX9_refuse mlX9_70 dX9_bestLeft_10 ok_0 (As := [.int (1 : Int32)]) (rest := []) (rX9_refuse (N := 0) hf27 (Nat.le_refl _)) rfl (Nat.le_trans (Nat.le_of_ble_eq_true rfl) hN) rfl (Nat.le_of_ble_eq_true rfl) (Or.inl hz) ?_
    exact go_iret hc (oend_i h hE) hr dX9_bestLeft_13
def fX9_leftMean (x0 : Int32) (x1 : Int32) (x2 : Int32) (σ : OM) : Option (Int64 × OM) :=
  obi (fX9_isHouse x0 σ) (fun r1 σ2 =>
  if r1 = 0 then (
   obi (fX9_refuse (1 : Int32) σ2) (fun r4 σ5 =>
   some (r4.toInt64, σ5)))
  else (obi (fX9_isQuestion x1 σ2) (fun r7 σ8 =>
  if r7 = 0 then (
   obi (fX9_refuse (1 : Int32) σ8) (fun r30 σ31 =>
   some (r30.toInt64, σ31)))
  else (ogd (decide (okd (mR σ8 0 0) = 8)) (
  ogd (decide (okd (mR σ8 0 0) = 8)) (
  obi (fX3_worldsOf (mR σ8 0 0) x0 σ8) (fun r12 σ13 =>
  if (lg_cmp r12 (0 : Int64)) = 0 then (
   obi (fX9_refuse (6 : Int32) σ13) (fun r27 σ28 =>
   some (r27.toInt64, σ28)))
  else (obi (fX2_weightOf (mR σ8 0 0) r12 σ13) (fun r15 σ16 =>
  obi (fX2_soWorlds (mR σ8 0 0) x1 σ16) (fun r18 σ19 =>
  obi (fX2_weightOf (mR σ8 0 0) (r12 &&& r18) σ19) (fun r21 σ22 =>
  obi (fX9_inLowestTerms ((r21.toInt64 * r21.toInt64) + ((r15.toInt64 - r21.toInt64) * (r15.toInt64 - r21.toInt64))) r15.toInt64 x2 σ22) (fun r24 σ25 =>
  some (r24, σ25)))))))))))))
set_option maxRecDepth 100000 in
set_option maxHeartbeats 4000000 in
theorem rX9_leftMean {N : Nat} {x0 : Int32} {x1 : Int32} {x2 : Int32} {σ : OM} {r0 : Int64} {σ0 : OM} (h : fX9_leftMean x0 x1 x2 σ = some (r0, σ0)) (hN0 : 5 ≤ N) : oEv N MX9_leftMean [.ref 0, .int x0, .int x1, .int x2] σ (some (.long r0)) σ0 := by
  refine oEv_of (lv := [.ref 0, .int x0, .int x1, .int x2, .null, .null, .null, .null, .null, .null, .null, .null, .null]) (by decide +kernel) (fun g q hq => hq) (fun g => Nat.le_of_ble_eq_true rfl) ?_
  intro K hc ho hL hN1 hr hE hz
  have hN : 5 ≤ kN K := by rw [hN1]; exact hN0
  unfold fX9_leftMean at h
  refine go_aload_n hc dX9_leftMean_0 rfl rfl ?_
  refine go_iload_n hc dX9_leftMean_1 rfl rfl ?_
  obtain ⟨r1, σ2, hf3, h⟩ := obi_some h
  refine go_callVi hc ho cmX9_isHouse mlX9_161 dX9_leftMean_2 ok_0 (As := [.int x0]) (rest := []) (rX9_isHouse (N := 0) hf3 (Nat.le_refl _)) rfl (Nat.le_trans (Nat.le_of_ble_eq_true rfl) hN) rfl (Nat.le_of_ble_eq_true rfl) (Or.inl hz) ?_
  refine go_if_eq (tgt := 16) hc dX9_leftMean_5 rfl (fun hh => ?_) (fun hh => ?_)
  · rw [if_pos hh] at h
    refine go_aload_n hc dX9_leftMean_16 rfl rfl ?_
    refine go_iconst hc dX9_leftMean_17 ci_1 ?_
    obtain ⟨r4, σ5, hf6, h⟩ := obi_some h
    refine go_callVi hc ho cmX9_refuse mlX9_70 dX9_leftMean_18 ok_0 (As := [.int (1 : Int32)]) (rest := []) (rX9_refuse (N := 0) hf6 (Nat.le_refl _)) rfl (Nat.le_trans (Nat.le_of_ble_eq_true rfl) hN) rfl (Nat.le_of_ble_eq_true rfl) (Or.inl hz) ?_
    refine go_i2l hc dX9_leftMean_21 ?_
    exact go_lret hc (oend_l h hE) hr dX9_leftMean_22
  · rw [if_neg hh] at h
    refine go_aload_n hc dX9_leftMean_8 rfl rfl ?_
    refine go_iload_n hc dX9_leftMean_9 rfl rfl ?_
    obtain ⟨r7, σ8, hf9, h⟩ := obi_some h
    refine go_callVi hc ho cmX9_isQuestion mlX9_133 dX9_leftMean_10 ok_0 (As := [.int x1]) (rest := []) (rX9_isQuestion (N := 0) hf9 (Nat.le_refl _)) rfl (Nat.le_trans (Nat.le_of_ble_eq_true rfl) hN) rfl (Nat.le_of_ble_eq_true rfl) (Or.inl hz) ?_
    refine go_if_ne (tgt := 23) hc dX9_leftMean_13 rfl (fun hh => ?_) (fun hh => ?_)
    · rw [if_neg hh] at h
      refine go_aload_n hc dX9_leftMean_23 rfl rfl ?_
      obtain ⟨hg10, h⟩ := ogd_some h
      refine go_getR hc ho flX9_10 dX9_leftMean_24 ok_0 ?_
      refine go_getC (b := (mR σ8 0 0) + 1) (ow_c0_0 (of_decide_eq_true hg10)) hc ho flX9_37 dX9_leftMean_27 (of_decide_eq_true hg10) ?_
      refine go_astore hc (lv1 := [.ref 0, .int x0, .int x1, .int x2, .ref ((mR σ8 0 0) + 1), .null, .null, .null, .null, .null, .null, .null, .null]) dX9_leftMean_30 hL (by decide) (fun _ _ e => by cases e; rfl) rfl ?_
      refine go_aload_n hc dX9_leftMean_32 rfl rfl ?_
      obtain ⟨hg11, h⟩ := ogd_some h
      refine go_getR hc ho flX9_10 dX9_leftMean_33 ok_0 ?_
      refine go_getC (b := (mR σ8 0 0) + 10) (ow_c0_2 (of_decide_eq_true hg11)) hc ho flX9_149 dX9_leftMean_36 (of_decide_eq_true hg11) ?_
      refine go_iload_n hc dX9_leftMean_39 rfl rfl ?_
      obtain ⟨r12, σ13, hf14, h⟩ := obi_some h
      refine go_callVl hc ho cmX3_worldsOf mlX9_177 dX9_leftMean_40 (ow_k10 (of_decide_eq_true hg11)) (As := [.int x0]) (rest := []) (rX3_worldsOf (N := 4) (of_decide_eq_true hg11) hf14 (Nat.le_refl _)) rfl (Nat.le_trans (Nat.le_of_ble_eq_true rfl) hN) rfl (Nat.le_of_ble_eq_true rfl) (Or.inl hz) ?_
      refine go_lstore hc (lv1 := [.ref 0, .int x0, .int x1, .int x2, .ref ((mR σ8 0 0) + 1), .long r12, .null, .null, .null, .null, .null, .null, .null]) dX9_leftMean_43 hL (by decide) (fun _ _ e => by cases e; rfl) rfl ?_
      refine go_lload hc dX9_leftMean_45 rfl ?_
      refine go_lconst hc dX9_leftMean_47 cl_0 ?_
      refine go_lcmp hc dX9_leftMean_48 ?_
      refine go_if_ne (tgt := 60) hc dX9_leftMean_49 rfl (fun hh => ?_) (fun hh => ?_)
      · rw [if_neg hh] at h
        refine go_aload hc dX9_leftMean_60 rfl ?_
        refine go_lload hc dX9_leftMean_62 rfl ?_
        obtain ⟨r15, σ16, hf17, h⟩ := obi_some h
        refine go_callVi hc ho cmX2_weightOf mlX9_253 dX9_leftMean_64 (ow_k1 (of_decide_eq_true hg10)) (As := [.long r12]) (rest := []) (rX2_weightOf (N := 1) (of_decide_eq_true hg10) hf17 (Nat.le_refl _)) rfl (Nat.le_trans (Nat.le_of_ble_eq_true rfl) hN) rfl (Nat.le_of_ble_eq_true rfl) (Or.inl hz) ?_
        refine go_i2l hc dX9_leftMean_67 ?_
        refine go_lstore hc (lv1 := [.ref 0, .int x0, .int x1, .int x2, .ref ((mR σ8 0 0) + 1), .long r12, .null, .long r15.toInt64, .null, .null, .null, .null, .null]) dX9_leftMean_68 hL (by decide) (fun _ _ e => by cases e; rfl) rfl ?_
        refine go_aload hc dX9_leftMean_70 rfl ?_
        refine go_lload hc dX9_leftMean_72 rfl ?_
        refine go_aload hc dX9_leftMean_74 rfl ?_
        refine go_iload_n hc dX9_leftMean_76 rfl rfl ?_
        obtain ⟨r18, σ19, hf20, h⟩ := obi_some h
        refine go_callVl hc ho cmX2_soWorlds mlX9_136 dX9_leftMean_77 (ow_k1 (of_decide_eq_true hg10)) (As := [.int x1]) (rest := [.long r12, .ref ((mR σ8 0 0) + 1)]) (rX2_soWorlds (N := 0) (of_decide_eq_true hg10) hf20 (Nat.le_refl _)) rfl (Nat.le_trans (Nat.le_of_ble_eq_true rfl) hN) rfl (Nat.le_of_ble_eq_true rfl) (Or.inl hz) ?_
        refine go_land hc dX9_leftMean_80 ?_
        obtain ⟨r21, σ22, hf23, h⟩ := obi_some h
        refine go_callVi hc ho cmX2_weightOf mlX9_253 dX9_leftMean_81 (ow_k1 (of_decide_eq_true hg10)) (As := [.long (r12 &&& r18)]) (rest := []) (rX2_weightOf (N := 1) (of_decide_eq_true hg10) hf23 (Nat.le_refl _)) rfl (Nat.le_trans (Nat.le_of_ble_eq_true rfl) hN) rfl (Nat.le_of_ble_eq_true rfl) (Or.inl hz) ?_
        refine go_i2l hc dX9_leftMean_84 ?_
        refine go_lstore hc (lv1 := [.ref 0, .int x0, .int x1, .int x2, .ref ((mR σ8 0 0) + 1), .long r12, .null, .long r15.toInt64, .null, .long r21.toInt64, .null, .null, .null]) dX9_leftMean_85 hL (by decide) (fun _ _ e => by cases e; rfl) rfl ?_
        refine go_lload hc dX9_leftMean_87 rfl ?_
        refine go_lload hc dX9_leftMean_89 rfl ?_
        refine go_lsub hc dX9_leftMean_91 ?_
        refine go_lstore hc (lv1 := [.ref 0, .int x0, .int x1, .int x2, .ref ((mR σ8 0 0) + 1), .long r12, .null, .long r15.toInt64, .null, .long r21.toInt64, .null, .long (r15.toInt64 - r21.toInt64), .null]) dX9_leftMean_92 hL (by decide) (fun _ _ e => by cases e; rfl) rfl ?_
        refine go_aload_n hc dX9_leftMean_94 rfl rfl ?_
        refine go_lload hc dX9_leftMean_95 rfl ?_
        refine go_lload hc dX9_leftMean_97 rfl ?_
        refine go_lmul hc dX9_leftMean_99 ?_
        refine go_lload hc dX9_leftMean_100 rfl ?_
        refine go_lload hc dX9_leftMean_102 rfl ?_
        refine go_lmul hc dX9_leftMean_104 ?_
        refine go_ladd hc dX9_leftMean_105 ?_
        refine go_lload hc dX9_leftMean_106 rfl ?_
        refine go_iload_n hc dX9_leftMean_108 rfl rfl ?_
        obtain ⟨r24, σ25, hf26, h⟩ := obi_some h
        refine go_callVl hc ho cmX9_inLowestTerms mlX9_256 dX9_leftMean_109 ok_0 (As := [.long ((r21.toInt64 * r21.toInt64) + ((r15.toInt64 - r21.toInt64) * (r15.toInt64 - r21.toInt64))), .long r15.toInt64, .int x2]) (rest := []) (rX9_inLowestTerms (N := 1) hf26 (Nat.le_refl _)) rfl (Nat.le_trans (Nat.le_of_ble_eq_true rfl) hN) rfl (Nat.le_of_ble_eq_true rfl) (Or.inl hz) ?_
        exact go_lret hc (oend_l h hE) hr dX9_leftMean_112
      · rw [if_pos hh] at h
        refine go_aload_n hc dX9_leftMean_52 rfl rfl ?_
        refine go_bipush hc dX9_leftMean_53 cb_6 ?_
        obtain ⟨r27, σ28, hf29, h⟩ := obi_some h
        refine go_callVi hc ho cmX9_refuse mlX9_70 dX9_leftMean_55 ok_0 (As := [.int (6 : Int32)]) (rest := []) (rX9_refuse (N := 0) hf29 (Nat.le_refl _)) rfl (Nat.le_trans (Nat.le_of_ble_eq_true rfl) hN) rfl (Nat.le_of_ble_eq_true rfl) (Or.inl hz) ?_
        refine go_i2l hc dX9_leftMean_58 ?_
        exact go_lret hc (oend_l h hE) hr dX9_leftMean_59
    · rw [if_pos hh] at h
      refine go_aload_n hc dX9_leftMean_16 rfl rfl ?_
      refine go_iconst hc dX9_leftMean_17 ci_1 ?_
      obtain ⟨r30, σ31, hf32, h⟩ := obi_some h
      refine go_callVi hc ho cmX9_refuse mlX9_70 dX9_leftMean_18 ok_0 (As := [.int (1 : Int32)]) (rest := []) (rX9_refuse (N := 0) hf32 (Nat.le_refl _)) rfl (Nat.le_trans (Nat.le_of_ble_eq_true rfl) hN) rfl (Nat.le_of_ble_eq_true rfl) (Or.inl hz) ?_
      refine go_i2l hc dX9_leftMean_21 ?_
      exact go_lret hc (oend_l h hE) hr dX9_leftMean_22
def fX2_askableOfAll_b5 : Nat → Nat → Int64 → Int32 → Int32 → OM → Option (Int32 × OM)
  | 0, _, _, _, _, _ => none
  | n + 1, bl0, l1, l3, l4, σ =>
    if (mI σ (bl0 + 1) 8) ≤ l4 then (
     some (l3, σ))
    else (obi (fX2_askable bl0 l4 l1 σ) (fun r1 σ2 =>
    obi (fJ6_bitCount_0f7a4 r1 σ2) (fun r4 σ5 =>
    fX2_askableOfAll_b5 n bl0 l1 (l3 + r4) (l4 + 1) σ5)))
set_option maxRecDepth 100000 in
set_option maxHeartbeats 4000000 in
theorem rX2_askableOfAll_b5 {K : OK} (hc : kcc K = cX2_askableOfAll) (ho : kow K = RX2) (hL : knL K = 5) (hN : 3 ≤ kN K) (hr : (kme K).sig.returnType = (some .int)) {r0 : Int32} {σ0 : OM} (hE : oEnd K (some (.int r0)) σ0) (hz : kz K = 0) : ∀ (n : Nat) (bl0 : Nat) (l1 : Int64) (l3 : Int32) (l4 : Int32) (σ : OM), okd bl0 = 8 → fX2_askableOfAll_b5 n bl0 l1 l3 l4 σ = some (r0, σ0) → Go K 5 [.ref (bl0 + 1), .long l1, .null, .int l3, .int l4] [] σ := by
  intro n
  induction n with
  | zero =>
    intro bl0 l1 l3 l4 σ hbl0 h
    cases h
  | succ n ih =>
    intro bl0 l1 l3 l4 σ hbl0 h
    rw [fX2_askableOfAll_b5] at h
    refine go_iload hc dX2_askableOfAll_5 rfl ?_
    refine go_aload_n hc dX2_askableOfAll_7 rfl rfl ?_
    refine go_getI hc ho flX2_45 dX2_askableOfAll_8 (ow_k1 hbl0) ?_
    refine go_icmp_ge (tgt := 33) hc dX2_askableOfAll_11 rfl (fun hh => ?_) (fun hh => ?_)
    · rw [if_pos hh] at h
      refine go_iload_n hc dX2_askableOfAll_33 rfl rfl ?_
      exact go_iret hc (oend_i h hE) hr dX2_askableOfAll_34
    · rw [if_neg hh] at h
      refine go_iload_n hc dX2_askableOfAll_14 rfl rfl ?_
      refine go_aload_n hc dX2_askableOfAll_15 rfl rfl ?_
      refine go_iload hc dX2_askableOfAll_16 rfl ?_
      refine go_lload_n hc dX2_askableOfAll_18 rfl rfl ?_
      obtain ⟨r1, σ2, hf3, h⟩ := obi_some h
      refine go_callVi hc ho cmX2_askable mlX2_90 dX2_askableOfAll_19 (ow_k1 hbl0) (As := [.int l4, .long l1]) (rest := [.int l3]) (rX2_askable (N := 2) hbl0 hf3 (Nat.le_refl _)) rfl (Nat.le_trans (Nat.le_of_ble_eq_true rfl) hN) rfl (Nat.le_of_ble_eq_true rfl) (Or.inl hz) ?_
      obtain ⟨r4, σ5, hf6, h⟩ := obi_some h
      refine go_callSi hc ho cmJ6_bitCount_0f7a4 mlX2_94 dX2_askableOfAll_22 (As := [.int r1]) (rest := [.int l3]) (rJ6_bitCount_0f7a4 (N := 0) hf6 (Nat.le_refl _)) rfl (Nat.le_trans (Nat.le_of_ble_eq_true rfl) hN) rfl (Nat.le_of_ble_eq_true rfl) (Or.inl hz) ?_
      refine go_iadd hc dX2_askableOfAll_25 ?_
      refine go_istore_n hc (lv1 := [.ref (bl0 + 1), .long l1, .null, .int (l3 + r4), .int l4]) dX2_askableOfAll_26 rfl hL (by decide) (fun _ _ e => by cases e; rfl) rfl ?_
      refine go_iinc hc (lv1 := [.ref (bl0 + 1), .long l1, .null, .int (l3 + r4), .int (l4 + 1)]) dX2_askableOfAll_27 rfl ci_1 hL (by decide) (fun _ _ e => by cases e; rfl) rfl ?_
      refine go_goto (tgt := 5) hc dX2_askableOfAll_30 rfl ?_
      exact ih bl0 l1 (l3 + r4) (l4 + 1) _ hbl0 h
def fX2_askableOfAll (w : Nat) (x0 : Int64) (σ : OM) : Option (Int32 × OM) :=
  fX2_askableOfAll_b5 oF w x0 (0 : Int32) (0 : Int32) σ
set_option maxRecDepth 100000 in
set_option maxHeartbeats 4000000 in
theorem rX2_askableOfAll {N : Nat} {w : Nat} {x0 : Int64} {σ : OM} {r0 : Int32} {σ0 : OM} (hw : okd w = 8) (h : fX2_askableOfAll w x0 σ = some (r0, σ0)) (hN0 : 3 ≤ N) : oEv N MX2_askableOfAll [.ref (w + 1), .long x0] σ (some (.int r0)) σ0 := by
  refine oEv_of (lv := [.ref (w + 1), .long x0, .null, .null, .null]) (by decide +kernel) (fun g q hq => hq) (fun g => Nat.le_of_ble_eq_true rfl) ?_
  intro K hc ho hL hN1 hr hE hz
  have hN : 3 ≤ kN K := by rw [hN1]; exact hN0
  unfold fX2_askableOfAll at h
  refine go_iconst hc dX2_askableOfAll_0 ci_0 ?_
  refine go_istore_n hc (lv1 := [.ref (w + 1), .long x0, .null, .int (0 : Int32), .null]) dX2_askableOfAll_1 rfl hL (by decide) (fun _ _ e => by cases e; rfl) rfl ?_
  refine go_iconst hc dX2_askableOfAll_2 ci_0 ?_
  refine go_istore hc (lv1 := [.ref (w + 1), .long x0, .null, .int (0 : Int32), .int (0 : Int32)]) dX2_askableOfAll_3 hL (by decide) (fun _ _ e => by cases e; rfl) rfl ?_
  exact rX2_askableOfAll_b5 hc ho hL hN hr hE hz oF w x0 (0 : Int32) (0 : Int32) _ hw h
def fX2_mostAskable (w : Nat) (x0 : Int64) (x1 : Int32) (σ : OM) : Option (Int32 × OM) :=
  obi (fX2_worldsWith w x1 (1 : Int32) σ) (fun r1 σ2 =>
  obi (fX2_askableOfAll w (x0 &&& r1) σ2) (fun r4 σ5 =>
  obi (fX2_worldsWith w x1 (0 : Int32) σ5) (fun r7 σ8 =>
  obi (fX2_askableOfAll w (x0 &&& r7) σ8) (fun r10 σ11 =>
  obi (fJ9_max_7cf53 r4 r10 σ11) (fun r13 σ14 =>
  some (r13, σ14))))))
set_option maxRecDepth 100000 in
set_option maxHeartbeats 4000000 in
theorem rX2_mostAskable {N : Nat} {w : Nat} {x0 : Int64} {x1 : Int32} {σ : OM} {r0 : Int32} {σ0 : OM} (hw : okd w = 8) (h : fX2_mostAskable w x0 x1 σ = some (r0, σ0)) (hN0 : 4 ≤ N) : oEv N MX2_mostAskable [.ref (w + 1), .long x0, .int x1] σ (some (.int r0)) σ0 := by
  refine oEv_of (lv := [.ref (w + 1), .long x0, .null, .int x1]) (by decide +kernel) (fun g q hq => hq) (fun g => Nat.le_of_ble_eq_true rfl) ?_
  intro K hc ho hL hN1 hr hE hz
  have hN : 4 ≤ kN K := by rw [hN1]; exact hN0
  unfold fX2_mostAskable at h
  refine go_aload_n hc dX2_mostAskable_0 rfl rfl ?_
  refine go_lload_n hc dX2_mostAskable_1 rfl rfl ?_
  refine go_aload_n hc dX2_mostAskable_2 rfl rfl ?_
  refine go_iload_n hc dX2_mostAskable_3 rfl rfl ?_
  refine go_iconst hc dX2_mostAskable_4 ci_1 ?_
  obtain ⟨r1, σ2, hf3, h⟩ := obi_some h
  refine go_callVl hc ho cmX2_worldsWith mlX2_77 dX2_mostAskable_5 (ow_k1 hw) (As := [.int x1, .int (1 : Int32)]) (rest := [.long x0, .ref (w + 1)]) (rX2_worldsWith (N := 1) hw hf3 (Nat.le_refl _)) rfl (Nat.le_trans (Nat.le_of_ble_eq_true rfl) hN) rfl (Nat.le_of_ble_eq_true rfl) (Or.inl hz) ?_
  refine go_land hc dX2_mostAskable_8 ?_
  obtain ⟨r4, σ5, hf6, h⟩ := obi_some h
  refine go_callVi hc ho cmX2_askableOfAll mlX2_81 dX2_mostAskable_9 (ow_k1 hw) (As := [.long (x0 &&& r1)]) (rest := []) (rX2_askableOfAll (N := 3) hw hf6 (Nat.le_refl _)) rfl (Nat.le_trans (Nat.le_of_ble_eq_true rfl) hN) rfl (Nat.le_of_ble_eq_true rfl) (Or.inl hz) ?_
  refine go_aload_n hc dX2_mostAskable_12 rfl rfl ?_
  refine go_lload_n hc dX2_mostAskable_13 rfl rfl ?_
  refine go_aload_n hc dX2_mostAskable_14 rfl rfl ?_
  refine go_iload_n hc dX2_mostAskable_15 rfl rfl ?_
  refine go_iconst hc dX2_mostAskable_16 ci_0 ?_
  obtain ⟨r7, σ8, hf9, h⟩ := obi_some h
  refine go_callVl hc ho cmX2_worldsWith mlX2_77 dX2_mostAskable_17 (ow_k1 hw) (As := [.int x1, .int (0 : Int32)]) (rest := [.long x0, .ref (w + 1), .int r4]) (rX2_worldsWith (N := 1) hw hf9 (Nat.le_refl _)) rfl (Nat.le_trans (Nat.le_of_ble_eq_true rfl) hN) rfl (Nat.le_of_ble_eq_true rfl) (Or.inl hz) ?_
  refine go_land hc dX2_mostAskable_20 ?_
  obtain ⟨r10, σ11, hf12, h⟩ := obi_some h
  refine go_callVi hc ho cmX2_askableOfAll mlX2_81 dX2_mostAskable_21 (ow_k1 hw) (As := [.long (x0 &&& r7)]) (rest := [.int r4]) (rX2_askableOfAll (N := 3) hw hf12 (Nat.le_refl _)) rfl (Nat.le_trans (Nat.le_of_ble_eq_true rfl) hN) rfl (Nat.le_of_ble_eq_true rfl) (Or.inl hz) ?_
  obtain ⟨r13, σ14, hf15, h⟩ := obi_some h
  refine go_callSi hc ho cmJ9_max_7cf53 mlX2_84 dX2_mostAskable_24 (As := [.int r4, .int r10]) (rest := []) (rJ9_max_7cf53 (N := 0) hf15 (Nat.le_refl _)) rfl (Nat.le_trans (Nat.le_of_ble_eq_true rfl) hN) rfl (Nat.le_of_ble_eq_true rfl) (Or.inl hz) ?_
  exact go_iret hc (oend_i h hE) hr dX2_mostAskable_27
def fX9_tells_b89 (l4 : Int32) (σ : OM) : Option (Int32 × OM) :=
  obi (fX9_answer l4 σ) (fun r1 σ2 =>
  some (r1, σ2))
set_option maxRecDepth 100000 in
set_option maxHeartbeats 4000000 in
theorem rX9_tells_b89 {K : OK} (hc : kcc K = cX9_tells) (ho : kow K = RX9) (hL : knL K = 7) (hN : 5 ≤ kN K) (hr : (kme K).sig.returnType = (some .int)) {r0 : Int32} {σ0 : OM} (hE : oEnd K (some (.int r0)) σ0) (hz : kz K = 0) {l4 : Int32} {σ : OM} (h : fX9_tells_b89 l4 σ = some (r0, σ0)) : Go K 89 [.ref 0, .null, .null, .null, .int l4, .null, .null] [] σ := by
  unfold fX9_tells_b89 at h
  refine go_aload_n hc dX9_tells_89 rfl rfl ?_
  refine go_iload hc dX9_tells_90 rfl ?_
  obtain ⟨r1, σ2, hf3, h⟩ := obi_some h
  refine go_callVi hc ho cmX9_answer mlX9_103 dX9_tells_92 ok_0 (As := [.int l4]) (rest := []) (rX9_answer (N := 0) hf3 (Nat.le_refl _)) rfl (Nat.le_trans (Nat.le_of_ble_eq_true rfl) hN) rfl (Nat.le_of_ble_eq_true rfl) (Or.inl hz) ?_
  exact go_iret hc (oend_i h hE) hr dX9_tells_95
def fX9_tells_b33 : Nat → Int64 → Int32 → Int32 → Int32 → OM → Option (Int32 × OM)
  | 0, _, _, _, _, _ => none
  | n + 1, l1, l3, l4, l5, σ =>
    ogd (decide (okd (mR σ 0 0) = 8)) (
    if (mI σ ((mR σ 0 0) + 1) 6) ≤ l5 then (
     fX9_tells_b89 l4 σ)
    else (ogd (decide (okd (mR σ 0 0) = 8)) (
    obi (fX2_mostAskable (mR σ 0 0) l1 l5 σ) (fun r3 σ4 =>
    if l4 = ((-2) : Int32) then (
     fX9_tells_b33 n l1 r3 l5 (l5 + 1) σ4)
    else (if l3 ≤ r3 then (
     fX9_tells_b33 n l1 l3 l4 (l5 + 1) σ4)
    else (fX9_tells_b33 n l1 r3 l5 (l5 + 1) σ4))))))
set_option maxRecDepth 100000 in
set_option maxHeartbeats 4000000 in
theorem rX9_tells_b33 {K : OK} (hc : kcc K = cX9_tells) (ho : kow K = RX9) (hL : knL K = 7) (hN : 5 ≤ kN K) (hr : (kme K).sig.returnType = (some .int)) {r0 : Int32} {σ0 : OM} (hE : oEnd K (some (.int r0)) σ0) (hz : kz K = 0) : ∀ (n : Nat) (l1 : Int64) (l3 : Int32) (l4 : Int32) (l5 : Int32) (σ : OM), fX9_tells_b33 n l1 l3 l4 l5 σ = some (r0, σ0) → Go K 33 [.ref 0, .long l1, .null, .int l3, .int l4, .int l5, .null] [] σ := by
  intro n
  induction n with
  | zero =>
    intro l1 l3 l4 l5 σ h
    cases h
  | succ n ih =>
    intro l1 l3 l4 l5 σ h
    rw [fX9_tells_b33] at h
    refine go_iload hc dX9_tells_33 rfl ?_
    refine go_aload_n hc dX9_tells_35 rfl rfl ?_
    obtain ⟨hg1, h⟩ := ogd_some h
    refine go_getR hc ho flX9_10 dX9_tells_36 ok_0 ?_
    refine go_getC (b := (mR σ 0 0) + 1) (ow_c0_0 (of_decide_eq_true hg1)) hc ho flX9_37 dX9_tells_39 (of_decide_eq_true hg1) ?_
    refine go_getI hc ho flX9_144 dX9_tells_42 (ow_k1 (of_decide_eq_true hg1)) ?_
    refine go_icmp_ge (tgt := 89) hc dX9_tells_45 rfl (fun hh => ?_) (fun hh => ?_)
    · rw [if_pos hh] at h
      refine go_mask [true, false, false, false, true, false, false] (lv1 := [.ref 0, .null, .null, .null, .int l4, .null, .null]) rfl ?_
      exact rX9_tells_b89 hc ho hL hN hr hE hz h
    · rw [if_neg hh] at h
      refine go_aload_n hc dX9_tells_48 rfl rfl ?_
      obtain ⟨hg2, h⟩ := ogd_some h
      refine go_getR hc ho flX9_10 dX9_tells_49 ok_0 ?_
      refine go_getC (b := (mR σ 0 0) + 1) (ow_c0_0 (of_decide_eq_true hg2)) hc ho flX9_37 dX9_tells_52 (of_decide_eq_true hg2) ?_
      refine go_lload_n hc dX9_tells_55 rfl rfl ?_
      refine go_iload hc dX9_tells_56 rfl ?_
      obtain ⟨r3, σ4, hf5, h⟩ := obi_some h
      refine go_callVi hc ho cmX2_mostAskable mlX9_260 dX9_tells_58 (ow_k1 (of_decide_eq_true hg2)) (As := [.long l1, .int l5]) (rest := []) (rX2_mostAskable (N := 4) (of_decide_eq_true hg2) hf5 (Nat.le_refl _)) rfl (Nat.le_trans (Nat.le_of_ble_eq_true rfl) hN) rfl (Nat.le_of_ble_eq_true rfl) (Or.inl hz) ?_
      refine go_istore hc (lv1 := [.ref 0, .long l1, .null, .int l3, .int l4, .int l5, .int r3]) dX9_tells_61 hL (by decide) (fun _ _ e => by cases e; rfl) rfl ?_
      refine go_iload hc dX9_tells_63 rfl ?_
      refine go_bipush hc dX9_tells_65 cb_m2 ?_
      refine go_icmp_eq (tgt := 76) hc dX9_tells_67 rfl (fun hh => ?_) (fun hh => ?_)
      · rw [if_pos hh] at h
        refine go_iload hc dX9_tells_76 rfl ?_
        refine go_istore_n hc (lv1 := [.ref 0, .long l1, .null, .int r3, .int l4, .int l5, .int r3]) dX9_tells_78 rfl hL (by decide) (fun _ _ e => by cases e; rfl) rfl ?_
        refine go_iload hc dX9_tells_79 rfl ?_
        refine go_istore hc (lv1 := [.ref 0, .long l1, .null, .int r3, .int l5, .int l5, .int r3]) dX9_tells_81 hL (by decide) (fun _ _ e => by cases e; rfl) rfl ?_
        refine go_iinc hc (lv1 := [.ref 0, .long l1, .null, .int r3, .int l5, .int (l5 + 1), .int r3]) dX9_tells_83 rfl ci_1 hL (by decide) (fun _ _ e => by cases e; rfl) rfl ?_
        refine go_goto (tgt := 33) hc dX9_tells_86 rfl ?_
        refine go_mask [true, true, false, true, true, true, false] (lv1 := [.ref 0, .long l1, .null, .int r3, .int l5, .int (l5 + 1), .null]) rfl ?_
        exact ih l1 r3 l5 (l5 + 1) _ h
      · rw [if_neg hh] at h
        refine go_iload hc dX9_tells_70 rfl ?_
        refine go_iload_n hc dX9_tells_72 rfl rfl ?_
        refine go_icmp_ge (tgt := 83) hc dX9_tells_73 rfl (fun hh => ?_) (fun hh => ?_)
        · rw [if_pos hh] at h
          refine go_iinc hc (lv1 := [.ref 0, .long l1, .null, .int l3, .int l4, .int (l5 + 1), .int r3]) dX9_tells_83 rfl ci_1 hL (by decide) (fun _ _ e => by cases e; rfl) rfl ?_
          refine go_goto (tgt := 33) hc dX9_tells_86 rfl ?_
          refine go_mask [true, true, false, true, true, true, false] (lv1 := [.ref 0, .long l1, .null, .int l3, .int l4, .int (l5 + 1), .null]) rfl ?_
          exact ih l1 l3 l4 (l5 + 1) _ h
        · rw [if_neg hh] at h
          refine go_iload hc dX9_tells_76 rfl ?_
          refine go_istore_n hc (lv1 := [.ref 0, .long l1, .null, .int r3, .int l4, .int l5, .int r3]) dX9_tells_78 rfl hL (by decide) (fun _ _ e => by cases e; rfl) rfl ?_
          refine go_iload hc dX9_tells_79 rfl ?_
          refine go_istore hc (lv1 := [.ref 0, .long l1, .null, .int r3, .int l5, .int l5, .int r3]) dX9_tells_81 hL (by decide) (fun _ _ e => by cases e; rfl) rfl ?_
          refine go_iinc hc (lv1 := [.ref 0, .long l1, .null, .int r3, .int l5, .int (l5 + 1), .int r3]) dX9_tells_83 rfl ci_1 hL (by decide) (fun _ _ e => by cases e; rfl) rfl ?_
          refine go_goto (tgt := 33) hc dX9_tells_86 rfl ?_
          refine go_mask [true, true, false, true, true, true, false] (lv1 := [.ref 0, .long l1, .null, .int r3, .int l5, .int (l5 + 1), .null]) rfl ?_
          exact ih l1 r3 l5 (l5 + 1) _ h
def fX9_tells (σ : OM) : Option (Int32 × OM) :=
  if (mI σ 0 7) = 0 then (
   obi (fX9_refuse (1 : Int32) σ) (fun r5 σ6 =>
   some (r5, σ6)))
  else (ogd (decide (okd (mR σ 0 0) = 8)) (
  obi (fX3_worldsOfAll (mR σ 0 0) σ) (fun r2 σ3 =>
  fX9_tells_b33 oF r2 (0 : Int32) ((-2) : Int32) (0 : Int32) σ3)))
set_option maxRecDepth 100000 in
set_option maxHeartbeats 4000000 in
theorem rX9_tells {N : Nat} {σ : OM} {r0 : Int32} {σ0 : OM} (h : fX9_tells σ = some (r0, σ0)) (hN0 : 5 ≤ N) : oEv N MX9_tells [.ref 0] σ (some (.int r0)) σ0 := by
  refine oEv_of (lv := [.ref 0, .null, .null, .null, .null, .null, .null]) (by decide +kernel) (fun g q hq => hq) (fun g => Nat.le_of_ble_eq_true rfl) ?_
  intro K hc ho hL hN1 hr hE hz
  have hN : 5 ≤ kN K := by rw [hN1]; exact hN0
  unfold fX9_tells at h
  refine go_aload_n hc dX9_tells_0 rfl rfl ?_
  refine go_getI hc ho flX9_90 dX9_tells_1 ok_0 ?_
  refine go_if_ne (tgt := 13) hc dX9_tells_4 rfl (fun hh => ?_) (fun hh => ?_)
  · rw [if_neg hh] at h
    refine go_aload_n hc dX9_tells_13 rfl rfl ?_
    obtain ⟨hg1, h⟩ := ogd_some h
    refine go_getR hc ho flX9_10 dX9_tells_14 ok_0 ?_
    refine go_getC (b := (mR σ 0 0) + 10) (ow_c0_2 (of_decide_eq_true hg1)) hc ho flX9_149 dX9_tells_17 (of_decide_eq_true hg1) ?_
    obtain ⟨r2, σ3, hf4, h⟩ := obi_some h
    refine go_callVl hc ho cmX3_worldsOfAll mlX9_191 dX9_tells_20 (ow_k10 (of_decide_eq_true hg1)) (As := []) (rest := []) (rX3_worldsOfAll (N := 4) (of_decide_eq_true hg1) hf4 (Nat.le_refl _)) rfl (Nat.le_trans (Nat.le_of_ble_eq_true rfl) hN) rfl (Nat.le_of_ble_eq_true rfl) (Or.inl hz) ?_
    refine go_lstore_n hc (lv1 := [.ref 0, .long r2, .null, .null, .null, .null, .null]) dX9_tells_23 rfl hL (by decide) (fun _ _ e => by cases e; rfl) rfl ?_
    refine go_iconst hc dX9_tells_24 ci_0 ?_
    refine go_istore_n hc (lv1 := [.ref 0, .long r2, .null, .int (0 : Int32), .null, .null, .null]) dX9_tells_25 rfl hL (by decide) (fun _ _ e => by cases e; rfl) rfl ?_
    refine go_bipush hc dX9_tells_26 cb_m2 ?_
    refine go_istore hc (lv1 := [.ref 0, .long r2, .null, .int (0 : Int32), .int ((-2) : Int32), .null, .null]) dX9_tells_28 hL (by decide) (fun _ _ e => by cases e; rfl) rfl ?_
    refine go_iconst hc dX9_tells_30 ci_0 ?_
    refine go_istore hc (lv1 := [.ref 0, .long r2, .null, .int (0 : Int32), .int ((-2) : Int32), .int (0 : Int32), .null]) dX9_tells_31 hL (by decide) (fun _ _ e => by cases e; rfl) rfl ?_
    exact rX9_tells_b33 hc ho hL hN hr hE hz oF r2 (0 : Int32) ((-2) : Int32) (0 : Int32) _ h
  · rw [if_pos hh] at h
    refine go_aload_n hc dX9_tells_7 rfl rfl ?_
    refine go_iconst hc dX9_tells_8 ci_1 ?_
    obtain ⟨r5, σ6, hf7, h⟩ := obi_some h
    refine go_callVi hc ho cmX9_refuse mlX9_70 dX9_tells_9 ok_0 (As := [.int (1 : Int32)]) (rest := []) (rX9_refuse (N := 0) hf7 (Nat.le_refl _)) rfl (Nat.le_trans (Nat.le_of_ble_eq_true rfl) hN) rfl (Nat.le_of_ble_eq_true rfl) (Or.inl hz) ?_
    exact go_iret hc (oend_i h hE) hr dX9_tells_12
def fX4_priceBehind (rc : Int64 → Int32 → Int32 → OM → Option (Int32 × OM)) (x0 : Int32) (x1 : Int64) (x2 : Int32) (x3 : Int32) (x4 : Int32) (σ : OM) : Option (Int32 × OM) :=
  if x0 < 0 then (
   some ((1000000000 : Int32), σ))
  else (if x0 < (7 : Int32) then (
   ogd (oin x0 7) (
   ogd (oin x0 7) (
   if (lg_cmp (x1 &&& (mL σ 57 x0.toNatClampNeg)) (0 : Int64)) = 0 then (
    some ((1000000000 : Int32), σ))
   else (if (lg_cmp (x1 &&& ((mL σ 57 x0.toNatClampNeg) ^^^ ((-1) : Int64))) (0 : Int64)) = 0 then (
    some ((1000000000 : Int32), σ))
   else (obi (rc (x1 &&& (mL σ 57 x0.toNatClampNeg)) (x3 + x2) (x4 + (1 : Int32)) σ) (fun r3 σ4 =>
   obi (rc (x1 &&& ((mL σ 57 x0.toNatClampNeg) ^^^ ((-1) : Int64))) (x3 + ((2 : Int32) * x2)) (x4 + (1 : Int32)) σ4) (fun r6 σ7 =>
   if (mI σ7 56 10) = 0 then (
    if (mI σ7 56 2) = 0 then (
     obi (fJ9_max_7cf53 r3 r6 σ7) (fun r9 σ10 =>
     some (r9, σ10)))
    else (some ((r3 + r6), σ7)))
   else (some ((1000000000 : Int32), σ7)))))))))
  else (some ((1000000000 : Int32), σ)))
set_option maxRecDepth 100000 in
set_option maxHeartbeats 4000000 in
theorem rX4_priceBehind {ND : Nat} {rc : Int64 → Int32 → Int32 → OM → Option (Int32 × OM)} (hB : 1 ≤ ND) (hrc : ∀ (x0 : Int64) (x1 : Int32) (x2 : Int32) (σ : OM) (r : Int32) (σ1 : OM), rc x0 x1 x2 σ = some (r, σ1) → oEv ND MX4_priceOf [.ref 56, .long x0, .int x1, .int x2] σ (some (.int r)) σ1) {N : Nat} {x0 : Int32} {x1 : Int64} {x2 : Int32} {x3 : Int32} {x4 : Int32} {σ : OM} {r0 : Int32} {σ0 : OM} (h : fX4_priceBehind rc x0 x1 x2 x3 x4 σ = some (r0, σ0)) (hN0 : ND + 1 ≤ N) : oEv N MX4_priceBehind [.ref 56, .int x0, .long x1, .int x2, .int x3, .int x4] σ (some (.int r0)) σ0 := by
  refine oEv_of (lv := [.ref 56, .int x0, .long x1, .null, .int x2, .int x3, .int x4, .null, .null, .null, .null, .null, .null]) (by decide +kernel) (fun g q hq => hq) (fun g => Nat.le_of_ble_eq_true rfl) ?_
  intro K hc ho hL hN1 hr hE hz
  have hN : ND + 1 ≤ kN K := by rw [hN1]; exact hN0
  unfold fX4_priceBehind at h
  refine go_iload_n hc dX4_priceBehind_0 rfl rfl ?_
  refine go_if_lt (tgt := 10) hc dX4_priceBehind_1 rfl (fun hh => ?_) (fun hh => ?_)
  · rw [if_pos hh] at h
    refine go_ldc hc ho kcX4_71 dX4_priceBehind_10 ?_
    exact go_iret hc (oend_i h hE) hr dX4_priceBehind_12
  · rw [if_neg hh] at h
    refine go_iload_n hc dX4_priceBehind_4 rfl rfl ?_
    refine go_bipush hc dX4_priceBehind_5 cb_7 ?_
    refine go_icmp_lt (tgt := 13) hc dX4_priceBehind_7 rfl (fun hh => ?_) (fun hh => ?_)
    · rw [if_pos hh] at h
      refine go_lload_n hc dX4_priceBehind_13 rfl rfl ?_
      refine go_aload_n hc dX4_priceBehind_14 rfl rfl ?_
      refine go_getC (b := 57) rfl hc ho flX4_11 dX4_priceBehind_15 ok_56 ?_
      refine go_iload_n hc dX4_priceBehind_18 rfl rfl ?_
      obtain ⟨hg1, h⟩ := ogd_some h
      refine go_lald hc dX4_priceBehind_19 ok_57 ol_57 hg1 rfl ?_
      refine go_land hc dX4_priceBehind_20 ?_
      refine go_lstore hc (lv1 := [.ref 56, .int x0, .long x1, .null, .int x2, .int x3, .int x4, .long (x1 &&& (mL σ 57 x0.toNatClampNeg)), .null, .null, .null, .null, .null]) dX4_priceBehind_21 hL (by decide) (fun _ _ e => by cases e; rfl) rfl ?_
      refine go_lload_n hc dX4_priceBehind_23 rfl rfl ?_
      refine go_aload_n hc dX4_priceBehind_24 rfl rfl ?_
      refine go_getC (b := 57) rfl hc ho flX4_11 dX4_priceBehind_25 ok_56 ?_
      refine go_iload_n hc dX4_priceBehind_28 rfl rfl ?_
      obtain ⟨hg2, h⟩ := ogd_some h
      refine go_lald hc dX4_priceBehind_29 ok_57 ol_57 hg2 rfl ?_
      refine go_ldc2 hc ho klX4_82 dX4_priceBehind_30 ?_
      refine go_lxor hc dX4_priceBehind_33 ?_
      refine go_land hc dX4_priceBehind_34 ?_
      refine go_lstore hc (lv1 := [.ref 56, .int x0, .long x1, .null, .int x2, .int x3, .int x4, .long (x1 &&& (mL σ 57 x0.toNatClampNeg)), .null, .long (x1 &&& ((mL σ 57 x0.toNatClampNeg) ^^^ ((-1) : Int64))), .null, .null, .null]) dX4_priceBehind_35 hL (by decide) (fun _ _ e => by cases e; rfl) rfl ?_
      refine go_lload hc dX4_priceBehind_37 rfl ?_
      refine go_lconst hc dX4_priceBehind_39 cl_0 ?_
      refine go_lcmp hc dX4_priceBehind_40 ?_
      refine go_if_eq (tgt := 51) hc dX4_priceBehind_41 rfl (fun hh => ?_) (fun hh => ?_)
      · rw [if_pos hh] at h
        refine go_ldc hc ho kcX4_71 dX4_priceBehind_51 ?_
        exact go_iret hc (oend_i h hE) hr dX4_priceBehind_53
      · rw [if_neg hh] at h
        refine go_lload hc dX4_priceBehind_44 rfl ?_
        refine go_lconst hc dX4_priceBehind_46 cl_0 ?_
        refine go_lcmp hc dX4_priceBehind_47 ?_
        refine go_if_ne (tgt := 54) hc dX4_priceBehind_48 rfl (fun hh => ?_) (fun hh => ?_)
        · rw [if_neg hh] at h
          refine go_aload_n hc dX4_priceBehind_54 rfl rfl ?_
          refine go_lload hc dX4_priceBehind_55 rfl ?_
          refine go_iload hc dX4_priceBehind_57 rfl ?_
          refine go_iload hc dX4_priceBehind_59 rfl ?_
          refine go_iadd hc dX4_priceBehind_61 ?_
          refine go_iload hc dX4_priceBehind_62 rfl ?_
          refine go_iconst hc dX4_priceBehind_64 ci_1 ?_
          refine go_iadd hc dX4_priceBehind_65 ?_
          obtain ⟨r3, σ4, hf5, h⟩ := obi_some h
          refine go_callVi hc ho cmX4_priceOf mlX4_59 dX4_priceBehind_66 ok_56 (As := [.long (x1 &&& (mL σ 57 x0.toNatClampNeg)), .int (x3 + x2), .int (x4 + (1 : Int32))]) (rest := []) (hrc (x1 &&& (mL σ 57 x0.toNatClampNeg)) (x3 + x2) (x4 + (1 : Int32)) _ _ _ hf5) rfl (by omega) rfl (Nat.le_of_ble_eq_true rfl) (Or.inl hz) ?_
          refine go_istore hc (lv1 := [.ref 56, .int x0, .long x1, .null, .int x2, .int x3, .int x4, .long (x1 &&& (mL σ 57 x0.toNatClampNeg)), .null, .long (x1 &&& ((mL σ 57 x0.toNatClampNeg) ^^^ ((-1) : Int64))), .null, .int r3, .null]) dX4_priceBehind_69 hL (by decide) (fun _ _ e => by cases e; rfl) rfl ?_
          refine go_aload_n hc dX4_priceBehind_71 rfl rfl ?_
          refine go_lload hc dX4_priceBehind_72 rfl ?_
          refine go_iload hc dX4_priceBehind_74 rfl ?_
          refine go_iconst hc dX4_priceBehind_76 ci_2 ?_
          refine go_iload hc dX4_priceBehind_77 rfl ?_
          refine go_imul hc dX4_priceBehind_79 ?_
          refine go_iadd hc dX4_priceBehind_80 ?_
          refine go_iload hc dX4_priceBehind_81 rfl ?_
          refine go_iconst hc dX4_priceBehind_83 ci_1 ?_
          refine go_iadd hc dX4_priceBehind_84 ?_
          obtain ⟨r6, σ7, hf8, h⟩ := obi_some h
          refine go_callVi hc ho cmX4_priceOf mlX4_59 dX4_priceBehind_85 ok_56 (As := [.long (x1 &&& ((mL σ 57 x0.toNatClampNeg) ^^^ ((-1) : Int64))), .int (x3 + ((2 : Int32) * x2)), .int (x4 + (1 : Int32))]) (rest := []) (hrc (x1 &&& ((mL σ 57 x0.toNatClampNeg) ^^^ ((-1) : Int64))) (x3 + ((2 : Int32) * x2)) (x4 + (1 : Int32)) _ _ _ hf8) rfl (by omega) rfl (Nat.le_of_ble_eq_true rfl) (Or.inl hz) ?_
          refine go_istore hc (lv1 := [.ref 56, .int x0, .long x1, .null, .int x2, .int x3, .int x4, .long (x1 &&& (mL σ 57 x0.toNatClampNeg)), .null, .long (x1 &&& ((mL σ 57 x0.toNatClampNeg) ^^^ ((-1) : Int64))), .null, .int r3, .int r6]) dX4_priceBehind_88 hL (by decide) (fun _ _ e => by cases e; rfl) rfl ?_
          refine go_aload_n hc dX4_priceBehind_90 rfl rfl ?_
          refine go_getI hc ho flX4_41 dX4_priceBehind_91 ok_56 ?_
          refine go_if_eq (tgt := 100) hc dX4_priceBehind_94 rfl (fun hh => ?_) (fun hh => ?_)
          · rw [if_pos hh] at h
            refine go_aload_n hc dX4_priceBehind_100 rfl rfl ?_
            refine go_getI hc ho flX4_29 dX4_priceBehind_101 ok_56 ?_
            refine go_if_eq (tgt := 115) hc dX4_priceBehind_104 rfl (fun hh => ?_) (fun hh => ?_)
            · rw [if_pos hh] at h
              refine go_iload hc dX4_priceBehind_115 rfl ?_
              refine go_iload hc dX4_priceBehind_117 rfl ?_
              obtain ⟨r9, σ10, hf11, h⟩ := obi_some h
              refine go_callSi hc ho cmJ9_max_7cf53 mlX4_84 dX4_priceBehind_119 (As := [.int r3, .int r6]) (rest := []) (rJ9_max_7cf53 (N := 0) hf11 (Nat.le_refl _)) rfl (by omega) rfl (Nat.le_of_ble_eq_true rfl) (Or.inl hz) ?_
              exact go_iret hc (oend_i h hE) hr dX4_priceBehind_122
            · rw [if_neg hh] at h
              refine go_iload hc dX4_priceBehind_107 rfl ?_
              refine go_iload hc dX4_priceBehind_109 rfl ?_
              refine go_iadd hc dX4_priceBehind_111 ?_
              refine go_goto (tgt := 122) hc dX4_priceBehind_112 rfl ?_
              exact go_iret hc (oend_i h hE) hr dX4_priceBehind_122
          · rw [if_neg hh] at h
            refine go_ldc hc ho kcX4_71 dX4_priceBehind_97 ?_
            exact go_iret hc (oend_i h hE) hr dX4_priceBehind_99
        · rw [if_pos hh] at h
          refine go_ldc hc ho kcX4_71 dX4_priceBehind_51 ?_
          exact go_iret hc (oend_i h hE) hr dX4_priceBehind_53
    · rw [if_neg hh] at h
      refine go_ldc hc ho kcX4_71 dX4_priceBehind_10 ?_
      exact go_iret hc (oend_i h hE) hr dX4_priceBehind_12
def fX4_priceOf_b154 (rc : Int64 → Int32 → Int32 → OM → Option (Int32 × OM)) (l3 : Int32) (k0 : Int32) (k1 : Int32) (σ : OM) : Option (Int32 × OM) :=
  ogd (oin l3 2187) (
  ogd (oin l3 2187) (
  some ((k0 + k1), sI (sI σ 60 l3.toNatClampNeg (mI σ 56 9)) 59 l3.toNatClampNeg (k0 + k1))))
set_option maxRecDepth 100000 in
set_option maxHeartbeats 4000000 in
theorem rX4_priceOf_b154 {ND : Nat} {rc : Int64 → Int32 → Int32 → OM → Option (Int32 × OM)} (hB : 1 ≤ ND) (hrc : ∀ (x0 : Int64) (x1 : Int32) (x2 : Int32) (σ : OM) (r : Int32) (σ1 : OM), rc x0 x1 x2 σ = some (r, σ1) → oEv ND MX4_priceOf [.ref 56, .long x0, .int x1, .int x2] σ (some (.int r)) σ1) {K : OK} (hc : kcc K = cX4_priceOf) (ho : kow K = RX4) (hL : knL K = 8) (hN : ND + 2 ≤ kN K) (hr : (kme K).sig.returnType = (some .int)) {r0 : Int32} {σ0 : OM} (hE : oEnd K (some (.int r0)) σ0) (hz : kz K = 0) {l3 : Int32} {k0 : Int32} {k1 : Int32} {σ : OM} (h : fX4_priceOf_b154 rc l3 k0 k1 σ = some (r0, σ0)) : Go K 154 [.ref 56, .null, .null, .int l3, .null, .null, .null, .null] [.int k1, .int k0] σ := by
  unfold fX4_priceOf_b154 at h
  refine go_iadd hc dX4_priceOf_154 ?_
  refine go_istore hc (lv1 := [.ref 56, .null, .null, .int l3, .null, .int (k0 + k1), .null, .null]) dX4_priceOf_155 hL (by decide) (fun _ _ e => by cases e; rfl) rfl ?_
  refine go_aload_n hc dX4_priceOf_157 rfl rfl ?_
  refine go_getC (b := 60) rfl hc ho flX4_22 dX4_priceOf_158 ok_56 ?_
  refine go_iload_n hc dX4_priceOf_161 rfl rfl ?_
  refine go_aload_n hc dX4_priceOf_162 rfl rfl ?_
  refine go_getI hc ho flX4_37 dX4_priceOf_163 ok_56 ?_
  obtain ⟨hg1, h⟩ := ogd_some h
  refine go_iast hc dX4_priceOf_166 ok_60 ol_60 hg1 rfl ?_
  refine go_aload_n hc dX4_priceOf_167 rfl rfl ?_
  refine go_getC (b := 59) rfl hc ho flX4_19 dX4_priceOf_168 ok_56 ?_
  refine go_iload_n hc dX4_priceOf_171 rfl rfl ?_
  refine go_iload hc dX4_priceOf_172 rfl ?_
  obtain ⟨hg2, h⟩ := ogd_some h
  refine go_iast hc dX4_priceOf_174 ok_59 ol_59 hg2 rfl ?_
  refine go_iload hc dX4_priceOf_175 rfl ?_
  exact go_iret hc (oend_i h hE) hr dX4_priceOf_177
def fX4_priceOf_b118 (rc : Int64 → Int32 → Int32 → OM → Option (Int32 × OM)) (l1 : Int64) (l3 : Int32) (l5 : Int32) (σ : OM) : Option (Int32 × OM) :=
  if l5 = (1000000000 : Int32) then (
   some ((1000000000 : Int32), sI σ 56 10 (1 : Int32)))
  else (if (mI σ 56 2) = 0 then (
   fX4_priceOf_b154 rc l3 l5 (1 : Int32) σ)
  else (ogd ((decide (okd (mR σ 56 0 - 1) = 8) && decide (mR σ 56 0 = mR σ 56 0 - 1 + 1))) (
  obi (fX2_weightOf (mR σ 56 0 - 1) l1 σ) (fun r2 σ3 =>
  fX4_priceOf_b154 rc l3 l5 r2 σ3))))
set_option maxRecDepth 100000 in
set_option maxHeartbeats 4000000 in
theorem rX4_priceOf_b118 {ND : Nat} {rc : Int64 → Int32 → Int32 → OM → Option (Int32 × OM)} (hB : 1 ≤ ND) (hrc : ∀ (x0 : Int64) (x1 : Int32) (x2 : Int32) (σ : OM) (r : Int32) (σ1 : OM), rc x0 x1 x2 σ = some (r, σ1) → oEv ND MX4_priceOf [.ref 56, .long x0, .int x1, .int x2] σ (some (.int r)) σ1) {K : OK} (hc : kcc K = cX4_priceOf) (ho : kow K = RX4) (hL : knL K = 8) (hN : ND + 2 ≤ kN K) (hr : (kme K).sig.returnType = (some .int)) {r0 : Int32} {σ0 : OM} (hE : oEnd K (some (.int r0)) σ0) (hz : kz K = 0) {l1 : Int64} {l3 : Int32} {l5 : Int32} {σ : OM} (h : fX4_priceOf_b118 rc l1 l3 l5 σ = some (r0, σ0)) : Go K 118 [.ref 56, .long l1, .null, .int l3, .null, .int l5, .null, .null] [] σ := by
  unfold fX4_priceOf_b118 at h
  refine go_iload hc dX4_priceOf_118 rfl ?_
  refine go_ldc hc ho kcX4_71 dX4_priceOf_120 ?_
  refine go_icmp_ne (tgt := 133) hc dX4_priceOf_122 rfl (fun hh => ?_) (fun hh => ?_)
  · rw [if_neg hh] at h
    refine go_iload hc dX4_priceOf_133 rfl ?_
    refine go_aload_n hc dX4_priceOf_135 rfl rfl ?_
    refine go_getI hc ho flX4_29 dX4_priceOf_136 ok_56 ?_
    refine go_if_eq (tgt := 153) hc dX4_priceOf_139 rfl (fun hh => ?_) (fun hh => ?_)
    · rw [if_pos hh] at h
      refine go_iconst hc dX4_priceOf_153 ci_1 ?_
      refine go_mask [true, false, false, true, false, false, false, false] (lv1 := [.ref 56, .null, .null, .int l3, .null, .null, .null, .null]) rfl ?_
      exact rX4_priceOf_b154 hB hrc hc ho hL hN hr hE hz h
    · rw [if_neg hh] at h
      refine go_aload_n hc dX4_priceOf_142 rfl rfl ?_
      obtain ⟨hg1, h⟩ := ogd_some h
      refine go_getR hc ho flX4_25 dX4_priceOf_143 ok_56 (go_ref (of_decide_eq_true (Bool.and_eq_true_iff.mp hg1).2) ?_)
      refine go_lload_n hc dX4_priceOf_146 rfl rfl ?_
      obtain ⟨r2, σ3, hf4, h⟩ := obi_some h
      refine go_callVi hc ho cmX2_weightOf mlX4_78 dX4_priceOf_147 (ow_k1 (of_decide_eq_true (Bool.and_eq_true_iff.mp hg1).1)) (As := [.long l1]) (rest := [.int l5]) (rX2_weightOf (N := 1) (of_decide_eq_true (Bool.and_eq_true_iff.mp hg1).1) hf4 (Nat.le_refl _)) rfl (by omega) rfl (Nat.le_of_ble_eq_true rfl) (Or.inl hz) ?_
      refine go_goto (tgt := 154) hc dX4_priceOf_150 rfl ?_
      refine go_mask [true, false, false, true, false, false, false, false] (lv1 := [.ref 56, .null, .null, .int l3, .null, .null, .null, .null]) rfl ?_
      exact rX4_priceOf_b154 hB hrc hc ho hL hN hr hE hz h
  · rw [if_pos hh] at h
    refine go_aload_n hc dX4_priceOf_125 rfl rfl ?_
    refine go_iconst hc dX4_priceOf_126 ci_1 ?_
    refine go_putI hc ho fpX4_41 dX4_priceOf_127 ok_56 (fun _ => rfl) (fun _ => rfl) ?_
    refine go_ldc hc ho kcX4_71 dX4_priceOf_130 ?_
    exact go_iret hc (oend_i h hE) hr dX4_priceOf_132
def fX4_priceOf_b73 (rc : Int64 → Int32 → Int32 → OM → Option (Int32 × OM)) : Nat → Int64 → Int32 → Int32 → Int32 → Int32 → Int32 → OM → Option (Int32 × OM)
  | 0, _, _, _, _, _, _, _ => none
  | n + 1, l1, l3, l4, l5, l6, l7, σ =>
    if (mI σ 56 6) ≤ l7 then (
     fX4_priceOf_b118 rc l1 l3 l5 σ)
    else (if l5 ≤ 0 then (
     fX4_priceOf_b118 rc l1 l3 l5 σ)
    else (obi (fX4_priceBehind rc l7 l1 l6 l3 l4 σ) (fun r1 σ2 =>
    obi (fJ9_min_7cf53 l5 r1 σ2) (fun r4 σ5 =>
    fX4_priceOf_b73 rc n l1 l3 l4 r4 (l6 * (3 : Int32)) (l7 + 1) σ5))))
set_option maxRecDepth 100000 in
set_option maxHeartbeats 4000000 in
theorem rX4_priceOf_b73 {ND : Nat} {rc : Int64 → Int32 → Int32 → OM → Option (Int32 × OM)} (hB : 1 ≤ ND) (hrc : ∀ (x0 : Int64) (x1 : Int32) (x2 : Int32) (σ : OM) (r : Int32) (σ1 : OM), rc x0 x1 x2 σ = some (r, σ1) → oEv ND MX4_priceOf [.ref 56, .long x0, .int x1, .int x2] σ (some (.int r)) σ1) {K : OK} (hc : kcc K = cX4_priceOf) (ho : kow K = RX4) (hL : knL K = 8) (hN : ND + 2 ≤ kN K) (hr : (kme K).sig.returnType = (some .int)) {r0 : Int32} {σ0 : OM} (hE : oEnd K (some (.int r0)) σ0) (hz : kz K = 0) : ∀ (n : Nat) (l1 : Int64) (l3 : Int32) (l4 : Int32) (l5 : Int32) (l6 : Int32) (l7 : Int32) (σ : OM), fX4_priceOf_b73 rc n l1 l3 l4 l5 l6 l7 σ = some (r0, σ0) → Go K 73 [.ref 56, .long l1, .null, .int l3, .int l4, .int l5, .int l6, .int l7] [] σ := by
  intro n
  induction n with
  | zero =>
    intro l1 l3 l4 l5 l6 l7 σ h
    cases h
  | succ n ih =>
    intro l1 l3 l4 l5 l6 l7 σ h
    rw [fX4_priceOf_b73] at h
    refine go_iload hc dX4_priceOf_73 rfl ?_
    refine go_aload_n hc dX4_priceOf_75 rfl rfl ?_
    refine go_getI hc ho flX4_44 dX4_priceOf_76 ok_56 ?_
    refine go_icmp_ge (tgt := 118) hc dX4_priceOf_79 rfl (fun hh => ?_) (fun hh => ?_)
    · rw [if_pos hh] at h
      refine go_mask [true, true, false, true, false, true, false, false] (lv1 := [.ref 56, .long l1, .null, .int l3, .null, .int l5, .null, .null]) rfl ?_
      exact rX4_priceOf_b118 hB hrc hc ho hL hN hr hE hz h
    · rw [if_neg hh] at h
      refine go_iload hc dX4_priceOf_82 rfl ?_
      refine go_if_le (tgt := 118) hc dX4_priceOf_84 rfl (fun hh => ?_) (fun hh => ?_)
      · rw [if_pos hh] at h
        refine go_mask [true, true, false, true, false, true, false, false] (lv1 := [.ref 56, .long l1, .null, .int l3, .null, .int l5, .null, .null]) rfl ?_
        exact rX4_priceOf_b118 hB hrc hc ho hL hN hr hE hz h
      · rw [if_neg hh] at h
        refine go_iload hc dX4_priceOf_87 rfl ?_
        refine go_aload_n hc dX4_priceOf_89 rfl rfl ?_
        refine go_iload hc dX4_priceOf_90 rfl ?_
        refine go_lload_n hc dX4_priceOf_92 rfl rfl ?_
        refine go_iload hc dX4_priceOf_93 rfl ?_
        refine go_iload_n hc dX4_priceOf_95 rfl rfl ?_
        refine go_iload hc dX4_priceOf_96 rfl ?_
        obtain ⟨r1, σ2, hf3, h⟩ := obi_some h
        refine go_callVi hc ho cmX4_priceBehind mlX4_63 dX4_priceOf_98 ok_56 (As := [.int l7, .long l1, .int l6, .int l3, .int l4]) (rest := [.int l5]) (rX4_priceBehind hB hrc (N := ND + 1) hf3 (Nat.le_refl _)) rfl (by omega) rfl (Nat.le_of_ble_eq_true rfl) (Or.inl hz) ?_
        obtain ⟨r4, σ5, hf6, h⟩ := obi_some h
        refine go_callSi hc ho cmJ9_min_7cf53 mlX4_72 dX4_priceOf_101 (As := [.int l5, .int r1]) (rest := []) (rJ9_min_7cf53 (N := 0) hf6 (Nat.le_refl _)) rfl (by omega) rfl (Nat.le_of_ble_eq_true rfl) (Or.inl hz) ?_
        refine go_istore hc (lv1 := [.ref 56, .long l1, .null, .int l3, .int l4, .int r4, .int l6, .int l7]) dX4_priceOf_104 hL (by decide) (fun _ _ e => by cases e; rfl) rfl ?_
        refine go_iload hc dX4_priceOf_106 rfl ?_
        refine go_iconst hc dX4_priceOf_108 ci_3 ?_
        refine go_imul hc dX4_priceOf_109 ?_
        refine go_istore hc (lv1 := [.ref 56, .long l1, .null, .int l3, .int l4, .int r4, .int (l6 * (3 : Int32)), .int l7]) dX4_priceOf_110 hL (by decide) (fun _ _ e => by cases e; rfl) rfl ?_
        refine go_iinc hc (lv1 := [.ref 56, .long l1, .null, .int l3, .int l4, .int r4, .int (l6 * (3 : Int32)), .int (l7 + 1)]) dX4_priceOf_112 rfl ci_1 hL (by decide) (fun _ _ e => by cases e; rfl) rfl ?_
        refine go_goto (tgt := 73) hc dX4_priceOf_115 rfl ?_
        exact ih l1 l3 l4 r4 (l6 * (3 : Int32)) (l7 + 1) _ h
def fX4_priceOf_s (rc : Int64 → Int32 → Int32 → OM → Option (Int32 × OM)) (x0 : Int64) (x1 : Int32) (x2 : Int32) (σ : OM) : Option (Int32 × OM) :=
  obi (fX9_verdict x0 (mL σ 56 1) σ) (fun r1 σ2 =>
  if r1 = ((-2) : Int32) then (
   if (mI σ2 56 10) = 0 then (
    if (7 : Int32) < x2 then (
     some ((1000000000 : Int32), σ2))
    else (if x1 < 0 then (
     some ((1000000000 : Int32), σ2))
    else (if x1 < (2187 : Int32) then (
     ogd (oin x1 2187) (
     if (mI σ2 60 x1.toNatClampNeg) = (mI σ2 56 9) then (
      ogd (oin x1 2187) (
      some ((mI σ2 59 x1.toNatClampNeg), σ2)))
     else (fX4_priceOf_b73 rc oF x0 x1 x2 (1000000000 : Int32) (1 : Int32) (0 : Int32) σ2)))
    else (some ((1000000000 : Int32), σ2)))))
   else (some ((1000000000 : Int32), σ2)))
  else (some ((0 : Int32), σ2)))
set_option maxRecDepth 100000 in
set_option maxHeartbeats 4000000 in
theorem rX4_priceOf_s {ND : Nat} {rc : Int64 → Int32 → Int32 → OM → Option (Int32 × OM)} (hB : 1 ≤ ND) (hrc : ∀ (x0 : Int64) (x1 : Int32) (x2 : Int32) (σ : OM) (r : Int32) (σ1 : OM), rc x0 x1 x2 σ = some (r, σ1) → oEv ND MX4_priceOf [.ref 56, .long x0, .int x1, .int x2] σ (some (.int r)) σ1) {N : Nat} {x0 : Int64} {x1 : Int32} {x2 : Int32} {σ : OM} {r0 : Int32} {σ0 : OM} (h : fX4_priceOf_s rc x0 x1 x2 σ = some (r0, σ0)) (hN0 : ND + 2 ≤ N) : oEv N MX4_priceOf [.ref 56, .long x0, .int x1, .int x2] σ (some (.int r0)) σ0 := by
  refine oEv_of (lv := [.ref 56, .long x0, .null, .int x1, .int x2, .null, .null, .null]) (by decide +kernel) (fun g q hq => hq) (fun g => Nat.le_of_ble_eq_true rfl) ?_
  intro K hc ho hL hN1 hr hE hz
  have hN : ND + 2 ≤ kN K := by rw [hN1]; exact hN0
  unfold fX4_priceOf_s at h
  refine go_lload_n hc dX4_priceOf_0 rfl rfl ?_
  refine go_aload_n hc dX4_priceOf_1 rfl rfl ?_
  refine go_getL hc ho flX4_56 dX4_priceOf_2 ok_56 ?_
  obtain ⟨r1, σ2, hf3, h⟩ := obi_some h
  refine go_callSNi hc ho cmX9_verdict mnX4_67 dX4_priceOf_5 (As := [.long x0, .long (mL σ 56 1)]) (rest := []) (rX9_verdict (N := 0) hf3 (Nat.le_refl _)) rfl (by omega) rfl (Nat.le_of_ble_eq_true rfl) (Or.inl hz) ?_
  refine go_bipush hc dX4_priceOf_8 cb_m2 ?_
  refine go_icmp_eq (tgt := 15) hc dX4_priceOf_10 rfl (fun hh => ?_) (fun hh => ?_)
  · rw [if_pos hh] at h
    refine go_aload_n hc dX4_priceOf_15 rfl rfl ?_
    refine go_getI hc ho flX4_41 dX4_priceOf_16 ok_56 ?_
    refine go_if_ne (tgt := 40) hc dX4_priceOf_19 rfl (fun hh => ?_) (fun hh => ?_)
    · rw [if_neg hh] at h
      refine go_ldc hc ho kcX4_71 dX4_priceOf_40 ?_
      exact go_iret hc (oend_i h hE) hr dX4_priceOf_42
    · rw [if_pos hh] at h
      refine go_iload hc dX4_priceOf_22 rfl ?_
      refine go_bipush hc dX4_priceOf_24 cb_7 ?_
      refine go_icmp_gt (tgt := 40) hc dX4_priceOf_26 rfl (fun hh => ?_) (fun hh => ?_)
      · rw [if_pos hh] at h
        refine go_ldc hc ho kcX4_71 dX4_priceOf_40 ?_
        exact go_iret hc (oend_i h hE) hr dX4_priceOf_42
      · rw [if_neg hh] at h
        refine go_iload_n hc dX4_priceOf_29 rfl rfl ?_
        refine go_if_lt (tgt := 40) hc dX4_priceOf_30 rfl (fun hh => ?_) (fun hh => ?_)
        · rw [if_pos hh] at h
          refine go_ldc hc ho kcX4_71 dX4_priceOf_40 ?_
          exact go_iret hc (oend_i h hE) hr dX4_priceOf_42
        · rw [if_neg hh] at h
          refine go_iload_n hc dX4_priceOf_33 rfl rfl ?_
          refine go_sipush hc dX4_priceOf_34 cs_2187 ?_
          refine go_icmp_lt (tgt := 43) hc dX4_priceOf_37 rfl (fun hh => ?_) (fun hh => ?_)
          · rw [if_pos hh] at h
            refine go_aload_n hc dX4_priceOf_43 rfl rfl ?_
            refine go_getC (b := 60) rfl hc ho flX4_22 dX4_priceOf_44 ok_56 ?_
            refine go_iload_n hc dX4_priceOf_47 rfl rfl ?_
            obtain ⟨hg4, h⟩ := ogd_some h
            refine go_iald hc dX4_priceOf_48 ok_60 ol_60 hg4 rfl ?_
            refine go_aload_n hc dX4_priceOf_49 rfl rfl ?_
            refine go_getI hc ho flX4_37 dX4_priceOf_50 ok_56 ?_
            refine go_icmp_ne (tgt := 63) hc dX4_priceOf_53 rfl (fun hh => ?_) (fun hh => ?_)
            · rw [if_neg hh] at h
              refine go_ldc hc ho kcX4_71 dX4_priceOf_63 ?_
              refine go_istore hc (lv1 := [.ref 56, .long x0, .null, .int x1, .int x2, .int (1000000000 : Int32), .null, .null]) dX4_priceOf_65 hL (by decide) (fun _ _ e => by cases e; rfl) rfl ?_
              refine go_iconst hc dX4_priceOf_67 ci_1 ?_
              refine go_istore hc (lv1 := [.ref 56, .long x0, .null, .int x1, .int x2, .int (1000000000 : Int32), .int (1 : Int32), .null]) dX4_priceOf_68 hL (by decide) (fun _ _ e => by cases e; rfl) rfl ?_
              refine go_iconst hc dX4_priceOf_70 ci_0 ?_
              refine go_istore hc (lv1 := [.ref 56, .long x0, .null, .int x1, .int x2, .int (1000000000 : Int32), .int (1 : Int32), .int (0 : Int32)]) dX4_priceOf_71 hL (by decide) (fun _ _ e => by cases e; rfl) rfl ?_
              exact rX4_priceOf_b73 hB hrc hc ho hL hN hr hE hz oF x0 x1 x2 (1000000000 : Int32) (1 : Int32) (0 : Int32) _ h
            · rw [if_pos hh] at h
              refine go_aload_n hc dX4_priceOf_56 rfl rfl ?_
              refine go_getC (b := 59) rfl hc ho flX4_19 dX4_priceOf_57 ok_56 ?_
              refine go_iload_n hc dX4_priceOf_60 rfl rfl ?_
              obtain ⟨hg5, h⟩ := ogd_some h
              refine go_iald hc dX4_priceOf_61 ok_59 ol_59 hg5 rfl ?_
              exact go_iret hc (oend_i h hE) hr dX4_priceOf_62
          · rw [if_neg hh] at h
            refine go_ldc hc ho kcX4_71 dX4_priceOf_40 ?_
            exact go_iret hc (oend_i h hE) hr dX4_priceOf_42
  · rw [if_neg hh] at h
    refine go_iconst hc dX4_priceOf_13 ci_0 ?_
    exact go_iret hc (oend_i h hE) hr dX4_priceOf_14
def fX4_priceOf : Nat → Int64 → Int32 → Int32 → OM → Option (Int32 × OM)
  | 0, _, _, _, _ => none
  | n + 1, x0, x1, x2, σ => fX4_priceOf_s (fX4_priceOf n) x0 x1 x2 σ
theorem rX4_priceOf : ∀ (n : Nat) (x0 : Int64) (x1 : Int32) (x2 : Int32) (σ : OM) (r0 : Int32) (σ0 : OM) (N : Nat), fX4_priceOf n x0 x1 x2 σ = some (r0, σ0) → 1 + 2 * n ≤ N → oEv N MX4_priceOf [.ref 56, .long x0, .int x1, .int x2] σ (some (.int r0)) σ0 := by
  intro n
  induction n with
  | zero =>
    intro x0 x1 x2 σ r0 σ0 N h hN
    cases h
  | succ n ih =>
    intro x0 x1 x2 σ r0 σ0 N h hN
    rw [fX4_priceOf] at h
    exact rX4_priceOf_s (ND := 1 + 2 * n) (Nat.le_add_right _ _) (fun x0 x1 x2 σ r σ1 hh => ih x0 x1 x2 σ r σ1 _ hh (Nat.le_refl _)) h (by omega)
def fX4_make_b135 (σ : OM) : Option (Int32 × OM) :=
  obi (fX4_priceOf oP (mL σ 56 3) (0 : Int32) (0 : Int32) σ) (fun r1 σ2 =>
  some (r1, σ2))
set_option maxRecDepth 100000 in
set_option maxHeartbeats 4000000 in
theorem rX4_make_b135 {K : OK} (hc : kcc K = cX4_make) (ho : kow K = RX4) (hL : knL K = 7) (hN : 22 ≤ kN K) (hr : (kme K).sig.returnType = (some .int)) {r0 : Int32} {σ0 : OM} (hE : oEnd K (some (.int r0)) σ0) (hz : kz K = 0) {σ : OM} (h : fX4_make_b135 σ = some (r0, σ0)) : Go K 135 [.ref 56, .null, .null, .null, .null, .null, .null] [] σ := by
  unfold fX4_make_b135 at h
  refine go_aload_n hc dX4_make_135 rfl rfl ?_
  refine go_aload_n hc dX4_make_136 rfl rfl ?_
  refine go_getL hc ho flX4_33 dX4_make_137 ok_56 ?_
  refine go_iconst hc dX4_make_140 ci_0 ?_
  refine go_iconst hc dX4_make_141 ci_0 ?_
  obtain ⟨r1, σ2, hf3, h⟩ := obi_some h
  refine go_callVi hc ho cmX4_priceOf mlX4_59 dX4_make_142 ok_56 (As := [.long (mL σ 56 3), .int (0 : Int32), .int (0 : Int32)]) (rest := []) (rX4_priceOf oP (mL σ 56 3) (0 : Int32) (0 : Int32) _ _ _ _ hf3 (Nat.le_refl _)) rfl (by have := hN; show _ ≤ _; simp only [oR, oP] at *; omega) rfl (Nat.le_of_ble_eq_true rfl) (Or.inl hz) ?_
  exact go_iret hc (oend_i h hE) hr dX4_make_145
def fX4_make_b39 : Nat → Int32 → Int32 → OM → Option (Int32 × OM)
  | 0, _, _, _ => none
  | n + 1, l4, l6, σ =>
    ogd ((decide (okd (mR σ 56 0 - 1) = 8) && decide (mR σ 56 0 = mR σ 56 0 - 1 + 1))) (
    if (mI σ ((mR σ 56 0 - 1) + 1) 6) ≤ l6 then (
     fX4_make_b135 σ)
    else (if (8 : Int32) ≤ l6 then (
     fX4_make_b135 σ)
    else (if l6 = l4 then (
     ogd ((decide (okd (mR σ 56 0 - 1) = 8) && decide (mR σ 56 0 = mR σ 56 0 - 1 + 1))) (
     obi (fX2_soWorlds (mR σ 56 0 - 1) l6 σ) (fun r9 σ10 =>
     fX4_make_b39 n l4 (l6 + 1) (sL σ10 56 1 r9))))
    else (if (7 : Int32) ≤ (mI σ 56 6) then (
     fX4_make_b39 n l4 (l6 + 1) σ)
    else (ogd ((decide (okd (mR σ 56 0 - 1) = 8) && decide (mR σ 56 0 = mR σ 56 0 - 1 + 1))) (
    obi (fX2_soWorlds (mR σ 56 0 - 1) l6 σ) (fun r3 σ4 =>
    ogd (oin (mI σ 56 6) 7) (
    ogd (oin (mI (sL σ4 57 ((mI σ 56 6).toNatClampNeg) r3) 56 6) 7) (
    fX4_make_b39 n l4 (l6 + 1) (sI (sI (sL σ4 57 ((mI σ 56 6).toNatClampNeg) r3) 58 ((mI (sL σ4 57 ((mI σ 56 6).toNatClampNeg) r3) 56 6).toNatClampNeg) l6) 56 6 ((mI (sI (sL σ4 57 ((mI σ 56 6).toNatClampNeg) r3) 58 ((mI (sL σ4 57 ((mI σ 56 6).toNatClampNeg) r3) 56 6).toNatClampNeg) l6) 56 6) + (1 : Int32))))))))))))
set_option maxRecDepth 100000 in
set_option maxHeartbeats 4000000 in
theorem rX4_make_b39 {K : OK} (hc : kcc K = cX4_make) (ho : kow K = RX4) (hL : knL K = 7) (hN : 22 ≤ kN K) (hr : (kme K).sig.returnType = (some .int)) {r0 : Int32} {σ0 : OM} (hE : oEnd K (some (.int r0)) σ0) (hz : kz K = 0) : ∀ (n : Nat) (l4 : Int32) (l6 : Int32) (σ : OM), fX4_make_b39 n l4 l6 σ = some (r0, σ0) → Go K 39 [.ref 56, .null, .null, .null, .int l4, .null, .int l6] [] σ := by
  intro n
  induction n with
  | zero =>
    intro l4 l6 σ h
    cases h
  | succ n ih =>
    intro l4 l6 σ h
    rw [fX4_make_b39] at h
    refine go_iload hc dX4_make_39 rfl ?_
    refine go_aload_n hc dX4_make_41 rfl rfl ?_
    obtain ⟨hg1, h⟩ := ogd_some h
    refine go_getR hc ho flX4_25 dX4_make_42 ok_56 (go_ref (of_decide_eq_true (Bool.and_eq_true_iff.mp hg1).2) ?_)
    refine go_getI hc ho flX4_47 dX4_make_45 (ow_k1 (of_decide_eq_true (Bool.and_eq_true_iff.mp hg1).1)) ?_
    refine go_icmp_ge (tgt := 135) hc dX4_make_48 rfl (fun hh => ?_) (fun hh => ?_)
    · rw [if_pos hh] at h
      refine go_mask [true, false, false, false, false, false, false] (lv1 := [.ref 56, .null, .null, .null, .null, .null, .null]) rfl ?_
      exact rX4_make_b135 hc ho hL hN hr hE hz h
    · rw [if_neg hh] at h
      refine go_iload hc dX4_make_51 rfl ?_
      refine go_bipush hc dX4_make_53 cb_8 ?_
      refine go_icmp_ge (tgt := 135) hc dX4_make_55 rfl (fun hh => ?_) (fun hh => ?_)
      · rw [if_pos hh] at h
        refine go_mask [true, false, false, false, false, false, false] (lv1 := [.ref 56, .null, .null, .null, .null, .null, .null]) rfl ?_
        exact rX4_make_b135 hc ho hL hN hr hE hz h
      · rw [if_neg hh] at h
        refine go_iload hc dX4_make_58 rfl ?_
        refine go_iload hc dX4_make_60 rfl ?_
        refine go_icmp_ne (tgt := 81) hc dX4_make_62 rfl (fun hh => ?_) (fun hh => ?_)
        · rw [if_neg hh] at h
          refine go_aload_n hc dX4_make_81 rfl rfl ?_
          refine go_getI hc ho flX4_44 dX4_make_82 ok_56 ?_
          refine go_bipush hc dX4_make_85 cb_7 ?_
          refine go_icmp_ge (tgt := 129) hc dX4_make_87 rfl (fun hh => ?_) (fun hh => ?_)
          · rw [if_pos hh] at h
            refine go_iinc hc (lv1 := [.ref 56, .null, .null, .null, .int l4, .null, .int (l6 + 1)]) dX4_make_129 rfl ci_1 hL (by decide) (fun _ _ e => by cases e; rfl) rfl ?_
            refine go_goto (tgt := 39) hc dX4_make_132 rfl ?_
            exact ih l4 (l6 + 1) _ h
          · rw [if_neg hh] at h
            refine go_aload_n hc dX4_make_90 rfl rfl ?_
            refine go_getC (b := 57) rfl hc ho flX4_11 dX4_make_91 ok_56 ?_
            refine go_aload_n hc dX4_make_94 rfl rfl ?_
            refine go_getI hc ho flX4_44 dX4_make_95 ok_56 ?_
            refine go_aload_n hc dX4_make_98 rfl rfl ?_
            obtain ⟨hg2, h⟩ := ogd_some h
            refine go_getR hc ho flX4_25 dX4_make_99 ok_56 (go_ref (of_decide_eq_true (Bool.and_eq_true_iff.mp hg2).2) ?_)
            refine go_iload hc dX4_make_102 rfl ?_
            obtain ⟨r3, σ4, hf5, h⟩ := obi_some h
            refine go_callVl hc ho cmX2_soWorlds mlX4_52 dX4_make_104 (ow_k1 (of_decide_eq_true (Bool.and_eq_true_iff.mp hg2).1)) (As := [.int l6]) (rest := [.int (mI σ 56 6), .ref 57]) (rX2_soWorlds (N := 0) (of_decide_eq_true (Bool.and_eq_true_iff.mp hg2).1) hf5 (Nat.le_refl _)) rfl (Nat.le_trans (Nat.le_of_ble_eq_true rfl) hN) rfl (Nat.le_of_ble_eq_true rfl) (Or.inl hz) ?_
            obtain ⟨hg6, h⟩ := ogd_some h
            refine go_last hc dX4_make_107 ok_57 ol_57 hg6 rfl ?_
            refine go_aload_n hc dX4_make_108 rfl rfl ?_
            refine go_getC (b := 58) rfl hc ho flX4_15 dX4_make_109 ok_56 ?_
            refine go_aload_n hc dX4_make_112 rfl rfl ?_
            refine go_getI hc ho flX4_44 dX4_make_113 ok_56 ?_
            refine go_iload hc dX4_make_116 rfl ?_
            obtain ⟨hg7, h⟩ := ogd_some h
            refine go_iast hc dX4_make_118 ok_58 ol_58 hg7 rfl ?_
            refine go_aload_n hc dX4_make_119 rfl rfl ?_
            refine go_dup hc dX4_make_120 rfl ?_
            refine go_getI hc ho flX4_44 dX4_make_121 ok_56 ?_
            refine go_iconst hc dX4_make_124 ci_1 ?_
            refine go_iadd hc dX4_make_125 ?_
            refine go_putI hc ho fpX4_44 dX4_make_126 ok_56 (fun g => oni g _) (fun _ => rfl) ?_
            refine go_iinc hc (lv1 := [.ref 56, .null, .null, .null, .int l4, .null, .int (l6 + 1)]) dX4_make_129 rfl ci_1 hL (by decide) (fun _ _ e => by cases e; rfl) rfl ?_
            refine go_goto (tgt := 39) hc dX4_make_132 rfl ?_
            exact ih l4 (l6 + 1) _ h
        · rw [if_pos hh] at h
          refine go_aload_n hc dX4_make_65 rfl rfl ?_
          refine go_aload_n hc dX4_make_66 rfl rfl ?_
          obtain ⟨hg8, h⟩ := ogd_some h
          refine go_getR hc ho flX4_25 dX4_make_67 ok_56 (go_ref (of_decide_eq_true (Bool.and_eq_true_iff.mp hg8).2) ?_)
          refine go_iload hc dX4_make_70 rfl ?_
          obtain ⟨r9, σ10, hf11, h⟩ := obi_some h
          refine go_callVl hc ho cmX2_soWorlds mlX4_52 dX4_make_72 (ow_k1 (of_decide_eq_true (Bool.and_eq_true_iff.mp hg8).1)) (As := [.int l6]) (rest := [.ref 56]) (rX2_soWorlds (N := 0) (of_decide_eq_true (Bool.and_eq_true_iff.mp hg8).1) hf11 (Nat.le_refl _)) rfl (Nat.le_trans (Nat.le_of_ble_eq_true rfl) hN) rfl (Nat.le_of_ble_eq_true rfl) (Or.inl hz) ?_
          refine go_putL hc ho fpX4_56 dX4_make_75 ok_56 (fun g => onl g _) (fun _ => rfl) ?_
          refine go_goto (tgt := 129) hc dX4_make_78 rfl ?_
          refine go_iinc hc (lv1 := [.ref 56, .null, .null, .null, .int l4, .null, .int (l6 + 1)]) dX4_make_129 rfl ci_1 hL (by decide) (fun _ _ e => by cases e; rfl) rfl ?_
          refine go_goto (tgt := 39) hc dX4_make_132 rfl ?_
          exact ih l4 (l6 + 1) _ h
def fX4_make (wx0 : Nat) (x1 : Int64) (x2 : Int32) (x3 : Int32) (σ : OM) : Option (Int32 × OM) :=
  ogd (oisb x3) (
  fX4_make_b39 oF x2 (0 : Int32) (sI (sI (sI (sL (sI (sR σ 56 0 (wx0 + 1)) 56 2 x3) 56 3 x1) 56 9 ((mI (sL (sI (sR σ 56 0 (wx0 + 1)) 56 2 x3) 56 3 x1) 56 9) + (1 : Int32))) 56 10 (0 : Int32)) 56 6 (0 : Int32)))
set_option maxRecDepth 100000 in
set_option maxHeartbeats 4000000 in
theorem rX4_make {N : Nat} {wx0 : Nat} {x1 : Int64} {x2 : Int32} {x3 : Int32} {σ : OM} {r0 : Int32} {σ0 : OM} (hwx0 : okd wx0 = 8) (h : fX4_make wx0 x1 x2 x3 σ = some (r0, σ0)) (hN0 : 22 ≤ N) : oEv N MX4_make [.ref 56, .ref (wx0 + 1), .long x1, .int x2, .int x3] σ (some (.int r0)) σ0 := by
  refine oEv_of (lv := [.ref 56, .ref (wx0 + 1), .long x1, .null, .int x2, .int x3, .null]) (by decide +kernel) (fun g q hq => hq) (fun g => Nat.le_of_ble_eq_true rfl) ?_
  intro K hc ho hL hN1 hr hE hz
  have hN : 22 ≤ kN K := by rw [hN1]; exact hN0
  unfold fX4_make at h
  refine go_aload_n hc dX4_make_0 rfl rfl ?_
  refine go_aload_n hc dX4_make_1 rfl rfl ?_
  refine go_putR hc ho fpX4_25 dX4_make_2 ok_56 (fun _ => rfl) (fun _ => rfl) ?_
  refine go_aload_n hc dX4_make_5 rfl rfl ?_
  refine go_iload hc dX4_make_6 rfl ?_
  obtain ⟨hg1, h⟩ := ogd_some h
  refine go_putI hc ho fpX4_29 dX4_make_8 ok_56 (onz hg1) (ofz hg1) ?_
  refine go_aload_n hc dX4_make_11 rfl rfl ?_
  refine go_lload_n hc dX4_make_12 rfl rfl ?_
  refine go_putL hc ho fpX4_33 dX4_make_13 ok_56 (fun g => onl g _) (fun _ => rfl) ?_
  refine go_aload_n hc dX4_make_16 rfl rfl ?_
  refine go_dup hc dX4_make_17 rfl ?_
  refine go_getI hc ho flX4_37 dX4_make_18 ok_56 ?_
  refine go_iconst hc dX4_make_21 ci_1 ?_
  refine go_iadd hc dX4_make_22 ?_
  refine go_putI hc ho fpX4_37 dX4_make_23 ok_56 (fun g => oni g _) (fun _ => rfl) ?_
  refine go_aload_n hc dX4_make_26 rfl rfl ?_
  refine go_iconst hc dX4_make_27 ci_0 ?_
  refine go_putI hc ho fpX4_41 dX4_make_28 ok_56 (fun _ => rfl) (fun _ => rfl) ?_
  refine go_aload_n hc dX4_make_31 rfl rfl ?_
  refine go_iconst hc dX4_make_32 ci_0 ?_
  refine go_putI hc ho fpX4_44 dX4_make_33 ok_56 (fun g => oni g _) (fun _ => rfl) ?_
  refine go_iconst hc dX4_make_36 ci_0 ?_
  refine go_istore hc (lv1 := [.ref 56, .ref (wx0 + 1), .long x1, .null, .int x2, .int x3, .int (0 : Int32)]) dX4_make_37 hL (by decide) (fun _ _ e => by cases e; rfl) rfl ?_
  refine go_mask [true, false, false, false, true, false, true] (lv1 := [.ref 56, .null, .null, .null, .int x2, .null, .int (0 : Int32)]) rfl ?_
  exact rX4_make_b39 hc ho hL hN hr hE hz oF x2 (0 : Int32) _ h
def fX9_fewest (x0 : Int32) (x1 : Int32) (σ : OM) : Option (Int32 × OM) :=
  obi (fX9_isHouse x0 σ) (fun r1 σ2 =>
  if r1 = 0 then (
   obi (fX9_refuse (1 : Int32) σ2) (fun r4 σ5 =>
   some (r4, σ5)))
  else (obi (fX9_isQuestion x1 σ2) (fun r7 σ8 =>
  if r7 = 0 then (
   obi (fX9_refuse (1 : Int32) σ8) (fun r24 σ25 =>
   some (r24, σ25)))
  else (ogd (decide (okd (mR σ8 0 0) = 8)) (
  ogd (decide (okd (mR σ8 0 0) = 8)) (
  obi (fX3_worldsOf (mR σ8 0 0) x0 σ8) (fun r12 σ13 =>
  obi (fX4_make (mR σ8 0 0) r12 x1 (0 : Int32) σ13) (fun r15 σ16 =>
  if r15 = (1000000000 : Int32) then (
   obi (fX9_answer ((-2) : Int32) σ16) (fun r21 σ22 =>
   some (r21, σ22)))
  else (obi (fX9_answer r15 σ16) (fun r18 σ19 =>
  some (r18, σ19)))))))))))
set_option maxRecDepth 100000 in
set_option maxHeartbeats 4000000 in
theorem rX9_fewest {N : Nat} {x0 : Int32} {x1 : Int32} {σ : OM} {r0 : Int32} {σ0 : OM} (h : fX9_fewest x0 x1 σ = some (r0, σ0)) (hN0 : 23 ≤ N) : oEv N MX9_fewest [.ref 0, .int x0, .int x1] σ (some (.int r0)) σ0 := by
  refine oEv_of (lv := [.ref 0, .int x0, .int x1, .null]) (by decide +kernel) (fun g q hq => hq) (fun g => Nat.le_of_ble_eq_true rfl) ?_
  intro K hc ho hL hN1 hr hE hz
  have hN : 23 ≤ kN K := by rw [hN1]; exact hN0
  unfold fX9_fewest at h
  refine go_aload_n hc dX9_fewest_0 rfl rfl ?_
  refine go_iload_n hc dX9_fewest_1 rfl rfl ?_
  obtain ⟨r1, σ2, hf3, h⟩ := obi_some h
  refine go_callVi hc ho cmX9_isHouse mlX9_161 dX9_fewest_2 ok_0 (As := [.int x0]) (rest := []) (rX9_isHouse (N := 0) hf3 (Nat.le_refl _)) rfl (Nat.le_trans (Nat.le_of_ble_eq_true rfl) hN) rfl (Nat.le_of_ble_eq_true rfl) (Or.inl hz) ?_
  refine go_if_eq (tgt := 16) hc dX9_fewest_5 rfl (fun hh => ?_) (fun hh => ?_)
  · rw [if_pos hh] at h
    refine go_aload_n hc dX9_fewest_16 rfl rfl ?_
    refine go_iconst hc dX9_fewest_17 ci_1 ?_
    obtain ⟨r4, σ5, hf6, h⟩ := obi_some h
    refine go_callVi hc ho cmX9_refuse mlX9_70 dX9_fewest_18 ok_0 (As := [.int (1 : Int32)]) (rest := []) (rX9_refuse (N := 0) hf6 (Nat.le_refl _)) rfl (Nat.le_trans (Nat.le_of_ble_eq_true rfl) hN) rfl (Nat.le_of_ble_eq_true rfl) (Or.inl hz) ?_
    exact go_iret hc (oend_i h hE) hr dX9_fewest_21
  · rw [if_neg hh] at h
    refine go_aload_n hc dX9_fewest_8 rfl rfl ?_
    refine go_iload_n hc dX9_fewest_9 rfl rfl ?_
    obtain ⟨r7, σ8, hf9, h⟩ := obi_some h
    refine go_callVi hc ho cmX9_isQuestion mlX9_133 dX9_fewest_10 ok_0 (As := [.int x1]) (rest := []) (rX9_isQuestion (N := 0) hf9 (Nat.le_refl _)) rfl (Nat.le_trans (Nat.le_of_ble_eq_true rfl) hN) rfl (Nat.le_of_ble_eq_true rfl) (Or.inl hz) ?_
    refine go_if_ne (tgt := 22) hc dX9_fewest_13 rfl (fun hh => ?_) (fun hh => ?_)
    · rw [if_neg hh] at h
      refine go_aload_n hc dX9_fewest_22 rfl rfl ?_
      refine go_getC (b := 56) rfl hc ho flX9_44 dX9_fewest_23 ok_0 ?_
      refine go_aload_n hc dX9_fewest_26 rfl rfl ?_
      obtain ⟨hg10, h⟩ := ogd_some h
      refine go_getR hc ho flX9_10 dX9_fewest_27 ok_0 ?_
      refine go_getC (b := (mR σ8 0 0) + 1) (ow_c0_0 (of_decide_eq_true hg10)) hc ho flX9_37 dX9_fewest_30 (of_decide_eq_true hg10) ?_
      refine go_aload_n hc dX9_fewest_33 rfl rfl ?_
      obtain ⟨hg11, h⟩ := ogd_some h
      refine go_getR hc ho flX9_10 dX9_fewest_34 ok_0 ?_
      refine go_getC (b := (mR σ8 0 0) + 10) (ow_c0_2 (of_decide_eq_true hg11)) hc ho flX9_149 dX9_fewest_37 (of_decide_eq_true hg11) ?_
      refine go_iload_n hc dX9_fewest_40 rfl rfl ?_
      obtain ⟨r12, σ13, hf14, h⟩ := obi_some h
      refine go_callVl hc ho cmX3_worldsOf mlX9_177 dX9_fewest_41 (ow_k10 (of_decide_eq_true hg11)) (As := [.int x0]) (rest := [.ref ((mR σ8 0 0) + 1), .ref 56]) (rX3_worldsOf (N := 4) (of_decide_eq_true hg11) hf14 (Nat.le_refl _)) rfl (Nat.le_trans (Nat.le_of_ble_eq_true rfl) hN) rfl (Nat.le_of_ble_eq_true rfl) (Or.inl hz) ?_
      refine go_iload_n hc dX9_fewest_44 rfl rfl ?_
      refine go_iconst hc dX9_fewest_45 ci_0 ?_
      obtain ⟨r15, σ16, hf17, h⟩ := obi_some h
      refine go_callVi hc ho cmX4_make mlX9_263 dX9_fewest_46 ok_56 (As := [.ref ((mR σ8 0 0) + 1), .long r12, .int x1, .int (0 : Int32)]) (rest := []) (rX4_make (N := 22) (of_decide_eq_true hg10) hf17 (Nat.le_refl _)) rfl (Nat.le_trans (Nat.le_of_ble_eq_true rfl) hN) rfl (Nat.le_of_ble_eq_true rfl) (Or.inl hz) ?_
      refine go_istore_n hc (lv1 := [.ref 0, .int x0, .int x1, .int r15]) dX9_fewest_49 rfl hL (by decide) (fun _ _ e => by cases e; rfl) rfl ?_
      refine go_aload_n hc dX9_fewest_50 rfl rfl ?_
      refine go_iload_n hc dX9_fewest_51 rfl rfl ?_
      refine go_ldcw hc ho kcX9_267 dX9_fewest_52 ?_
      refine go_icmp_ne (tgt := 63) hc dX9_fewest_55 rfl (fun hh => ?_) (fun hh => ?_)
      · rw [if_neg hh] at h
        refine go_iload_n hc dX9_fewest_63 rfl rfl ?_
        obtain ⟨r18, σ19, hf20, h⟩ := obi_some h
        refine go_callVi hc ho cmX9_answer mlX9_103 dX9_fewest_64 ok_0 (As := [.int r15]) (rest := []) (rX9_answer (N := 0) hf20 (Nat.le_refl _)) rfl (Nat.le_trans (Nat.le_of_ble_eq_true rfl) hN) rfl (Nat.le_of_ble_eq_true rfl) (Or.inl hz) ?_
        exact go_iret hc (oend_i h hE) hr dX9_fewest_67
      · rw [if_pos hh] at h
        refine go_bipush hc dX9_fewest_58 cb_m2 ?_
        refine go_goto (tgt := 64) hc dX9_fewest_60 rfl ?_
        obtain ⟨r21, σ22, hf23, h⟩ := obi_some h
        refine go_callVi hc ho cmX9_answer mlX9_103 dX9_fewest_64 ok_0 (As := [.int ((-2) : Int32)]) (rest := []) (rX9_answer (N := 0) hf23 (Nat.le_refl _)) rfl (Nat.le_trans (Nat.le_of_ble_eq_true rfl) hN) rfl (Nat.le_of_ble_eq_true rfl) (Or.inl hz) ?_
        exact go_iret hc (oend_i h hE) hr dX9_fewest_67
    · rw [if_pos hh] at h
      refine go_aload_n hc dX9_fewest_16 rfl rfl ?_
      refine go_iconst hc dX9_fewest_17 ci_1 ?_
      obtain ⟨r24, σ25, hf26, h⟩ := obi_some h
      refine go_callVi hc ho cmX9_refuse mlX9_70 dX9_fewest_18 ok_0 (As := [.int (1 : Int32)]) (rest := []) (rX9_refuse (N := 0) hf26 (Nat.le_refl _)) rfl (Nat.le_trans (Nat.le_of_ble_eq_true rfl) hN) rfl (Nat.le_of_ble_eq_true rfl) (Or.inl hz) ?_
      exact go_iret hc (oend_i h hE) hr dX9_fewest_21
def fX4_opening_b4 : Nat → Int32 → Int32 → Int32 → OM → Option (Int32 × OM)
  | 0, _, _, _, _ => none
  | n + 1, l1, l2, l3, σ =>
    if (mI σ 56 6) ≤ l3 then (
     some (((-2) : Int32), σ))
    else (if (7 : Int32) ≤ l3 then (
     some (((-2) : Int32), σ))
    else (if l1 ≤ 0 then (
     some (((-2) : Int32), σ))
    else (obi (fX4_priceBehind (fX4_priceOf oP) l3 (mL σ 56 3) l2 (0 : Int32) (0 : Int32) σ) (fun r1 σ2 =>
    if r1 = (l1 - (1 : Int32)) then (
     ogd (oin l3 7) (
     some ((mI σ2 58 l3.toNatClampNeg), σ2)))
    else (fX4_opening_b4 n l1 (l2 * (3 : Int32)) (l3 + 1) σ2)))))
set_option maxRecDepth 100000 in
set_option maxHeartbeats 4000000 in
theorem rX4_opening_b4 {K : OK} (hc : kcc K = cX4_opening) (ho : kow K = RX4) (hL : knL K = 4) (hN : 23 ≤ kN K) (hr : (kme K).sig.returnType = (some .int)) {r0 : Int32} {σ0 : OM} (hE : oEnd K (some (.int r0)) σ0) (hz : kz K = 0) : ∀ (n : Nat) (l1 : Int32) (l2 : Int32) (l3 : Int32) (σ : OM), fX4_opening_b4 n l1 l2 l3 σ = some (r0, σ0) → Go K 4 [.ref 56, .int l1, .int l2, .int l3] [] σ := by
  intro n
  induction n with
  | zero =>
    intro l1 l2 l3 σ h
    cases h
  | succ n ih =>
    intro l1 l2 l3 σ h
    rw [fX4_opening_b4] at h
    refine go_iload_n hc dX4_opening_4 rfl rfl ?_
    refine go_aload_n hc dX4_opening_5 rfl rfl ?_
    refine go_getI hc ho flX4_44 dX4_opening_6 ok_56 ?_
    refine go_icmp_ge (tgt := 57) hc dX4_opening_9 rfl (fun hh => ?_) (fun hh => ?_)
    · rw [if_pos hh] at h
      refine go_bipush hc dX4_opening_57 cb_m2 ?_
      exact go_iret hc (oend_i h hE) hr dX4_opening_59
    · rw [if_neg hh] at h
      refine go_iload_n hc dX4_opening_12 rfl rfl ?_
      refine go_bipush hc dX4_opening_13 cb_7 ?_
      refine go_icmp_ge (tgt := 57) hc dX4_opening_15 rfl (fun hh => ?_) (fun hh => ?_)
      · rw [if_pos hh] at h
        refine go_bipush hc dX4_opening_57 cb_m2 ?_
        exact go_iret hc (oend_i h hE) hr dX4_opening_59
      · rw [if_neg hh] at h
        refine go_iload_n hc dX4_opening_18 rfl rfl ?_
        refine go_if_le (tgt := 57) hc dX4_opening_19 rfl (fun hh => ?_) (fun hh => ?_)
        · rw [if_pos hh] at h
          refine go_bipush hc dX4_opening_57 cb_m2 ?_
          exact go_iret hc (oend_i h hE) hr dX4_opening_59
        · rw [if_neg hh] at h
          refine go_aload_n hc dX4_opening_22 rfl rfl ?_
          refine go_iload_n hc dX4_opening_23 rfl rfl ?_
          refine go_aload_n hc dX4_opening_24 rfl rfl ?_
          refine go_getL hc ho flX4_33 dX4_opening_25 ok_56 ?_
          refine go_iload_n hc dX4_opening_28 rfl rfl ?_
          refine go_iconst hc dX4_opening_29 ci_0 ?_
          refine go_iconst hc dX4_opening_30 ci_0 ?_
          obtain ⟨r1, σ2, hf3, h⟩ := obi_some h
          refine go_callVi hc ho cmX4_priceBehind mlX4_63 dX4_opening_31 ok_56 (As := [.int l3, .long (mL σ 56 3), .int l2, .int (0 : Int32), .int (0 : Int32)]) (rest := []) (rX4_priceBehind (ND := 1 + 2 * oP) (N := 1 + 2 * oP + 1) (Nat.le_add_right _ _) (fun x0 x1 x2 σ r σ1 hh => rX4_priceOf oP x0 x1 x2 σ r σ1 _ hh (Nat.le_refl _)) hf3 (Nat.le_refl _)) rfl (by have := hN; show _ ≤ _; simp only [oR, oP] at *; omega) rfl (Nat.le_of_ble_eq_true rfl) (Or.inl hz) ?_
          refine go_iload_n hc dX4_opening_34 rfl rfl ?_
          refine go_iconst hc dX4_opening_35 ci_1 ?_
          refine go_isub hc dX4_opening_36 ?_
          refine go_icmp_ne (tgt := 47) hc dX4_opening_37 rfl (fun hh => ?_) (fun hh => ?_)
          · rw [if_neg hh] at h
            refine go_iload_n hc dX4_opening_47 rfl rfl ?_
            refine go_iconst hc dX4_opening_48 ci_3 ?_
            refine go_imul hc dX4_opening_49 ?_
            refine go_istore_n hc (lv1 := [.ref 56, .int l1, .int (l2 * (3 : Int32)), .int l3]) dX4_opening_50 rfl hL (by decide) (fun _ _ e => by cases e; rfl) rfl ?_
            refine go_iinc hc (lv1 := [.ref 56, .int l1, .int (l2 * (3 : Int32)), .int (l3 + 1)]) dX4_opening_51 rfl ci_1 hL (by decide) (fun _ _ e => by cases e; rfl) rfl ?_
            refine go_goto (tgt := 4) hc dX4_opening_54 rfl ?_
            exact ih l1 (l2 * (3 : Int32)) (l3 + 1) _ h
          · rw [if_pos hh] at h
            refine go_aload_n hc dX4_opening_40 rfl rfl ?_
            refine go_getC (b := 58) rfl hc ho flX4_15 dX4_opening_41 ok_56 ?_
            refine go_iload_n hc dX4_opening_44 rfl rfl ?_
            obtain ⟨hg4, h⟩ := ogd_some h
            refine go_iald hc dX4_opening_45 ok_58 ol_58 hg4 rfl ?_
            exact go_iret hc (oend_i h hE) hr dX4_opening_46
def fX4_opening (x0 : Int32) (σ : OM) : Option (Int32 × OM) :=
  fX4_opening_b4 oF x0 (1 : Int32) (0 : Int32) σ
set_option maxRecDepth 100000 in
set_option maxHeartbeats 4000000 in
theorem rX4_opening {N : Nat} {x0 : Int32} {σ : OM} {r0 : Int32} {σ0 : OM} (h : fX4_opening x0 σ = some (r0, σ0)) (hN0 : 23 ≤ N) : oEv N MX4_opening [.ref 56, .int x0] σ (some (.int r0)) σ0 := by
  refine oEv_of (lv := [.ref 56, .int x0, .null, .null]) (by decide +kernel) (fun g q hq => hq) (fun g => Nat.le_of_ble_eq_true rfl) ?_
  intro K hc ho hL hN1 hr hE hz
  have hN : 23 ≤ kN K := by rw [hN1]; exact hN0
  unfold fX4_opening at h
  refine go_iconst hc dX4_opening_0 ci_1 ?_
  refine go_istore_n hc (lv1 := [.ref 56, .int x0, .int (1 : Int32), .null]) dX4_opening_1 rfl hL (by decide) (fun _ _ e => by cases e; rfl) rfl ?_
  refine go_iconst hc dX4_opening_2 ci_0 ?_
  refine go_istore_n hc (lv1 := [.ref 56, .int x0, .int (1 : Int32), .int (0 : Int32)]) dX4_opening_3 rfl hL (by decide) (fun _ _ e => by cases e; rfl) rfl ?_
  exact rX4_opening_b4 hc ho hL hN hr hE hz oF x0 (1 : Int32) (0 : Int32) _ h
def fX9_first (x0 : Int32) (x1 : Int32) (σ : OM) : Option (Int32 × OM) :=
  obi (fX9_isHouse x0 σ) (fun r1 σ2 =>
  if r1 = 0 then (
   obi (fX9_refuse (1 : Int32) σ2) (fun r4 σ5 =>
   some (r4, σ5)))
  else (obi (fX9_isQuestion x1 σ2) (fun r7 σ8 =>
  if r7 = 0 then (
   obi (fX9_refuse (1 : Int32) σ8) (fun r27 σ28 =>
   some (r27, σ28)))
  else (ogd (decide (okd (mR σ8 0 0) = 8)) (
  ogd (decide (okd (mR σ8 0 0) = 8)) (
  obi (fX3_worldsOf (mR σ8 0 0) x0 σ8) (fun r12 σ13 =>
  obi (fX4_make (mR σ8 0 0) r12 x1 (0 : Int32) σ13) (fun r15 σ16 =>
  if r15 = (1000000000 : Int32) then (
   obi (fX9_answer ((-2) : Int32) σ16) (fun r24 σ25 =>
   some (r24, σ25)))
  else (obi (fX4_opening r15 σ16) (fun r18 σ19 =>
  obi (fX9_answer r18 σ19) (fun r21 σ22 =>
  some (r21, σ22))))))))))))
set_option maxRecDepth 100000 in
set_option maxHeartbeats 4000000 in
theorem rX9_first {N : Nat} {x0 : Int32} {x1 : Int32} {σ : OM} {r0 : Int32} {σ0 : OM} (h : fX9_first x0 x1 σ = some (r0, σ0)) (hN0 : 24 ≤ N) : oEv N MX9_first [.ref 0, .int x0, .int x1] σ (some (.int r0)) σ0 := by
  refine oEv_of (lv := [.ref 0, .int x0, .int x1, .null]) (by decide +kernel) (fun g q hq => hq) (fun g => Nat.le_of_ble_eq_true rfl) ?_
  intro K hc ho hL hN1 hr hE hz
  have hN : 24 ≤ kN K := by rw [hN1]; exact hN0
  unfold fX9_first at h
  refine go_aload_n hc dX9_first_0 rfl rfl ?_
  refine go_iload_n hc dX9_first_1 rfl rfl ?_
  obtain ⟨r1, σ2, hf3, h⟩ := obi_some h
  refine go_callVi hc ho cmX9_isHouse mlX9_161 dX9_first_2 ok_0 (As := [.int x0]) (rest := []) (rX9_isHouse (N := 0) hf3 (Nat.le_refl _)) rfl (Nat.le_trans (Nat.le_of_ble_eq_true rfl) hN) rfl (Nat.le_of_ble_eq_true rfl) (Or.inl hz) ?_
  refine go_if_eq (tgt := 16) hc dX9_first_5 rfl (fun hh => ?_) (fun hh => ?_)
  · rw [if_pos hh] at h
    refine go_aload_n hc dX9_first_16 rfl rfl ?_
    refine go_iconst hc dX9_first_17 ci_1 ?_
    obtain ⟨r4, σ5, hf6, h⟩ := obi_some h
    refine go_callVi hc ho cmX9_refuse mlX9_70 dX9_first_18 ok_0 (As := [.int (1 : Int32)]) (rest := []) (rX9_refuse (N := 0) hf6 (Nat.le_refl _)) rfl (Nat.le_trans (Nat.le_of_ble_eq_true rfl) hN) rfl (Nat.le_of_ble_eq_true rfl) (Or.inl hz) ?_
    exact go_iret hc (oend_i h hE) hr dX9_first_21
  · rw [if_neg hh] at h
    refine go_aload_n hc dX9_first_8 rfl rfl ?_
    refine go_iload_n hc dX9_first_9 rfl rfl ?_
    obtain ⟨r7, σ8, hf9, h⟩ := obi_some h
    refine go_callVi hc ho cmX9_isQuestion mlX9_133 dX9_first_10 ok_0 (As := [.int x1]) (rest := []) (rX9_isQuestion (N := 0) hf9 (Nat.le_refl _)) rfl (Nat.le_trans (Nat.le_of_ble_eq_true rfl) hN) rfl (Nat.le_of_ble_eq_true rfl) (Or.inl hz) ?_
    refine go_if_ne (tgt := 22) hc dX9_first_13 rfl (fun hh => ?_) (fun hh => ?_)
    · rw [if_neg hh] at h
      refine go_aload_n hc dX9_first_22 rfl rfl ?_
      refine go_getC (b := 56) rfl hc ho flX9_44 dX9_first_23 ok_0 ?_
      refine go_aload_n hc dX9_first_26 rfl rfl ?_
      obtain ⟨hg10, h⟩ := ogd_some h
      refine go_getR hc ho flX9_10 dX9_first_27 ok_0 ?_
      refine go_getC (b := (mR σ8 0 0) + 1) (ow_c0_0 (of_decide_eq_true hg10)) hc ho flX9_37 dX9_first_30 (of_decide_eq_true hg10) ?_
      refine go_aload_n hc dX9_first_33 rfl rfl ?_
      obtain ⟨hg11, h⟩ := ogd_some h
      refine go_getR hc ho flX9_10 dX9_first_34 ok_0 ?_
      refine go_getC (b := (mR σ8 0 0) + 10) (ow_c0_2 (of_decide_eq_true hg11)) hc ho flX9_149 dX9_first_37 (of_decide_eq_true hg11) ?_
      refine go_iload_n hc dX9_first_40 rfl rfl ?_
      obtain ⟨r12, σ13, hf14, h⟩ := obi_some h
      refine go_callVl hc ho cmX3_worldsOf mlX9_177 dX9_first_41 (ow_k10 (of_decide_eq_true hg11)) (As := [.int x0]) (rest := [.ref ((mR σ8 0 0) + 1), .ref 56]) (rX3_worldsOf (N := 4) (of_decide_eq_true hg11) hf14 (Nat.le_refl _)) rfl (Nat.le_trans (Nat.le_of_ble_eq_true rfl) hN) rfl (Nat.le_of_ble_eq_true rfl) (Or.inl hz) ?_
      refine go_iload_n hc dX9_first_44 rfl rfl ?_
      refine go_iconst hc dX9_first_45 ci_0 ?_
      obtain ⟨r15, σ16, hf17, h⟩ := obi_some h
      refine go_callVi hc ho cmX4_make mlX9_263 dX9_first_46 ok_56 (As := [.ref ((mR σ8 0 0) + 1), .long r12, .int x1, .int (0 : Int32)]) (rest := []) (rX4_make (N := 22) (of_decide_eq_true hg10) hf17 (Nat.le_refl _)) rfl (Nat.le_trans (Nat.le_of_ble_eq_true rfl) hN) rfl (Nat.le_of_ble_eq_true rfl) (Or.inl hz) ?_
      refine go_istore_n hc (lv1 := [.ref 0, .int x0, .int x1, .int r15]) dX9_first_49 rfl hL (by decide) (fun _ _ e => by cases e; rfl) rfl ?_
      refine go_aload_n hc dX9_first_50 rfl rfl ?_
      refine go_iload_n hc dX9_first_51 rfl rfl ?_
      refine go_ldcw hc ho kcX9_267 dX9_first_52 ?_
      refine go_icmp_ne (tgt := 63) hc dX9_first_55 rfl (fun hh => ?_) (fun hh => ?_)
      · rw [if_neg hh] at h
        refine go_aload_n hc dX9_first_63 rfl rfl ?_
        refine go_getC (b := 56) rfl hc ho flX9_44 dX9_first_64 ok_0 ?_
        refine go_iload_n hc dX9_first_67 rfl rfl ?_
        obtain ⟨r18, σ19, hf20, h⟩ := obi_some h
        refine go_callVi hc ho cmX4_opening mlX9_268 dX9_first_68 ok_56 (As := [.int r15]) (rest := [.ref 0]) (rX4_opening (N := 23) hf20 (Nat.le_refl _)) rfl (Nat.le_trans (Nat.le_of_ble_eq_true rfl) hN) rfl (Nat.le_of_ble_eq_true rfl) (Or.inl hz) ?_
        obtain ⟨r21, σ22, hf23, h⟩ := obi_some h
        refine go_callVi hc ho cmX9_answer mlX9_103 dX9_first_71 ok_0 (As := [.int r18]) (rest := []) (rX9_answer (N := 0) hf23 (Nat.le_refl _)) rfl (Nat.le_trans (Nat.le_of_ble_eq_true rfl) hN) rfl (Nat.le_of_ble_eq_true rfl) (Or.inl hz) ?_
        exact go_iret hc (oend_i h hE) hr dX9_first_74
      · rw [if_pos hh] at h
        refine go_bipush hc dX9_first_58 cb_m2 ?_
        refine go_goto (tgt := 71) hc dX9_first_60 rfl ?_
        obtain ⟨r24, σ25, hf26, h⟩ := obi_some h
        refine go_callVi hc ho cmX9_answer mlX9_103 dX9_first_71 ok_0 (As := [.int ((-2) : Int32)]) (rest := []) (rX9_answer (N := 0) hf26 (Nat.le_refl _)) rfl (Nat.le_trans (Nat.le_of_ble_eq_true rfl) hN) rfl (Nat.le_of_ble_eq_true rfl) (Or.inl hz) ?_
        exact go_iret hc (oend_i h hE) hr dX9_first_74
    · rw [if_pos hh] at h
      refine go_aload_n hc dX9_first_16 rfl rfl ?_
      refine go_iconst hc dX9_first_17 ci_1 ?_
      obtain ⟨r27, σ28, hf29, h⟩ := obi_some h
      refine go_callVi hc ho cmX9_refuse mlX9_70 dX9_first_18 ok_0 (As := [.int (1 : Int32)]) (rest := []) (rX9_refuse (N := 0) hf29 (Nat.le_refl _)) rfl (Nat.le_trans (Nat.le_of_ble_eq_true rfl) hN) rfl (Nat.le_of_ble_eq_true rfl) (Or.inl hz) ?_
      exact go_iret hc (oend_i h hE) hr dX9_first_21
def fX9_mean (x0 : Int32) (x1 : Int32) (x2 : Int32) (σ : OM) : Option (Int64 × OM) :=
  obi (fX9_isHouse x0 σ) (fun r1 σ2 =>
  if r1 = 0 then (
   obi (fX9_refuse (1 : Int32) σ2) (fun r4 σ5 =>
   some (r4.toInt64, σ5)))
  else (obi (fX9_isQuestion x1 σ2) (fun r7 σ8 =>
  if r7 = 0 then (
   obi (fX9_refuse (1 : Int32) σ8) (fun r28 σ29 =>
   some (r28.toInt64, σ29)))
  else (ogd (decide (okd (mR σ8 0 0) = 8)) (
  obi (fX3_worldsOf (mR σ8 0 0) x0 σ8) (fun r11 σ12 =>
  ogd (decide (okd (mR σ12 0 0) = 8)) (
  obi (fX4_make (mR σ12 0 0) r11 x1 (1 : Int32) σ12) (fun r15 σ16 =>
  if r15 = (1000000000 : Int32) then (
   obi (fX9_refuse (6 : Int32) σ16) (fun r25 σ26 =>
   some (r25.toInt64, σ26)))
  else (ogd (decide (okd (mR σ16 0 0) = 8)) (
  obi (fX2_weightOf (mR σ16 0 0) r11 σ16) (fun r19 σ20 =>
  obi (fX9_inLowestTerms r15.toInt64 r19.toInt64 x2 σ20) (fun r22 σ23 =>
  some (r22, σ23)))))))))))))
set_option maxRecDepth 100000 in
set_option maxHeartbeats 4000000 in
theorem rX9_mean {N : Nat} {x0 : Int32} {x1 : Int32} {x2 : Int32} {σ : OM} {r0 : Int64} {σ0 : OM} (h : fX9_mean x0 x1 x2 σ = some (r0, σ0)) (hN0 : 23 ≤ N) : oEv N MX9_mean [.ref 0, .int x0, .int x1, .int x2] σ (some (.long r0)) σ0 := by
  refine oEv_of (lv := [.ref 0, .int x0, .int x1, .int x2, .null, .null, .null]) (by decide +kernel) (fun g q hq => hq) (fun g => Nat.le_of_ble_eq_true rfl) ?_
  intro K hc ho hL hN1 hr hE hz
  have hN : 23 ≤ kN K := by rw [hN1]; exact hN0
  unfold fX9_mean at h
  refine go_aload_n hc dX9_mean_0 rfl rfl ?_
  refine go_iload_n hc dX9_mean_1 rfl rfl ?_
  obtain ⟨r1, σ2, hf3, h⟩ := obi_some h
  refine go_callVi hc ho cmX9_isHouse mlX9_161 dX9_mean_2 ok_0 (As := [.int x0]) (rest := []) (rX9_isHouse (N := 0) hf3 (Nat.le_refl _)) rfl (Nat.le_trans (Nat.le_of_ble_eq_true rfl) hN) rfl (Nat.le_of_ble_eq_true rfl) (Or.inl hz) ?_
  refine go_if_eq (tgt := 16) hc dX9_mean_5 rfl (fun hh => ?_) (fun hh => ?_)
  · rw [if_pos hh] at h
    refine go_aload_n hc dX9_mean_16 rfl rfl ?_
    refine go_iconst hc dX9_mean_17 ci_1 ?_
    obtain ⟨r4, σ5, hf6, h⟩ := obi_some h
    refine go_callVi hc ho cmX9_refuse mlX9_70 dX9_mean_18 ok_0 (As := [.int (1 : Int32)]) (rest := []) (rX9_refuse (N := 0) hf6 (Nat.le_refl _)) rfl (Nat.le_trans (Nat.le_of_ble_eq_true rfl) hN) rfl (Nat.le_of_ble_eq_true rfl) (Or.inl hz) ?_
    refine go_i2l hc dX9_mean_21 ?_
    exact go_lret hc (oend_l h hE) hr dX9_mean_22
  · rw [if_neg hh] at h
    refine go_aload_n hc dX9_mean_8 rfl rfl ?_
    refine go_iload_n hc dX9_mean_9 rfl rfl ?_
    obtain ⟨r7, σ8, hf9, h⟩ := obi_some h
    refine go_callVi hc ho cmX9_isQuestion mlX9_133 dX9_mean_10 ok_0 (As := [.int x1]) (rest := []) (rX9_isQuestion (N := 0) hf9 (Nat.le_refl _)) rfl (Nat.le_trans (Nat.le_of_ble_eq_true rfl) hN) rfl (Nat.le_of_ble_eq_true rfl) (Or.inl hz) ?_
    refine go_if_ne (tgt := 23) hc dX9_mean_13 rfl (fun hh => ?_) (fun hh => ?_)
    · rw [if_neg hh] at h
      refine go_aload_n hc dX9_mean_23 rfl rfl ?_
      obtain ⟨hg10, h⟩ := ogd_some h
      refine go_getR hc ho flX9_10 dX9_mean_24 ok_0 ?_
      refine go_getC (b := (mR σ8 0 0) + 10) (ow_c0_2 (of_decide_eq_true hg10)) hc ho flX9_149 dX9_mean_27 (of_decide_eq_true hg10) ?_
      refine go_iload_n hc dX9_mean_30 rfl rfl ?_
      obtain ⟨r11, σ12, hf13, h⟩ := obi_some h
      refine go_callVl hc ho cmX3_worldsOf mlX9_177 dX9_mean_31 (ow_k10 (of_decide_eq_true hg10)) (As := [.int x0]) (rest := []) (rX3_worldsOf (N := 4) (of_decide_eq_true hg10) hf13 (Nat.le_refl _)) rfl (Nat.le_trans (Nat.le_of_ble_eq_true rfl) hN) rfl (Nat.le_of_ble_eq_true rfl) (Or.inl hz) ?_
      refine go_lstore hc (lv1 := [.ref 0, .int x0, .int x1, .int x2, .long r11, .null, .null]) dX9_mean_34 hL (by decide) (fun _ _ e => by cases e; rfl) rfl ?_
      refine go_aload_n hc dX9_mean_36 rfl rfl ?_
      refine go_getC (b := 56) rfl hc ho flX9_44 dX9_mean_37 ok_0 ?_
      refine go_aload_n hc dX9_mean_40 rfl rfl ?_
      obtain ⟨hg14, h⟩ := ogd_some h
      refine go_getR hc ho flX9_10 dX9_mean_41 ok_0 ?_
      refine go_getC (b := (mR σ12 0 0) + 1) (ow_c0_0 (of_decide_eq_true hg14)) hc ho flX9_37 dX9_mean_44 (of_decide_eq_true hg14) ?_
      refine go_lload hc dX9_mean_47 rfl ?_
      refine go_iload_n hc dX9_mean_49 rfl rfl ?_
      refine go_iconst hc dX9_mean_50 ci_1 ?_
      obtain ⟨r15, σ16, hf17, h⟩ := obi_some h
      refine go_callVi hc ho cmX4_make mlX9_263 dX9_mean_51 ok_56 (As := [.ref ((mR σ12 0 0) + 1), .long r11, .int x1, .int (1 : Int32)]) (rest := []) (rX4_make (N := 22) (of_decide_eq_true hg14) hf17 (Nat.le_refl _)) rfl (Nat.le_trans (Nat.le_of_ble_eq_true rfl) hN) rfl (Nat.le_of_ble_eq_true rfl) (Or.inl hz) ?_
      refine go_istore hc (lv1 := [.ref 0, .int x0, .int x1, .int x2, .long r11, .null, .int r15]) dX9_mean_54 hL (by decide) (fun _ _ e => by cases e; rfl) rfl ?_
      refine go_iload hc dX9_mean_56 rfl ?_
      refine go_ldcw hc ho kcX9_267 dX9_mean_58 ?_
      refine go_icmp_ne (tgt := 72) hc dX9_mean_61 rfl (fun hh => ?_) (fun hh => ?_)
      · rw [if_neg hh] at h
        refine go_aload_n hc dX9_mean_72 rfl rfl ?_
        refine go_iload hc dX9_mean_73 rfl ?_
        refine go_i2l hc dX9_mean_75 ?_
        refine go_aload_n hc dX9_mean_76 rfl rfl ?_
        obtain ⟨hg18, h⟩ := ogd_some h
        refine go_getR hc ho flX9_10 dX9_mean_77 ok_0 ?_
        refine go_getC (b := (mR σ16 0 0) + 1) (ow_c0_0 (of_decide_eq_true hg18)) hc ho flX9_37 dX9_mean_80 (of_decide_eq_true hg18) ?_
        refine go_lload hc dX9_mean_83 rfl ?_
        obtain ⟨r19, σ20, hf21, h⟩ := obi_some h
        refine go_callVi hc ho cmX2_weightOf mlX9_253 dX9_mean_85 (ow_k1 (of_decide_eq_true hg18)) (As := [.long r11]) (rest := [.long r15.toInt64, .ref 0]) (rX2_weightOf (N := 1) (of_decide_eq_true hg18) hf21 (Nat.le_refl _)) rfl (Nat.le_trans (Nat.le_of_ble_eq_true rfl) hN) rfl (Nat.le_of_ble_eq_true rfl) (Or.inl hz) ?_
        refine go_i2l hc dX9_mean_88 ?_
        refine go_iload_n hc dX9_mean_89 rfl rfl ?_
        obtain ⟨r22, σ23, hf24, h⟩ := obi_some h
        refine go_callVl hc ho cmX9_inLowestTerms mlX9_256 dX9_mean_90 ok_0 (As := [.long r15.toInt64, .long r19.toInt64, .int x2]) (rest := []) (rX9_inLowestTerms (N := 1) hf24 (Nat.le_refl _)) rfl (Nat.le_trans (Nat.le_of_ble_eq_true rfl) hN) rfl (Nat.le_of_ble_eq_true rfl) (Or.inl hz) ?_
        exact go_lret hc (oend_l h hE) hr dX9_mean_93
      · rw [if_pos hh] at h
        refine go_aload_n hc dX9_mean_64 rfl rfl ?_
        refine go_bipush hc dX9_mean_65 cb_6 ?_
        obtain ⟨r25, σ26, hf27, h⟩ := obi_some h
        refine go_callVi hc ho cmX9_refuse mlX9_70 dX9_mean_67 ok_0 (As := [.int (6 : Int32)]) (rest := []) (rX9_refuse (N := 0) hf27 (Nat.le_refl _)) rfl (Nat.le_trans (Nat.le_of_ble_eq_true rfl) hN) rfl (Nat.le_of_ble_eq_true rfl) (Or.inl hz) ?_
        refine go_i2l hc dX9_mean_70 ?_
        exact go_lret hc (oend_l h hE) hr dX9_mean_71
    · rw [if_pos hh] at h
      refine go_aload_n hc dX9_mean_16 rfl rfl ?_
      refine go_iconst hc dX9_mean_17 ci_1 ?_
      obtain ⟨r28, σ29, hf30, h⟩ := obi_some h
      refine go_callVi hc ho cmX9_refuse mlX9_70 dX9_mean_18 ok_0 (As := [.int (1 : Int32)]) (rest := []) (rX9_refuse (N := 0) hf30 (Nat.le_refl _)) rfl (Nat.le_trans (Nat.le_of_ble_eq_true rfl) hN) rfl (Nat.le_of_ble_eq_true rfl) (Or.inl hz) ?_
      refine go_i2l hc dX9_mean_21 ?_
      exact go_lret hc (oend_l h hE) hr dX9_mean_22
def fX1_askingsOf (u : Nat) (x0 : Int32) (σ : OM) : Option (Int32 × OM) :=
  if x0 < 0 then (
   some ((1 : Int32), σ))
  else (if (30 : Int32) < x0 then (
   some ((1 : Int32), σ))
  else (obi (fX9_bitOf ((mI σ u 3).toInt64) x0 σ) (fun r1 σ2 =>
  some (((1 : Int32) + r1), σ2))))
set_option maxRecDepth 100000 in
set_option maxHeartbeats 4000000 in
theorem rX1_askingsOf {N : Nat} {u : Nat} {x0 : Int32} {σ : OM} {r0 : Int32} {σ0 : OM} (hu : okd u = 1) (h : fX1_askingsOf u x0 σ = some (r0, σ0)) (hN0 : 1 ≤ N) : oEv N MX1_askingsOf [.ref u, .int x0] σ (some (.int r0)) σ0 := by
  refine oEv_of (lv := [.ref u, .int x0]) (by decide +kernel) (fun g q hq => hq) (fun g => Nat.le_of_ble_eq_true rfl) ?_
  intro K hc ho hL hN1 hr hE hz
  have hN : 1 ≤ kN K := by rw [hN1]; exact hN0
  unfold fX1_askingsOf at h
  refine go_iload_n hc dX1_askingsOf_0 rfl rfl ?_
  refine go_if_lt (tgt := 24) hc dX1_askingsOf_1 rfl (fun hh => ?_) (fun hh => ?_)
  · rw [if_pos hh] at h
    refine go_iconst hc dX1_askingsOf_24 ci_1 ?_
    exact go_iret hc (oend_i h hE) hr dX1_askingsOf_25
  · rw [if_neg hh] at h
    refine go_iload_n hc dX1_askingsOf_4 rfl rfl ?_
    refine go_bipush hc dX1_askingsOf_5 cb_30 ?_
    refine go_icmp_gt (tgt := 24) hc dX1_askingsOf_7 rfl (fun hh => ?_) (fun hh => ?_)
    · rw [if_pos hh] at h
      refine go_iconst hc dX1_askingsOf_24 ci_1 ?_
      exact go_iret hc (oend_i h hE) hr dX1_askingsOf_25
    · rw [if_neg hh] at h
      refine go_iconst hc dX1_askingsOf_10 ci_1 ?_
      refine go_aload_n hc dX1_askingsOf_11 rfl rfl ?_
      refine go_getI hc ho flX1_21 dX1_askingsOf_12 hu ?_
      refine go_i2l hc dX1_askingsOf_15 ?_
      refine go_iload_n hc dX1_askingsOf_16 rfl rfl ?_
      obtain ⟨r1, σ2, hf3, h⟩ := obi_some h
      refine go_callSNi hc ho cmX9_bitOf mnX1_27 dX1_askingsOf_17 (As := [.long ((mI σ u 3).toInt64), .int x0]) (rest := [.int (1 : Int32)]) (rX9_bitOf (N := 0) hf3 (Nat.le_refl _)) rfl (Nat.le_trans (Nat.le_of_ble_eq_true rfl) hN) rfl (Nat.le_of_ble_eq_true rfl) (Or.inl hz) ?_
      refine go_iadd hc dX1_askingsOf_20 ?_
      refine go_goto (tgt := 25) hc dX1_askingsOf_21 rfl ?_
      exact go_iret hc (oend_i h hE) hr dX1_askingsOf_25
def fX1_yearOf (u : Nat) (x0 : Int32) (σ : OM) : Option (Int32 × OM) :=
  if (mI σ u 4) = ((-1) : Int32) then (
   some (((mI σ u 0) + (x0 * (mI σ u 1))), σ))
  else (if ((mI σ u 0) + (x0 * (mI σ u 1))) < (mI σ u 4) then (
   some (((mI σ u 0) + (x0 * (mI σ u 1))), σ))
  else (some (((-2) : Int32), σ)))
set_option maxRecDepth 100000 in
set_option maxHeartbeats 4000000 in
theorem rX1_yearOf {N : Nat} {u : Nat} {x0 : Int32} {σ : OM} {r0 : Int32} {σ0 : OM} (hu : okd u = 1) (h : fX1_yearOf u x0 σ = some (r0, σ0)) (hN0 : 0 ≤ N) : oEv N MX1_yearOf [.ref u, .int x0] σ (some (.int r0)) σ0 := by
  refine oEv_of (lv := [.ref u, .int x0, .null]) (by decide +kernel) (fun g q hq => hq) (fun g => Nat.le_of_ble_eq_true rfl) ?_
  intro K hc ho hL hN1 hr hE hz
  have hN : 0 ≤ kN K := by rw [hN1]; exact hN0
  unfold fX1_yearOf at h
  refine go_aload_n hc dX1_yearOf_0 rfl rfl ?_
  refine go_getI hc ho flX1_9 dX1_yearOf_1 hu ?_
  refine go_iload_n hc dX1_yearOf_4 rfl rfl ?_
  refine go_aload_n hc dX1_yearOf_5 rfl rfl ?_
  refine go_getI hc ho flX1_15 dX1_yearOf_6 hu ?_
  refine go_imul hc dX1_yearOf_9 ?_
  refine go_iadd hc dX1_yearOf_10 ?_
  refine go_istore_n hc (lv1 := [.ref u, .int x0, .int ((mI σ u 0) + (x0 * (mI σ u 1)))]) dX1_yearOf_11 rfl hL (by decide) (fun _ _ e => by cases e; rfl) rfl ?_
  refine go_aload_n hc dX1_yearOf_12 rfl rfl ?_
  refine go_getI hc ho flX1_24 dX1_yearOf_13 hu ?_
  refine go_iconst hc dX1_yearOf_16 ci_m1 ?_
  refine go_icmp_eq (tgt := 33) hc dX1_yearOf_17 rfl (fun hh => ?_) (fun hh => ?_)
  · rw [if_pos hh] at h
    refine go_iload_n hc dX1_yearOf_33 rfl rfl ?_
    exact go_iret hc (oend_i h hE) hr dX1_yearOf_34
  · rw [if_neg hh] at h
    refine go_iload_n hc dX1_yearOf_20 rfl rfl ?_
    refine go_aload_n hc dX1_yearOf_21 rfl rfl ?_
    refine go_getI hc ho flX1_24 dX1_yearOf_22 hu ?_
    refine go_icmp_lt (tgt := 33) hc dX1_yearOf_25 rfl (fun hh => ?_) (fun hh => ?_)
    · rw [if_pos hh] at h
      refine go_iload_n hc dX1_yearOf_33 rfl rfl ?_
      exact go_iret hc (oend_i h hE) hr dX1_yearOf_34
    · rw [if_neg hh] at h
      refine go_bipush hc dX1_yearOf_28 cb_m2 ?_
      refine go_goto (tgt := 34) hc dX1_yearOf_30 rfl ?_
      exact go_iret hc (oend_i h hE) hr dX1_yearOf_34
def fX1_yearOfAsking_b21 (bl0 : Nat) (l3 : Int32) (σ : OM) : Option (Int32 × OM) :=
  obi (fX1_yearOf bl0 l3 σ) (fun r1 σ2 =>
  some (r1, σ2))
set_option maxRecDepth 100000 in
set_option maxHeartbeats 4000000 in
theorem rX1_yearOfAsking_b21 {K : OK} (hc : kcc K = cX1_yearOfAsking) (ho : kow K = RX1) (hL : knL K = 4) (hN : 2 ≤ kN K) (hr : (kme K).sig.returnType = (some .int)) {r0 : Int32} {σ0 : OM} (hE : oEnd K (some (.int r0)) σ0) (hz : kz K = 0) {bl0 : Nat} {l3 : Int32} {σ : OM} (hbl0 : okd bl0 = 1) (h : fX1_yearOfAsking_b21 bl0 l3 σ = some (r0, σ0)) : Go K 21 [.ref bl0, .null, .null, .int l3] [] σ := by
  unfold fX1_yearOfAsking_b21 at h
  refine go_aload_n hc dX1_yearOfAsking_21 rfl rfl ?_
  refine go_iload_n hc dX1_yearOfAsking_22 rfl rfl ?_
  obtain ⟨r1, σ2, hf3, h⟩ := obi_some h
  refine go_callVi hc ho cmX1_yearOf mlX1_35 dX1_yearOfAsking_23 hbl0 (As := [.int l3]) (rest := []) (rX1_yearOf (N := 0) hbl0 hf3 (Nat.le_refl _)) rfl (Nat.le_trans (Nat.le_of_ble_eq_true rfl) hN) rfl (Nat.le_of_ble_eq_true rfl) (Or.inl hz) ?_
  exact go_iret hc (oend_i h hE) hr dX1_yearOfAsking_26
def fX1_yearOfAsking_b4 : Nat → Nat → Int32 → Int32 → Int32 → OM → Option (Int32 × OM)
  | 0, _, _, _, _, _ => none
  | n + 1, bl0, l1, l2, l3, σ =>
    if l1 < l3 then (
     some (((-2) : Int32), σ))
    else (obi (fX1_askingsOf bl0 l3 σ) (fun r1 σ2 =>
    if 0 ≤ (l2 - r1) then (
     fX1_yearOfAsking_b4 n bl0 l1 (l2 - r1) (l3 + 1) σ2)
    else (fX1_yearOfAsking_b21 bl0 l3 σ2)))
set_option maxRecDepth 100000 in
set_option maxHeartbeats 4000000 in
theorem rX1_yearOfAsking_b4 {K : OK} (hc : kcc K = cX1_yearOfAsking) (ho : kow K = RX1) (hL : knL K = 4) (hN : 2 ≤ kN K) (hr : (kme K).sig.returnType = (some .int)) {r0 : Int32} {σ0 : OM} (hE : oEnd K (some (.int r0)) σ0) (hz : kz K = 0) : ∀ (n : Nat) (bl0 : Nat) (l1 : Int32) (l2 : Int32) (l3 : Int32) (σ : OM), okd bl0 = 1 → fX1_yearOfAsking_b4 n bl0 l1 l2 l3 σ = some (r0, σ0) → Go K 4 [.ref bl0, .int l1, .int l2, .int l3] [] σ := by
  intro n
  induction n with
  | zero =>
    intro bl0 l1 l2 l3 σ hbl0 h
    cases h
  | succ n ih =>
    intro bl0 l1 l2 l3 σ hbl0 h
    rw [fX1_yearOfAsking_b4] at h
    refine go_iload_n hc dX1_yearOfAsking_4 rfl rfl ?_
    refine go_iload_n hc dX1_yearOfAsking_5 rfl rfl ?_
    refine go_icmp_gt (tgt := 33) hc dX1_yearOfAsking_6 rfl (fun hh => ?_) (fun hh => ?_)
    · rw [if_pos hh] at h
      refine go_bipush hc dX1_yearOfAsking_33 cb_m2 ?_
      exact go_iret hc (oend_i h hE) hr dX1_yearOfAsking_35
    · rw [if_neg hh] at h
      refine go_iload_n hc dX1_yearOfAsking_9 rfl rfl ?_
      refine go_aload_n hc dX1_yearOfAsking_10 rfl rfl ?_
      refine go_iload_n hc dX1_yearOfAsking_11 rfl rfl ?_
      obtain ⟨r1, σ2, hf3, h⟩ := obi_some h
      refine go_callVi hc ho cmX1_askingsOf mlX1_31 dX1_yearOfAsking_12 hbl0 (As := [.int l3]) (rest := [.int l2]) (rX1_askingsOf (N := 1) hbl0 hf3 (Nat.le_refl _)) rfl (Nat.le_trans (Nat.le_of_ble_eq_true rfl) hN) rfl (Nat.le_of_ble_eq_true rfl) (Or.inl hz) ?_
      refine go_isub hc dX1_yearOfAsking_15 ?_
      refine go_istore_n hc (lv1 := [.ref bl0, .int l1, .int (l2 - r1), .int l3]) dX1_yearOfAsking_16 rfl hL (by decide) (fun _ _ e => by cases e; rfl) rfl ?_
      refine go_iload_n hc dX1_yearOfAsking_17 rfl rfl ?_
      refine go_if_ge (tgt := 27) hc dX1_yearOfAsking_18 rfl (fun hh => ?_) (fun hh => ?_)
      · rw [if_pos hh] at h
        refine go_iinc hc (lv1 := [.ref bl0, .int l1, .int (l2 - r1), .int (l3 + 1)]) dX1_yearOfAsking_27 rfl ci_1 hL (by decide) (fun _ _ e => by cases e; rfl) rfl ?_
        refine go_goto (tgt := 4) hc dX1_yearOfAsking_30 rfl ?_
        exact ih bl0 l1 (l2 - r1) (l3 + 1) _ hbl0 h
      · rw [if_neg hh] at h
        refine go_mask [true, false, false, true] (lv1 := [.ref bl0, .null, .null, .int l3]) rfl ?_
        exact rX1_yearOfAsking_b21 hc ho hL hN hr hE hz hbl0 h
def fX1_yearOfAsking (u : Nat) (x0 : Int32) (σ : OM) : Option (Int32 × OM) :=
  fX1_yearOfAsking_b4 oF u x0 x0 (0 : Int32) σ
set_option maxRecDepth 100000 in
set_option maxHeartbeats 4000000 in
theorem rX1_yearOfAsking {N : Nat} {u : Nat} {x0 : Int32} {σ : OM} {r0 : Int32} {σ0 : OM} (hu : okd u = 1) (h : fX1_yearOfAsking u x0 σ = some (r0, σ0)) (hN0 : 2 ≤ N) : oEv N MX1_yearOfAsking [.ref u, .int x0] σ (some (.int r0)) σ0 := by
  refine oEv_of (lv := [.ref u, .int x0, .null, .null]) (by decide +kernel) (fun g q hq => hq) (fun g => Nat.le_of_ble_eq_true rfl) ?_
  intro K hc ho hL hN1 hr hE hz
  have hN : 2 ≤ kN K := by rw [hN1]; exact hN0
  unfold fX1_yearOfAsking at h
  refine go_iload_n hc dX1_yearOfAsking_0 rfl rfl ?_
  refine go_istore_n hc (lv1 := [.ref u, .int x0, .int x0, .null]) dX1_yearOfAsking_1 rfl hL (by decide) (fun _ _ e => by cases e; rfl) rfl ?_
  refine go_iconst hc dX1_yearOfAsking_2 ci_0 ?_
  refine go_istore_n hc (lv1 := [.ref u, .int x0, .int x0, .int (0 : Int32)]) dX1_yearOfAsking_3 rfl hL (by decide) (fun _ _ e => by cases e; rfl) rfl ?_
  exact rX1_yearOfAsking_b4 hc ho hL hN hr hE hz oF u x0 x0 (0 : Int32) _ hu h
def fX9_asking (x0 : Int32) (x1 : Int32) (σ : OM) : Option (Int32 × OM) :=
  obi (fX9_isHouse x0 σ) (fun r1 σ2 =>
  if r1 = 0 then (
   obi (fX9_refuse (1 : Int32) σ2) (fun r18 σ19 =>
   some (r18, σ19)))
  else (if x1 < 0 then (
   obi (fX9_refuse (2 : Int32) σ2) (fun r4 σ5 =>
   some (r4, σ5)))
  else (if x1 ≤ (99 : Int32) then (
   ogd (decide (okd (mR σ2 0 0) = 8)) (
   ogd (oin x0 6) (
   obi (fX1_yearOfAsking ((mR σ2 0 0) + 14 + x0.toNatClampNeg) x1 σ2) (fun r9 σ10 =>
   obi (fX9_answer r9 σ10) (fun r12 σ13 =>
   some (r12, σ13))))))
  else (obi (fX9_refuse (2 : Int32) σ2) (fun r15 σ16 =>
  some (r15, σ16))))))
set_option maxRecDepth 100000 in
set_option maxHeartbeats 4000000 in
theorem rX9_asking {N : Nat} {x0 : Int32} {x1 : Int32} {σ : OM} {r0 : Int32} {σ0 : OM} (h : fX9_asking x0 x1 σ = some (r0, σ0)) (hN0 : 3 ≤ N) : oEv N MX9_asking [.ref 0, .int x0, .int x1] σ (some (.int r0)) σ0 := by
  refine oEv_of (lv := [.ref 0, .int x0, .int x1]) (by decide +kernel) (fun g q hq => hq) (fun g => Nat.le_of_ble_eq_true rfl) ?_
  intro K hc ho hL hN1 hr hE hz
  have hN : 3 ≤ kN K := by rw [hN1]; exact hN0
  unfold fX9_asking at h
  refine go_aload_n hc dX9_asking_0 rfl rfl ?_
  refine go_iload_n hc dX9_asking_1 rfl rfl ?_
  obtain ⟨r1, σ2, hf3, h⟩ := obi_some h
  refine go_callVi hc ho cmX9_isHouse mlX9_161 dX9_asking_2 ok_0 (As := [.int x0]) (rest := []) (rX9_isHouse (N := 0) hf3 (Nat.le_refl _)) rfl (Nat.le_trans (Nat.le_of_ble_eq_true rfl) hN) rfl (Nat.le_of_ble_eq_true rfl) (Or.inl hz) ?_
  refine go_if_ne (tgt := 14) hc dX9_asking_5 rfl (fun hh => ?_) (fun hh => ?_)
  · rw [if_neg hh] at h
    refine go_iload_n hc dX9_asking_14 rfl rfl ?_
    refine go_if_lt (tgt := 24) hc dX9_asking_15 rfl (fun hh => ?_) (fun hh => ?_)
    · rw [if_pos hh] at h
      refine go_aload_n hc dX9_asking_24 rfl rfl ?_
      refine go_iconst hc dX9_asking_25 ci_2 ?_
      obtain ⟨r4, σ5, hf6, h⟩ := obi_some h
      refine go_callVi hc ho cmX9_refuse mlX9_70 dX9_asking_26 ok_0 (As := [.int (2 : Int32)]) (rest := []) (rX9_refuse (N := 0) hf6 (Nat.le_refl _)) rfl (Nat.le_trans (Nat.le_of_ble_eq_true rfl) hN) rfl (Nat.le_of_ble_eq_true rfl) (Or.inl hz) ?_
      exact go_iret hc (oend_i h hE) hr dX9_asking_29
    · rw [if_neg hh] at h
      refine go_iload_n hc dX9_asking_18 rfl rfl ?_
      refine go_bipush hc dX9_asking_19 cb_99 ?_
      refine go_icmp_le (tgt := 30) hc dX9_asking_21 rfl (fun hh => ?_) (fun hh => ?_)
      · rw [if_pos hh] at h
        refine go_aload_n hc dX9_asking_30 rfl rfl ?_
        refine go_aload_n hc dX9_asking_31 rfl rfl ?_
        obtain ⟨hg7, h⟩ := ogd_some h
        refine go_getR hc ho flX9_10 dX9_asking_32 ok_0 ?_
        refine go_getC (b := (mR σ2 0 0) + 13) (ow_c0_3 (of_decide_eq_true hg7)) hc ho flX9_271 dX9_asking_35 (of_decide_eq_true hg7) ?_
        refine go_iload_n hc dX9_asking_38 rfl rfl ?_
        obtain ⟨hg8, h⟩ := ogd_some h
        refine go_ald4 hc dX9_asking_39 (ow_k13 (of_decide_eq_true hg7)) (ow_l13 (of_decide_eq_true hg7)) hg8 rfl (oh_c (of_decide_eq_true hg7) (oin_lt hg8)) ?_
        refine go_iload_n hc dX9_asking_40 rfl rfl ?_
        obtain ⟨r9, σ10, hf11, h⟩ := obi_some h
        refine go_callVi hc ho cmX1_yearOfAsking mlX9_274 dX9_asking_41 (oh_k (of_decide_eq_true hg7) (oin_lt hg8)) (As := [.int x1]) (rest := [.ref 0]) (rX1_yearOfAsking (N := 2) (oh_k (of_decide_eq_true hg7) (oin_lt hg8)) hf11 (Nat.le_refl _)) rfl (Nat.le_trans (Nat.le_of_ble_eq_true rfl) hN) rfl (Nat.le_of_ble_eq_true rfl) (Or.inl hz) ?_
        obtain ⟨r12, σ13, hf14, h⟩ := obi_some h
        refine go_callVi hc ho cmX9_answer mlX9_103 dX9_asking_44 ok_0 (As := [.int r9]) (rest := []) (rX9_answer (N := 0) hf14 (Nat.le_refl _)) rfl (Nat.le_trans (Nat.le_of_ble_eq_true rfl) hN) rfl (Nat.le_of_ble_eq_true rfl) (Or.inl hz) ?_
        exact go_iret hc (oend_i h hE) hr dX9_asking_47
      · rw [if_neg hh] at h
        refine go_aload_n hc dX9_asking_24 rfl rfl ?_
        refine go_iconst hc dX9_asking_25 ci_2 ?_
        obtain ⟨r15, σ16, hf17, h⟩ := obi_some h
        refine go_callVi hc ho cmX9_refuse mlX9_70 dX9_asking_26 ok_0 (As := [.int (2 : Int32)]) (rest := []) (rX9_refuse (N := 0) hf17 (Nat.le_refl _)) rfl (Nat.le_trans (Nat.le_of_ble_eq_true rfl) hN) rfl (Nat.le_of_ble_eq_true rfl) (Or.inl hz) ?_
        exact go_iret hc (oend_i h hE) hr dX9_asking_29
  · rw [if_pos hh] at h
    refine go_aload_n hc dX9_asking_8 rfl rfl ?_
    refine go_iconst hc dX9_asking_9 ci_1 ?_
    obtain ⟨r18, σ19, hf20, h⟩ := obi_some h
    refine go_callVi hc ho cmX9_refuse mlX9_70 dX9_asking_10 ok_0 (As := [.int (1 : Int32)]) (rest := []) (rX9_refuse (N := 0) hf20 (Nat.le_refl _)) rfl (Nat.le_trans (Nat.le_of_ble_eq_true rfl) hN) rfl (Nat.le_of_ble_eq_true rfl) (Or.inl hz) ?_
    exact go_iret hc (oend_i h hE) hr dX9_asking_13
def fX1_yearFrom (u : Nat) (x0 : Int32) (σ : OM) : Option (Int32 × OM) :=
  if x0 ≤ (mI σ u 0) then (
   obi (fX1_yearOf u (0 : Int32) σ) (fun r1 σ2 =>
   some (r1, σ2)))
  else (if (1 : Int32) ≤ (mI σ u 1) then (
   ogd (decide (¬ (mI σ u 1) = 0)) (
   obi (fX1_yearOf u ((((x0 - (mI σ u 0)) + (mI σ u 1)) - (1 : Int32)) / (mI σ u 1)) σ) (fun r5 σ6 =>
   some (r5, σ6))))
  else (obi (fX1_yearOf u (0 : Int32) σ) (fun r8 σ9 =>
  some (r8, σ9))))
set_option maxRecDepth 100000 in
set_option maxHeartbeats 4000000 in
theorem rX1_yearFrom {N : Nat} {u : Nat} {x0 : Int32} {σ : OM} {r0 : Int32} {σ0 : OM} (hu : okd u = 1) (h : fX1_yearFrom u x0 σ = some (r0, σ0)) (hN0 : 1 ≤ N) : oEv N MX1_yearFrom [.ref u, .int x0] σ (some (.int r0)) σ0 := by
  refine oEv_of (lv := [.ref u, .int x0]) (by decide +kernel) (fun g q hq => hq) (fun g => Nat.le_of_ble_eq_true rfl) ?_
  intro K hc ho hL hN1 hr hE hz
  have hN : 1 ≤ kN K := by rw [hN1]; exact hN0
  unfold fX1_yearFrom at h
  refine go_aload_n hc dX1_yearFrom_0 rfl rfl ?_
  refine go_getI hc ho flX1_9 dX1_yearFrom_1 hu ?_
  refine go_iload_n hc dX1_yearFrom_4 rfl rfl ?_
  refine go_icmp_ge (tgt := 16) hc dX1_yearFrom_5 rfl (fun hh => ?_) (fun hh => ?_)
  · rw [if_pos hh] at h
    refine go_aload_n hc dX1_yearFrom_16 rfl rfl ?_
    refine go_iconst hc dX1_yearFrom_17 ci_0 ?_
    obtain ⟨r1, σ2, hf3, h⟩ := obi_some h
    refine go_callVi hc ho cmX1_yearOf mlX1_35 dX1_yearFrom_18 hu (As := [.int (0 : Int32)]) (rest := []) (rX1_yearOf (N := 0) hu hf3 (Nat.le_refl _)) rfl (Nat.le_trans (Nat.le_of_ble_eq_true rfl) hN) rfl (Nat.le_of_ble_eq_true rfl) (Or.inl hz) ?_
    exact go_iret hc (oend_i h hE) hr dX1_yearFrom_21
  · rw [if_neg hh] at h
    refine go_aload_n hc dX1_yearFrom_8 rfl rfl ?_
    refine go_getI hc ho flX1_15 dX1_yearFrom_9 hu ?_
    refine go_iconst hc dX1_yearFrom_12 ci_1 ?_
    refine go_icmp_ge (tgt := 22) hc dX1_yearFrom_13 rfl (fun hh => ?_) (fun hh => ?_)
    · rw [if_pos hh] at h
      refine go_aload_n hc dX1_yearFrom_22 rfl rfl ?_
      refine go_iload_n hc dX1_yearFrom_23 rfl rfl ?_
      refine go_aload_n hc dX1_yearFrom_24 rfl rfl ?_
      refine go_getI hc ho flX1_9 dX1_yearFrom_25 hu ?_
      refine go_isub hc dX1_yearFrom_28 ?_
      refine go_aload_n hc dX1_yearFrom_29 rfl rfl ?_
      refine go_getI hc ho flX1_15 dX1_yearFrom_30 hu ?_
      refine go_iadd hc dX1_yearFrom_33 ?_
      refine go_iconst hc dX1_yearFrom_34 ci_1 ?_
      refine go_isub hc dX1_yearFrom_35 ?_
      refine go_aload_n hc dX1_yearFrom_36 rfl rfl ?_
      refine go_getI hc ho flX1_15 dX1_yearFrom_37 hu ?_
      obtain ⟨hg4, h⟩ := ogd_some h
      refine go_idiv hc dX1_yearFrom_40 (of_decide_eq_true hg4) ?_
      obtain ⟨r5, σ6, hf7, h⟩ := obi_some h
      refine go_callVi hc ho cmX1_yearOf mlX1_35 dX1_yearFrom_41 hu (As := [.int ((((x0 - (mI σ u 0)) + (mI σ u 1)) - (1 : Int32)) / (mI σ u 1))]) (rest := []) (rX1_yearOf (N := 0) hu hf7 (Nat.le_refl _)) rfl (Nat.le_trans (Nat.le_of_ble_eq_true rfl) hN) rfl (Nat.le_of_ble_eq_true rfl) (Or.inl hz) ?_
      exact go_iret hc (oend_i h hE) hr dX1_yearFrom_44
    · rw [if_neg hh] at h
      refine go_aload_n hc dX1_yearFrom_16 rfl rfl ?_
      refine go_iconst hc dX1_yearFrom_17 ci_0 ?_
      obtain ⟨r8, σ9, hf10, h⟩ := obi_some h
      refine go_callVi hc ho cmX1_yearOf mlX1_35 dX1_yearFrom_18 hu (As := [.int (0 : Int32)]) (rest := []) (rX1_yearOf (N := 0) hu hf10 (Nat.le_refl _)) rfl (Nat.le_trans (Nat.le_of_ble_eq_true rfl) hN) rfl (Nat.le_of_ble_eq_true rfl) (Or.inl hz) ?_
      exact go_iret hc (oend_i h hE) hr dX1_yearFrom_21
def fX9_next (x0 : Int32) (σ : OM) : Option (Int32 × OM) :=
  obi (fX9_isHouse x0 σ) (fun r1 σ2 =>
  if r1 = 0 then (
   obi (fX9_refuse (1 : Int32) σ2) (fun r13 σ14 =>
   some (r13, σ14)))
  else (ogd (decide (okd (mR σ2 0 0) = 8)) (
  ogd (oin x0 6) (
  ogd (decide (okd (mR σ2 0 0) = 8)) (
  obi (fX1_yearFrom ((mR σ2 0 0) + 14 + x0.toNatClampNeg) (mI σ2 ((mR σ2 0 0) + 5) 6) σ2) (fun r7 σ8 =>
  obi (fX9_answer r7 σ8) (fun r10 σ11 =>
  some (r10, σ11))))))))
set_option maxRecDepth 100000 in
set_option maxHeartbeats 4000000 in
theorem rX9_next {N : Nat} {x0 : Int32} {σ : OM} {r0 : Int32} {σ0 : OM} (h : fX9_next x0 σ = some (r0, σ0)) (hN0 : 2 ≤ N) : oEv N MX9_next [.ref 0, .int x0] σ (some (.int r0)) σ0 := by
  refine oEv_of (lv := [.ref 0, .int x0]) (by decide +kernel) (fun g q hq => hq) (fun g => Nat.le_of_ble_eq_true rfl) ?_
  intro K hc ho hL hN1 hr hE hz
  have hN : 2 ≤ kN K := by rw [hN1]; exact hN0
  unfold fX9_next at h
  refine go_aload_n hc dX9_next_0 rfl rfl ?_
  refine go_iload_n hc dX9_next_1 rfl rfl ?_
  obtain ⟨r1, σ2, hf3, h⟩ := obi_some h
  refine go_callVi hc ho cmX9_isHouse mlX9_161 dX9_next_2 ok_0 (As := [.int x0]) (rest := []) (rX9_isHouse (N := 0) hf3 (Nat.le_refl _)) rfl (Nat.le_trans (Nat.le_of_ble_eq_true rfl) hN) rfl (Nat.le_of_ble_eq_true rfl) (Or.inl hz) ?_
  refine go_if_ne (tgt := 14) hc dX9_next_5 rfl (fun hh => ?_) (fun hh => ?_)
  · rw [if_neg hh] at h
    refine go_aload_n hc dX9_next_14 rfl rfl ?_
    refine go_aload_n hc dX9_next_15 rfl rfl ?_
    obtain ⟨hg4, h⟩ := ogd_some h
    refine go_getR hc ho flX9_10 dX9_next_16 ok_0 ?_
    refine go_getC (b := (mR σ2 0 0) + 13) (ow_c0_3 (of_decide_eq_true hg4)) hc ho flX9_271 dX9_next_19 (of_decide_eq_true hg4) ?_
    refine go_iload_n hc dX9_next_22 rfl rfl ?_
    obtain ⟨hg5, h⟩ := ogd_some h
    refine go_ald4 hc dX9_next_23 (ow_k13 (of_decide_eq_true hg4)) (ow_l13 (of_decide_eq_true hg4)) hg5 rfl (oh_c (of_decide_eq_true hg4) (oin_lt hg5)) ?_
    refine go_aload_n hc dX9_next_24 rfl rfl ?_
    obtain ⟨hg6, h⟩ := ogd_some h
    refine go_getR hc ho flX9_10 dX9_next_25 ok_0 ?_
    refine go_getC (b := (mR σ2 0 0) + 5) (ow_c0_1 (of_decide_eq_true hg6)) hc ho flX9_170 dX9_next_28 (of_decide_eq_true hg6) ?_
    refine go_getI hc ho flX9_279 dX9_next_31 (ow_k5 (of_decide_eq_true hg6)) ?_
    obtain ⟨r7, σ8, hf9, h⟩ := obi_some h
    refine go_callVi hc ho cmX1_yearFrom mlX9_282 dX9_next_34 (oh_k (of_decide_eq_true hg4) (oin_lt hg5)) (As := [.int (mI σ2 ((mR σ2 0 0) + 5) 6)]) (rest := [.ref 0]) (rX1_yearFrom (N := 1) (oh_k (of_decide_eq_true hg4) (oin_lt hg5)) hf9 (Nat.le_refl _)) rfl (Nat.le_trans (Nat.le_of_ble_eq_true rfl) hN) rfl (Nat.le_of_ble_eq_true rfl) (Or.inl hz) ?_
    obtain ⟨r10, σ11, hf12, h⟩ := obi_some h
    refine go_callVi hc ho cmX9_answer mlX9_103 dX9_next_37 ok_0 (As := [.int r7]) (rest := []) (rX9_answer (N := 0) hf12 (Nat.le_refl _)) rfl (Nat.le_trans (Nat.le_of_ble_eq_true rfl) hN) rfl (Nat.le_of_ble_eq_true rfl) (Or.inl hz) ?_
    exact go_iret hc (oend_i h hE) hr dX9_next_40
  · rw [if_pos hh] at h
    refine go_aload_n hc dX9_next_8 rfl rfl ?_
    refine go_iconst hc dX9_next_9 ci_1 ?_
    obtain ⟨r13, σ14, hf15, h⟩ := obi_some h
    refine go_callVi hc ho cmX9_refuse mlX9_70 dX9_next_10 ok_0 (As := [.int (1 : Int32)]) (rest := []) (rX9_refuse (N := 0) hf15 (Nat.le_refl _)) rfl (Nat.le_trans (Nat.le_of_ble_eq_true rfl) hN) rfl (Nat.le_of_ble_eq_true rfl) (Or.inl hz) ?_
    exact go_iret hc (oend_i h hE) hr dX9_next_13
def fX8_earliestHouse_b6 : Nat → Nat → Int32 → Int32 → Int32 → OM → Option (Int32 × OM)
  | 0, _, _, _, _, _ => none
  | n + 1, bl0, l1, l2, l3, σ =>
    if (mI σ bl0 4) ≤ l3 then (
     some (l1, σ))
    else (if (6 : Int32) ≤ l3 then (
     some (l1, σ))
    else (ogd (oin l3 6) (
    ogd (oin l3 6) (
    obi (fX1_yearOf (bl0 + 14 + l3.toNatClampNeg) (mI σ (bl0 + 20) l3.toNatClampNeg) σ) (fun r3 σ4 =>
    if r3 = ((-2) : Int32) then (
     fX8_earliestHouse_b6 n bl0 l1 l2 (l3 + 1) σ4)
    else (if l1 = ((-1) : Int32) then (
     fX8_earliestHouse_b6 n bl0 l3 r3 (l3 + 1) σ4)
    else (if l2 ≤ r3 then (
     fX8_earliestHouse_b6 n bl0 l1 l2 (l3 + 1) σ4)
    else (fX8_earliestHouse_b6 n bl0 l3 r3 (l3 + 1) σ4))))))))
set_option maxRecDepth 100000 in
set_option maxHeartbeats 4000000 in
theorem rX8_earliestHouse_b6 {K : OK} (hc : kcc K = cX8_earliestHouse) (ho : kow K = RX8) (hL : knL K = 5) (hN : 1 ≤ kN K) (hr : (kme K).sig.returnType = (some .int)) {r0 : Int32} {σ0 : OM} (hE : oEnd K (some (.int r0)) σ0) (hz : kz K = 0) : ∀ (n : Nat) (bl0 : Nat) (l1 : Int32) (l2 : Int32) (l3 : Int32) (σ : OM), okd bl0 = 8 → fX8_earliestHouse_b6 n bl0 l1 l2 l3 σ = some (r0, σ0) → Go K 6 [.ref bl0, .int l1, .int l2, .int l3, .null] [] σ := by
  intro n
  induction n with
  | zero =>
    intro bl0 l1 l2 l3 σ hbl0 h
    cases h
  | succ n ih =>
    intro bl0 l1 l2 l3 σ hbl0 h
    rw [fX8_earliestHouse_b6] at h
    refine go_iload_n hc dX8_earliestHouse_6 rfl rfl ?_
    refine go_aload_n hc dX8_earliestHouse_7 rfl rfl ?_
    refine go_getI hc ho flX8_49 dX8_earliestHouse_8 hbl0 ?_
    refine go_icmp_ge (tgt := 66) hc dX8_earliestHouse_11 rfl (fun hh => ?_) (fun hh => ?_)
    · rw [if_pos hh] at h
      refine go_iload_n hc dX8_earliestHouse_66 rfl rfl ?_
      exact go_iret hc (oend_i h hE) hr dX8_earliestHouse_67
    · rw [if_neg hh] at h
      refine go_iload_n hc dX8_earliestHouse_14 rfl rfl ?_
      refine go_bipush hc dX8_earliestHouse_15 cb_6 ?_
      refine go_icmp_ge (tgt := 66) hc dX8_earliestHouse_17 rfl (fun hh => ?_) (fun hh => ?_)
      · rw [if_pos hh] at h
        refine go_iload_n hc dX8_earliestHouse_66 rfl rfl ?_
        exact go_iret hc (oend_i h hE) hr dX8_earliestHouse_67
      · rw [if_neg hh] at h
        refine go_aload_n hc dX8_earliestHouse_20 rfl rfl ?_
        refine go_getC (b := bl0 + 13) (ow_c0_3 hbl0) hc ho flX8_37 dX8_earliestHouse_21 hbl0 ?_
        refine go_iload_n hc dX8_earliestHouse_24 rfl rfl ?_
        obtain ⟨hg1, h⟩ := ogd_some h
        refine go_ald4 hc dX8_earliestHouse_25 (ow_k13 hbl0) (ow_l13 hbl0) hg1 rfl (oh_c hbl0 (oin_lt hg1)) ?_
        refine go_aload_n hc dX8_earliestHouse_26 rfl rfl ?_
        refine go_getC (b := bl0 + 20) (ow_c0_6 hbl0) hc ho flX8_41 dX8_earliestHouse_27 hbl0 ?_
        refine go_iload_n hc dX8_earliestHouse_30 rfl rfl ?_
        obtain ⟨hg2, h⟩ := ogd_some h
        refine go_iald hc dX8_earliestHouse_31 (ow_k20 hbl0) (ow_l20 hbl0) hg2 rfl ?_
        obtain ⟨r3, σ4, hf5, h⟩ := obi_some h
        refine go_callVi hc ho cmX1_yearOf mlX8_75 dX8_earliestHouse_32 (oh_k hbl0 (oin_lt hg1)) (As := [.int (mI σ (bl0 + 20) l3.toNatClampNeg)]) (rest := []) (rX1_yearOf (N := 0) (oh_k hbl0 (oin_lt hg1)) hf5 (Nat.le_refl _)) rfl (Nat.le_trans (Nat.le_of_ble_eq_true rfl) hN) rfl (Nat.le_of_ble_eq_true rfl) (Or.inl hz) ?_
        refine go_istore hc (lv1 := [.ref bl0, .int l1, .int l2, .int l3, .int r3]) dX8_earliestHouse_35 hL (by decide) (fun _ _ e => by cases e; rfl) rfl ?_
        refine go_iload hc dX8_earliestHouse_37 rfl ?_
        refine go_bipush hc dX8_earliestHouse_39 cb_m2 ?_
        refine go_icmp_eq (tgt := 60) hc dX8_earliestHouse_41 rfl (fun hh => ?_) (fun hh => ?_)
        · rw [if_pos hh] at h
          refine go_iinc hc (lv1 := [.ref bl0, .int l1, .int l2, .int (l3 + 1), .int r3]) dX8_earliestHouse_60 rfl ci_1 hL (by decide) (fun _ _ e => by cases e; rfl) rfl ?_
          refine go_goto (tgt := 6) hc dX8_earliestHouse_63 rfl ?_
          refine go_mask [true, true, true, true, false] (lv1 := [.ref bl0, .int l1, .int l2, .int (l3 + 1), .null]) rfl ?_
          exact ih bl0 l1 l2 (l3 + 1) _ hbl0 h
        · rw [if_neg hh] at h
          refine go_iload_n hc dX8_earliestHouse_44 rfl rfl ?_
          refine go_iconst hc dX8_earliestHouse_45 ci_m1 ?_
          refine go_icmp_eq (tgt := 55) hc dX8_earliestHouse_46 rfl (fun hh => ?_) (fun hh => ?_)
          · rw [if_pos hh] at h
            refine go_iload_n hc dX8_earliestHouse_55 rfl rfl ?_
            refine go_istore_n hc (lv1 := [.ref bl0, .int l3, .int l2, .int l3, .int r3]) dX8_earliestHouse_56 rfl hL (by decide) (fun _ _ e => by cases e; rfl) rfl ?_
            refine go_iload hc dX8_earliestHouse_57 rfl ?_
            refine go_istore_n hc (lv1 := [.ref bl0, .int l3, .int r3, .int l3, .int r3]) dX8_earliestHouse_59 rfl hL (by decide) (fun _ _ e => by cases e; rfl) rfl ?_
            refine go_iinc hc (lv1 := [.ref bl0, .int l3, .int r3, .int (l3 + 1), .int r3]) dX8_earliestHouse_60 rfl ci_1 hL (by decide) (fun _ _ e => by cases e; rfl) rfl ?_
            refine go_goto (tgt := 6) hc dX8_earliestHouse_63 rfl ?_
            refine go_mask [true, true, true, true, false] (lv1 := [.ref bl0, .int l3, .int r3, .int (l3 + 1), .null]) rfl ?_
            exact ih bl0 l3 r3 (l3 + 1) _ hbl0 h
          · rw [if_neg hh] at h
            refine go_iload hc dX8_earliestHouse_49 rfl ?_
            refine go_iload_n hc dX8_earliestHouse_51 rfl rfl ?_
            refine go_icmp_ge (tgt := 60) hc dX8_earliestHouse_52 rfl (fun hh => ?_) (fun hh => ?_)
            · rw [if_pos hh] at h
              refine go_iinc hc (lv1 := [.ref bl0, .int l1, .int l2, .int (l3 + 1), .int r3]) dX8_earliestHouse_60 rfl ci_1 hL (by decide) (fun _ _ e => by cases e; rfl) rfl ?_
              refine go_goto (tgt := 6) hc dX8_earliestHouse_63 rfl ?_
              refine go_mask [true, true, true, true, false] (lv1 := [.ref bl0, .int l1, .int l2, .int (l3 + 1), .null]) rfl ?_
              exact ih bl0 l1 l2 (l3 + 1) _ hbl0 h
            · rw [if_neg hh] at h
              refine go_iload_n hc dX8_earliestHouse_55 rfl rfl ?_
              refine go_istore_n hc (lv1 := [.ref bl0, .int l3, .int l2, .int l3, .int r3]) dX8_earliestHouse_56 rfl hL (by decide) (fun _ _ e => by cases e; rfl) rfl ?_
              refine go_iload hc dX8_earliestHouse_57 rfl ?_
              refine go_istore_n hc (lv1 := [.ref bl0, .int l3, .int r3, .int l3, .int r3]) dX8_earliestHouse_59 rfl hL (by decide) (fun _ _ e => by cases e; rfl) rfl ?_
              refine go_iinc hc (lv1 := [.ref bl0, .int l3, .int r3, .int (l3 + 1), .int r3]) dX8_earliestHouse_60 rfl ci_1 hL (by decide) (fun _ _ e => by cases e; rfl) rfl ?_
              refine go_goto (tgt := 6) hc dX8_earliestHouse_63 rfl ?_
              refine go_mask [true, true, true, true, false] (lv1 := [.ref bl0, .int l3, .int r3, .int (l3 + 1), .null]) rfl ?_
              exact ih bl0 l3 r3 (l3 + 1) _ hbl0 h
def fX8_earliestHouse (w : Nat) (σ : OM) : Option (Int32 × OM) :=
  fX8_earliestHouse_b6 oF w ((-1) : Int32) (0 : Int32) (0 : Int32) σ
set_option maxRecDepth 100000 in
set_option maxHeartbeats 4000000 in
theorem rX8_earliestHouse {N : Nat} {w : Nat} {σ : OM} {r0 : Int32} {σ0 : OM} (hw : okd w = 8) (h : fX8_earliestHouse w σ = some (r0, σ0)) (hN0 : 1 ≤ N) : oEv N MX8_earliestHouse [.ref w] σ (some (.int r0)) σ0 := by
  refine oEv_of (lv := [.ref w, .null, .null, .null, .null]) (by decide +kernel) (fun g q hq => hq) (fun g => Nat.le_of_ble_eq_true rfl) ?_
  intro K hc ho hL hN1 hr hE hz
  have hN : 1 ≤ kN K := by rw [hN1]; exact hN0
  unfold fX8_earliestHouse at h
  refine go_iconst hc dX8_earliestHouse_0 ci_m1 ?_
  refine go_istore_n hc (lv1 := [.ref w, .int ((-1) : Int32), .null, .null, .null]) dX8_earliestHouse_1 rfl hL (by decide) (fun _ _ e => by cases e; rfl) rfl ?_
  refine go_iconst hc dX8_earliestHouse_2 ci_0 ?_
  refine go_istore_n hc (lv1 := [.ref w, .int ((-1) : Int32), .int (0 : Int32), .null, .null]) dX8_earliestHouse_3 rfl hL (by decide) (fun _ _ e => by cases e; rfl) rfl ?_
  refine go_iconst hc dX8_earliestHouse_4 ci_0 ?_
  refine go_istore_n hc (lv1 := [.ref w, .int ((-1) : Int32), .int (0 : Int32), .int (0 : Int32), .null]) dX8_earliestHouse_5 rfl hL (by decide) (fun _ _ e => by cases e; rfl) rfl ?_
  exact rX8_earliestHouse_b6 hc ho hL hN hr hE hz oF w ((-1) : Int32) (0 : Int32) (0 : Int32) _ hw h
def fX8_houseAtTurn_b25 : Nat → Nat → Int32 → Int32 → Int32 → OM → Option (Int32 × OM)
  | 0, _, _, _, _, _ => none
  | n + 1, bl0, l1, l2, l3, σ =>
    if l1 < l3 then (
     some (((-2) : Int32), σ))
    else (obi (fX8_earliestHouse bl0 σ) (fun r1 σ2 =>
    if r1 < 0 then (
     some (((-2) : Int32), σ2))
    else (if r1 < (6 : Int32) then (
     ogd (oin r1 6) (
     ogd (oin r1 6) (
     obi (fX1_askingsOf (bl0 + 14 + r1.toNatClampNeg) (mI σ2 (bl0 + 20) r1.toNatClampNeg) σ2) (fun r6 σ7 =>
     if 0 ≤ (l2 - r6) then (
      ogd (oin r1 6) (
      ogd (oin r1 6) (
      fX8_houseAtTurn_b25 n bl0 l1 (l2 - r6) (l3 + 1) (sI σ7 (bl0 + 20) r1.toNatClampNeg ((mI σ7 (bl0 + 20) r1.toNatClampNeg) + (1 : Int32))))))
     else (some (r1, σ7))))))
    else (some (((-2) : Int32), σ2)))))
set_option maxRecDepth 100000 in
set_option maxHeartbeats 4000000 in
theorem rX8_houseAtTurn_b25 {K : OK} (hc : kcc K = cX8_houseAtTurn) (ho : kow K = RX8) (hL : knL K = 5) (hN : 2 ≤ kN K) (hr : (kme K).sig.returnType = (some .int)) {r0 : Int32} {σ0 : OM} (hE : oEnd K (some (.int r0)) σ0) (hz : kz K = 0) : ∀ (n : Nat) (bl0 : Nat) (l1 : Int32) (l2 : Int32) (l3 : Int32) (σ : OM), okd bl0 = 8 → fX8_houseAtTurn_b25 n bl0 l1 l2 l3 σ = some (r0, σ0) → Go K 25 [.ref bl0, .int l1, .int l2, .int l3, .null] [] σ := by
  intro n
  induction n with
  | zero =>
    intro bl0 l1 l2 l3 σ hbl0 h
    cases h
  | succ n ih =>
    intro bl0 l1 l2 l3 σ hbl0 h
    rw [fX8_houseAtTurn_b25] at h
    refine go_iload_n hc dX8_houseAtTurn_25 rfl rfl ?_
    refine go_iload_n hc dX8_houseAtTurn_26 rfl rfl ?_
    refine go_icmp_gt (tgt := 95) hc dX8_houseAtTurn_27 rfl (fun hh => ?_) (fun hh => ?_)
    · rw [if_pos hh] at h
      refine go_bipush hc dX8_houseAtTurn_95 cb_m2 ?_
      exact go_iret hc (oend_i h hE) hr dX8_houseAtTurn_97
    · rw [if_neg hh] at h
      refine go_aload_n hc dX8_houseAtTurn_30 rfl rfl ?_
      obtain ⟨r1, σ2, hf3, h⟩ := obi_some h
      refine go_callVi hc ho cmX8_earliestHouse mlX8_64 dX8_houseAtTurn_31 hbl0 (As := []) (rest := []) (rX8_earliestHouse (N := 1) hbl0 hf3 (Nat.le_refl _)) rfl (Nat.le_trans (Nat.le_of_ble_eq_true rfl) hN) rfl (Nat.le_of_ble_eq_true rfl) (Or.inl hz) ?_
      refine go_istore hc (lv1 := [.ref bl0, .int l1, .int l2, .int l3, .int r1]) dX8_houseAtTurn_34 hL (by decide) (fun _ _ e => by cases e; rfl) rfl ?_
      refine go_iload hc dX8_houseAtTurn_36 rfl ?_
      refine go_if_lt (tgt := 48) hc dX8_houseAtTurn_38 rfl (fun hh => ?_) (fun hh => ?_)
      · rw [if_pos hh] at h
        refine go_bipush hc dX8_houseAtTurn_48 cb_m2 ?_
        exact go_iret hc (oend_i h hE) hr dX8_houseAtTurn_50
      · rw [if_neg hh] at h
        refine go_iload hc dX8_houseAtTurn_41 rfl ?_
        refine go_bipush hc dX8_houseAtTurn_43 cb_6 ?_
        refine go_icmp_lt (tgt := 51) hc dX8_houseAtTurn_45 rfl (fun hh => ?_) (fun hh => ?_)
        · rw [if_pos hh] at h
          refine go_iload_n hc dX8_houseAtTurn_51 rfl rfl ?_
          refine go_aload_n hc dX8_houseAtTurn_52 rfl rfl ?_
          refine go_getC (b := bl0 + 13) (ow_c0_3 hbl0) hc ho flX8_37 dX8_houseAtTurn_53 hbl0 ?_
          refine go_iload hc dX8_houseAtTurn_56 rfl ?_
          obtain ⟨hg4, h⟩ := ogd_some h
          refine go_ald4 hc dX8_houseAtTurn_58 (ow_k13 hbl0) (ow_l13 hbl0) hg4 rfl (oh_c hbl0 (oin_lt hg4)) ?_
          refine go_aload_n hc dX8_houseAtTurn_59 rfl rfl ?_
          refine go_getC (b := bl0 + 20) (ow_c0_6 hbl0) hc ho flX8_41 dX8_houseAtTurn_60 hbl0 ?_
          refine go_iload hc dX8_houseAtTurn_63 rfl ?_
          obtain ⟨hg5, h⟩ := ogd_some h
          refine go_iald hc dX8_houseAtTurn_65 (ow_k20 hbl0) (ow_l20 hbl0) hg5 rfl ?_
          obtain ⟨r6, σ7, hf8, h⟩ := obi_some h
          refine go_callVi hc ho cmX1_askingsOf mlX8_68 dX8_houseAtTurn_66 (oh_k hbl0 (oin_lt hg4)) (As := [.int (mI σ2 (bl0 + 20) r1.toNatClampNeg)]) (rest := [.int l2]) (rX1_askingsOf (N := 1) (oh_k hbl0 (oin_lt hg4)) hf8 (Nat.le_refl _)) rfl (Nat.le_trans (Nat.le_of_ble_eq_true rfl) hN) rfl (Nat.le_of_ble_eq_true rfl) (Or.inl hz) ?_
          refine go_isub hc dX8_houseAtTurn_69 ?_
          refine go_istore_n hc (lv1 := [.ref bl0, .int l1, .int (l2 - r6), .int l3, .int r1]) dX8_houseAtTurn_70 rfl hL (by decide) (fun _ _ e => by cases e; rfl) rfl ?_
          refine go_iload_n hc dX8_houseAtTurn_71 rfl rfl ?_
          refine go_if_ge (tgt := 78) hc dX8_houseAtTurn_72 rfl (fun hh => ?_) (fun hh => ?_)
          · rw [if_pos hh] at h
            refine go_aload_n hc dX8_houseAtTurn_78 rfl rfl ?_
            refine go_getC (b := bl0 + 20) (ow_c0_6 hbl0) hc ho flX8_41 dX8_houseAtTurn_79 hbl0 ?_
            refine go_iload hc dX8_houseAtTurn_82 rfl ?_
            refine go_dup2_11 hc dX8_houseAtTurn_84 rfl rfl ?_
            obtain ⟨hg9, h⟩ := ogd_some h
            refine go_iald hc dX8_houseAtTurn_85 (ow_k20 hbl0) (ow_l20 hbl0) hg9 rfl ?_
            refine go_iconst hc dX8_houseAtTurn_86 ci_1 ?_
            refine go_iadd hc dX8_houseAtTurn_87 ?_
            obtain ⟨hg10, h⟩ := ogd_some h
            refine go_iast hc dX8_houseAtTurn_88 (ow_k20 hbl0) (ow_l20 hbl0) hg10 rfl ?_
            refine go_iinc hc (lv1 := [.ref bl0, .int l1, .int (l2 - r6), .int (l3 + 1), .int r1]) dX8_houseAtTurn_89 rfl ci_1 hL (by decide) (fun _ _ e => by cases e; rfl) rfl ?_
            refine go_goto (tgt := 25) hc dX8_houseAtTurn_92 rfl ?_
            refine go_mask [true, true, true, true, false] (lv1 := [.ref bl0, .int l1, .int (l2 - r6), .int (l3 + 1), .null]) rfl ?_
            exact ih bl0 l1 (l2 - r6) (l3 + 1) _ hbl0 h
          · rw [if_neg hh] at h
            refine go_iload hc dX8_houseAtTurn_75 rfl ?_
            exact go_iret hc (oend_i h hE) hr dX8_houseAtTurn_77
        · rw [if_neg hh] at h
          refine go_bipush hc dX8_houseAtTurn_48 cb_m2 ?_
          exact go_iret hc (oend_i h hE) hr dX8_houseAtTurn_50
def fX8_houseAtTurn_b2 : Nat → Nat → Int32 → Int32 → OM → Option (Int32 × OM)
  | 0, _, _, _, _ => none
  | n + 1, bl0, l1, l2, σ =>
    if (6 : Int32) ≤ l2 then (
     fX8_houseAtTurn_b25 oF bl0 l1 l1 (0 : Int32) σ)
    else (ogd (oin l2 6) (
    fX8_houseAtTurn_b2 n bl0 l1 (l2 + 1) (sI σ (bl0 + 20) l2.toNatClampNeg (0 : Int32))))
set_option maxRecDepth 100000 in
set_option maxHeartbeats 4000000 in
theorem rX8_houseAtTurn_b2 {K : OK} (hc : kcc K = cX8_houseAtTurn) (ho : kow K = RX8) (hL : knL K = 5) (hN : 2 ≤ kN K) (hr : (kme K).sig.returnType = (some .int)) {r0 : Int32} {σ0 : OM} (hE : oEnd K (some (.int r0)) σ0) (hz : kz K = 0) : ∀ (n : Nat) (bl0 : Nat) (l1 : Int32) (l2 : Int32) (σ : OM), okd bl0 = 8 → fX8_houseAtTurn_b2 n bl0 l1 l2 σ = some (r0, σ0) → Go K 2 [.ref bl0, .int l1, .int l2, .null, .null] [] σ := by
  intro n
  induction n with
  | zero =>
    intro bl0 l1 l2 σ hbl0 h
    cases h
  | succ n ih =>
    intro bl0 l1 l2 σ hbl0 h
    rw [fX8_houseAtTurn_b2] at h
    refine go_iload_n hc dX8_houseAtTurn_2 rfl rfl ?_
    refine go_bipush hc dX8_houseAtTurn_3 cb_6 ?_
    refine go_icmp_ge (tgt := 21) hc dX8_houseAtTurn_5 rfl (fun hh => ?_) (fun hh => ?_)
    · rw [if_pos hh] at h
      refine go_iload_n hc dX8_houseAtTurn_21 rfl rfl ?_
      refine go_istore_n hc (lv1 := [.ref bl0, .int l1, .int l1, .null, .null]) dX8_houseAtTurn_22 rfl hL (by decide) (fun _ _ e => by cases e; rfl) rfl ?_
      refine go_iconst hc dX8_houseAtTurn_23 ci_0 ?_
      refine go_istore_n hc (lv1 := [.ref bl0, .int l1, .int l1, .int (0 : Int32), .null]) dX8_houseAtTurn_24 rfl hL (by decide) (fun _ _ e => by cases e; rfl) rfl ?_
      exact rX8_houseAtTurn_b25 hc ho hL hN hr hE hz oF bl0 l1 l1 (0 : Int32) _ hbl0 h
    · rw [if_neg hh] at h
      refine go_aload_n hc dX8_houseAtTurn_8 rfl rfl ?_
      refine go_getC (b := bl0 + 20) (ow_c0_6 hbl0) hc ho flX8_41 dX8_houseAtTurn_9 hbl0 ?_
      refine go_iload_n hc dX8_houseAtTurn_12 rfl rfl ?_
      refine go_iconst hc dX8_houseAtTurn_13 ci_0 ?_
      obtain ⟨hg1, h⟩ := ogd_some h
      refine go_iast hc dX8_houseAtTurn_14 (ow_k20 hbl0) (ow_l20 hbl0) hg1 rfl ?_
      refine go_iinc hc (lv1 := [.ref bl0, .int l1, .int (l2 + 1), .null, .null]) dX8_houseAtTurn_15 rfl ci_1 hL (by decide) (fun _ _ e => by cases e; rfl) rfl ?_
      refine go_goto (tgt := 2) hc dX8_houseAtTurn_18 rfl ?_
      exact ih bl0 l1 (l2 + 1) _ hbl0 h
def fX8_houseAtTurn (w : Nat) (x0 : Int32) (σ : OM) : Option (Int32 × OM) :=
  fX8_houseAtTurn_b2 oF w x0 (0 : Int32) σ
set_option maxRecDepth 100000 in
set_option maxHeartbeats 4000000 in
theorem rX8_houseAtTurn {N : Nat} {w : Nat} {x0 : Int32} {σ : OM} {r0 : Int32} {σ0 : OM} (hw : okd w = 8) (h : fX8_houseAtTurn w x0 σ = some (r0, σ0)) (hN0 : 2 ≤ N) : oEv N MX8_houseAtTurn [.ref w, .int x0] σ (some (.int r0)) σ0 := by
  refine oEv_of (lv := [.ref w, .int x0, .null, .null, .null]) (by decide +kernel) (fun g q hq => hq) (fun g => Nat.le_of_ble_eq_true rfl) ?_
  intro K hc ho hL hN1 hr hE hz
  have hN : 2 ≤ kN K := by rw [hN1]; exact hN0
  unfold fX8_houseAtTurn at h
  refine go_iconst hc dX8_houseAtTurn_0 ci_0 ?_
  refine go_istore_n hc (lv1 := [.ref w, .int x0, .int (0 : Int32), .null, .null]) dX8_houseAtTurn_1 rfl hL (by decide) (fun _ _ e => by cases e; rfl) rfl ?_
  exact rX8_houseAtTurn_b2 hc ho hL hN hr hE hz oF w x0 (0 : Int32) _ hw h
def fX9_turnOf (x0 : Int32) (σ : OM) : Option (Int32 × OM) :=
  if (mI σ 0 7) = 0 then (
   obi (fX9_refuse (1 : Int32) σ) (fun r14 σ15 =>
   some (r14, σ15)))
  else (if x0 < 0 then (
   obi (fX9_refuse (2 : Int32) σ) (fun r1 σ2 =>
   some (r1, σ2)))
  else (if x0 ≤ (99 : Int32) then (
   ogd (decide (okd (mR σ 0 0) = 8)) (
   obi (fX8_houseAtTurn (mR σ 0 0) x0 σ) (fun r5 σ6 =>
   obi (fX9_answer r5 σ6) (fun r8 σ9 =>
   some (r8, σ9)))))
  else (obi (fX9_refuse (2 : Int32) σ) (fun r11 σ12 =>
  some (r11, σ12)))))
set_option maxRecDepth 100000 in
set_option maxHeartbeats 4000000 in
theorem rX9_turnOf {N : Nat} {x0 : Int32} {σ : OM} {r0 : Int32} {σ0 : OM} (h : fX9_turnOf x0 σ = some (r0, σ0)) (hN0 : 3 ≤ N) : oEv N MX9_turnOf [.ref 0, .int x0] σ (some (.int r0)) σ0 := by
  refine oEv_of (lv := [.ref 0, .int x0]) (by decide +kernel) (fun g q hq => hq) (fun g => Nat.le_of_ble_eq_true rfl) ?_
  intro K hc ho hL hN1 hr hE hz
  have hN : 3 ≤ kN K := by rw [hN1]; exact hN0
  unfold fX9_turnOf at h
  refine go_aload_n hc dX9_turnOf_0 rfl rfl ?_
  refine go_getI hc ho flX9_90 dX9_turnOf_1 ok_0 ?_
  refine go_if_ne (tgt := 13) hc dX9_turnOf_4 rfl (fun hh => ?_) (fun hh => ?_)
  · rw [if_neg hh] at h
    refine go_iload_n hc dX9_turnOf_13 rfl rfl ?_
    refine go_if_lt (tgt := 23) hc dX9_turnOf_14 rfl (fun hh => ?_) (fun hh => ?_)
    · rw [if_pos hh] at h
      refine go_aload_n hc dX9_turnOf_23 rfl rfl ?_
      refine go_iconst hc dX9_turnOf_24 ci_2 ?_
      obtain ⟨r1, σ2, hf3, h⟩ := obi_some h
      refine go_callVi hc ho cmX9_refuse mlX9_70 dX9_turnOf_25 ok_0 (As := [.int (2 : Int32)]) (rest := []) (rX9_refuse (N := 0) hf3 (Nat.le_refl _)) rfl (Nat.le_trans (Nat.le_of_ble_eq_true rfl) hN) rfl (Nat.le_of_ble_eq_true rfl) (Or.inl hz) ?_
      exact go_iret hc (oend_i h hE) hr dX9_turnOf_28
    · rw [if_neg hh] at h
      refine go_iload_n hc dX9_turnOf_17 rfl rfl ?_
      refine go_bipush hc dX9_turnOf_18 cb_99 ?_
      refine go_icmp_le (tgt := 29) hc dX9_turnOf_20 rfl (fun hh => ?_) (fun hh => ?_)
      · rw [if_pos hh] at h
        refine go_aload_n hc dX9_turnOf_29 rfl rfl ?_
        refine go_aload_n hc dX9_turnOf_30 rfl rfl ?_
        obtain ⟨hg4, h⟩ := ogd_some h
        refine go_getR hc ho flX9_10 dX9_turnOf_31 ok_0 ?_
        refine go_iload_n hc dX9_turnOf_34 rfl rfl ?_
        obtain ⟨r5, σ6, hf7, h⟩ := obi_some h
        refine go_callVi hc ho cmX8_houseAtTurn mlX9_285 dX9_turnOf_35 (of_decide_eq_true hg4) (As := [.int x0]) (rest := [.ref 0]) (rX8_houseAtTurn (N := 2) (of_decide_eq_true hg4) hf7 (Nat.le_refl _)) rfl (Nat.le_trans (Nat.le_of_ble_eq_true rfl) hN) rfl (Nat.le_of_ble_eq_true rfl) (Or.inl hz) ?_
        obtain ⟨r8, σ9, hf10, h⟩ := obi_some h
        refine go_callVi hc ho cmX9_answer mlX9_103 dX9_turnOf_38 ok_0 (As := [.int r5]) (rest := []) (rX9_answer (N := 0) hf10 (Nat.le_refl _)) rfl (Nat.le_trans (Nat.le_of_ble_eq_true rfl) hN) rfl (Nat.le_of_ble_eq_true rfl) (Or.inl hz) ?_
        exact go_iret hc (oend_i h hE) hr dX9_turnOf_41
      · rw [if_neg hh] at h
        refine go_aload_n hc dX9_turnOf_23 rfl rfl ?_
        refine go_iconst hc dX9_turnOf_24 ci_2 ?_
        obtain ⟨r11, σ12, hf13, h⟩ := obi_some h
        refine go_callVi hc ho cmX9_refuse mlX9_70 dX9_turnOf_25 ok_0 (As := [.int (2 : Int32)]) (rest := []) (rX9_refuse (N := 0) hf13 (Nat.le_refl _)) rfl (Nat.le_trans (Nat.le_of_ble_eq_true rfl) hN) rfl (Nat.le_of_ble_eq_true rfl) (Or.inl hz) ?_
        exact go_iret hc (oend_i h hE) hr dX9_turnOf_28
  · rw [if_pos hh] at h
    refine go_aload_n hc dX9_turnOf_7 rfl rfl ?_
    refine go_iconst hc dX9_turnOf_8 ci_1 ?_
    obtain ⟨r14, σ15, hf16, h⟩ := obi_some h
    refine go_callVi hc ho cmX9_refuse mlX9_70 dX9_turnOf_9 ok_0 (As := [.int (1 : Int32)]) (rest := []) (rX9_refuse (N := 0) hf16 (Nat.le_refl _)) rfl (Nat.le_trans (Nat.le_of_ble_eq_true rfl) hN) rfl (Nat.le_of_ble_eq_true rfl) (Or.inl hz) ?_
    exact go_iret hc (oend_i h hE) hr dX9_turnOf_12
def fX1_askingsTo_b26 (bl0 : Nat) (k0 : Int32) (σ : OM) : Option (Int32 × OM) :=
  if k0 < (mI σ bl0 0) then (
   some ((0 : Int32), σ))
  else (if (1 : Int32) ≤ (mI σ bl0 1) then (
   ogd (decide (¬ (mI σ bl0 1) = 0)) (
   if (((k0 - (mI σ bl0 0)) / (mI σ bl0 1)) + (1 : Int32)) ≤ (30 : Int32) then (
    obi (fJ6_bitCount_0f7a4 ((mI σ bl0 3) &&& (((1 : Int32) <<< ((((k0 - (mI σ bl0 0)) / (mI σ bl0 1)) + (1 : Int32)) &&& 31)) - (1 : Int32))) σ) (fun r2 σ3 =>
    some (((((k0 - (mI σ bl0 0)) / (mI σ bl0 1)) + (1 : Int32)) + r2), σ3)))
   else (obi (fJ6_bitCount_0f7a4 (mI σ bl0 3) σ) (fun r5 σ6 =>
   some (((((k0 - (mI σ bl0 0)) / (mI σ bl0 1)) + (1 : Int32)) + r5), σ6)))))
  else (some ((0 : Int32), σ)))
set_option maxRecDepth 100000 in
set_option maxHeartbeats 4000000 in
theorem rX1_askingsTo_b26 {K : OK} (hc : kcc K = cX1_askingsTo) (ho : kow K = RX1) (hL : knL K = 5) (hN : 1 ≤ kN K) (hr : (kme K).sig.returnType = (some .int)) {r0 : Int32} {σ0 : OM} (hE : oEnd K (some (.int r0)) σ0) (hz : kz K = 0) {bl0 : Nat} {k0 : Int32} {σ : OM} (hbl0 : okd bl0 = 1) (h : fX1_askingsTo_b26 bl0 k0 σ = some (r0, σ0)) : Go K 26 [.ref bl0, .null, .null, .null, .null] [.int k0] σ := by
  unfold fX1_askingsTo_b26 at h
  refine go_istore_n hc (lv1 := [.ref bl0, .null, .int k0, .null, .null]) dX1_askingsTo_26 rfl hL (by decide) (fun _ _ e => by cases e; rfl) rfl ?_
  refine go_iload_n hc dX1_askingsTo_27 rfl rfl ?_
  refine go_aload_n hc dX1_askingsTo_28 rfl rfl ?_
  refine go_getI hc ho flX1_9 dX1_askingsTo_29 hbl0 ?_
  refine go_icmp_lt (tgt := 43) hc dX1_askingsTo_32 rfl (fun hh => ?_) (fun hh => ?_)
  · rw [if_pos hh] at h
    refine go_iconst hc dX1_askingsTo_43 ci_0 ?_
    exact go_iret hc (oend_i h hE) hr dX1_askingsTo_44
  · rw [if_neg hh] at h
    refine go_aload_n hc dX1_askingsTo_35 rfl rfl ?_
    refine go_getI hc ho flX1_15 dX1_askingsTo_36 hbl0 ?_
    refine go_iconst hc dX1_askingsTo_39 ci_1 ?_
    refine go_icmp_ge (tgt := 45) hc dX1_askingsTo_40 rfl (fun hh => ?_) (fun hh => ?_)
    · rw [if_pos hh] at h
      refine go_iload_n hc dX1_askingsTo_45 rfl rfl ?_
      refine go_aload_n hc dX1_askingsTo_46 rfl rfl ?_
      refine go_getI hc ho flX1_9 dX1_askingsTo_47 hbl0 ?_
      refine go_isub hc dX1_askingsTo_50 ?_
      refine go_aload_n hc dX1_askingsTo_51 rfl rfl ?_
      refine go_getI hc ho flX1_15 dX1_askingsTo_52 hbl0 ?_
      obtain ⟨hg1, h⟩ := ogd_some h
      refine go_idiv hc dX1_askingsTo_55 (of_decide_eq_true hg1) ?_
      refine go_iconst hc dX1_askingsTo_56 ci_1 ?_
      refine go_iadd hc dX1_askingsTo_57 ?_
      refine go_istore_n hc (lv1 := [.ref bl0, .null, .int k0, .int (((k0 - (mI σ bl0 0)) / (mI σ bl0 1)) + (1 : Int32)), .null]) dX1_askingsTo_58 rfl hL (by decide) (fun _ _ e => by cases e; rfl) rfl ?_
      refine go_iload_n hc dX1_askingsTo_59 rfl rfl ?_
      refine go_bipush hc dX1_askingsTo_60 cb_30 ?_
      refine go_icmp_le (tgt := 72) hc dX1_askingsTo_62 rfl (fun hh => ?_) (fun hh => ?_)
      · rw [if_pos hh] at h
        refine go_aload_n hc dX1_askingsTo_72 rfl rfl ?_
        refine go_getI hc ho flX1_21 dX1_askingsTo_73 hbl0 ?_
        refine go_iconst hc dX1_askingsTo_76 ci_1 ?_
        refine go_iload_n hc dX1_askingsTo_77 rfl rfl ?_
        refine go_ishl hc dX1_askingsTo_78 ?_
        refine go_iconst hc dX1_askingsTo_79 ci_1 ?_
        refine go_isub hc dX1_askingsTo_80 ?_
        refine go_iand hc dX1_askingsTo_81 ?_
        refine go_istore hc (lv1 := [.ref bl0, .null, .int k0, .int (((k0 - (mI σ bl0 0)) / (mI σ bl0 1)) + (1 : Int32)), .int ((mI σ bl0 3) &&& (((1 : Int32) <<< ((((k0 - (mI σ bl0 0)) / (mI σ bl0 1)) + (1 : Int32)) &&& 31)) - (1 : Int32)))]) dX1_askingsTo_82 hL (by decide) (fun _ _ e => by cases e; rfl) rfl ?_
        refine go_iload_n hc dX1_askingsTo_84 rfl rfl ?_
        refine go_iload hc dX1_askingsTo_85 rfl ?_
        obtain ⟨r2, σ3, hf4, h⟩ := obi_some h
        refine go_callSi hc ho cmJ6_bitCount_0f7a4 mlX1_38 dX1_askingsTo_87 (As := [.int ((mI σ bl0 3) &&& (((1 : Int32) <<< ((((k0 - (mI σ bl0 0)) / (mI σ bl0 1)) + (1 : Int32)) &&& 31)) - (1 : Int32)))]) (rest := [.int (((k0 - (mI σ bl0 0)) / (mI σ bl0 1)) + (1 : Int32))]) (rJ6_bitCount_0f7a4 (N := 0) hf4 (Nat.le_refl _)) rfl (Nat.le_trans (Nat.le_of_ble_eq_true rfl) hN) rfl (Nat.le_of_ble_eq_true rfl) (Or.inl hz) ?_
        refine go_iadd hc dX1_askingsTo_90 ?_
        exact go_iret hc (oend_i h hE) hr dX1_askingsTo_91
      · rw [if_neg hh] at h
        refine go_aload_n hc dX1_askingsTo_65 rfl rfl ?_
        refine go_getI hc ho flX1_21 dX1_askingsTo_66 hbl0 ?_
        refine go_goto (tgt := 82) hc dX1_askingsTo_69 rfl ?_
        refine go_istore hc (lv1 := [.ref bl0, .null, .int k0, .int (((k0 - (mI σ bl0 0)) / (mI σ bl0 1)) + (1 : Int32)), .int (mI σ bl0 3)]) dX1_askingsTo_82 hL (by decide) (fun _ _ e => by cases e; rfl) rfl ?_
        refine go_iload_n hc dX1_askingsTo_84 rfl rfl ?_
        refine go_iload hc dX1_askingsTo_85 rfl ?_
        obtain ⟨r5, σ6, hf7, h⟩ := obi_some h
        refine go_callSi hc ho cmJ6_bitCount_0f7a4 mlX1_38 dX1_askingsTo_87 (As := [.int (mI σ bl0 3)]) (rest := [.int (((k0 - (mI σ bl0 0)) / (mI σ bl0 1)) + (1 : Int32))]) (rJ6_bitCount_0f7a4 (N := 0) hf7 (Nat.le_refl _)) rfl (Nat.le_trans (Nat.le_of_ble_eq_true rfl) hN) rfl (Nat.le_of_ble_eq_true rfl) (Or.inl hz) ?_
        refine go_iadd hc dX1_askingsTo_90 ?_
        exact go_iret hc (oend_i h hE) hr dX1_askingsTo_91
    · rw [if_neg hh] at h
      refine go_iconst hc dX1_askingsTo_43 ci_0 ?_
      exact go_iret hc (oend_i h hE) hr dX1_askingsTo_44
def fX1_askingsTo (u : Nat) (x0 : Int32) (σ : OM) : Option (Int32 × OM) :=
  if (mI σ u 4) = ((-1) : Int32) then (
   fX1_askingsTo_b26 u x0 σ)
  else (if x0 < (mI σ u 4) then (
   fX1_askingsTo_b26 u x0 σ)
  else (fX1_askingsTo_b26 u ((mI σ u 4) - (1 : Int32)) σ))
set_option maxRecDepth 100000 in
set_option maxHeartbeats 4000000 in
theorem rX1_askingsTo {N : Nat} {u : Nat} {x0 : Int32} {σ : OM} {r0 : Int32} {σ0 : OM} (hu : okd u = 1) (h : fX1_askingsTo u x0 σ = some (r0, σ0)) (hN0 : 1 ≤ N) : oEv N MX1_askingsTo [.ref u, .int x0] σ (some (.int r0)) σ0 := by
  refine oEv_of (lv := [.ref u, .int x0, .null, .null, .null]) (by decide +kernel) (fun g q hq => hq) (fun g => Nat.le_of_ble_eq_true rfl) ?_
  intro K hc ho hL hN1 hr hE hz
  have hN : 1 ≤ kN K := by rw [hN1]; exact hN0
  unfold fX1_askingsTo at h
  refine go_aload_n hc dX1_askingsTo_0 rfl rfl ?_
  refine go_getI hc ho flX1_24 dX1_askingsTo_1 hu ?_
  refine go_iconst hc dX1_askingsTo_4 ci_m1 ?_
  refine go_icmp_eq (tgt := 25) hc dX1_askingsTo_5 rfl (fun hh => ?_) (fun hh => ?_)
  · rw [if_pos hh] at h
    refine go_iload_n hc dX1_askingsTo_25 rfl rfl ?_
    refine go_mask [true, false, false, false, false] (lv1 := [.ref u, .null, .null, .null, .null]) rfl ?_
    exact rX1_askingsTo_b26 hc ho hL hN hr hE hz hu h
  · rw [if_neg hh] at h
    refine go_aload_n hc dX1_askingsTo_8 rfl rfl ?_
    refine go_getI hc ho flX1_24 dX1_askingsTo_9 hu ?_
    refine go_iload_n hc dX1_askingsTo_12 rfl rfl ?_
    refine go_icmp_gt (tgt := 25) hc dX1_askingsTo_13 rfl (fun hh => ?_) (fun hh => ?_)
    · rw [if_pos hh] at h
      refine go_iload_n hc dX1_askingsTo_25 rfl rfl ?_
      refine go_mask [true, false, false, false, false] (lv1 := [.ref u, .null, .null, .null, .null]) rfl ?_
      exact rX1_askingsTo_b26 hc ho hL hN hr hE hz hu h
    · rw [if_neg hh] at h
      refine go_aload_n hc dX1_askingsTo_16 rfl rfl ?_
      refine go_getI hc ho flX1_24 dX1_askingsTo_17 hu ?_
      refine go_iconst hc dX1_askingsTo_20 ci_1 ?_
      refine go_isub hc dX1_askingsTo_21 ?_
      refine go_goto (tgt := 26) hc dX1_askingsTo_22 rfl ?_
      refine go_mask [true, false, false, false, false] (lv1 := [.ref u, .null, .null, .null, .null]) rfl ?_
      exact rX1_askingsTo_b26 hc ho hL hN hr hE hz hu h
def fX8_turnsUpTo_b4 : Nat → Nat → Int32 → Int32 → Int32 → OM → Option (Int32 × OM)
  | 0, _, _, _, _, _ => none
  | n + 1, bl0, l1, l2, l3, σ =>
    if (mI σ bl0 4) ≤ l3 then (
     some (l2, σ))
    else (if (6 : Int32) ≤ l3 then (
     some (l2, σ))
    else (ogd (oin l3 6) (
    obi (fX1_askingsTo (bl0 + 14 + l3.toNatClampNeg) l1 σ) (fun r2 σ3 =>
    fX8_turnsUpTo_b4 n bl0 l1 (l2 + r2) (l3 + 1) σ3))))
set_option maxRecDepth 100000 in
set_option maxHeartbeats 4000000 in
theorem rX8_turnsUpTo_b4 {K : OK} (hc : kcc K = cX8_turnsUpTo) (ho : kow K = RX8) (hL : knL K = 4) (hN : 2 ≤ kN K) (hr : (kme K).sig.returnType = (some .int)) {r0 : Int32} {σ0 : OM} (hE : oEnd K (some (.int r0)) σ0) (hz : kz K = 0) : ∀ (n : Nat) (bl0 : Nat) (l1 : Int32) (l2 : Int32) (l3 : Int32) (σ : OM), okd bl0 = 8 → fX8_turnsUpTo_b4 n bl0 l1 l2 l3 σ = some (r0, σ0) → Go K 4 [.ref bl0, .int l1, .int l2, .int l3] [] σ := by
  intro n
  induction n with
  | zero =>
    intro bl0 l1 l2 l3 σ hbl0 h
    cases h
  | succ n ih =>
    intro bl0 l1 l2 l3 σ hbl0 h
    rw [fX8_turnsUpTo_b4] at h
    refine go_iload_n hc dX8_turnsUpTo_4 rfl rfl ?_
    refine go_aload_n hc dX8_turnsUpTo_5 rfl rfl ?_
    refine go_getI hc ho flX8_49 dX8_turnsUpTo_6 hbl0 ?_
    refine go_icmp_ge (tgt := 37) hc dX8_turnsUpTo_9 rfl (fun hh => ?_) (fun hh => ?_)
    · rw [if_pos hh] at h
      refine go_iload_n hc dX8_turnsUpTo_37 rfl rfl ?_
      exact go_iret hc (oend_i h hE) hr dX8_turnsUpTo_38
    · rw [if_neg hh] at h
      refine go_iload_n hc dX8_turnsUpTo_12 rfl rfl ?_
      refine go_bipush hc dX8_turnsUpTo_13 cb_6 ?_
      refine go_icmp_ge (tgt := 37) hc dX8_turnsUpTo_15 rfl (fun hh => ?_) (fun hh => ?_)
      · rw [if_pos hh] at h
        refine go_iload_n hc dX8_turnsUpTo_37 rfl rfl ?_
        exact go_iret hc (oend_i h hE) hr dX8_turnsUpTo_38
      · rw [if_neg hh] at h
        refine go_iload_n hc dX8_turnsUpTo_18 rfl rfl ?_
        refine go_aload_n hc dX8_turnsUpTo_19 rfl rfl ?_
        refine go_getC (b := bl0 + 13) (ow_c0_3 hbl0) hc ho flX8_37 dX8_turnsUpTo_20 hbl0 ?_
        refine go_iload_n hc dX8_turnsUpTo_23 rfl rfl ?_
        obtain ⟨hg1, h⟩ := ogd_some h
        refine go_ald4 hc dX8_turnsUpTo_24 (ow_k13 hbl0) (ow_l13 hbl0) hg1 rfl (oh_c hbl0 (oin_lt hg1)) ?_
        refine go_iload_n hc dX8_turnsUpTo_25 rfl rfl ?_
        obtain ⟨r2, σ3, hf4, h⟩ := obi_some h
        refine go_callVi hc ho cmX1_askingsTo mlX8_72 dX8_turnsUpTo_26 (oh_k hbl0 (oin_lt hg1)) (As := [.int l1]) (rest := [.int l2]) (rX1_askingsTo (N := 1) (oh_k hbl0 (oin_lt hg1)) hf4 (Nat.le_refl _)) rfl (Nat.le_trans (Nat.le_of_ble_eq_true rfl) hN) rfl (Nat.le_of_ble_eq_true rfl) (Or.inl hz) ?_
        refine go_iadd hc dX8_turnsUpTo_29 ?_
        refine go_istore_n hc (lv1 := [.ref bl0, .int l1, .int (l2 + r2), .int l3]) dX8_turnsUpTo_30 rfl hL (by decide) (fun _ _ e => by cases e; rfl) rfl ?_
        refine go_iinc hc (lv1 := [.ref bl0, .int l1, .int (l2 + r2), .int (l3 + 1)]) dX8_turnsUpTo_31 rfl ci_1 hL (by decide) (fun _ _ e => by cases e; rfl) rfl ?_
        refine go_goto (tgt := 4) hc dX8_turnsUpTo_34 rfl ?_
        exact ih bl0 l1 (l2 + r2) (l3 + 1) _ hbl0 h
def fX8_turnsUpTo (w : Nat) (x0 : Int32) (σ : OM) : Option (Int32 × OM) :=
  fX8_turnsUpTo_b4 oF w x0 (0 : Int32) (0 : Int32) σ
set_option maxRecDepth 100000 in
set_option maxHeartbeats 4000000 in
theorem rX8_turnsUpTo {N : Nat} {w : Nat} {x0 : Int32} {σ : OM} {r0 : Int32} {σ0 : OM} (hw : okd w = 8) (h : fX8_turnsUpTo w x0 σ = some (r0, σ0)) (hN0 : 2 ≤ N) : oEv N MX8_turnsUpTo [.ref w, .int x0] σ (some (.int r0)) σ0 := by
  refine oEv_of (lv := [.ref w, .int x0, .null, .null]) (by decide +kernel) (fun g q hq => hq) (fun g => Nat.le_of_ble_eq_true rfl) ?_
  intro K hc ho hL hN1 hr hE hz
  have hN : 2 ≤ kN K := by rw [hN1]; exact hN0
  unfold fX8_turnsUpTo at h
  refine go_iconst hc dX8_turnsUpTo_0 ci_0 ?_
  refine go_istore_n hc (lv1 := [.ref w, .int x0, .int (0 : Int32), .null]) dX8_turnsUpTo_1 rfl hL (by decide) (fun _ _ e => by cases e; rfl) rfl ?_
  refine go_iconst hc dX8_turnsUpTo_2 ci_0 ?_
  refine go_istore_n hc (lv1 := [.ref w, .int x0, .int (0 : Int32), .int (0 : Int32)]) dX8_turnsUpTo_3 rfl hL (by decide) (fun _ _ e => by cases e; rfl) rfl ?_
  exact rX8_turnsUpTo_b4 hc ho hL hN hr hE hz oF w x0 (0 : Int32) (0 : Int32) _ hw h
def fX9_turnsTo (x0 : Int32) (σ : OM) : Option (Int32 × OM) :=
  if (mI σ 0 7) = 0 then (
   obi (fX9_refuse (1 : Int32) σ) (fun r14 σ15 =>
   some (r14, σ15)))
  else (if x0 < 0 then (
   obi (fX9_refuse (2 : Int32) σ) (fun r1 σ2 =>
   some (r1, σ2)))
  else (if x0 ≤ (999 : Int32) then (
   ogd (decide (okd (mR σ 0 0) = 8)) (
   obi (fX8_turnsUpTo (mR σ 0 0) x0 σ) (fun r5 σ6 =>
   obi (fX9_answer r5 σ6) (fun r8 σ9 =>
   some (r8, σ9)))))
  else (obi (fX9_refuse (2 : Int32) σ) (fun r11 σ12 =>
  some (r11, σ12)))))
set_option maxRecDepth 100000 in
set_option maxHeartbeats 4000000 in
theorem rX9_turnsTo {N : Nat} {x0 : Int32} {σ : OM} {r0 : Int32} {σ0 : OM} (h : fX9_turnsTo x0 σ = some (r0, σ0)) (hN0 : 3 ≤ N) : oEv N MX9_turnsTo [.ref 0, .int x0] σ (some (.int r0)) σ0 := by
  refine oEv_of (lv := [.ref 0, .int x0]) (by decide +kernel) (fun g q hq => hq) (fun g => Nat.le_of_ble_eq_true rfl) ?_
  intro K hc ho hL hN1 hr hE hz
  have hN : 3 ≤ kN K := by rw [hN1]; exact hN0
  unfold fX9_turnsTo at h
  refine go_aload_n hc dX9_turnsTo_0 rfl rfl ?_
  refine go_getI hc ho flX9_90 dX9_turnsTo_1 ok_0 ?_
  refine go_if_ne (tgt := 13) hc dX9_turnsTo_4 rfl (fun hh => ?_) (fun hh => ?_)
  · rw [if_neg hh] at h
    refine go_iload_n hc dX9_turnsTo_13 rfl rfl ?_
    refine go_if_lt (tgt := 24) hc dX9_turnsTo_14 rfl (fun hh => ?_) (fun hh => ?_)
    · rw [if_pos hh] at h
      refine go_aload_n hc dX9_turnsTo_24 rfl rfl ?_
      refine go_iconst hc dX9_turnsTo_25 ci_2 ?_
      obtain ⟨r1, σ2, hf3, h⟩ := obi_some h
      refine go_callVi hc ho cmX9_refuse mlX9_70 dX9_turnsTo_26 ok_0 (As := [.int (2 : Int32)]) (rest := []) (rX9_refuse (N := 0) hf3 (Nat.le_refl _)) rfl (Nat.le_trans (Nat.le_of_ble_eq_true rfl) hN) rfl (Nat.le_of_ble_eq_true rfl) (Or.inl hz) ?_
      exact go_iret hc (oend_i h hE) hr dX9_turnsTo_29
    · rw [if_neg hh] at h
      refine go_iload_n hc dX9_turnsTo_17 rfl rfl ?_
      refine go_sipush hc dX9_turnsTo_18 cs_999 ?_
      refine go_icmp_le (tgt := 30) hc dX9_turnsTo_21 rfl (fun hh => ?_) (fun hh => ?_)
      · rw [if_pos hh] at h
        refine go_aload_n hc dX9_turnsTo_30 rfl rfl ?_
        refine go_aload_n hc dX9_turnsTo_31 rfl rfl ?_
        obtain ⟨hg4, h⟩ := ogd_some h
        refine go_getR hc ho flX9_10 dX9_turnsTo_32 ok_0 ?_
        refine go_iload_n hc dX9_turnsTo_35 rfl rfl ?_
        obtain ⟨r5, σ6, hf7, h⟩ := obi_some h
        refine go_callVi hc ho cmX8_turnsUpTo mlX9_288 dX9_turnsTo_36 (of_decide_eq_true hg4) (As := [.int x0]) (rest := [.ref 0]) (rX8_turnsUpTo (N := 2) (of_decide_eq_true hg4) hf7 (Nat.le_refl _)) rfl (Nat.le_trans (Nat.le_of_ble_eq_true rfl) hN) rfl (Nat.le_of_ble_eq_true rfl) (Or.inl hz) ?_
        obtain ⟨r8, σ9, hf10, h⟩ := obi_some h
        refine go_callVi hc ho cmX9_answer mlX9_103 dX9_turnsTo_39 ok_0 (As := [.int r5]) (rest := []) (rX9_answer (N := 0) hf10 (Nat.le_refl _)) rfl (Nat.le_trans (Nat.le_of_ble_eq_true rfl) hN) rfl (Nat.le_of_ble_eq_true rfl) (Or.inl hz) ?_
        exact go_iret hc (oend_i h hE) hr dX9_turnsTo_42
      · rw [if_neg hh] at h
        refine go_aload_n hc dX9_turnsTo_24 rfl rfl ?_
        refine go_iconst hc dX9_turnsTo_25 ci_2 ?_
        obtain ⟨r11, σ12, hf13, h⟩ := obi_some h
        refine go_callVi hc ho cmX9_refuse mlX9_70 dX9_turnsTo_26 ok_0 (As := [.int (2 : Int32)]) (rest := []) (rX9_refuse (N := 0) hf13 (Nat.le_refl _)) rfl (Nat.le_trans (Nat.le_of_ble_eq_true rfl) hN) rfl (Nat.le_of_ble_eq_true rfl) (Or.inl hz) ?_
        exact go_iret hc (oend_i h hE) hr dX9_turnsTo_29
  · rw [if_pos hh] at h
    refine go_aload_n hc dX9_turnsTo_7 rfl rfl ?_
    refine go_iconst hc dX9_turnsTo_8 ci_1 ?_
    obtain ⟨r14, σ15, hf16, h⟩ := obi_some h
    refine go_callVi hc ho cmX9_refuse mlX9_70 dX9_turnsTo_9 ok_0 (As := [.int (1 : Int32)]) (rest := []) (rX9_refuse (N := 0) hf16 (Nat.le_refl _)) rfl (Nat.le_trans (Nat.le_of_ble_eq_true rfl) hN) rfl (Nat.le_of_ble_eq_true rfl) (Or.inl hz) ?_
    exact go_iret hc (oend_i h hE) hr dX9_turnsTo_12
def fX9_births_b106 (l4 : Int32) (σ : OM) : Option (Int32 × OM) :=
  obi (fX9_answer l4 σ) (fun r1 σ2 =>
  some (r1, σ2))
set_option maxRecDepth 100000 in
set_option maxHeartbeats 4000000 in
theorem rX9_births_b106 {K : OK} (hc : kcc K = cX9_births) (ho : kow K = RX9) (hL : knL K = 7) (hN : 1 ≤ kN K) (hr : (kme K).sig.returnType = (some .int)) {r0 : Int32} {σ0 : OM} (hE : oEnd K (some (.int r0)) σ0) (hz : kz K = 0) {l4 : Int32} {σ : OM} (h : fX9_births_b106 l4 σ = some (r0, σ0)) : Go K 106 [.ref 0, .null, .null, .null, .int l4, .null, .null] [] σ := by
  unfold fX9_births_b106 at h
  refine go_aload_n hc dX9_births_106 rfl rfl ?_
  refine go_iload hc dX9_births_107 rfl ?_
  obtain ⟨r1, σ2, hf3, h⟩ := obi_some h
  refine go_callVi hc ho cmX9_answer mlX9_103 dX9_births_109 ok_0 (As := [.int l4]) (rest := []) (rX9_answer (N := 0) hf3 (Nat.le_refl _)) rfl (Nat.le_trans (Nat.le_of_ble_eq_true rfl) hN) rfl (Nat.le_of_ble_eq_true rfl) (Or.inl hz) ?_
  exact go_iret hc (oend_i h hE) hr dX9_births_112
def fX9_births_b50 : Nat → Int32 → Int32 → Int32 → Int32 → Int32 → OM → Option (Int32 × OM)
  | 0, _, _, _, _, _, _ => none
  | n + 1, l1, l3, l4, l5, l6, σ =>
    if l3 ≤ l6 then (
     fX9_births_b106 l4 σ)
    else (ogd (decide (okd (mR σ 0 0) = 8)) (
    ogd (oin l1 6) (
    if (mI σ ((mR σ 0 0) + 14 + l1.toNatClampNeg) 2) ≤ (((((75 : Int32) * l5) + (74 : Int32)) - (((75 : Int32) * l5) + (74 : Int32)) / (65537 : Int32) * (65537 : Int32)) - ((((75 : Int32) * l5) + (74 : Int32)) - (((75 : Int32) * l5) + (74 : Int32)) / (65537 : Int32) * (65537 : Int32)) / (100 : Int32) * (100 : Int32)) then (
     fX9_births_b50 n l1 l3 (l4 + (1 : Int32)) ((((75 : Int32) * l5) + (74 : Int32)) - (((75 : Int32) * l5) + (74 : Int32)) / (65537 : Int32) * (65537 : Int32)) (l6 + 1) σ)
    else (fX9_births_b50 n l1 l3 (l4 + (2 : Int32)) ((((75 : Int32) * l5) + (74 : Int32)) - (((75 : Int32) * l5) + (74 : Int32)) / (65537 : Int32) * (65537 : Int32)) (l6 + 1) σ))))
set_option maxRecDepth 100000 in
set_option maxHeartbeats 4000000 in
theorem rX9_births_b50 {K : OK} (hc : kcc K = cX9_births) (ho : kow K = RX9) (hL : knL K = 7) (hN : 1 ≤ kN K) (hr : (kme K).sig.returnType = (some .int)) {r0 : Int32} {σ0 : OM} (hE : oEnd K (some (.int r0)) σ0) (hz : kz K = 0) : ∀ (n : Nat) (l1 : Int32) (l3 : Int32) (l4 : Int32) (l5 : Int32) (l6 : Int32) (σ : OM), fX9_births_b50 n l1 l3 l4 l5 l6 σ = some (r0, σ0) → Go K 50 [.ref 0, .int l1, .null, .int l3, .int l4, .int l5, .int l6] [] σ := by
  intro n
  induction n with
  | zero =>
    intro l1 l3 l4 l5 l6 σ h
    cases h
  | succ n ih =>
    intro l1 l3 l4 l5 l6 σ h
    rw [fX9_births_b50] at h
    refine go_iload hc dX9_births_50 rfl ?_
    refine go_iload_n hc dX9_births_52 rfl rfl ?_
    refine go_icmp_ge (tgt := 106) hc dX9_births_53 rfl (fun hh => ?_) (fun hh => ?_)
    · rw [if_pos hh] at h
      refine go_mask [true, false, false, false, true, false, false] (lv1 := [.ref 0, .null, .null, .null, .int l4, .null, .null]) rfl ?_
      exact rX9_births_b106 hc ho hL hN hr hE hz h
    · rw [if_neg hh] at h
      refine go_bipush hc dX9_births_56 cb_75 ?_
      refine go_iload hc dX9_births_58 rfl ?_
      refine go_imul hc dX9_births_60 ?_
      refine go_bipush hc dX9_births_61 cb_74 ?_
      refine go_iadd hc dX9_births_63 ?_
      refine go_ldcw hc ho kcX9_291 dX9_births_64 ?_
      refine go_irem hc dX9_births_67 (by decide) ?_
      refine go_istore hc (lv1 := [.ref 0, .int l1, .null, .int l3, .int l4, .int ((((75 : Int32) * l5) + (74 : Int32)) - (((75 : Int32) * l5) + (74 : Int32)) / (65537 : Int32) * (65537 : Int32)), .int l6]) dX9_births_68 hL (by decide) (fun _ _ e => by cases e; rfl) rfl ?_
      refine go_iload hc dX9_births_70 rfl ?_
      refine go_iload hc dX9_births_72 rfl ?_
      refine go_bipush hc dX9_births_74 cb_100 ?_
      refine go_irem hc dX9_births_76 (by decide) ?_
      refine go_aload_n hc dX9_births_77 rfl rfl ?_
      obtain ⟨hg1, h⟩ := ogd_some h
      refine go_getR hc ho flX9_10 dX9_births_78 ok_0 ?_
      refine go_getC (b := (mR σ 0 0) + 13) (ow_c0_3 (of_decide_eq_true hg1)) hc ho flX9_271 dX9_births_81 (of_decide_eq_true hg1) ?_
      refine go_iload_n hc dX9_births_84 rfl rfl ?_
      obtain ⟨hg2, h⟩ := ogd_some h
      refine go_ald4 hc dX9_births_85 (ow_k13 (of_decide_eq_true hg1)) (ow_l13 (of_decide_eq_true hg1)) hg2 rfl (oh_c (of_decide_eq_true hg1) (oin_lt hg2)) ?_
      refine go_getI hc ho flX9_292 dX9_births_86 (oh_k (of_decide_eq_true hg1) (oin_lt hg2)) ?_
      refine go_icmp_ge (tgt := 96) hc dX9_births_89 rfl (fun hh => ?_) (fun hh => ?_)
      · rw [if_pos hh] at h
        refine go_iconst hc dX9_births_96 ci_1 ?_
        refine go_iadd hc dX9_births_97 ?_
        refine go_istore hc (lv1 := [.ref 0, .int l1, .null, .int l3, .int (l4 + (1 : Int32)), .int ((((75 : Int32) * l5) + (74 : Int32)) - (((75 : Int32) * l5) + (74 : Int32)) / (65537 : Int32) * (65537 : Int32)), .int l6]) dX9_births_98 hL (by decide) (fun _ _ e => by cases e; rfl) rfl ?_
        refine go_iinc hc (lv1 := [.ref 0, .int l1, .null, .int l3, .int (l4 + (1 : Int32)), .int ((((75 : Int32) * l5) + (74 : Int32)) - (((75 : Int32) * l5) + (74 : Int32)) / (65537 : Int32) * (65537 : Int32)), .int (l6 + 1)]) dX9_births_100 rfl ci_1 hL (by decide) (fun _ _ e => by cases e; rfl) rfl ?_
        refine go_goto (tgt := 50) hc dX9_births_103 rfl ?_
        exact ih l1 l3 (l4 + (1 : Int32)) ((((75 : Int32) * l5) + (74 : Int32)) - (((75 : Int32) * l5) + (74 : Int32)) / (65537 : Int32) * (65537 : Int32)) (l6 + 1) _ h
      · rw [if_neg hh] at h
        refine go_iconst hc dX9_births_92 ci_2 ?_
        refine go_goto (tgt := 97) hc dX9_births_93 rfl ?_
        refine go_iadd hc dX9_births_97 ?_
        refine go_istore hc (lv1 := [.ref 0, .int l1, .null, .int l3, .int (l4 + (2 : Int32)), .int ((((75 : Int32) * l5) + (74 : Int32)) - (((75 : Int32) * l5) + (74 : Int32)) / (65537 : Int32) * (65537 : Int32)), .int l6]) dX9_births_98 hL (by decide) (fun _ _ e => by cases e; rfl) rfl ?_
        refine go_iinc hc (lv1 := [.ref 0, .int l1, .null, .int l3, .int (l4 + (2 : Int32)), .int ((((75 : Int32) * l5) + (74 : Int32)) - (((75 : Int32) * l5) + (74 : Int32)) / (65537 : Int32) * (65537 : Int32)), .int (l6 + 1)]) dX9_births_100 rfl ci_1 hL (by decide) (fun _ _ e => by cases e; rfl) rfl ?_
        refine go_goto (tgt := 50) hc dX9_births_103 rfl ?_
        exact ih l1 l3 (l4 + (2 : Int32)) ((((75 : Int32) * l5) + (74 : Int32)) - (((75 : Int32) * l5) + (74 : Int32)) / (65537 : Int32) * (65537 : Int32)) (l6 + 1) _ h
def fX9_births (x0 : Int32) (x1 : Int32) (x2 : Int32) (σ : OM) : Option (Int32 × OM) :=
  obi (fX9_isHouse x0 σ) (fun r1 σ2 =>
  if r1 = 0 then (
   obi (fX9_refuse (1 : Int32) σ2) (fun r16 σ17 =>
   some (r16, σ17)))
  else (if x1 < 0 then (
   obi (fX9_refuse (2 : Int32) σ2) (fun r4 σ5 =>
   some (r4, σ5)))
  else (if (65537 : Int32) ≤ x1 then (
   obi (fX9_refuse (2 : Int32) σ2) (fun r7 σ8 =>
   some (r7, σ8)))
  else (if x2 < 0 then (
   obi (fX9_refuse (2 : Int32) σ2) (fun r10 σ11 =>
   some (r10, σ11)))
  else (if x2 ≤ (99 : Int32) then (
   fX9_births_b50 oF x0 x2 (0 : Int32) x1 (0 : Int32) σ2)
  else (obi (fX9_refuse (2 : Int32) σ2) (fun r13 σ14 =>
  some (r13, σ14))))))))
set_option maxRecDepth 100000 in
set_option maxHeartbeats 4000000 in
theorem rX9_births {N : Nat} {x0 : Int32} {x1 : Int32} {x2 : Int32} {σ : OM} {r0 : Int32} {σ0 : OM} (h : fX9_births x0 x1 x2 σ = some (r0, σ0)) (hN0 : 1 ≤ N) : oEv N MX9_births [.ref 0, .int x0, .int x1, .int x2] σ (some (.int r0)) σ0 := by
  refine oEv_of (lv := [.ref 0, .int x0, .int x1, .int x2, .null, .null, .null]) (by decide +kernel) (fun g q hq => hq) (fun g => Nat.le_of_ble_eq_true rfl) ?_
  intro K hc ho hL hN1 hr hE hz
  have hN : 1 ≤ kN K := by rw [hN1]; exact hN0
  unfold fX9_births at h
  refine go_aload_n hc dX9_births_0 rfl rfl ?_
  refine go_iload_n hc dX9_births_1 rfl rfl ?_
  obtain ⟨r1, σ2, hf3, h⟩ := obi_some h
  refine go_callVi hc ho cmX9_isHouse mlX9_161 dX9_births_2 ok_0 (As := [.int x0]) (rest := []) (rX9_isHouse (N := 0) hf3 (Nat.le_refl _)) rfl (Nat.le_trans (Nat.le_of_ble_eq_true rfl) hN) rfl (Nat.le_of_ble_eq_true rfl) (Or.inl hz) ?_
  refine go_if_ne (tgt := 14) hc dX9_births_5 rfl (fun hh => ?_) (fun hh => ?_)
  · rw [if_neg hh] at h
    refine go_iload_n hc dX9_births_14 rfl rfl ?_
    refine go_if_lt (tgt := 35) hc dX9_births_15 rfl (fun hh => ?_) (fun hh => ?_)
    · rw [if_pos hh] at h
      refine go_aload_n hc dX9_births_35 rfl rfl ?_
      refine go_iconst hc dX9_births_36 ci_2 ?_
      obtain ⟨r4, σ5, hf6, h⟩ := obi_some h
      refine go_callVi hc ho cmX9_refuse mlX9_70 dX9_births_37 ok_0 (As := [.int (2 : Int32)]) (rest := []) (rX9_refuse (N := 0) hf6 (Nat.le_refl _)) rfl (Nat.le_trans (Nat.le_of_ble_eq_true rfl) hN) rfl (Nat.le_of_ble_eq_true rfl) (Or.inl hz) ?_
      exact go_iret hc (oend_i h hE) hr dX9_births_40
    · rw [if_neg hh] at h
      refine go_iload_n hc dX9_births_18 rfl rfl ?_
      refine go_ldcw hc ho kcX9_291 dX9_births_19 ?_
      refine go_icmp_ge (tgt := 35) hc dX9_births_22 rfl (fun hh => ?_) (fun hh => ?_)
      · rw [if_pos hh] at h
        refine go_aload_n hc dX9_births_35 rfl rfl ?_
        refine go_iconst hc dX9_births_36 ci_2 ?_
        obtain ⟨r7, σ8, hf9, h⟩ := obi_some h
        refine go_callVi hc ho cmX9_refuse mlX9_70 dX9_births_37 ok_0 (As := [.int (2 : Int32)]) (rest := []) (rX9_refuse (N := 0) hf9 (Nat.le_refl _)) rfl (Nat.le_trans (Nat.le_of_ble_eq_true rfl) hN) rfl (Nat.le_of_ble_eq_true rfl) (Or.inl hz) ?_
        exact go_iret hc (oend_i h hE) hr dX9_births_40
      · rw [if_neg hh] at h
        refine go_iload_n hc dX9_births_25 rfl rfl ?_
        refine go_if_lt (tgt := 35) hc dX9_births_26 rfl (fun hh => ?_) (fun hh => ?_)
        · rw [if_pos hh] at h
          refine go_aload_n hc dX9_births_35 rfl rfl ?_
          refine go_iconst hc dX9_births_36 ci_2 ?_
          obtain ⟨r10, σ11, hf12, h⟩ := obi_some h
          refine go_callVi hc ho cmX9_refuse mlX9_70 dX9_births_37 ok_0 (As := [.int (2 : Int32)]) (rest := []) (rX9_refuse (N := 0) hf12 (Nat.le_refl _)) rfl (Nat.le_trans (Nat.le_of_ble_eq_true rfl) hN) rfl (Nat.le_of_ble_eq_true rfl) (Or.inl hz) ?_
          exact go_iret hc (oend_i h hE) hr dX9_births_40
        · rw [if_neg hh] at h
          refine go_iload_n hc dX9_births_29 rfl rfl ?_
          refine go_bipush hc dX9_births_30 cb_99 ?_
          refine go_icmp_le (tgt := 41) hc dX9_births_32 rfl (fun hh => ?_) (fun hh => ?_)
          · rw [if_pos hh] at h
            refine go_iconst hc dX9_births_41 ci_0 ?_
            refine go_istore hc (lv1 := [.ref 0, .int x0, .int x1, .int x2, .int (0 : Int32), .null, .null]) dX9_births_42 hL (by decide) (fun _ _ e => by cases e; rfl) rfl ?_
            refine go_iload_n hc dX9_births_44 rfl rfl ?_
            refine go_istore hc (lv1 := [.ref 0, .int x0, .int x1, .int x2, .int (0 : Int32), .int x1, .null]) dX9_births_45 hL (by decide) (fun _ _ e => by cases e; rfl) rfl ?_
            refine go_iconst hc dX9_births_47 ci_0 ?_
            refine go_istore hc (lv1 := [.ref 0, .int x0, .int x1, .int x2, .int (0 : Int32), .int x1, .int (0 : Int32)]) dX9_births_48 hL (by decide) (fun _ _ e => by cases e; rfl) rfl ?_
            refine go_mask [true, true, false, true, true, true, true] (lv1 := [.ref 0, .int x0, .null, .int x2, .int (0 : Int32), .int x1, .int (0 : Int32)]) rfl ?_
            exact rX9_births_b50 hc ho hL hN hr hE hz oF x0 x2 (0 : Int32) x1 (0 : Int32) _ h
          · rw [if_neg hh] at h
            refine go_aload_n hc dX9_births_35 rfl rfl ?_
            refine go_iconst hc dX9_births_36 ci_2 ?_
            obtain ⟨r13, σ14, hf15, h⟩ := obi_some h
            refine go_callVi hc ho cmX9_refuse mlX9_70 dX9_births_37 ok_0 (As := [.int (2 : Int32)]) (rest := []) (rX9_refuse (N := 0) hf15 (Nat.le_refl _)) rfl (Nat.le_trans (Nat.le_of_ble_eq_true rfl) hN) rfl (Nat.le_of_ble_eq_true rfl) (Or.inl hz) ?_
            exact go_iret hc (oend_i h hE) hr dX9_births_40
  · rw [if_pos hh] at h
    refine go_aload_n hc dX9_births_8 rfl rfl ?_
    refine go_iconst hc dX9_births_9 ci_1 ?_
    obtain ⟨r16, σ17, hf18, h⟩ := obi_some h
    refine go_callVi hc ho cmX9_refuse mlX9_70 dX9_births_10 ok_0 (As := [.int (1 : Int32)]) (rest := []) (rX9_refuse (N := 0) hf18 (Nat.le_refl _)) rfl (Nat.le_trans (Nat.le_of_ble_eq_true rfl) hN) rfl (Nat.le_of_ble_eq_true rfl) (Or.inl hz) ?_
    exact go_iret hc (oend_i h hE) hr dX9_births_13
def fX0_dropOldest_b2 : Nat → Int32 → OM → Option OM
  | 0, _, _ => none
  | n + 1, l1, σ =>
    if (12 : Int32) ≤ l1 then (
     some (sI σ 61 3 (11 : Int32)))
    else (ogd (oin l1 12) (
    ogd (oin (l1 - (1 : Int32)) 12) (
    ogd (oin l1 12) (
    ogd (oin (l1 - (1 : Int32)) 12) (
    ogd (oin l1 12) (
    ogd (oin (l1 - (1 : Int32)) 12) (
    fX0_dropOldest_b2 n (l1 + 1) (sI (sI (sI σ 62 ((l1 - (1 : Int32)).toNatClampNeg) (mI σ 62 l1.toNatClampNeg)) 63 ((l1 - (1 : Int32)).toNatClampNeg) (mI (sI σ 62 ((l1 - (1 : Int32)).toNatClampNeg) (mI σ 62 l1.toNatClampNeg)) 63 l1.toNatClampNeg)) 64 ((l1 - (1 : Int32)).toNatClampNeg) (mI (sI (sI σ 62 ((l1 - (1 : Int32)).toNatClampNeg) (mI σ 62 l1.toNatClampNeg)) 63 ((l1 - (1 : Int32)).toNatClampNeg) (mI (sI σ 62 ((l1 - (1 : Int32)).toNatClampNeg) (mI σ 62 l1.toNatClampNeg)) 63 l1.toNatClampNeg)) 64 l1.toNatClampNeg)))))))))
set_option maxRecDepth 100000 in
set_option maxHeartbeats 4000000 in
theorem rX0_dropOldest_b2 {K : OK} (hc : kcc K = cX0_dropOldest) (ho : kow K = RX0) (hL : knL K = 2) (hN : 0 ≤ kN K) (hr : (kme K).sig.returnType = none) {σ0 : OM} (hE : oEnd K (none) σ0) (hz : kz K = 0) : ∀ (n : Nat) (l1 : Int32) (σ : OM), fX0_dropOldest_b2 n l1 σ = some σ0 → Go K 2 [.ref 61, .int l1] [] σ := by
  intro n
  induction n with
  | zero =>
    intro l1 σ h
    cases h
  | succ n ih =>
    intro l1 σ h
    rw [fX0_dropOldest_b2] at h
    refine go_iload_n hc dX0_dropOldest_2 rfl rfl ?_
    refine go_bipush hc dX0_dropOldest_3 cb_12 ?_
    refine go_icmp_ge (tgt := 56) hc dX0_dropOldest_5 rfl (fun hh => ?_) (fun hh => ?_)
    · rw [if_pos hh] at h
      refine go_aload_n hc dX0_dropOldest_56 rfl rfl ?_
      refine go_bipush hc dX0_dropOldest_57 cb_11 ?_
      refine go_putI hc ho fpX0_19 dX0_dropOldest_59 ok_61 (fun g => oni g _) (fun _ => rfl) ?_
      exact go_vret hc (oend_v h hE) hr dX0_dropOldest_62
    · rw [if_neg hh] at h
      refine go_aload_n hc dX0_dropOldest_8 rfl rfl ?_
      refine go_getC (b := 62) rfl hc ho flX0_9 dX0_dropOldest_9 ok_61 ?_
      refine go_iload_n hc dX0_dropOldest_12 rfl rfl ?_
      refine go_iconst hc dX0_dropOldest_13 ci_1 ?_
      refine go_isub hc dX0_dropOldest_14 ?_
      refine go_aload_n hc dX0_dropOldest_15 rfl rfl ?_
      refine go_getC (b := 62) rfl hc ho flX0_9 dX0_dropOldest_16 ok_61 ?_
      refine go_iload_n hc dX0_dropOldest_19 rfl rfl ?_
      obtain ⟨hg1, h⟩ := ogd_some h
      refine go_iald hc dX0_dropOldest_20 ok_62 ol_62 hg1 rfl ?_
      obtain ⟨hg2, h⟩ := ogd_some h
      refine go_iast hc dX0_dropOldest_21 ok_62 ol_62 hg2 rfl ?_
      refine go_aload_n hc dX0_dropOldest_22 rfl rfl ?_
      refine go_getC (b := 63) rfl hc ho flX0_13 dX0_dropOldest_23 ok_61 ?_
      refine go_iload_n hc dX0_dropOldest_26 rfl rfl ?_
      refine go_iconst hc dX0_dropOldest_27 ci_1 ?_
      refine go_isub hc dX0_dropOldest_28 ?_
      refine go_aload_n hc dX0_dropOldest_29 rfl rfl ?_
      refine go_getC (b := 63) rfl hc ho flX0_13 dX0_dropOldest_30 ok_61 ?_
      refine go_iload_n hc dX0_dropOldest_33 rfl rfl ?_
      obtain ⟨hg3, h⟩ := ogd_some h
      refine go_iald hc dX0_dropOldest_34 ok_63 ol_63 hg3 rfl ?_
      obtain ⟨hg4, h⟩ := ogd_some h
      refine go_iast hc dX0_dropOldest_35 ok_63 ol_63 hg4 rfl ?_
      refine go_aload_n hc dX0_dropOldest_36 rfl rfl ?_
      refine go_getC (b := 64) rfl hc ho flX0_16 dX0_dropOldest_37 ok_61 ?_
      refine go_iload_n hc dX0_dropOldest_40 rfl rfl ?_
      refine go_iconst hc dX0_dropOldest_41 ci_1 ?_
      refine go_isub hc dX0_dropOldest_42 ?_
      refine go_aload_n hc dX0_dropOldest_43 rfl rfl ?_
      refine go_getC (b := 64) rfl hc ho flX0_16 dX0_dropOldest_44 ok_61 ?_
      refine go_iload_n hc dX0_dropOldest_47 rfl rfl ?_
      obtain ⟨hg5, h⟩ := ogd_some h
      refine go_iald hc dX0_dropOldest_48 ok_64 ol_64 hg5 rfl ?_
      obtain ⟨hg6, h⟩ := ogd_some h
      refine go_iast hc dX0_dropOldest_49 ok_64 ol_64 hg6 rfl ?_
      refine go_iinc hc (lv1 := [.ref 61, .int (l1 + 1)]) dX0_dropOldest_50 rfl ci_1 hL (by decide) (fun _ _ e => by cases e; rfl) rfl ?_
      refine go_goto (tgt := 2) hc dX0_dropOldest_53 rfl ?_
      exact ih (l1 + 1) _ h
def fX0_dropOldest (σ : OM) : Option OM :=
  fX0_dropOldest_b2 oF (1 : Int32) σ
set_option maxRecDepth 100000 in
set_option maxHeartbeats 4000000 in
theorem rX0_dropOldest {N : Nat} {σ : OM} {σ0 : OM} (h : fX0_dropOldest σ = some σ0) (hN0 : 0 ≤ N) : oEv N MX0_dropOldest [.ref 61] σ (none) σ0 := by
  refine oEv_of (lv := [.ref 61, .null]) (by decide +kernel) (fun g q hq => hq) (fun g => Nat.le_of_ble_eq_true rfl) ?_
  intro K hc ho hL hN1 hr hE hz
  have hN : 0 ≤ kN K := by rw [hN1]; exact hN0
  unfold fX0_dropOldest at h
  refine go_iconst hc dX0_dropOldest_0 ci_1 ?_
  refine go_istore_n hc (lv1 := [.ref 61, .int (1 : Int32)]) dX0_dropOldest_1 rfl hL (by decide) (fun _ _ e => by cases e; rfl) rfl ?_
  exact rX0_dropOldest_b2 hc ho hL hN hr hE hz oF (1 : Int32) _ h
def fX0_keep_b13 (l1 : Int32) (l2 : Int32) (l3 : Int32) (σ : OM) : Option OM :=
  if (mI σ 61 3) < 0 then (
   some σ)
  else (if (mI σ 61 3) < (12 : Int32) then (
   ogd (oin (mI σ 61 3) 12) (
   ogd (oin (mI (sI σ 62 ((mI σ 61 3).toNatClampNeg) l1) 61 3) 12) (
   ogd (oin (mI (sI (sI σ 62 ((mI σ 61 3).toNatClampNeg) l1) 63 ((mI (sI σ 62 ((mI σ 61 3).toNatClampNeg) l1) 61 3).toNatClampNeg) l2) 61 3) 12) (
   some (sI (sI (sI (sI σ 62 ((mI σ 61 3).toNatClampNeg) l1) 63 ((mI (sI σ 62 ((mI σ 61 3).toNatClampNeg) l1) 61 3).toNatClampNeg) l2) 64 ((mI (sI (sI σ 62 ((mI σ 61 3).toNatClampNeg) l1) 63 ((mI (sI σ 62 ((mI σ 61 3).toNatClampNeg) l1) 61 3).toNatClampNeg) l2) 61 3).toNatClampNeg) l3) 61 3 ((mI (sI (sI (sI σ 62 ((mI σ 61 3).toNatClampNeg) l1) 63 ((mI (sI σ 62 ((mI σ 61 3).toNatClampNeg) l1) 61 3).toNatClampNeg) l2) 64 ((mI (sI (sI σ 62 ((mI σ 61 3).toNatClampNeg) l1) 63 ((mI (sI σ 62 ((mI σ 61 3).toNatClampNeg) l1) 61 3).toNatClampNeg) l2) 61 3).toNatClampNeg) l3) 61 3) + (1 : Int32)))))))
  else (some σ))
set_option maxRecDepth 100000 in
set_option maxHeartbeats 4000000 in
theorem rX0_keep_b13 {K : OK} (hc : kcc K = cX0_keep) (ho : kow K = RX0) (hL : knL K = 4) (hN : 1 ≤ kN K) (hr : (kme K).sig.returnType = none) {σ0 : OM} (hE : oEnd K (none) σ0) (hz : kz K = 0) {l1 : Int32} {l2 : Int32} {l3 : Int32} {σ : OM} (h : fX0_keep_b13 l1 l2 l3 σ = some σ0) : Go K 13 [.ref 61, .int l1, .int l2, .int l3] [] σ := by
  unfold fX0_keep_b13 at h
  refine go_aload_n hc dX0_keep_13 rfl rfl ?_
  refine go_getI hc ho flX0_19 dX0_keep_14 ok_61 ?_
  refine go_if_lt (tgt := 29) hc dX0_keep_17 rfl (fun hh => ?_) (fun hh => ?_)
  · rw [if_pos hh] at h
    exact go_vret hc (oend_v h hE) hr dX0_keep_29
  · rw [if_neg hh] at h
    refine go_aload_n hc dX0_keep_20 rfl rfl ?_
    refine go_getI hc ho flX0_19 dX0_keep_21 ok_61 ?_
    refine go_bipush hc dX0_keep_24 cb_12 ?_
    refine go_icmp_lt (tgt := 30) hc dX0_keep_26 rfl (fun hh => ?_) (fun hh => ?_)
    · rw [if_pos hh] at h
      refine go_aload_n hc dX0_keep_30 rfl rfl ?_
      refine go_getC (b := 62) rfl hc ho flX0_9 dX0_keep_31 ok_61 ?_
      refine go_aload_n hc dX0_keep_34 rfl rfl ?_
      refine go_getI hc ho flX0_19 dX0_keep_35 ok_61 ?_
      refine go_iload_n hc dX0_keep_38 rfl rfl ?_
      obtain ⟨hg1, h⟩ := ogd_some h
      refine go_iast hc dX0_keep_39 ok_62 ol_62 hg1 rfl ?_
      refine go_aload_n hc dX0_keep_40 rfl rfl ?_
      refine go_getC (b := 63) rfl hc ho flX0_13 dX0_keep_41 ok_61 ?_
      refine go_aload_n hc dX0_keep_44 rfl rfl ?_
      refine go_getI hc ho flX0_19 dX0_keep_45 ok_61 ?_
      refine go_iload_n hc dX0_keep_48 rfl rfl ?_
      obtain ⟨hg2, h⟩ := ogd_some h
      refine go_iast hc dX0_keep_49 ok_63 ol_63 hg2 rfl ?_
      refine go_aload_n hc dX0_keep_50 rfl rfl ?_
      refine go_getC (b := 64) rfl hc ho flX0_16 dX0_keep_51 ok_61 ?_
      refine go_aload_n hc dX0_keep_54 rfl rfl ?_
      refine go_getI hc ho flX0_19 dX0_keep_55 ok_61 ?_
      refine go_iload_n hc dX0_keep_58 rfl rfl ?_
      obtain ⟨hg3, h⟩ := ogd_some h
      refine go_iast hc dX0_keep_59 ok_64 ol_64 hg3 rfl ?_
      refine go_aload_n hc dX0_keep_60 rfl rfl ?_
      refine go_dup hc dX0_keep_61 rfl ?_
      refine go_getI hc ho flX0_19 dX0_keep_62 ok_61 ?_
      refine go_iconst hc dX0_keep_65 ci_1 ?_
      refine go_iadd hc dX0_keep_66 ?_
      refine go_putI hc ho fpX0_19 dX0_keep_67 ok_61 (fun g => oni g _) (fun _ => rfl) ?_
      exact go_vret hc (oend_v h hE) hr dX0_keep_70
    · rw [if_neg hh] at h
      exact go_vret hc (oend_v h hE) hr dX0_keep_29
def fX0_keep (x0 : Int32) (x1 : Int32) (x2 : Int32) (σ : OM) : Option OM :=
  if (mI σ 61 3) < (12 : Int32) then (
   fX0_keep_b13 x0 x1 x2 σ)
  else (obv (fX0_dropOldest σ) (fun σ2 =>
  fX0_keep_b13 x0 x1 x2 σ2))
set_option maxRecDepth 100000 in
set_option maxHeartbeats 4000000 in
theorem rX0_keep {N : Nat} {x0 : Int32} {x1 : Int32} {x2 : Int32} {σ : OM} {σ0 : OM} (h : fX0_keep x0 x1 x2 σ = some σ0) (hN0 : 1 ≤ N) : oEv N MX0_keep [.ref 61, .int x0, .int x1, .int x2] σ (none) σ0 := by
  refine oEv_of (lv := [.ref 61, .int x0, .int x1, .int x2]) (by decide +kernel) (fun g q hq => hq) (fun g => Nat.le_of_ble_eq_true rfl) ?_
  intro K hc ho hL hN1 hr hE hz
  have hN : 1 ≤ kN K := by rw [hN1]; exact hN0
  unfold fX0_keep at h
  refine go_aload_n hc dX0_keep_0 rfl rfl ?_
  refine go_getI hc ho flX0_19 dX0_keep_1 ok_61 ?_
  refine go_bipush hc dX0_keep_4 cb_12 ?_
  refine go_icmp_lt (tgt := 13) hc dX0_keep_6 rfl (fun hh => ?_) (fun hh => ?_)
  · rw [if_pos hh] at h
    exact rX0_keep_b13 hc ho hL hN hr hE hz h
  · rw [if_neg hh] at h
    refine go_aload_n hc dX0_keep_9 rfl rfl ?_
    obtain ⟨σ2, hf3, h⟩ := obv_some h
    refine go_callVv hc ho cmX0_dropOldest mlX0_23 dX0_keep_10 ok_61 (As := []) (rest := []) (rX0_dropOldest (N := 0) hf3 (Nat.le_refl _)) rfl (Nat.le_trans (Nat.le_of_ble_eq_true rfl) hN) rfl (Nat.le_of_ble_eq_true rfl) (Or.inl hz) ?_
    exact rX0_keep_b13 hc ho hL hN hr hE hz h
def fX9_tell_b109 (l1 : Int32) (l2 : Int32) (k0 : Int32) (σ : OM) : Option (Int32 × OM) :=
  ogd (decide (okd (mR σ 0 0) = 8)) (
  obv (fX7_add ((mR σ 0 0) + 5) l1 l2 k0 σ) (fun σ3 =>
  ogd (decide (okd (mR σ3 0 0) = 8)) (
  ogd (decide (okd (mR σ3 0 0) = 8)) (
  obv (fX3_findLiars (mR σ3 0 0) (mI σ3 (mR σ3 0 0) 4) σ3) (fun σ8 =>
  obv (fX0_keep (0 : Int32) l1 l2 σ8) (fun σ11 =>
  if k0 = 0 then (
   obi (fX9_answer (0 : Int32) σ11) (fun r13 σ14 =>
   some (r13, σ14)))
  else (obi (fX9_answer (1 : Int32) σ11) (fun r16 σ17 =>
  some (r16, σ17)))))))))
set_option maxRecDepth 100000 in
set_option maxHeartbeats 4000000 in
theorem rX9_tell_b109 {K : OK} (hc : kcc K = cX9_tell) (ho : kow K = RX9) (hL : knL K = 6) (hN : 4 ≤ kN K) (hr : (kme K).sig.returnType = (some .int)) {r0 : Int32} {σ0 : OM} (hE : oEnd K (some (.int r0)) σ0) (hz : kz K = 0) {l1 : Int32} {l2 : Int32} {k0 : Int32} {σ : OM} (h : fX9_tell_b109 l1 l2 k0 σ = some (r0, σ0)) : Go K 109 [.ref 0, .int l1, .int l2, .null, .null, .null] [.int k0] σ := by
  unfold fX9_tell_b109 at h
  refine go_istore hc (lv1 := [.ref 0, .int l1, .int l2, .null, .null, .int k0]) dX9_tell_109 hL (by decide) (fun _ _ e => by cases e; rfl) rfl ?_
  refine go_aload_n hc dX9_tell_111 rfl rfl ?_
  obtain ⟨hg1, h⟩ := ogd_some h
  refine go_getR hc ho flX9_10 dX9_tell_112 ok_0 ?_
  refine go_getC (b := (mR σ 0 0) + 5) (ow_c0_1 (of_decide_eq_true hg1)) hc ho flX9_170 dX9_tell_115 (of_decide_eq_true hg1) ?_
  refine go_iload_n hc dX9_tell_118 rfl rfl ?_
  refine go_iload_n hc dX9_tell_119 rfl rfl ?_
  refine go_iload hc dX9_tell_120 rfl ?_
  obtain ⟨σ3, hf4, h⟩ := obv_some h
  refine go_callVv hc ho cmX7_add mlX9_355 dX9_tell_122 (ow_k5 (of_decide_eq_true hg1)) (As := [.int l1, .int l2, .int k0]) (rest := []) (rX7_add (N := 0) (ow_k5 (of_decide_eq_true hg1)) hf4 (Nat.le_refl _)) rfl (Nat.le_trans (Nat.le_of_ble_eq_true rfl) hN) rfl (Nat.le_of_ble_eq_true rfl) (Or.inl hz) ?_
  refine go_aload_n hc dX9_tell_125 rfl rfl ?_
  obtain ⟨hg5, h⟩ := ogd_some h
  refine go_getR hc ho flX9_10 dX9_tell_126 ok_0 ?_
  refine go_getC (b := (mR σ3 0 0) + 10) (ow_c0_2 (of_decide_eq_true hg5)) hc ho flX9_149 dX9_tell_129 (of_decide_eq_true hg5) ?_
  refine go_aload_n hc dX9_tell_132 rfl rfl ?_
  obtain ⟨hg6, h⟩ := ogd_some h
  refine go_getR hc ho flX9_10 dX9_tell_133 ok_0 ?_
  refine go_getI hc ho flX9_100 dX9_tell_136 (of_decide_eq_true hg6) ?_
  obtain ⟨σ8, hf9, h⟩ := obv_some h
  refine go_callVv hc ho cmX3_findLiars mlX9_315 dX9_tell_139 (ow_k10 (of_decide_eq_true hg5)) (As := [.int (mI σ3 (mR σ3 0 0) 4)]) (rest := []) (rX3_findLiars (N := 3) (of_decide_eq_true hg5) hf9 (Nat.le_refl _)) rfl (Nat.le_trans (Nat.le_of_ble_eq_true rfl) hN) rfl (Nat.le_of_ble_eq_true rfl) (Or.inl hz) ?_
  refine go_aload_n hc dX9_tell_142 rfl rfl ?_
  refine go_getC (b := 61) rfl hc ho flX9_51 dX9_tell_143 ok_0 ?_
  refine go_iconst hc dX9_tell_146 ci_0 ?_
  refine go_iload_n hc dX9_tell_147 rfl rfl ?_
  refine go_iload_n hc dX9_tell_148 rfl rfl ?_
  obtain ⟨σ11, hf12, h⟩ := obv_some h
  refine go_callVv hc ho cmX0_keep mlX9_307 dX9_tell_149 ok_61 (As := [.int (0 : Int32), .int l1, .int l2]) (rest := []) (rX0_keep (N := 1) hf12 (Nat.le_refl _)) rfl (Nat.le_trans (Nat.le_of_ble_eq_true rfl) hN) rfl (Nat.le_of_ble_eq_true rfl) (Or.inl hz) ?_
  refine go_aload_n hc dX9_tell_152 rfl rfl ?_
  refine go_iload hc dX9_tell_153 rfl ?_
  refine go_if_eq (tgt := 162) hc dX9_tell_155 rfl (fun hh => ?_) (fun hh => ?_)
  · rw [if_pos hh] at h
    refine go_iconst hc dX9_tell_162 ci_0 ?_
    obtain ⟨r13, σ14, hf15, h⟩ := obi_some h
    refine go_callVi hc ho cmX9_answer mlX9_103 dX9_tell_163 ok_0 (As := [.int (0 : Int32)]) (rest := []) (rX9_answer (N := 0) hf15 (Nat.le_refl _)) rfl (Nat.le_trans (Nat.le_of_ble_eq_true rfl) hN) rfl (Nat.le_of_ble_eq_true rfl) (Or.inl hz) ?_
    exact go_iret hc (oend_i h hE) hr dX9_tell_166
  · rw [if_neg hh] at h
    refine go_iconst hc dX9_tell_158 ci_1 ?_
    refine go_goto (tgt := 163) hc dX9_tell_159 rfl ?_
    obtain ⟨r16, σ17, hf18, h⟩ := obi_some h
    refine go_callVi hc ho cmX9_answer mlX9_103 dX9_tell_163 ok_0 (As := [.int (1 : Int32)]) (rest := []) (rX9_answer (N := 0) hf18 (Nat.le_refl _)) rfl (Nat.le_trans (Nat.le_of_ble_eq_true rfl) hN) rfl (Nat.le_of_ble_eq_true rfl) (Or.inl hz) ?_
    exact go_iret hc (oend_i h hE) hr dX9_tell_166
def fX9_tell (x0 : Int32) (x1 : Int32) (x2 : Int32) (σ : OM) : Option (Int32 × OM) :=
  obi (fX9_isHouse x0 σ) (fun r1 σ2 =>
  if r1 = 0 then (
   obi (fX9_refuse (1 : Int32) σ2) (fun r4 σ5 =>
   some (r4, σ5)))
  else (obi (fX9_isQuestion x1 σ2) (fun r7 σ8 =>
  if r7 = 0 then (
   obi (fX9_refuse (1 : Int32) σ8) (fun r26 σ27 =>
   some (r26, σ27)))
  else (ogd (decide (okd (mR σ8 0 0) = 8)) (
  if (mI σ8 ((mR σ8 0 0) + 1) 4) = 0 then (
   obi (fX9_refuse (6 : Int32) σ8) (fun r23 σ24 =>
   some (r23, σ24)))
  else (ogd (decide (okd (mR σ8 0 0) = 8)) (
  if (mI σ8 ((mR σ8 0 0) + 5) 0) < (20 : Int32) then (
   ogd (decide (okd (mR σ8 0 0) = 8)) (
   obi (fX2_soWorlds (mR σ8 0 0) x1 σ8) (fun r13 σ14 =>
   ogd (decide (okd (mR σ14 0 0) = 8)) (
   obi (fX9_bitOf r13 (mI σ14 ((mR σ14 0 0) + 1) 5) σ14) (fun r17 σ18 =>
   if r17 = (1 : Int32) then (
    if (1 : Int32) = x2 then (
     fX9_tell_b109 x0 x1 (0 : Int32) σ18)
    else (fX9_tell_b109 x0 x1 (1 : Int32) σ18))
   else (if (0 : Int32) = x2 then (
    fX9_tell_b109 x0 x1 (0 : Int32) σ18)
   else (fX9_tell_b109 x0 x1 (1 : Int32) σ18)))))))
  else (obi (fX9_refuse (3 : Int32) σ8) (fun r20 σ21 =>
  some (r20, σ21))))))))))
set_option maxRecDepth 100000 in
set_option maxHeartbeats 4000000 in
theorem rX9_tell {N : Nat} {x0 : Int32} {x1 : Int32} {x2 : Int32} {σ : OM} {r0 : Int32} {σ0 : OM} (h : fX9_tell x0 x1 x2 σ = some (r0, σ0)) (hN0 : 4 ≤ N) : oEv N MX9_tell [.ref 0, .int x0, .int x1, .int x2] σ (some (.int r0)) σ0 := by
  refine oEv_of (lv := [.ref 0, .int x0, .int x1, .int x2, .null, .null]) (by decide +kernel) (fun g q hq => hq) (fun g => Nat.le_of_ble_eq_true rfl) ?_
  intro K hc ho hL hN1 hr hE hz
  have hN : 4 ≤ kN K := by rw [hN1]; exact hN0
  unfold fX9_tell at h
  refine go_aload_n hc dX9_tell_0 rfl rfl ?_
  refine go_iload_n hc dX9_tell_1 rfl rfl ?_
  obtain ⟨r1, σ2, hf3, h⟩ := obi_some h
  refine go_callVi hc ho cmX9_isHouse mlX9_161 dX9_tell_2 ok_0 (As := [.int x0]) (rest := []) (rX9_isHouse (N := 0) hf3 (Nat.le_refl _)) rfl (Nat.le_trans (Nat.le_of_ble_eq_true rfl) hN) rfl (Nat.le_of_ble_eq_true rfl) (Or.inl hz) ?_
  refine go_if_eq (tgt := 16) hc dX9_tell_5 rfl (fun hh => ?_) (fun hh => ?_)
  · rw [if_pos hh] at h
    refine go_aload_n hc dX9_tell_16 rfl rfl ?_
    refine go_iconst hc dX9_tell_17 ci_1 ?_
    obtain ⟨r4, σ5, hf6, h⟩ := obi_some h
    refine go_callVi hc ho cmX9_refuse mlX9_70 dX9_tell_18 ok_0 (As := [.int (1 : Int32)]) (rest := []) (rX9_refuse (N := 0) hf6 (Nat.le_refl _)) rfl (Nat.le_trans (Nat.le_of_ble_eq_true rfl) hN) rfl (Nat.le_of_ble_eq_true rfl) (Or.inl hz) ?_
    exact go_iret hc (oend_i h hE) hr dX9_tell_21
  · rw [if_neg hh] at h
    refine go_aload_n hc dX9_tell_8 rfl rfl ?_
    refine go_iload_n hc dX9_tell_9 rfl rfl ?_
    obtain ⟨r7, σ8, hf9, h⟩ := obi_some h
    refine go_callVi hc ho cmX9_isQuestion mlX9_133 dX9_tell_10 ok_0 (As := [.int x1]) (rest := []) (rX9_isQuestion (N := 0) hf9 (Nat.le_refl _)) rfl (Nat.le_trans (Nat.le_of_ble_eq_true rfl) hN) rfl (Nat.le_of_ble_eq_true rfl) (Or.inl hz) ?_
    refine go_if_ne (tgt := 22) hc dX9_tell_13 rfl (fun hh => ?_) (fun hh => ?_)
    · rw [if_neg hh] at h
      refine go_aload_n hc dX9_tell_22 rfl rfl ?_
      obtain ⟨hg10, h⟩ := ogd_some h
      refine go_getR hc ho flX9_10 dX9_tell_23 ok_0 ?_
      refine go_getC (b := (mR σ8 0 0) + 1) (ow_c0_0 (of_decide_eq_true hg10)) hc ho flX9_37 dX9_tell_26 (of_decide_eq_true hg10) ?_
      refine go_getI hc ho flX9_341 dX9_tell_29 (ow_k1 (of_decide_eq_true hg10)) ?_
      refine go_if_ne (tgt := 42) hc dX9_tell_32 rfl (fun hh => ?_) (fun hh => ?_)
      · rw [if_neg hh] at h
        refine go_aload_n hc dX9_tell_42 rfl rfl ?_
        obtain ⟨hg11, h⟩ := ogd_some h
        refine go_getR hc ho flX9_10 dX9_tell_43 ok_0 ?_
        refine go_getC (b := (mR σ8 0 0) + 5) (ow_c0_1 (of_decide_eq_true hg11)) hc ho flX9_170 dX9_tell_46 (of_decide_eq_true hg11) ?_
        refine go_getI hc ho flX9_231 dX9_tell_49 (ow_k5 (of_decide_eq_true hg11)) ?_
        refine go_bipush hc dX9_tell_52 cb_20 ?_
        refine go_icmp_lt (tgt := 63) hc dX9_tell_54 rfl (fun hh => ?_) (fun hh => ?_)
        · rw [if_pos hh] at h
          refine go_aload_n hc dX9_tell_63 rfl rfl ?_
          obtain ⟨hg12, h⟩ := ogd_some h
          refine go_getR hc ho flX9_10 dX9_tell_64 ok_0 ?_
          refine go_getC (b := (mR σ8 0 0) + 1) (ow_c0_0 (of_decide_eq_true hg12)) hc ho flX9_37 dX9_tell_67 (of_decide_eq_true hg12) ?_
          refine go_iload_n hc dX9_tell_70 rfl rfl ?_
          obtain ⟨r13, σ14, hf15, h⟩ := obi_some h
          refine go_callVl hc ho cmX2_soWorlds mlX9_136 dX9_tell_71 (ow_k1 (of_decide_eq_true hg12)) (As := [.int x1]) (rest := []) (rX2_soWorlds (N := 0) (of_decide_eq_true hg12) hf15 (Nat.le_refl _)) rfl (Nat.le_trans (Nat.le_of_ble_eq_true rfl) hN) rfl (Nat.le_of_ble_eq_true rfl) (Or.inl hz) ?_
          refine go_aload_n hc dX9_tell_74 rfl rfl ?_
          obtain ⟨hg16, h⟩ := ogd_some h
          refine go_getR hc ho flX9_10 dX9_tell_75 ok_0 ?_
          refine go_getC (b := (mR σ14 0 0) + 1) (ow_c0_0 (of_decide_eq_true hg16)) hc ho flX9_37 dX9_tell_78 (of_decide_eq_true hg16) ?_
          refine go_getI hc ho flX9_352 dX9_tell_81 (ow_k1 (of_decide_eq_true hg16)) ?_
          obtain ⟨r17, σ18, hf19, h⟩ := obi_some h
          refine go_callSi hc ho cmX9_bitOf mlX9_119 dX9_tell_84 (As := [.long r13, .int (mI σ14 ((mR σ14 0 0) + 1) 5)]) (rest := []) (rX9_bitOf (N := 0) hf19 (Nat.le_refl _)) rfl (Nat.le_trans (Nat.le_of_ble_eq_true rfl) hN) rfl (Nat.le_of_ble_eq_true rfl) (Or.inl hz) ?_
          refine go_iconst hc dX9_tell_87 ci_1 ?_
          refine go_icmp_ne (tgt := 95) hc dX9_tell_88 rfl (fun hh => ?_) (fun hh => ?_)
          · rw [if_neg hh] at h
            refine go_iconst hc dX9_tell_95 ci_0 ?_
            refine go_istore hc (lv1 := [.ref 0, .int x0, .int x1, .int x2, .int (0 : Int32), .null]) dX9_tell_96 hL (by decide) (fun _ _ e => by cases e; rfl) rfl ?_
            refine go_iload hc dX9_tell_98 rfl ?_
            refine go_iload_n hc dX9_tell_100 rfl rfl ?_
            refine go_icmp_eq (tgt := 108) hc dX9_tell_101 rfl (fun hh => ?_) (fun hh => ?_)
            · rw [if_pos hh] at h
              refine go_iconst hc dX9_tell_108 ci_0 ?_
              refine go_mask [true, true, true, false, false, false] (lv1 := [.ref 0, .int x0, .int x1, .null, .null, .null]) rfl ?_
              exact rX9_tell_b109 hc ho hL hN hr hE hz h
            · rw [if_neg hh] at h
              refine go_iconst hc dX9_tell_104 ci_1 ?_
              refine go_goto (tgt := 109) hc dX9_tell_105 rfl ?_
              refine go_mask [true, true, true, false, false, false] (lv1 := [.ref 0, .int x0, .int x1, .null, .null, .null]) rfl ?_
              exact rX9_tell_b109 hc ho hL hN hr hE hz h
          · rw [if_pos hh] at h
            refine go_iconst hc dX9_tell_91 ci_1 ?_
            refine go_goto (tgt := 96) hc dX9_tell_92 rfl ?_
            refine go_istore hc (lv1 := [.ref 0, .int x0, .int x1, .int x2, .int (1 : Int32), .null]) dX9_tell_96 hL (by decide) (fun _ _ e => by cases e; rfl) rfl ?_
            refine go_iload hc dX9_tell_98 rfl ?_
            refine go_iload_n hc dX9_tell_100 rfl rfl ?_
            refine go_icmp_eq (tgt := 108) hc dX9_tell_101 rfl (fun hh => ?_) (fun hh => ?_)
            · rw [if_pos hh] at h
              refine go_iconst hc dX9_tell_108 ci_0 ?_
              refine go_mask [true, true, true, false, false, false] (lv1 := [.ref 0, .int x0, .int x1, .null, .null, .null]) rfl ?_
              exact rX9_tell_b109 hc ho hL hN hr hE hz h
            · rw [if_neg hh] at h
              refine go_iconst hc dX9_tell_104 ci_1 ?_
              refine go_goto (tgt := 109) hc dX9_tell_105 rfl ?_
              refine go_mask [true, true, true, false, false, false] (lv1 := [.ref 0, .int x0, .int x1, .null, .null, .null]) rfl ?_
              exact rX9_tell_b109 hc ho hL hN hr hE hz h
        · rw [if_neg hh] at h
          refine go_aload_n hc dX9_tell_57 rfl rfl ?_
          refine go_iconst hc dX9_tell_58 ci_3 ?_
          obtain ⟨r20, σ21, hf22, h⟩ := obi_some h
          refine go_callVi hc ho cmX9_refuse mlX9_70 dX9_tell_59 ok_0 (As := [.int (3 : Int32)]) (rest := []) (rX9_refuse (N := 0) hf22 (Nat.le_refl _)) rfl (Nat.le_trans (Nat.le_of_ble_eq_true rfl) hN) rfl (Nat.le_of_ble_eq_true rfl) (Or.inl hz) ?_
          exact go_iret hc (oend_i h hE) hr dX9_tell_62
      · rw [if_pos hh] at h
        refine go_aload_n hc dX9_tell_35 rfl rfl ?_
        refine go_bipush hc dX9_tell_36 cb_6 ?_
        obtain ⟨r23, σ24, hf25, h⟩ := obi_some h
        refine go_callVi hc ho cmX9_refuse mlX9_70 dX9_tell_38 ok_0 (As := [.int (6 : Int32)]) (rest := []) (rX9_refuse (N := 0) hf25 (Nat.le_refl _)) rfl (Nat.le_trans (Nat.le_of_ble_eq_true rfl) hN) rfl (Nat.le_of_ble_eq_true rfl) (Or.inl hz) ?_
        exact go_iret hc (oend_i h hE) hr dX9_tell_41
    · rw [if_pos hh] at h
      refine go_aload_n hc dX9_tell_16 rfl rfl ?_
      refine go_iconst hc dX9_tell_17 ci_1 ?_
      obtain ⟨r26, σ27, hf28, h⟩ := obi_some h
      refine go_callVi hc ho cmX9_refuse mlX9_70 dX9_tell_18 ok_0 (As := [.int (1 : Int32)]) (rest := []) (rX9_refuse (N := 0) hf28 (Nat.le_refl _)) rfl (Nat.le_trans (Nat.le_of_ble_eq_true rfl) hN) rfl (Nat.le_of_ble_eq_true rfl) (Or.inl hz) ?_
      exact go_iret hc (oend_i h hE) hr dX9_tell_21
def fX9_ask (x0 : Int32) (x1 : Int32) (σ : OM) : Option (Int32 × OM) :=
  obi (fX9_tell x0 x1 (0 : Int32) σ) (fun r1 σ2 =>
  some (r1, σ2))
set_option maxRecDepth 100000 in
set_option maxHeartbeats 4000000 in
theorem rX9_ask {N : Nat} {x0 : Int32} {x1 : Int32} {σ : OM} {r0 : Int32} {σ0 : OM} (h : fX9_ask x0 x1 σ = some (r0, σ0)) (hN0 : 5 ≤ N) : oEv N MX9_ask [.ref 0, .int x0, .int x1] σ (some (.int r0)) σ0 := by
  refine oEv_of (lv := [.ref 0, .int x0, .int x1]) (by decide +kernel) (fun g q hq => hq) (fun g => Nat.le_of_ble_eq_true rfl) ?_
  intro K hc ho hL hN1 hr hE hz
  have hN : 5 ≤ kN K := by rw [hN1]; exact hN0
  unfold fX9_ask at h
  refine go_aload_n hc dX9_ask_0 rfl rfl ?_
  refine go_iload_n hc dX9_ask_1 rfl rfl ?_
  refine go_iload_n hc dX9_ask_2 rfl rfl ?_
  refine go_iconst hc dX9_ask_3 ci_0 ?_
  obtain ⟨r1, σ2, hf3, h⟩ := obi_some h
  refine go_callVi hc ho cmX9_tell mlX9_295 dX9_ask_4 ok_0 (As := [.int x0, .int x1, .int (0 : Int32)]) (rest := []) (rX9_tell (N := 4) hf3 (Nat.le_refl _)) rfl (Nat.le_trans (Nat.le_of_ble_eq_true rfl) hN) rfl (Nat.le_of_ble_eq_true rfl) (Or.inl hz) ?_
  exact go_iret hc (oend_i h hE) hr dX9_ask_7
