def fX2_weightOf_b13 : Nat → Nat → Int32 → Int64 → Int32 → OM → Option (Int32 × OM)
  | 0, _, _, _, _, _ => none
  | n + 1, bl0, l3, l4, l6, σ =>
    if (64 : Int32) ≤ l6 then (
     some (l3, σ))
    else (if (lg_cmp l4 (0 : Int64)) = 0 then (
     some (l3, σ))
    else (obi (fJ13_bitCount_95d88 ((l4 &&& (-l4)) - (1 : Int64)) σ) (fun r1 σ2 =>
    if (64 : Int32) ≤ r1 then (
     fX2_weightOf_b13 n bl0 l3 (l4 &&& (l4 - (1 : Int64))) (l6 + 1) σ2)
    else (ogd (oin r1 64) (
    fX2_weightOf_b13 n bl0 (l3 + (mI σ2 (bl0 + 4) r1.toNatClampNeg)) (l4 &&& (l4 - (1 : Int64))) (l6 + 1) σ2)))))
set_option maxRecDepth 100000 in
set_option maxHeartbeats 4000000 in
theorem rX2_weightOf_b13 {K : OK} (hc : kcc K = cX2_weightOf) (ho : kow K = RX2) (hL : knL K = 8) (hN : 1 ≤ kN K) (hr : (kme K).sig.returnType = (some .int)) {r0 : Int32} {σ0 : OM} (hE : oEnd K (some (.int r0)) σ0) (hz : kz K = 0) : ∀ (n : Nat) (bl0 : Nat) (l3 : Int32) (l4 : Int64) (l6 : Int32) (σ : OM), okd bl0 = 8 → fX2_weightOf_b13 n bl0 l3 l4 l6 σ = some (r0, σ0) → Go K 13 [.ref (bl0 + 1), .null, .null, .int l3, .long l4, .null, .int l6, .null] [] σ := by
  intro n
  induction n with
  | zero =>
    intro bl0 l3 l4 l6 σ hbl0 h
    cases h
  | succ n ih =>
    intro bl0 l3 l4 l6 σ hbl0 h
    rw [fX2_weightOf_b13] at h
    refine go_iload hc dX2_weightOf_13 rfl ?_
    refine go_bipush hc dX2_weightOf_15 cb_64 ?_
    refine go_icmp_ge (tgt := 72) hc dX2_weightOf_17 rfl (fun hh => ?_) (fun hh => ?_)
    · rw [if_pos hh] at h
      refine go_iload_n hc dX2_weightOf_72 rfl rfl ?_
      exact go_iret hc (oend_i h hE) hr dX2_weightOf_73
    · rw [if_neg hh] at h
      refine go_lload hc dX2_weightOf_20 rfl ?_
      refine go_lconst hc dX2_weightOf_22 cl_0 ?_
      refine go_lcmp hc dX2_weightOf_23 ?_
      refine go_if_eq (tgt := 72) hc dX2_weightOf_24 rfl (fun hh => ?_) (fun hh => ?_)
      · rw [if_pos hh] at h
        refine go_iload_n hc dX2_weightOf_72 rfl rfl ?_
        exact go_iret hc (oend_i h hE) hr dX2_weightOf_73
      · rw [if_neg hh] at h
        refine go_lload hc dX2_weightOf_27 rfl ?_
        refine go_lload hc dX2_weightOf_29 rfl ?_
        refine go_lneg hc dX2_weightOf_31 ?_
        refine go_land hc dX2_weightOf_32 ?_
        refine go_lconst hc dX2_weightOf_33 cl_1 ?_
        refine go_lsub hc dX2_weightOf_34 ?_
        obtain ⟨r1, σ2, hf3, h⟩ := obi_some h
        refine go_callSi hc ho cmJ13_bitCount_95d88 mlX2_59 dX2_weightOf_35 (As := [.long ((l4 &&& (-l4)) - (1 : Int64))]) (rest := []) (rJ13_bitCount_95d88 (N := 0) hf3 (Nat.le_refl _)) rfl (Nat.le_trans (Nat.le_of_ble_eq_true rfl) hN) rfl (Nat.le_of_ble_eq_true rfl) (Or.inl hz) ?_
        refine go_istore hc (lv1 := [.ref (bl0 + 1), .null, .null, .int l3, .long l4, .null, .int l6, .int r1]) dX2_weightOf_38 hL (by decide) (fun _ _ e => by cases e; rfl) rfl ?_
        refine go_iload hc dX2_weightOf_40 rfl ?_
        refine go_bipush hc dX2_weightOf_42 cb_64 ?_
        refine go_icmp_ge (tgt := 57) hc dX2_weightOf_44 rfl (fun hh => ?_) (fun hh => ?_)
        · rw [if_pos hh] at h
          refine go_lload hc dX2_weightOf_57 rfl ?_
          refine go_lload hc dX2_weightOf_59 rfl ?_
          refine go_lconst hc dX2_weightOf_61 cl_1 ?_
          refine go_lsub hc dX2_weightOf_62 ?_
          refine go_land hc dX2_weightOf_63 ?_
          refine go_lstore hc (lv1 := [.ref (bl0 + 1), .null, .null, .int l3, .long (l4 &&& (l4 - (1 : Int64))), .null, .int l6, .int r1]) dX2_weightOf_64 hL (by decide) (fun _ _ e => by cases e; rfl) rfl ?_
          refine go_iinc hc (lv1 := [.ref (bl0 + 1), .null, .null, .int l3, .long (l4 &&& (l4 - (1 : Int64))), .null, .int (l6 + 1), .int r1]) dX2_weightOf_66 rfl ci_1 hL (by decide) (fun _ _ e => by cases e; rfl) rfl ?_
          refine go_goto (tgt := 13) hc dX2_weightOf_69 rfl ?_
          refine go_mask [true, false, false, true, true, false, true, false] (lv1 := [.ref (bl0 + 1), .null, .null, .int l3, .long (l4 &&& (l4 - (1 : Int64))), .null, .int (l6 + 1), .null]) rfl ?_
          exact ih bl0 l3 (l4 &&& (l4 - (1 : Int64))) (l6 + 1) _ hbl0 h
        · rw [if_neg hh] at h
          refine go_iload_n hc dX2_weightOf_47 rfl rfl ?_
          refine go_aload_n hc dX2_weightOf_48 rfl rfl ?_
          refine go_getC (b := bl0 + 4) (ow_c1_10 hbl0) hc ho flX2_19 dX2_weightOf_49 (ow_k1 hbl0) ?_
          refine go_iload hc dX2_weightOf_52 rfl ?_
          obtain ⟨hg4, h⟩ := ogd_some h
          refine go_iald hc dX2_weightOf_54 (ow_k4 hbl0) (ow_l4 hbl0) hg4 rfl ?_
          refine go_iadd hc dX2_weightOf_55 ?_
          refine go_istore_n hc (lv1 := [.ref (bl0 + 1), .null, .null, .int (l3 + (mI σ2 (bl0 + 4) r1.toNatClampNeg)), .long l4, .null, .int l6, .int r1]) dX2_weightOf_56 rfl hL (by decide) (fun _ _ e => by cases e; rfl) rfl ?_
          refine go_lload hc dX2_weightOf_57 rfl ?_
          refine go_lload hc dX2_weightOf_59 rfl ?_
          refine go_lconst hc dX2_weightOf_61 cl_1 ?_
          refine go_lsub hc dX2_weightOf_62 ?_
          refine go_land hc dX2_weightOf_63 ?_
          refine go_lstore hc (lv1 := [.ref (bl0 + 1), .null, .null, .int (l3 + (mI σ2 (bl0 + 4) r1.toNatClampNeg)), .long (l4 &&& (l4 - (1 : Int64))), .null, .int l6, .int r1]) dX2_weightOf_64 hL (by decide) (fun _ _ e => by cases e; rfl) rfl ?_
          refine go_iinc hc (lv1 := [.ref (bl0 + 1), .null, .null, .int (l3 + (mI σ2 (bl0 + 4) r1.toNatClampNeg)), .long (l4 &&& (l4 - (1 : Int64))), .null, .int (l6 + 1), .int r1]) dX2_weightOf_66 rfl ci_1 hL (by decide) (fun _ _ e => by cases e; rfl) rfl ?_
          refine go_goto (tgt := 13) hc dX2_weightOf_69 rfl ?_
          refine go_mask [true, false, false, true, true, false, true, false] (lv1 := [.ref (bl0 + 1), .null, .null, .int (l3 + (mI σ2 (bl0 + 4) r1.toNatClampNeg)), .long (l4 &&& (l4 - (1 : Int64))), .null, .int (l6 + 1), .null]) rfl ?_
          exact ih bl0 (l3 + (mI σ2 (bl0 + 4) r1.toNatClampNeg)) (l4 &&& (l4 - (1 : Int64))) (l6 + 1) _ hbl0 h
def fX2_weightOf (w : Nat) (x0 : Int64) (σ : OM) : Option (Int32 × OM) :=
  fX2_weightOf_b13 oF w (0 : Int32) (x0 &&& (mL σ (w + 1) 3)) (0 : Int32) σ
set_option maxRecDepth 100000 in
set_option maxHeartbeats 4000000 in
theorem rX2_weightOf {N : Nat} {w : Nat} {x0 : Int64} {σ : OM} {r0 : Int32} {σ0 : OM} (hw : okd w = 8) (h : fX2_weightOf w x0 σ = some (r0, σ0)) (hN0 : 1 ≤ N) : oEv N MX2_weightOf [.ref (w + 1), .long x0] σ (some (.int r0)) σ0 := by
  refine oEv_of (lv := [.ref (w + 1), .long x0, .null, .null, .null, .null, .null, .null]) (by decide +kernel) (fun g q hq => hq) (fun g => Nat.le_of_ble_eq_true rfl) ?_
  intro K hc ho hL hN1 hr hE hz
  have hN : 1 ≤ kN K := by rw [hN1]; exact hN0
  unfold fX2_weightOf at h
  refine go_iconst hc dX2_weightOf_0 ci_0 ?_
  refine go_istore_n hc (lv1 := [.ref (w + 1), .long x0, .null, .int (0 : Int32), .null, .null, .null, .null]) dX2_weightOf_1 rfl hL (by decide) (fun _ _ e => by cases e; rfl) rfl ?_
  refine go_lload_n hc dX2_weightOf_2 rfl rfl ?_
  refine go_aload_n hc dX2_weightOf_3 rfl rfl ?_
  refine go_getL hc ho flX2_31 dX2_weightOf_4 (ow_k1 hw) ?_
  refine go_land hc dX2_weightOf_7 ?_
  refine go_lstore hc (lv1 := [.ref (w + 1), .long x0, .null, .int (0 : Int32), .long (x0 &&& (mL σ (w + 1) 3)), .null, .null, .null]) dX2_weightOf_8 hL (by decide) (fun _ _ e => by cases e; rfl) rfl ?_
  refine go_iconst hc dX2_weightOf_10 ci_0 ?_
  refine go_istore hc (lv1 := [.ref (w + 1), .long x0, .null, .int (0 : Int32), .long (x0 &&& (mL σ (w + 1) 3)), .null, .int (0 : Int32), .null]) dX2_weightOf_11 hL (by decide) (fun _ _ e => by cases e; rfl) rfl ?_
  refine go_mask [true, false, false, true, true, false, true, false] (lv1 := [.ref (w + 1), .null, .null, .int (0 : Int32), .long (x0 &&& (mL σ (w + 1) 3)), .null, .int (0 : Int32), .null]) rfl ?_
  exact rX2_weightOf_b13 hc ho hL hN hr hE hz oF w (0 : Int32) (x0 &&& (mL σ (w + 1) 3)) (0 : Int32) _ hw h
def fX9_commonDivisor_b3 : Nat → Int64 → Int64 → Int32 → OM → Option (Int64 × OM)
  | 0, _, _, _, _ => none
  | n + 1, l0, l2, l4, σ =>
    if (200 : Int32) ≤ l4 then (
     some (l0, σ))
    else (if (lg_cmp l2 (0 : Int64)) = 0 then (
     some (l0, σ))
    else (ogd (decide (¬ l2 = 0)) (
    fX9_commonDivisor_b3 n l2 (l0 - l0 / l2 * l2) (l4 + 1) σ)))
set_option maxRecDepth 100000 in
set_option maxHeartbeats 4000000 in
theorem rX9_commonDivisor_b3 {K : OK} (hc : kcc K = cX9_commonDivisor) (ho : kow K = RX9) (hL : knL K = 7) (hN : 0 ≤ kN K) (hr : (kme K).sig.returnType = (some .long)) {r0 : Int64} {σ0 : OM} (hE : oEnd K (some (.long r0)) σ0) (hz : kz K = 0) : ∀ (n : Nat) (l0 : Int64) (l2 : Int64) (l4 : Int32) (σ : OM), fX9_commonDivisor_b3 n l0 l2 l4 σ = some (r0, σ0) → Go K 3 [.long l0, .null, .long l2, .null, .int l4, .null, .null] [] σ := by
  intro n
  induction n with
  | zero =>
    intro l0 l2 l4 σ h
    cases h
  | succ n ih =>
    intro l0 l2 l4 σ h
    rw [fX9_commonDivisor_b3] at h
    refine go_iload hc dX9_commonDivisor_3 rfl ?_
    refine go_sipush hc dX9_commonDivisor_5 cs_200 ?_
    refine go_icmp_ge (tgt := 33) hc dX9_commonDivisor_8 rfl (fun hh => ?_) (fun hh => ?_)
    · rw [if_pos hh] at h
      refine go_lload_n hc dX9_commonDivisor_33 rfl rfl ?_
      exact go_lret hc (oend_l h hE) hr dX9_commonDivisor_34
    · rw [if_neg hh] at h
      refine go_lload_n hc dX9_commonDivisor_11 rfl rfl ?_
      refine go_lconst hc dX9_commonDivisor_12 cl_0 ?_
      refine go_lcmp hc dX9_commonDivisor_13 ?_
      refine go_if_eq (tgt := 33) hc dX9_commonDivisor_14 rfl (fun hh => ?_) (fun hh => ?_)
      · rw [if_pos hh] at h
        refine go_lload_n hc dX9_commonDivisor_33 rfl rfl ?_
        exact go_lret hc (oend_l h hE) hr dX9_commonDivisor_34
      · rw [if_neg hh] at h
        refine go_lload_n hc dX9_commonDivisor_17 rfl rfl ?_
        refine go_lload_n hc dX9_commonDivisor_18 rfl rfl ?_
        obtain ⟨hg1, h⟩ := ogd_some h
        refine go_lrem hc dX9_commonDivisor_19 (of_decide_eq_true hg1) ?_
        refine go_lstore hc (lv1 := [.long l0, .null, .long l2, .null, .int l4, .long (l0 - l0 / l2 * l2), .null]) dX9_commonDivisor_20 hL (by decide) (fun _ _ e => by cases e; rfl) rfl ?_
        refine go_lload_n hc dX9_commonDivisor_22 rfl rfl ?_
        refine go_lstore_n hc (lv1 := [.long l2, .null, .long l2, .null, .int l4, .long (l0 - l0 / l2 * l2), .null]) dX9_commonDivisor_23 rfl hL (by decide) (fun _ e _ => absurd rfl e) rfl ?_
        refine go_lload hc dX9_commonDivisor_24 rfl ?_
        refine go_lstore_n hc (lv1 := [.long l2, .null, .long (l0 - l0 / l2 * l2), .null, .int l4, .long (l0 - l0 / l2 * l2), .null]) dX9_commonDivisor_26 rfl hL (by decide) (fun _ _ e => by cases e; rfl) rfl ?_
        refine go_iinc hc (lv1 := [.long l2, .null, .long (l0 - l0 / l2 * l2), .null, .int (l4 + 1), .long (l0 - l0 / l2 * l2), .null]) dX9_commonDivisor_27 rfl ci_1 hL (by decide) (fun _ _ e => by cases e; rfl) rfl ?_
        refine go_goto (tgt := 3) hc dX9_commonDivisor_30 rfl ?_
        refine go_mask [true, false, true, false, true, false, false] (lv1 := [.long l2, .null, .long (l0 - l0 / l2 * l2), .null, .int (l4 + 1), .null, .null]) rfl ?_
        exact ih l2 (l0 - l0 / l2 * l2) (l4 + 1) _ h
def fX9_commonDivisor (x0 : Int64) (x1 : Int64) (σ : OM) : Option (Int64 × OM) :=
  fX9_commonDivisor_b3 oF x0 x1 (0 : Int32) σ
set_option maxRecDepth 100000 in
set_option maxHeartbeats 4000000 in
theorem rX9_commonDivisor {N : Nat} {x0 : Int64} {x1 : Int64} {σ : OM} {r0 : Int64} {σ0 : OM} (h : fX9_commonDivisor x0 x1 σ = some (r0, σ0)) (hN0 : 0 ≤ N) : oEv N MX9_commonDivisor [.long x0, .long x1] σ (some (.long r0)) σ0 := by
  refine oEv_of (lv := [.long x0, .null, .long x1, .null, .null, .null, .null]) (by decide +kernel) (fun g q hq => hq) (fun g => Nat.le_of_ble_eq_true rfl) ?_
  intro K hc ho hL hN1 hr hE hz
  have hN : 0 ≤ kN K := by rw [hN1]; exact hN0
  unfold fX9_commonDivisor at h
  refine go_iconst hc dX9_commonDivisor_0 ci_0 ?_
  refine go_istore hc (lv1 := [.long x0, .null, .long x1, .null, .int (0 : Int32), .null, .null]) dX9_commonDivisor_1 hL (by decide) (fun _ _ e => by cases e; rfl) rfl ?_
  exact rX9_commonDivisor_b3 hc ho hL hN hr hE hz oF x0 x1 (0 : Int32) _ h
def fX9_inLowestTerms (x0 : Int64) (x1 : Int64) (x2 : Int32) (σ : OM) : Option (Int64 × OM) :=
  obi (fX9_commonDivisor x0 x1 (sI σ 0 9 (0 : Int32))) (fun r1 σ2 =>
  if (lg_cmp r1 (0 : Int64)) = 0 then (
   if x2 = 0 then (
    some ((0 : Int64), σ2))
   else (some ((1 : Int64), σ2)))
  else (if x2 = 0 then (
   ogd (decide (¬ r1 = 0)) (
   some ((x0 / r1), σ2)))
  else (ogd (decide (¬ r1 = 0)) (
  some ((x1 / r1), σ2)))))
set_option maxRecDepth 100000 in
set_option maxHeartbeats 4000000 in
theorem rX9_inLowestTerms {N : Nat} {x0 : Int64} {x1 : Int64} {x2 : Int32} {σ : OM} {r0 : Int64} {σ0 : OM} (h : fX9_inLowestTerms x0 x1 x2 σ = some (r0, σ0)) (hN0 : 1 ≤ N) : oEv N MX9_inLowestTerms [.ref 0, .long x0, .long x1, .int x2] σ (some (.long r0)) σ0 := by
  refine oEv_of (lv := [.ref 0, .long x0, .null, .long x1, .null, .int x2, .null, .null]) (by decide +kernel) (fun g q hq => hq) (fun g => Nat.le_of_ble_eq_true rfl) ?_
  intro K hc ho hL hN1 hr hE hz
  have hN : 1 ≤ kN K := by rw [hN1]; exact hN0
  unfold fX9_inLowestTerms at h
  refine go_aload_n hc dX9_inLowestTerms_0 rfl rfl ?_
  refine go_iconst hc dX9_inLowestTerms_1 ci_0 ?_
  refine go_putI hc ho fpX9_106 dX9_inLowestTerms_2 ok_0 (fun g => oni g _) (fun _ => rfl) ?_
  refine go_lload_n hc dX9_inLowestTerms_5 rfl rfl ?_
  refine go_lload_n hc dX9_inLowestTerms_6 rfl rfl ?_
  obtain ⟨r1, σ2, hf3, h⟩ := obi_some h
  refine go_callSl hc ho cmX9_commonDivisor mlX9_359 dX9_inLowestTerms_7 (As := [.long x0, .long x1]) (rest := []) (rX9_commonDivisor (N := 0) hf3 (Nat.le_refl _)) rfl (Nat.le_trans (Nat.le_of_ble_eq_true rfl) hN) rfl (Nat.le_of_ble_eq_true rfl) (Or.inl hz) ?_
  refine go_lstore hc (lv1 := [.ref 0, .long x0, .null, .long x1, .null, .int x2, .long r1, .null]) dX9_inLowestTerms_10 hL (by decide) (fun _ _ e => by cases e; rfl) rfl ?_
  refine go_lload hc dX9_inLowestTerms_12 rfl ?_
  refine go_lconst hc dX9_inLowestTerms_14 cl_0 ?_
  refine go_lcmp hc dX9_inLowestTerms_15 ?_
  refine go_if_ne (tgt := 30) hc dX9_inLowestTerms_16 rfl (fun hh => ?_) (fun hh => ?_)
  · rw [if_neg hh] at h
    refine go_iload hc dX9_inLowestTerms_30 rfl ?_
    refine go_if_eq (tgt := 39) hc dX9_inLowestTerms_32 rfl (fun hh => ?_) (fun hh => ?_)
    · rw [if_pos hh] at h
      refine go_lload_n hc dX9_inLowestTerms_39 rfl rfl ?_
      refine go_lload hc dX9_inLowestTerms_40 rfl ?_
      obtain ⟨hg4, h⟩ := ogd_some h
      refine go_ldiv hc dX9_inLowestTerms_42 (of_decide_eq_true hg4) ?_
      exact go_lret hc (oend_l h hE) hr dX9_inLowestTerms_43
    · rw [if_neg hh] at h
      refine go_lload_n hc dX9_inLowestTerms_35 rfl rfl ?_
      refine go_goto (tgt := 40) hc dX9_inLowestTerms_36 rfl ?_
      refine go_lload hc dX9_inLowestTerms_40 rfl ?_
      obtain ⟨hg5, h⟩ := ogd_some h
      refine go_ldiv hc dX9_inLowestTerms_42 (of_decide_eq_true hg5) ?_
      exact go_lret hc (oend_l h hE) hr dX9_inLowestTerms_43
  · rw [if_pos hh] at h
    refine go_iload hc dX9_inLowestTerms_19 rfl ?_
    refine go_if_eq (tgt := 28) hc dX9_inLowestTerms_21 rfl (fun hh => ?_) (fun hh => ?_)
    · rw [if_pos hh] at h
      refine go_lconst hc dX9_inLowestTerms_28 cl_0 ?_
      exact go_lret hc (oend_l h hE) hr dX9_inLowestTerms_29
    · rw [if_neg hh] at h
      refine go_lconst hc dX9_inLowestTerms_24 cl_1 ?_
      refine go_goto (tgt := 29) hc dX9_inLowestTerms_25 rfl ?_
      exact go_lret hc (oend_l h hE) hr dX9_inLowestTerms_29
def fX9_chanceIn (x0 : Int64) (x1 : Int32) (x2 : Int32) (σ : OM) : Option (Int64 × OM) :=
  ogd (decide (okd (mR σ 0 0) = 8)) (
  obi (fX2_soWorlds (mR σ 0 0) x1 σ) (fun r2 σ3 =>
  obi (fX2_weightOf (mR σ 0 0) (x0 &&& r2) σ3) (fun r5 σ6 =>
  obi (fX2_weightOf (mR σ 0 0) x0 σ6) (fun r8 σ9 =>
  obi (fX9_inLowestTerms r5.toInt64 r8.toInt64 x2 σ9) (fun r11 σ12 =>
  some (r11, σ12))))))
set_option maxRecDepth 100000 in
set_option maxHeartbeats 4000000 in
theorem rX9_chanceIn {N : Nat} {x0 : Int64} {x1 : Int32} {x2 : Int32} {σ : OM} {r0 : Int64} {σ0 : OM} (h : fX9_chanceIn x0 x1 x2 σ = some (r0, σ0)) (hN0 : 2 ≤ N) : oEv N MX9_chanceIn [.ref 0, .long x0, .int x1, .int x2] σ (some (.long r0)) σ0 := by
  refine oEv_of (lv := [.ref 0, .long x0, .null, .int x1, .int x2, .null]) (by decide +kernel) (fun g q hq => hq) (fun g => Nat.le_of_ble_eq_true rfl) ?_
  intro K hc ho hL hN1 hr hE hz
  have hN : 2 ≤ kN K := by rw [hN1]; exact hN0
  unfold fX9_chanceIn at h
  refine go_aload_n hc dX9_chanceIn_0 rfl rfl ?_
  obtain ⟨hg1, h⟩ := ogd_some h
  refine go_getR hc ho flX9_10 dX9_chanceIn_1 ok_0 ?_
  refine go_getC (b := (mR σ 0 0) + 1) (ow_c0_0 (of_decide_eq_true hg1)) hc ho flX9_37 dX9_chanceIn_4 (of_decide_eq_true hg1) ?_
  refine go_astore hc (lv1 := [.ref 0, .long x0, .null, .int x1, .int x2, .ref ((mR σ 0 0) + 1)]) dX9_chanceIn_7 hL (by decide) (fun _ _ e => by cases e; rfl) rfl ?_
  refine go_aload_n hc dX9_chanceIn_9 rfl rfl ?_
  refine go_aload hc dX9_chanceIn_10 rfl ?_
  refine go_lload_n hc dX9_chanceIn_12 rfl rfl ?_
  refine go_aload hc dX9_chanceIn_13 rfl ?_
  refine go_iload_n hc dX9_chanceIn_15 rfl rfl ?_
  obtain ⟨r2, σ3, hf4, h⟩ := obi_some h
  refine go_callVl hc ho cmX2_soWorlds mlX9_136 dX9_chanceIn_16 (ow_k1 (of_decide_eq_true hg1)) (As := [.int x1]) (rest := [.long x0, .ref ((mR σ 0 0) + 1), .ref 0]) (rX2_soWorlds (N := 0) (of_decide_eq_true hg1) hf4 (Nat.le_refl _)) rfl (Nat.le_trans (Nat.le_of_ble_eq_true rfl) hN) rfl (Nat.le_of_ble_eq_true rfl) (Or.inl hz) ?_
  refine go_land hc dX9_chanceIn_19 ?_
  obtain ⟨r5, σ6, hf7, h⟩ := obi_some h
  refine go_callVi hc ho cmX2_weightOf mlX9_253 dX9_chanceIn_20 (ow_k1 (of_decide_eq_true hg1)) (As := [.long (x0 &&& r2)]) (rest := [.ref 0]) (rX2_weightOf (N := 1) (of_decide_eq_true hg1) hf7 (Nat.le_refl _)) rfl (Nat.le_trans (Nat.le_of_ble_eq_true rfl) hN) rfl (Nat.le_of_ble_eq_true rfl) (Or.inl hz) ?_
  refine go_i2l hc dX9_chanceIn_23 ?_
  refine go_aload hc dX9_chanceIn_24 rfl ?_
  refine go_lload_n hc dX9_chanceIn_26 rfl rfl ?_
  obtain ⟨r8, σ9, hf10, h⟩ := obi_some h
  refine go_callVi hc ho cmX2_weightOf mlX9_253 dX9_chanceIn_27 (ow_k1 (of_decide_eq_true hg1)) (As := [.long x0]) (rest := [.long r5.toInt64, .ref 0]) (rX2_weightOf (N := 1) (of_decide_eq_true hg1) hf10 (Nat.le_refl _)) rfl (Nat.le_trans (Nat.le_of_ble_eq_true rfl) hN) rfl (Nat.le_of_ble_eq_true rfl) (Or.inl hz) ?_
  refine go_i2l hc dX9_chanceIn_30 ?_
  refine go_iload hc dX9_chanceIn_31 rfl ?_
  obtain ⟨r11, σ12, hf13, h⟩ := obi_some h
  refine go_callVl hc ho cmX9_inLowestTerms mlX9_256 dX9_chanceIn_33 ok_0 (As := [.long r5.toInt64, .long r8.toInt64, .int x2]) (rest := []) (rX9_inLowestTerms (N := 1) hf13 (Nat.le_refl _)) rfl (Nat.le_trans (Nat.le_of_ble_eq_true rfl) hN) rfl (Nat.le_of_ble_eq_true rfl) (Or.inl hz) ?_
  exact go_lret hc (oend_l h hE) hr dX9_chanceIn_36
def fX9_chance (x0 : Int32) (x1 : Int32) (σ : OM) : Option (Int64 × OM) :=
  obi (fX9_isQuestion x0 σ) (fun r1 σ2 =>
  if r1 = 0 then (
   obi (fX9_refuse (1 : Int32) σ2) (fun r8 σ9 =>
   some (r8.toInt64, σ9)))
  else (ogd (decide (okd (mR σ2 0 0) = 8)) (
  obi (fX9_chanceIn (mL σ2 ((mR σ2 0 0) + 1) 3) x0 x1 σ2) (fun r5 σ6 =>
  some (r5, σ6)))))
set_option maxRecDepth 100000 in
set_option maxHeartbeats 4000000 in
theorem rX9_chance {N : Nat} {x0 : Int32} {x1 : Int32} {σ : OM} {r0 : Int64} {σ0 : OM} (h : fX9_chance x0 x1 σ = some (r0, σ0)) (hN0 : 3 ≤ N) : oEv N MX9_chance [.ref 0, .int x0, .int x1] σ (some (.long r0)) σ0 := by
  refine oEv_of (lv := [.ref 0, .int x0, .int x1]) (by decide +kernel) (fun g q hq => hq) (fun g => Nat.le_of_ble_eq_true rfl) ?_
  intro K hc ho hL hN1 hr hE hz
  have hN : 3 ≤ kN K := by rw [hN1]; exact hN0
  unfold fX9_chance at h
  refine go_aload_n hc dX9_chance_0 rfl rfl ?_
  refine go_iload_n hc dX9_chance_1 rfl rfl ?_
  obtain ⟨r1, σ2, hf3, h⟩ := obi_some h
  refine go_callVi hc ho cmX9_isQuestion mlX9_133 dX9_chance_2 ok_0 (As := [.int x0]) (rest := []) (rX9_isQuestion (N := 0) hf3 (Nat.le_refl _)) rfl (Nat.le_trans (Nat.le_of_ble_eq_true rfl) hN) rfl (Nat.le_of_ble_eq_true rfl) (Or.inl hz) ?_
  refine go_if_ne (tgt := 15) hc dX9_chance_5 rfl (fun hh => ?_) (fun hh => ?_)
  · rw [if_neg hh] at h
    refine go_aload_n hc dX9_chance_15 rfl rfl ?_
    refine go_aload_n hc dX9_chance_16 rfl rfl ?_
    obtain ⟨hg4, h⟩ := ogd_some h
    refine go_getR hc ho flX9_10 dX9_chance_17 ok_0 ?_
    refine go_getC (b := (mR σ2 0 0) + 1) (ow_c0_0 (of_decide_eq_true hg4)) hc ho flX9_37 dX9_chance_20 (of_decide_eq_true hg4) ?_
    refine go_getL hc ho flX9_113 dX9_chance_23 (ow_k1 (of_decide_eq_true hg4)) ?_
    refine go_iload_n hc dX9_chance_26 rfl rfl ?_
    refine go_iload_n hc dX9_chance_27 rfl rfl ?_
    obtain ⟨r5, σ6, hf7, h⟩ := obi_some h
    refine go_callVl hc ho cmX9_chanceIn mlX9_140 dX9_chance_28 ok_0 (As := [.long (mL σ2 ((mR σ2 0 0) + 1) 3), .int x0, .int x1]) (rest := []) (rX9_chanceIn (N := 2) hf7 (Nat.le_refl _)) rfl (Nat.le_trans (Nat.le_of_ble_eq_true rfl) hN) rfl (Nat.le_of_ble_eq_true rfl) (Or.inl hz) ?_
    exact go_lret hc (oend_l h hE) hr dX9_chance_31
  · rw [if_pos hh] at h
    refine go_aload_n hc dX9_chance_8 rfl rfl ?_
    refine go_iconst hc dX9_chance_9 ci_1 ?_
    obtain ⟨r8, σ9, hf10, h⟩ := obi_some h
    refine go_callVi hc ho cmX9_refuse mlX9_70 dX9_chance_10 ok_0 (As := [.int (1 : Int32)]) (rest := []) (rX9_refuse (N := 0) hf10 (Nat.le_refl _)) rfl (Nat.le_trans (Nat.le_of_ble_eq_true rfl) hN) rfl (Nat.le_of_ble_eq_true rfl) (Or.inl hz) ?_
    refine go_i2l hc dX9_chance_13 ?_
    exact go_lret hc (oend_l h hE) hr dX9_chance_14
def fX9_alike_b71 (l3 : Int32) (σ : OM) : Option (Int32 × OM) :=
  obi (fX9_answer l3 σ) (fun r1 σ2 =>
  some (r1, σ2))
set_option maxRecDepth 100000 in
set_option maxHeartbeats 4000000 in
theorem rX9_alike_b71 {K : OK} (hc : kcc K = cX9_alike) (ho : kow K = RX9) (hL : knL K = 5) (hN : 1 ≤ kN K) (hr : (kme K).sig.returnType = (some .int)) {r0 : Int32} {σ0 : OM} (hE : oEnd K (some (.int r0)) σ0) (hz : kz K = 0) {l3 : Int32} {σ : OM} (h : fX9_alike_b71 l3 σ = some (r0, σ0)) : Go K 71 [.ref 0, .null, .null, .int l3, .null] [] σ := by
  unfold fX9_alike_b71 at h
  refine go_aload_n hc dX9_alike_71 rfl rfl ?_
  refine go_iload_n hc dX9_alike_72 rfl rfl ?_
  obtain ⟨r1, σ2, hf3, h⟩ := obi_some h
  refine go_callVi hc ho cmX9_answer mlX9_103 dX9_alike_73 ok_0 (As := [.int l3]) (rest := []) (rX9_answer (N := 0) hf3 (Nat.le_refl _)) rfl (Nat.le_trans (Nat.le_of_ble_eq_true rfl) hN) rfl (Nat.le_of_ble_eq_true rfl) (Or.inl hz) ?_
  exact go_iret hc (oend_i h hE) hr dX9_alike_76
def fX9_alike_b27 : Nat → Int32 → Nat → Int32 → Int32 → OM → Option (Int32 × OM)
  | 0, _, _, _, _, _ => none
  | n + 1, l1, bl2, l3, l4, σ =>
    if (mI σ (bl2 + 1) 6) ≤ l4 then (
     fX9_alike_b71 l3 σ)
    else (obi (fX2_soWorlds bl2 l1 σ) (fun r1 σ2 =>
    obi (fX2_soWorlds bl2 l4 σ2) (fun r4 σ5 =>
    if (lg_cmp ((r1 ^^^ r4) &&& (mL σ5 (bl2 + 1) 3)) (0 : Int64)) = 0 then (
     fX9_alike_b27 n l1 bl2 (l3 ||| ((1 : Int32) <<< (l4 &&& 31))) (l4 + 1) σ5)
    else (fX9_alike_b27 n l1 bl2 l3 (l4 + 1) σ5))))
set_option maxRecDepth 100000 in
set_option maxHeartbeats 4000000 in
theorem rX9_alike_b27 {K : OK} (hc : kcc K = cX9_alike) (ho : kow K = RX9) (hL : knL K = 5) (hN : 1 ≤ kN K) (hr : (kme K).sig.returnType = (some .int)) {r0 : Int32} {σ0 : OM} (hE : oEnd K (some (.int r0)) σ0) (hz : kz K = 0) : ∀ (n : Nat) (l1 : Int32) (bl2 : Nat) (l3 : Int32) (l4 : Int32) (σ : OM), okd bl2 = 8 → fX9_alike_b27 n l1 bl2 l3 l4 σ = some (r0, σ0) → Go K 27 [.ref 0, .int l1, .ref (bl2 + 1), .int l3, .int l4] [] σ := by
  intro n
  induction n with
  | zero =>
    intro l1 bl2 l3 l4 σ hbl2 h
    cases h
  | succ n ih =>
    intro l1 bl2 l3 l4 σ hbl2 h
    rw [fX9_alike_b27] at h
    refine go_iload hc dX9_alike_27 rfl ?_
    refine go_aload_n hc dX9_alike_29 rfl rfl ?_
    refine go_getI hc ho flX9_144 dX9_alike_30 (ow_k1 hbl2) ?_
    refine go_icmp_ge (tgt := 71) hc dX9_alike_33 rfl (fun hh => ?_) (fun hh => ?_)
    · rw [if_pos hh] at h
      refine go_mask [true, false, false, true, false] (lv1 := [.ref 0, .null, .null, .int l3, .null]) rfl ?_
      exact rX9_alike_b71 hc ho hL hN hr hE hz h
    · rw [if_neg hh] at h
      refine go_aload_n hc dX9_alike_36 rfl rfl ?_
      refine go_iload_n hc dX9_alike_37 rfl rfl ?_
      obtain ⟨r1, σ2, hf3, h⟩ := obi_some h
      refine go_callVl hc ho cmX2_soWorlds mlX9_136 dX9_alike_38 (ow_k1 hbl2) (As := [.int l1]) (rest := []) (rX2_soWorlds (N := 0) hbl2 hf3 (Nat.le_refl _)) rfl (Nat.le_trans (Nat.le_of_ble_eq_true rfl) hN) rfl (Nat.le_of_ble_eq_true rfl) (Or.inl hz) ?_
      refine go_aload_n hc dX9_alike_41 rfl rfl ?_
      refine go_iload hc dX9_alike_42 rfl ?_
      obtain ⟨r4, σ5, hf6, h⟩ := obi_some h
      refine go_callVl hc ho cmX2_soWorlds mlX9_136 dX9_alike_44 (ow_k1 hbl2) (As := [.int l4]) (rest := [.long r1]) (rX2_soWorlds (N := 0) hbl2 hf6 (Nat.le_refl _)) rfl (Nat.le_trans (Nat.le_of_ble_eq_true rfl) hN) rfl (Nat.le_of_ble_eq_true rfl) (Or.inl hz) ?_
      refine go_lxor hc dX9_alike_47 ?_
      refine go_aload_n hc dX9_alike_48 rfl rfl ?_
      refine go_getL hc ho flX9_113 dX9_alike_49 (ow_k1 hbl2) ?_
      refine go_land hc dX9_alike_52 ?_
      refine go_lconst hc dX9_alike_53 cl_0 ?_
      refine go_lcmp hc dX9_alike_54 ?_
      refine go_if_ne (tgt := 65) hc dX9_alike_55 rfl (fun hh => ?_) (fun hh => ?_)
      · rw [if_neg hh] at h
        refine go_iinc hc (lv1 := [.ref 0, .int l1, .ref (bl2 + 1), .int l3, .int (l4 + 1)]) dX9_alike_65 rfl ci_1 hL (by decide) (fun _ _ e => by cases e; rfl) rfl ?_
        refine go_goto (tgt := 27) hc dX9_alike_68 rfl ?_
        exact ih l1 bl2 l3 (l4 + 1) _ hbl2 h
      · rw [if_pos hh] at h
        refine go_iload_n hc dX9_alike_58 rfl rfl ?_
        refine go_iconst hc dX9_alike_59 ci_1 ?_
        refine go_iload hc dX9_alike_60 rfl ?_
        refine go_ishl hc dX9_alike_62 ?_
        refine go_ior hc dX9_alike_63 ?_
        refine go_istore_n hc (lv1 := [.ref 0, .int l1, .ref (bl2 + 1), .int (l3 ||| ((1 : Int32) <<< (l4 &&& 31))), .int l4]) dX9_alike_64 rfl hL (by decide) (fun _ _ e => by cases e; rfl) rfl ?_
        refine go_iinc hc (lv1 := [.ref 0, .int l1, .ref (bl2 + 1), .int (l3 ||| ((1 : Int32) <<< (l4 &&& 31))), .int (l4 + 1)]) dX9_alike_65 rfl ci_1 hL (by decide) (fun _ _ e => by cases e; rfl) rfl ?_
        refine go_goto (tgt := 27) hc dX9_alike_68 rfl ?_
        exact ih l1 bl2 (l3 ||| ((1 : Int32) <<< (l4 &&& 31))) (l4 + 1) _ hbl2 h
def fX9_alike (x0 : Int32) (σ : OM) : Option (Int32 × OM) :=
  obi (fX9_isQuestion x0 σ) (fun r1 σ2 =>
  if r1 = 0 then (
   obi (fX9_refuse (1 : Int32) σ2) (fun r5 σ6 =>
   some (r5, σ6)))
  else (ogd (decide (okd (mR σ2 0 0) = 8)) (
  fX9_alike_b27 oF x0 (mR σ2 0 0) (0 : Int32) (0 : Int32) σ2)))
set_option maxRecDepth 100000 in
set_option maxHeartbeats 4000000 in
theorem rX9_alike {N : Nat} {x0 : Int32} {σ : OM} {r0 : Int32} {σ0 : OM} (h : fX9_alike x0 σ = some (r0, σ0)) (hN0 : 1 ≤ N) : oEv N MX9_alike [.ref 0, .int x0] σ (some (.int r0)) σ0 := by
  refine oEv_of (lv := [.ref 0, .int x0, .null, .null, .null]) (by decide +kernel) (fun g q hq => hq) (fun g => Nat.le_of_ble_eq_true rfl) ?_
  intro K hc ho hL hN1 hr hE hz
  have hN : 1 ≤ kN K := by rw [hN1]; exact hN0
  unfold fX9_alike at h
  refine go_aload_n hc dX9_alike_0 rfl rfl ?_
  refine go_iload_n hc dX9_alike_1 rfl rfl ?_
  obtain ⟨r1, σ2, hf3, h⟩ := obi_some h
  refine go_callVi hc ho cmX9_isQuestion mlX9_133 dX9_alike_2 ok_0 (As := [.int x0]) (rest := []) (rX9_isQuestion (N := 0) hf3 (Nat.le_refl _)) rfl (Nat.le_trans (Nat.le_of_ble_eq_true rfl) hN) rfl (Nat.le_of_ble_eq_true rfl) (Or.inl hz) ?_
  refine go_if_ne (tgt := 14) hc dX9_alike_5 rfl (fun hh => ?_) (fun hh => ?_)
  · rw [if_neg hh] at h
    refine go_aload_n hc dX9_alike_14 rfl rfl ?_
    obtain ⟨hg4, h⟩ := ogd_some h
    refine go_getR hc ho flX9_10 dX9_alike_15 ok_0 ?_
    refine go_getC (b := (mR σ2 0 0) + 1) (ow_c0_0 (of_decide_eq_true hg4)) hc ho flX9_37 dX9_alike_18 (of_decide_eq_true hg4) ?_
    refine go_astore_n hc (lv1 := [.ref 0, .int x0, .ref ((mR σ2 0 0) + 1), .null, .null]) dX9_alike_21 rfl hL (by decide) (fun _ _ e => by cases e; rfl) rfl ?_
    refine go_iconst hc dX9_alike_22 ci_0 ?_
    refine go_istore_n hc (lv1 := [.ref 0, .int x0, .ref ((mR σ2 0 0) + 1), .int (0 : Int32), .null]) dX9_alike_23 rfl hL (by decide) (fun _ _ e => by cases e; rfl) rfl ?_
    refine go_iconst hc dX9_alike_24 ci_0 ?_
    refine go_istore hc (lv1 := [.ref 0, .int x0, .ref ((mR σ2 0 0) + 1), .int (0 : Int32), .int (0 : Int32)]) dX9_alike_25 hL (by decide) (fun _ _ e => by cases e; rfl) rfl ?_
    exact rX9_alike_b27 hc ho hL hN hr hE hz oF x0 (mR σ2 0 0) (0 : Int32) (0 : Int32) _ (of_decide_eq_true hg4) h
  · rw [if_pos hh] at h
    refine go_aload_n hc dX9_alike_8 rfl rfl ?_
    refine go_iconst hc dX9_alike_9 ci_1 ?_
    obtain ⟨r5, σ6, hf7, h⟩ := obi_some h
    refine go_callVi hc ho cmX9_refuse mlX9_70 dX9_alike_10 ok_0 (As := [.int (1 : Int32)]) (rest := []) (rX9_refuse (N := 0) hf7 (Nat.le_refl _)) rfl (Nat.le_trans (Nat.le_of_ble_eq_true rfl) hN) rfl (Nat.le_of_ble_eq_true rfl) (Or.inl hz) ?_
    exact go_iret hc (oend_i h hE) hr dX9_alike_13
def fX9_implies (x0 : Int32) (x1 : Int32) (σ : OM) : Option (Int32 × OM) :=
  obi (fX9_isQuestion x0 σ) (fun r1 σ2 =>
  if r1 = 0 then (
   obi (fX9_refuse (1 : Int32) σ2) (fun r4 σ5 =>
   some (r4, σ5)))
  else (obi (fX9_isQuestion x1 σ2) (fun r7 σ8 =>
  if r7 = 0 then (
   obi (fX9_refuse (1 : Int32) σ8) (fun r23 σ24 =>
   some (r23, σ24)))
  else (ogd (decide (okd (mR σ8 0 0) = 8)) (
  obi (fX2_soWorlds (mR σ8 0 0) x0 σ8) (fun r11 σ12 =>
  obi (fX2_soWorlds (mR σ8 0 0) x1 σ12) (fun r14 σ15 =>
  if (lg_cmp (((mL σ8 ((mR σ8 0 0) + 1) 3) &&& r11) &&& (r14 ^^^ ((-1) : Int64))) (0 : Int64)) = 0 then (
   obi (fX9_answer (1 : Int32) σ15) (fun r20 σ21 =>
   some (r20, σ21)))
  else (obi (fX9_answer (0 : Int32) σ15) (fun r17 σ18 =>
  some (r17, σ18))))))))))
set_option maxRecDepth 100000 in
set_option maxHeartbeats 4000000 in
theorem rX9_implies {N : Nat} {x0 : Int32} {x1 : Int32} {σ : OM} {r0 : Int32} {σ0 : OM} (h : fX9_implies x0 x1 σ = some (r0, σ0)) (hN0 : 1 ≤ N) : oEv N MX9_implies [.ref 0, .int x0, .int x1] σ (some (.int r0)) σ0 := by
  refine oEv_of (lv := [.ref 0, .int x0, .int x1, .null, .null, .null]) (by decide +kernel) (fun g q hq => hq) (fun g => Nat.le_of_ble_eq_true rfl) ?_
  intro K hc ho hL hN1 hr hE hz
  have hN : 1 ≤ kN K := by rw [hN1]; exact hN0
  unfold fX9_implies at h
  refine go_aload_n hc dX9_implies_0 rfl rfl ?_
  refine go_iload_n hc dX9_implies_1 rfl rfl ?_
  obtain ⟨r1, σ2, hf3, h⟩ := obi_some h
  refine go_callVi hc ho cmX9_isQuestion mlX9_133 dX9_implies_2 ok_0 (As := [.int x0]) (rest := []) (rX9_isQuestion (N := 0) hf3 (Nat.le_refl _)) rfl (Nat.le_trans (Nat.le_of_ble_eq_true rfl) hN) rfl (Nat.le_of_ble_eq_true rfl) (Or.inl hz) ?_
  refine go_if_eq (tgt := 16) hc dX9_implies_5 rfl (fun hh => ?_) (fun hh => ?_)
  · rw [if_pos hh] at h
    refine go_aload_n hc dX9_implies_16 rfl rfl ?_
    refine go_iconst hc dX9_implies_17 ci_1 ?_
    obtain ⟨r4, σ5, hf6, h⟩ := obi_some h
    refine go_callVi hc ho cmX9_refuse mlX9_70 dX9_implies_18 ok_0 (As := [.int (1 : Int32)]) (rest := []) (rX9_refuse (N := 0) hf6 (Nat.le_refl _)) rfl (Nat.le_trans (Nat.le_of_ble_eq_true rfl) hN) rfl (Nat.le_of_ble_eq_true rfl) (Or.inl hz) ?_
    exact go_iret hc (oend_i h hE) hr dX9_implies_21
  · rw [if_neg hh] at h
    refine go_aload_n hc dX9_implies_8 rfl rfl ?_
    refine go_iload_n hc dX9_implies_9 rfl rfl ?_
    obtain ⟨r7, σ8, hf9, h⟩ := obi_some h
    refine go_callVi hc ho cmX9_isQuestion mlX9_133 dX9_implies_10 ok_0 (As := [.int x1]) (rest := []) (rX9_isQuestion (N := 0) hf9 (Nat.le_refl _)) rfl (Nat.le_trans (Nat.le_of_ble_eq_true rfl) hN) rfl (Nat.le_of_ble_eq_true rfl) (Or.inl hz) ?_
    refine go_if_ne (tgt := 22) hc dX9_implies_13 rfl (fun hh => ?_) (fun hh => ?_)
    · rw [if_neg hh] at h
      refine go_aload_n hc dX9_implies_22 rfl rfl ?_
      obtain ⟨hg10, h⟩ := ogd_some h
      refine go_getR hc ho flX9_10 dX9_implies_23 ok_0 ?_
      refine go_getC (b := (mR σ8 0 0) + 1) (ow_c0_0 (of_decide_eq_true hg10)) hc ho flX9_37 dX9_implies_26 (of_decide_eq_true hg10) ?_
      refine go_astore_n hc (lv1 := [.ref 0, .int x0, .int x1, .ref ((mR σ8 0 0) + 1), .null, .null]) dX9_implies_29 rfl hL (by decide) (fun _ _ e => by cases e; rfl) rfl ?_
      refine go_aload_n hc dX9_implies_30 rfl rfl ?_
      refine go_getL hc ho flX9_113 dX9_implies_31 (ow_k1 (of_decide_eq_true hg10)) ?_
      refine go_aload_n hc dX9_implies_34 rfl rfl ?_
      refine go_iload_n hc dX9_implies_35 rfl rfl ?_
      obtain ⟨r11, σ12, hf13, h⟩ := obi_some h
      refine go_callVl hc ho cmX2_soWorlds mlX9_136 dX9_implies_36 (ow_k1 (of_decide_eq_true hg10)) (As := [.int x0]) (rest := [.long (mL σ8 ((mR σ8 0 0) + 1) 3)]) (rX2_soWorlds (N := 0) (of_decide_eq_true hg10) hf13 (Nat.le_refl _)) rfl (Nat.le_trans (Nat.le_of_ble_eq_true rfl) hN) rfl (Nat.le_of_ble_eq_true rfl) (Or.inl hz) ?_
      refine go_land hc dX9_implies_39 ?_
      refine go_aload_n hc dX9_implies_40 rfl rfl ?_
      refine go_iload_n hc dX9_implies_41 rfl rfl ?_
      obtain ⟨r14, σ15, hf16, h⟩ := obi_some h
      refine go_callVl hc ho cmX2_soWorlds mlX9_136 dX9_implies_42 (ow_k1 (of_decide_eq_true hg10)) (As := [.int x1]) (rest := [.long ((mL σ8 ((mR σ8 0 0) + 1) 3) &&& r11)]) (rX2_soWorlds (N := 0) (of_decide_eq_true hg10) hf16 (Nat.le_refl _)) rfl (Nat.le_trans (Nat.le_of_ble_eq_true rfl) hN) rfl (Nat.le_of_ble_eq_true rfl) (Or.inl hz) ?_
      refine go_ldc2 hc ho klX9_147 dX9_implies_45 ?_
      refine go_lxor hc dX9_implies_48 ?_
      refine go_land hc dX9_implies_49 ?_
      refine go_lstore hc (lv1 := [.ref 0, .int x0, .int x1, .ref ((mR σ8 0 0) + 1), .long (((mL σ8 ((mR σ8 0 0) + 1) 3) &&& r11) &&& (r14 ^^^ ((-1) : Int64))), .null]) dX9_implies_50 hL (by decide) (fun _ _ e => by cases e; rfl) rfl ?_
      refine go_aload_n hc dX9_implies_52 rfl rfl ?_
      refine go_lload hc dX9_implies_53 rfl ?_
      refine go_lconst hc dX9_implies_55 cl_0 ?_
      refine go_lcmp hc dX9_implies_56 ?_
      refine go_if_ne (tgt := 64) hc dX9_implies_57 rfl (fun hh => ?_) (fun hh => ?_)
      · rw [if_neg hh] at h
        refine go_iconst hc dX9_implies_64 ci_0 ?_
        obtain ⟨r17, σ18, hf19, h⟩ := obi_some h
        refine go_callVi hc ho cmX9_answer mlX9_103 dX9_implies_65 ok_0 (As := [.int (0 : Int32)]) (rest := []) (rX9_answer (N := 0) hf19 (Nat.le_refl _)) rfl (Nat.le_trans (Nat.le_of_ble_eq_true rfl) hN) rfl (Nat.le_of_ble_eq_true rfl) (Or.inl hz) ?_
        exact go_iret hc (oend_i h hE) hr dX9_implies_68
      · rw [if_pos hh] at h
        refine go_iconst hc dX9_implies_60 ci_1 ?_
        refine go_goto (tgt := 65) hc dX9_implies_61 rfl ?_
        obtain ⟨r20, σ21, hf22, h⟩ := obi_some h
        refine go_callVi hc ho cmX9_answer mlX9_103 dX9_implies_65 ok_0 (As := [.int (1 : Int32)]) (rest := []) (rX9_answer (N := 0) hf22 (Nat.le_refl _)) rfl (Nat.le_trans (Nat.le_of_ble_eq_true rfl) hN) rfl (Nat.le_of_ble_eq_true rfl) (Or.inl hz) ?_
        exact go_iret hc (oend_i h hE) hr dX9_implies_68
    · rw [if_pos hh] at h
      refine go_aload_n hc dX9_implies_16 rfl rfl ?_
      refine go_iconst hc dX9_implies_17 ci_1 ?_
      obtain ⟨r23, σ24, hf25, h⟩ := obi_some h
      refine go_callVi hc ho cmX9_refuse mlX9_70 dX9_implies_18 ok_0 (As := [.int (1 : Int32)]) (rest := []) (rX9_refuse (N := 0) hf25 (Nat.le_refl _)) rfl (Nat.le_trans (Nat.le_of_ble_eq_true rfl) hN) rfl (Nat.le_of_ble_eq_true rfl) (Or.inl hz) ?_
      exact go_iret hc (oend_i h hE) hr dX9_implies_21
def fX9_liars (σ : OM) : Option (Int32 × OM) :=
  if (mI σ 0 7) = 0 then (
   obi (fX9_refuse (1 : Int32) σ) (fun r9 σ10 =>
   some (r9, σ10)))
  else (ogd (decide (okd (mR σ 0 0) = 8)) (
  if (mI σ ((mR σ 0 0) + 10) 5) = 0 then (
   obi (fX9_answer ((-2) : Int32) σ) (fun r6 σ7 =>
   some (r6, σ7)))
  else (ogd (decide (okd (mR σ 0 0) = 8)) (
  obi (fX9_answer (mI σ ((mR σ 0 0) + 10) 4) σ) (fun r3 σ4 =>
  some (r3, σ4))))))
set_option maxRecDepth 100000 in
set_option maxHeartbeats 4000000 in
theorem rX9_liars {N : Nat} {σ : OM} {r0 : Int32} {σ0 : OM} (h : fX9_liars σ = some (r0, σ0)) (hN0 : 1 ≤ N) : oEv N MX9_liars [.ref 0] σ (some (.int r0)) σ0 := by
  refine oEv_of (lv := [.ref 0]) (by decide +kernel) (fun g q hq => hq) (fun g => Nat.le_of_ble_eq_true rfl) ?_
  intro K hc ho hL hN1 hr hE hz
  have hN : 1 ≤ kN K := by rw [hN1]; exact hN0
  unfold fX9_liars at h
  refine go_aload_n hc dX9_liars_0 rfl rfl ?_
  refine go_getI hc ho flX9_90 dX9_liars_1 ok_0 ?_
  refine go_if_ne (tgt := 13) hc dX9_liars_4 rfl (fun hh => ?_) (fun hh => ?_)
  · rw [if_neg hh] at h
    refine go_aload_n hc dX9_liars_13 rfl rfl ?_
    refine go_aload_n hc dX9_liars_14 rfl rfl ?_
    obtain ⟨hg1, h⟩ := ogd_some h
    refine go_getR hc ho flX9_10 dX9_liars_15 ok_0 ?_
    refine go_getC (b := (mR σ 0 0) + 10) (ow_c0_2 (of_decide_eq_true hg1)) hc ho flX9_149 dX9_liars_18 (of_decide_eq_true hg1) ?_
    refine go_getI hc ho flX9_153 dX9_liars_21 (ow_k10 (of_decide_eq_true hg1)) ?_
    refine go_if_ne (tgt := 32) hc dX9_liars_24 rfl (fun hh => ?_) (fun hh => ?_)
    · rw [if_neg hh] at h
      refine go_aload_n hc dX9_liars_32 rfl rfl ?_
      obtain ⟨hg2, h⟩ := ogd_some h
      refine go_getR hc ho flX9_10 dX9_liars_33 ok_0 ?_
      refine go_getC (b := (mR σ 0 0) + 10) (ow_c0_2 (of_decide_eq_true hg2)) hc ho flX9_149 dX9_liars_36 (of_decide_eq_true hg2) ?_
      refine go_getI hc ho flX9_158 dX9_liars_39 (ow_k10 (of_decide_eq_true hg2)) ?_
      obtain ⟨r3, σ4, hf5, h⟩ := obi_some h
      refine go_callVi hc ho cmX9_answer mlX9_103 dX9_liars_42 ok_0 (As := [.int (mI σ ((mR σ 0 0) + 10) 4)]) (rest := []) (rX9_answer (N := 0) hf5 (Nat.le_refl _)) rfl (Nat.le_trans (Nat.le_of_ble_eq_true rfl) hN) rfl (Nat.le_of_ble_eq_true rfl) (Or.inl hz) ?_
      exact go_iret hc (oend_i h hE) hr dX9_liars_45
    · rw [if_pos hh] at h
      refine go_bipush hc dX9_liars_27 cb_m2 ?_
      refine go_goto (tgt := 42) hc dX9_liars_29 rfl ?_
      obtain ⟨r6, σ7, hf8, h⟩ := obi_some h
      refine go_callVi hc ho cmX9_answer mlX9_103 dX9_liars_42 ok_0 (As := [.int ((-2) : Int32)]) (rest := []) (rX9_answer (N := 0) hf8 (Nat.le_refl _)) rfl (Nat.le_trans (Nat.le_of_ble_eq_true rfl) hN) rfl (Nat.le_of_ble_eq_true rfl) (Or.inl hz) ?_
      exact go_iret hc (oend_i h hE) hr dX9_liars_45
  · rw [if_pos hh] at h
    refine go_aload_n hc dX9_liars_7 rfl rfl ?_
    refine go_iconst hc dX9_liars_8 ci_1 ?_
    obtain ⟨r9, σ10, hf11, h⟩ := obi_some h
    refine go_callVi hc ho cmX9_refuse mlX9_70 dX9_liars_9 ok_0 (As := [.int (1 : Int32)]) (rest := []) (rX9_refuse (N := 0) hf11 (Nat.le_refl _)) rfl (Nat.le_trans (Nat.le_of_ble_eq_true rfl) hN) rfl (Nat.le_of_ble_eq_true rfl) (Or.inl hz) ?_
    exact go_iret hc (oend_i h hE) hr dX9_liars_12
def fX9_sets (σ : OM) : Option (Int32 × OM) :=
  if (mI σ 0 7) = 0 then (
   obi (fX9_refuse (1 : Int32) σ) (fun r5 σ6 =>
   some (r5, σ6)))
  else (ogd (decide (okd (mR σ 0 0) = 8)) (
  obi (fX9_answer (mI σ ((mR σ 0 0) + 10) 5) σ) (fun r2 σ3 =>
  some (r2, σ3))))
set_option maxRecDepth 100000 in
set_option maxHeartbeats 4000000 in
theorem rX9_sets {N : Nat} {σ : OM} {r0 : Int32} {σ0 : OM} (h : fX9_sets σ = some (r0, σ0)) (hN0 : 1 ≤ N) : oEv N MX9_sets [.ref 0] σ (some (.int r0)) σ0 := by
  refine oEv_of (lv := [.ref 0]) (by decide +kernel) (fun g q hq => hq) (fun g => Nat.le_of_ble_eq_true rfl) ?_
  intro K hc ho hL hN1 hr hE hz
  have hN : 1 ≤ kN K := by rw [hN1]; exact hN0
  unfold fX9_sets at h
  refine go_aload_n hc dX9_sets_0 rfl rfl ?_
  refine go_getI hc ho flX9_90 dX9_sets_1 ok_0 ?_
  refine go_if_ne (tgt := 13) hc dX9_sets_4 rfl (fun hh => ?_) (fun hh => ?_)
  · rw [if_neg hh] at h
    refine go_aload_n hc dX9_sets_13 rfl rfl ?_
    refine go_aload_n hc dX9_sets_14 rfl rfl ?_
    obtain ⟨hg1, h⟩ := ogd_some h
    refine go_getR hc ho flX9_10 dX9_sets_15 ok_0 ?_
    refine go_getC (b := (mR σ 0 0) + 10) (ow_c0_2 (of_decide_eq_true hg1)) hc ho flX9_149 dX9_sets_18 (of_decide_eq_true hg1) ?_
    refine go_getI hc ho flX9_153 dX9_sets_21 (ow_k10 (of_decide_eq_true hg1)) ?_
    obtain ⟨r2, σ3, hf4, h⟩ := obi_some h
    refine go_callVi hc ho cmX9_answer mlX9_103 dX9_sets_24 ok_0 (As := [.int (mI σ ((mR σ 0 0) + 10) 5)]) (rest := []) (rX9_answer (N := 0) hf4 (Nat.le_refl _)) rfl (Nat.le_trans (Nat.le_of_ble_eq_true rfl) hN) rfl (Nat.le_of_ble_eq_true rfl) (Or.inl hz) ?_
    exact go_iret hc (oend_i h hE) hr dX9_sets_27
  · rw [if_pos hh] at h
    refine go_aload_n hc dX9_sets_7 rfl rfl ?_
    refine go_iconst hc dX9_sets_8 ci_1 ?_
    obtain ⟨r5, σ6, hf7, h⟩ := obi_some h
    refine go_callVi hc ho cmX9_refuse mlX9_70 dX9_sets_9 ok_0 (As := [.int (1 : Int32)]) (rest := []) (rX9_refuse (N := 0) hf7 (Nat.le_refl _)) rfl (Nat.le_trans (Nat.le_of_ble_eq_true rfl) hN) rfl (Nat.le_of_ble_eq_true rfl) (Or.inl hz) ?_
    exact go_iret hc (oend_i h hE) hr dX9_sets_12
def fX9_isHouse (x0 : Int32) (σ : OM) : Option (Int32 × OM) :=
  if x0 < 0 then (
   some ((0 : Int32), σ))
  else (ogd (decide (okd (mR σ 0 0) = 8)) (
  if (mI σ (mR σ 0 0) 4) ≤ x0 then (
   some ((0 : Int32), σ))
  else (if (6 : Int32) ≤ x0 then (
   some ((0 : Int32), σ))
  else (some ((1 : Int32), σ)))))
set_option maxRecDepth 100000 in
set_option maxHeartbeats 4000000 in
theorem rX9_isHouse {N : Nat} {x0 : Int32} {σ : OM} {r0 : Int32} {σ0 : OM} (h : fX9_isHouse x0 σ = some (r0, σ0)) (hN0 : 0 ≤ N) : oEv N MX9_isHouse [.ref 0, .int x0] σ (some (.int r0)) σ0 := by
  refine oEv_of (lv := [.ref 0, .int x0]) (by decide +kernel) (fun g q hq => hq) (fun g => Nat.le_of_ble_eq_true rfl) ?_
  intro K hc ho hL hN1 hr hE hz
  have hN : 0 ≤ kN K := by rw [hN1]; exact hN0
  unfold fX9_isHouse at h
  refine go_iload_n hc dX9_isHouse_0 rfl rfl ?_
  refine go_if_lt (tgt := 25) hc dX9_isHouse_1 rfl (fun hh => ?_) (fun hh => ?_)
  · rw [if_pos hh] at h
    refine go_iconst hc dX9_isHouse_25 ci_0 ?_
    exact go_zret hc (oend_i h hE) hr rfl dX9_isHouse_26
  · rw [if_neg hh] at h
    refine go_iload_n hc dX9_isHouse_4 rfl rfl ?_
    refine go_aload_n hc dX9_isHouse_5 rfl rfl ?_
    obtain ⟨hg1, h⟩ := ogd_some h
    refine go_getR hc ho flX9_10 dX9_isHouse_6 ok_0 ?_
    refine go_getI hc ho flX9_100 dX9_isHouse_9 (of_decide_eq_true hg1) ?_
    refine go_icmp_ge (tgt := 25) hc dX9_isHouse_12 rfl (fun hh => ?_) (fun hh => ?_)
    · rw [if_pos hh] at h
      refine go_iconst hc dX9_isHouse_25 ci_0 ?_
      exact go_zret hc (oend_i h hE) hr rfl dX9_isHouse_26
    · rw [if_neg hh] at h
      refine go_iload_n hc dX9_isHouse_15 rfl rfl ?_
      refine go_bipush hc dX9_isHouse_16 cb_6 ?_
      refine go_icmp_ge (tgt := 25) hc dX9_isHouse_18 rfl (fun hh => ?_) (fun hh => ?_)
      · rw [if_pos hh] at h
        refine go_iconst hc dX9_isHouse_25 ci_0 ?_
        exact go_zret hc (oend_i h hE) hr rfl dX9_isHouse_26
      · rw [if_neg hh] at h
        refine go_iconst hc dX9_isHouse_21 ci_1 ?_
        refine go_goto (tgt := 26) hc dX9_isHouse_22 rfl ?_
        exact go_zret hc (oend_i h hE) hr rfl dX9_isHouse_26
def fX9_lies (x0 : Int32) (σ : OM) : Option (Int32 × OM) :=
  obi (fX9_isHouse x0 σ) (fun r1 σ2 =>
  if r1 = 0 then (
   obi (fX9_refuse (1 : Int32) σ2) (fun r17 σ18 =>
   some (r17, σ18)))
  else (ogd (decide (okd (mR σ2 0 0) = 8)) (
  if (mI σ2 ((mR σ2 0 0) + 10) 5) = 0 then (
   obi (fX9_answer ((-2) : Int32) σ2) (fun r14 σ15 =>
   some (r14, σ15)))
  else (obi (fX9_bitOf ((mI σ2 ((mR σ2 0 0) + 10) 6).toInt64) x0 σ2) (fun r5 σ6 =>
  obi (fX9_bitOf ((mI σ6 ((mR σ2 0 0) + 10) 7).toInt64) x0 σ6) (fun r8 σ9 =>
  obi (fX9_answer (r5 + r8) σ9) (fun r11 σ12 =>
  some (r11, σ12))))))))
set_option maxRecDepth 100000 in
set_option maxHeartbeats 4000000 in
theorem rX9_lies {N : Nat} {x0 : Int32} {σ : OM} {r0 : Int32} {σ0 : OM} (h : fX9_lies x0 σ = some (r0, σ0)) (hN0 : 1 ≤ N) : oEv N MX9_lies [.ref 0, .int x0] σ (some (.int r0)) σ0 := by
  refine oEv_of (lv := [.ref 0, .int x0, .null]) (by decide +kernel) (fun g q hq => hq) (fun g => Nat.le_of_ble_eq_true rfl) ?_
  intro K hc ho hL hN1 hr hE hz
  have hN : 1 ≤ kN K := by rw [hN1]; exact hN0
  unfold fX9_lies at h
  refine go_aload_n hc dX9_lies_0 rfl rfl ?_
  refine go_iload_n hc dX9_lies_1 rfl rfl ?_
  obtain ⟨r1, σ2, hf3, h⟩ := obi_some h
  refine go_callVi hc ho cmX9_isHouse mlX9_161 dX9_lies_2 ok_0 (As := [.int x0]) (rest := []) (rX9_isHouse (N := 0) hf3 (Nat.le_refl _)) rfl (Nat.le_trans (Nat.le_of_ble_eq_true rfl) hN) rfl (Nat.le_of_ble_eq_true rfl) (Or.inl hz) ?_
  refine go_if_ne (tgt := 14) hc dX9_lies_5 rfl (fun hh => ?_) (fun hh => ?_)
  · rw [if_neg hh] at h
    refine go_aload_n hc dX9_lies_14 rfl rfl ?_
    obtain ⟨hg4, h⟩ := ogd_some h
    refine go_getR hc ho flX9_10 dX9_lies_15 ok_0 ?_
    refine go_getC (b := (mR σ2 0 0) + 10) (ow_c0_2 (of_decide_eq_true hg4)) hc ho flX9_149 dX9_lies_18 (of_decide_eq_true hg4) ?_
    refine go_astore_n hc (lv1 := [.ref 0, .int x0, .ref ((mR σ2 0 0) + 10)]) dX9_lies_21 rfl hL (by decide) (fun _ _ e => by cases e; rfl) rfl ?_
    refine go_aload_n hc dX9_lies_22 rfl rfl ?_
    refine go_getI hc ho flX9_153 dX9_lies_23 (ow_k10 (of_decide_eq_true hg4)) ?_
    refine go_if_ne (tgt := 36) hc dX9_lies_26 rfl (fun hh => ?_) (fun hh => ?_)
    · rw [if_neg hh] at h
      refine go_aload_n hc dX9_lies_36 rfl rfl ?_
      refine go_aload_n hc dX9_lies_37 rfl rfl ?_
      refine go_getI hc ho flX9_164 dX9_lies_38 (ow_k10 (of_decide_eq_true hg4)) ?_
      refine go_i2l hc dX9_lies_41 ?_
      refine go_iload_n hc dX9_lies_42 rfl rfl ?_
      obtain ⟨r5, σ6, hf7, h⟩ := obi_some h
      refine go_callSi hc ho cmX9_bitOf mlX9_119 dX9_lies_43 (As := [.long ((mI σ2 ((mR σ2 0 0) + 10) 6).toInt64), .int x0]) (rest := [.ref 0]) (rX9_bitOf (N := 0) hf7 (Nat.le_refl _)) rfl (Nat.le_trans (Nat.le_of_ble_eq_true rfl) hN) rfl (Nat.le_of_ble_eq_true rfl) (Or.inl hz) ?_
      refine go_aload_n hc dX9_lies_46 rfl rfl ?_
      refine go_getI hc ho flX9_167 dX9_lies_47 (ow_k10 (of_decide_eq_true hg4)) ?_
      refine go_i2l hc dX9_lies_50 ?_
      refine go_iload_n hc dX9_lies_51 rfl rfl ?_
      obtain ⟨r8, σ9, hf10, h⟩ := obi_some h
      refine go_callSi hc ho cmX9_bitOf mlX9_119 dX9_lies_52 (As := [.long ((mI σ6 ((mR σ2 0 0) + 10) 7).toInt64), .int x0]) (rest := [.int r5, .ref 0]) (rX9_bitOf (N := 0) hf10 (Nat.le_refl _)) rfl (Nat.le_trans (Nat.le_of_ble_eq_true rfl) hN) rfl (Nat.le_of_ble_eq_true rfl) (Or.inl hz) ?_
      refine go_iadd hc dX9_lies_55 ?_
      obtain ⟨r11, σ12, hf13, h⟩ := obi_some h
      refine go_callVi hc ho cmX9_answer mlX9_103 dX9_lies_56 ok_0 (As := [.int (r5 + r8)]) (rest := []) (rX9_answer (N := 0) hf13 (Nat.le_refl _)) rfl (Nat.le_trans (Nat.le_of_ble_eq_true rfl) hN) rfl (Nat.le_of_ble_eq_true rfl) (Or.inl hz) ?_
      exact go_iret hc (oend_i h hE) hr dX9_lies_59
    · rw [if_pos hh] at h
      refine go_aload_n hc dX9_lies_29 rfl rfl ?_
      refine go_bipush hc dX9_lies_30 cb_m2 ?_
      obtain ⟨r14, σ15, hf16, h⟩ := obi_some h
      refine go_callVi hc ho cmX9_answer mlX9_103 dX9_lies_32 ok_0 (As := [.int ((-2) : Int32)]) (rest := []) (rX9_answer (N := 0) hf16 (Nat.le_refl _)) rfl (Nat.le_trans (Nat.le_of_ble_eq_true rfl) hN) rfl (Nat.le_of_ble_eq_true rfl) (Or.inl hz) ?_
      exact go_iret hc (oend_i h hE) hr dX9_lies_35
  · rw [if_pos hh] at h
    refine go_aload_n hc dX9_lies_8 rfl rfl ?_
    refine go_iconst hc dX9_lies_9 ci_1 ?_
    obtain ⟨r17, σ18, hf19, h⟩ := obi_some h
    refine go_callVi hc ho cmX9_refuse mlX9_70 dX9_lies_10 ok_0 (As := [.int (1 : Int32)]) (rest := []) (rX9_refuse (N := 0) hf19 (Nat.le_refl _)) rfl (Nat.le_trans (Nat.le_of_ble_eq_true rfl) hN) rfl (Nat.le_of_ble_eq_true rfl) (Or.inl hz) ?_
    exact go_iret hc (oend_i h hE) hr dX9_lies_13
def fX7_kinOf_b15 (rc6 : Nat → Int32 → Int32 → OM → Option (Int32 × OM)) : Nat → Nat → Int32 → Int32 → Int32 → OM → Option (Int32 × OM)
  | 0, _, _, _, _, _ => none
  | n + 1, bl0, l2, l3, l4, σ =>
    if (6 : Int32) ≤ l4 then (
     rc6 bl0 l2 (l3 + 1) σ)
    else (obi (fX9_bitOf l2.toInt64 l4 σ) (fun r1 σ2 =>
    if r1 = (1 : Int32) then (
     ogd (oin l4 6) (
     fX7_kinOf_b15 rc6 n bl0 (l2 ||| (mI σ2 (bl0 + 4) l4.toNatClampNeg)) l3 (l4 + 1) σ2))
    else (fX7_kinOf_b15 rc6 n bl0 l2 l3 (l4 + 1) σ2)))
set_option maxRecDepth 100000 in
set_option maxHeartbeats 4000000 in
theorem rX7_kinOf_b15 {K : OK} (hc : kcc K = cX7_kinOf) (ho : kow K = RX7) (hL : knL K = 5) (hN : 1 ≤ kN K) (hr : (kme K).sig.returnType = (some .int)) {r0 : Int32} {σ0 : OM} (hE : oEnd K (some (.int r0)) σ0) (hz : kz K = 0) {rc6 : Nat → Int32 → Int32 → OM → Option (Int32 × OM)} (hrc6 : ∀ (bl0 : Nat) (l2 : Int32) (l3 : Int32) (σ : OM), okd bl0 = 7 → rc6 bl0 l2 l3 σ = some (r0, σ0) → Go K 6 [.ref bl0, .null, .int l2, .int l3, .null] [] σ) : ∀ (n : Nat) (bl0 : Nat) (l2 : Int32) (l3 : Int32) (l4 : Int32) (σ : OM), okd bl0 = 7 → fX7_kinOf_b15 rc6 n bl0 l2 l3 l4 σ = some (r0, σ0) → Go K 15 [.ref bl0, .null, .int l2, .int l3, .int l4] [] σ := by
  intro n
  induction n with
  | zero =>
    intro bl0 l2 l3 l4 σ hbl0 h
    cases h
  | succ n ih =>
    intro bl0 l2 l3 l4 σ hbl0 h
    rw [fX7_kinOf_b15] at h
    refine go_iload hc dX7_kinOf_15 rfl ?_
    refine go_bipush hc dX7_kinOf_17 cb_6 ?_
    refine go_icmp_ge (tgt := 49) hc dX7_kinOf_19 rfl (fun hh => ?_) (fun hh => ?_)
    · rw [if_pos hh] at h
      refine go_iinc hc (lv1 := [.ref bl0, .null, .int l2, .int (l3 + 1), .int l4]) dX7_kinOf_49 rfl ci_1 hL (by decide) (fun _ _ e => by cases e; rfl) rfl ?_
      refine go_goto (tgt := 6) hc dX7_kinOf_52 rfl ?_
      refine go_mask [true, false, true, true, false] (lv1 := [.ref bl0, .null, .int l2, .int (l3 + 1), .null]) rfl ?_
      exact hrc6 bl0 l2 (l3 + 1) _ hbl0 h
    · rw [if_neg hh] at h
      refine go_iload_n hc dX7_kinOf_22 rfl rfl ?_
      refine go_i2l hc dX7_kinOf_23 ?_
      refine go_iload hc dX7_kinOf_24 rfl ?_
      obtain ⟨r1, σ2, hf3, h⟩ := obi_some h
      refine go_callSNi hc ho cmX9_bitOf mnX7_35 dX7_kinOf_26 (As := [.long l2.toInt64, .int l4]) (rest := []) (rX9_bitOf (N := 0) hf3 (Nat.le_refl _)) rfl (Nat.le_trans (Nat.le_of_ble_eq_true rfl) hN) rfl (Nat.le_of_ble_eq_true rfl) (Or.inl hz) ?_
      refine go_iconst hc dX7_kinOf_29 ci_1 ?_
      refine go_icmp_ne (tgt := 43) hc dX7_kinOf_30 rfl (fun hh => ?_) (fun hh => ?_)
      · rw [if_neg hh] at h
        refine go_iinc hc (lv1 := [.ref bl0, .null, .int l2, .int l3, .int (l4 + 1)]) dX7_kinOf_43 rfl ci_1 hL (by decide) (fun _ _ e => by cases e; rfl) rfl ?_
        refine go_goto (tgt := 15) hc dX7_kinOf_46 rfl ?_
        exact ih bl0 l2 l3 (l4 + 1) _ hbl0 h
      · rw [if_pos hh] at h
        refine go_iload_n hc dX7_kinOf_33 rfl rfl ?_
        refine go_aload_n hc dX7_kinOf_34 rfl rfl ?_
        refine go_getC (b := bl0 + 4) (ot_c4 hbl0) hc ho flX7_22 dX7_kinOf_35 hbl0 ?_
        refine go_iload hc dX7_kinOf_38 rfl ?_
        obtain ⟨hg4, h⟩ := ogd_some h
        refine go_iald hc dX7_kinOf_40 (ot_k4 hbl0) (ot_l4 hbl0) hg4 rfl ?_
        refine go_ior hc dX7_kinOf_41 ?_
        refine go_istore_n hc (lv1 := [.ref bl0, .null, .int (l2 ||| (mI σ2 (bl0 + 4) l4.toNatClampNeg)), .int l3, .int l4]) dX7_kinOf_42 rfl hL (by decide) (fun _ _ e => by cases e; rfl) rfl ?_
        refine go_iinc hc (lv1 := [.ref bl0, .null, .int (l2 ||| (mI σ2 (bl0 + 4) l4.toNatClampNeg)), .int l3, .int (l4 + 1)]) dX7_kinOf_43 rfl ci_1 hL (by decide) (fun _ _ e => by cases e; rfl) rfl ?_
        refine go_goto (tgt := 15) hc dX7_kinOf_46 rfl ?_
        exact ih bl0 (l2 ||| (mI σ2 (bl0 + 4) l4.toNatClampNeg)) l3 (l4 + 1) _ hbl0 h
def fX7_kinOf_b6 : Nat → Nat → Int32 → Int32 → OM → Option (Int32 × OM)
  | 0, _, _, _, _ => none
  | n + 1, bl0, l2, l3, σ =>
    if (6 : Int32) ≤ l3 then (
     some (l2, σ))
    else (fX7_kinOf_b15 (fX7_kinOf_b6 n) oF bl0 l2 l3 (0 : Int32) σ)
set_option maxRecDepth 100000 in
set_option maxHeartbeats 4000000 in
theorem rX7_kinOf_b6 {K : OK} (hc : kcc K = cX7_kinOf) (ho : kow K = RX7) (hL : knL K = 5) (hN : 1 ≤ kN K) (hr : (kme K).sig.returnType = (some .int)) {r0 : Int32} {σ0 : OM} (hE : oEnd K (some (.int r0)) σ0) (hz : kz K = 0) : ∀ (n : Nat) (bl0 : Nat) (l2 : Int32) (l3 : Int32) (σ : OM), okd bl0 = 7 → fX7_kinOf_b6 n bl0 l2 l3 σ = some (r0, σ0) → Go K 6 [.ref bl0, .null, .int l2, .int l3, .null] [] σ := by
  intro n
  induction n with
  | zero =>
    intro bl0 l2 l3 σ hbl0 h
    cases h
  | succ n ih =>
    intro bl0 l2 l3 σ hbl0 h
    rw [fX7_kinOf_b6] at h
    refine go_iload_n hc dX7_kinOf_6 rfl rfl ?_
    refine go_bipush hc dX7_kinOf_7 cb_6 ?_
    refine go_icmp_ge (tgt := 55) hc dX7_kinOf_9 rfl (fun hh => ?_) (fun hh => ?_)
    · rw [if_pos hh] at h
      refine go_iload_n hc dX7_kinOf_55 rfl rfl ?_
      exact go_iret hc (oend_i h hE) hr dX7_kinOf_56
    · rw [if_neg hh] at h
      refine go_iconst hc dX7_kinOf_12 ci_0 ?_
      refine go_istore hc (lv1 := [.ref bl0, .null, .int l2, .int l3, .int (0 : Int32)]) dX7_kinOf_13 hL (by decide) (fun _ _ e => by cases e; rfl) rfl ?_
      exact rX7_kinOf_b15 hc ho hL hN hr hE hz ih oF bl0 l2 l3 (0 : Int32) _ hbl0 h
def fX7_kinOf (t : Nat) (x0 : Int32) (σ : OM) : Option (Int32 × OM) :=
  fX7_kinOf_b6 oF t ((1 : Int32) <<< (x0 &&& 31)) (1 : Int32) σ
set_option maxRecDepth 100000 in
set_option maxHeartbeats 4000000 in
theorem rX7_kinOf {N : Nat} {t : Nat} {x0 : Int32} {σ : OM} {r0 : Int32} {σ0 : OM} (ht : okd t = 7) (h : fX7_kinOf t x0 σ = some (r0, σ0)) (hN0 : 1 ≤ N) : oEv N MX7_kinOf [.ref t, .int x0] σ (some (.int r0)) σ0 := by
  refine oEv_of (lv := [.ref t, .int x0, .null, .null, .null]) (by decide +kernel) (fun g q hq => hq) (fun g => Nat.le_of_ble_eq_true rfl) ?_
  intro K hc ho hL hN1 hr hE hz
  have hN : 1 ≤ kN K := by rw [hN1]; exact hN0
  unfold fX7_kinOf at h
  refine go_iconst hc dX7_kinOf_0 ci_1 ?_
  refine go_iload_n hc dX7_kinOf_1 rfl rfl ?_
  refine go_ishl hc dX7_kinOf_2 ?_
  refine go_istore_n hc (lv1 := [.ref t, .int x0, .int ((1 : Int32) <<< (x0 &&& 31)), .null, .null]) dX7_kinOf_3 rfl hL (by decide) (fun _ _ e => by cases e; rfl) rfl ?_
  refine go_iconst hc dX7_kinOf_4 ci_1 ?_
  refine go_istore_n hc (lv1 := [.ref t, .int x0, .int ((1 : Int32) <<< (x0 &&& 31)), .int (1 : Int32), .null]) dX7_kinOf_5 rfl hL (by decide) (fun _ _ e => by cases e; rfl) rfl ?_
  refine go_mask [true, false, true, true, false] (lv1 := [.ref t, .null, .int ((1 : Int32) <<< (x0 &&& 31)), .int (1 : Int32), .null]) rfl ?_
  exact rX7_kinOf_b6 hc ho hL hN hr hE hz oF t ((1 : Int32) <<< (x0 &&& 31)) (1 : Int32) _ ht h
def fX9_kin (x0 : Int32) (σ : OM) : Option (Int32 × OM) :=
  obi (fX9_isHouse x0 σ) (fun r1 σ2 =>
  if r1 = 0 then (
   obi (fX9_refuse (1 : Int32) σ2) (fun r11 σ12 =>
   some (r11, σ12)))
  else (ogd (decide (okd (mR σ2 0 0) = 8)) (
  obi (fX7_kinOf ((mR σ2 0 0) + 5) x0 σ2) (fun r5 σ6 =>
  obi (fX9_answer r5 σ6) (fun r8 σ9 =>
  some (r8, σ9))))))
set_option maxRecDepth 100000 in
set_option maxHeartbeats 4000000 in
theorem rX9_kin {N : Nat} {x0 : Int32} {σ : OM} {r0 : Int32} {σ0 : OM} (h : fX9_kin x0 σ = some (r0, σ0)) (hN0 : 2 ≤ N) : oEv N MX9_kin [.ref 0, .int x0] σ (some (.int r0)) σ0 := by
  refine oEv_of (lv := [.ref 0, .int x0]) (by decide +kernel) (fun g q hq => hq) (fun g => Nat.le_of_ble_eq_true rfl) ?_
  intro K hc ho hL hN1 hr hE hz
  have hN : 2 ≤ kN K := by rw [hN1]; exact hN0
  unfold fX9_kin at h
  refine go_aload_n hc dX9_kin_0 rfl rfl ?_
  refine go_iload_n hc dX9_kin_1 rfl rfl ?_
  obtain ⟨r1, σ2, hf3, h⟩ := obi_some h
  refine go_callVi hc ho cmX9_isHouse mlX9_161 dX9_kin_2 ok_0 (As := [.int x0]) (rest := []) (rX9_isHouse (N := 0) hf3 (Nat.le_refl _)) rfl (Nat.le_trans (Nat.le_of_ble_eq_true rfl) hN) rfl (Nat.le_of_ble_eq_true rfl) (Or.inl hz) ?_
  refine go_if_ne (tgt := 14) hc dX9_kin_5 rfl (fun hh => ?_) (fun hh => ?_)
  · rw [if_neg hh] at h
    refine go_aload_n hc dX9_kin_14 rfl rfl ?_
    refine go_aload_n hc dX9_kin_15 rfl rfl ?_
    obtain ⟨hg4, h⟩ := ogd_some h
    refine go_getR hc ho flX9_10 dX9_kin_16 ok_0 ?_
    refine go_getC (b := (mR σ2 0 0) + 5) (ow_c0_1 (of_decide_eq_true hg4)) hc ho flX9_170 dX9_kin_19 (of_decide_eq_true hg4) ?_
    refine go_iload_n hc dX9_kin_22 rfl rfl ?_
    obtain ⟨r5, σ6, hf7, h⟩ := obi_some h
    refine go_callVi hc ho cmX7_kinOf mlX9_174 dX9_kin_23 (ow_k5 (of_decide_eq_true hg4)) (As := [.int x0]) (rest := [.ref 0]) (rX7_kinOf (N := 1) (ow_k5 (of_decide_eq_true hg4)) hf7 (Nat.le_refl _)) rfl (Nat.le_trans (Nat.le_of_ble_eq_true rfl) hN) rfl (Nat.le_of_ble_eq_true rfl) (Or.inl hz) ?_
    obtain ⟨r8, σ9, hf10, h⟩ := obi_some h
    refine go_callVi hc ho cmX9_answer mlX9_103 dX9_kin_26 ok_0 (As := [.int r5]) (rest := []) (rX9_answer (N := 0) hf10 (Nat.le_refl _)) rfl (Nat.le_trans (Nat.le_of_ble_eq_true rfl) hN) rfl (Nat.le_of_ble_eq_true rfl) (Or.inl hz) ?_
    exact go_iret hc (oend_i h hE) hr dX9_kin_29
  · rw [if_pos hh] at h
    refine go_aload_n hc dX9_kin_8 rfl rfl ?_
    refine go_iconst hc dX9_kin_9 ci_1 ?_
    obtain ⟨r11, σ12, hf13, h⟩ := obi_some h
    refine go_callVi hc ho cmX9_refuse mlX9_70 dX9_kin_10 ok_0 (As := [.int (1 : Int32)]) (rest := []) (rX9_refuse (N := 0) hf13 (Nat.le_refl _)) rfl (Nat.le_trans (Nat.le_of_ble_eq_true rfl) hN) rfl (Nat.le_of_ble_eq_true rfl) (Or.inl hz) ?_
    exact go_iret hc (oend_i h hE) hr dX9_kin_13
def fX3_worldsByAnswer_b44 (bl0 : Nat) (l1 : Int32) (k0 : Int32) (σ : OM) : Option (Int64 × OM) :=
  ogd (oin l1 20) (
  ogd (oin l1 20) (
  if (mI σ (bl0 + 8) l1.toNatClampNeg) = k0 then (
   obi (fX2_worldsWith bl0 (mI σ (bl0 + 7) l1.toNatClampNeg) (0 : Int32) σ) (fun r3 σ4 =>
   some (r3, σ4)))
  else (obi (fX2_worldsWith bl0 (mI σ (bl0 + 7) l1.toNatClampNeg) (1 : Int32) σ) (fun r6 σ7 =>
  some (r6, σ7)))))
set_option maxRecDepth 100000 in
set_option maxHeartbeats 4000000 in
theorem rX3_worldsByAnswer_b44 {K : OK} (hc : kcc K = cX3_worldsByAnswer) (ho : kow K = RX3) (hL : knL K = 3) (hN : 2 ≤ kN K) (hr : (kme K).sig.returnType = (some .long)) {r0 : Int64} {σ0 : OM} (hE : oEnd K (some (.long r0)) σ0) (hz : kz K = 0) {bl0 : Nat} {l1 : Int32} {k0 : Int32} {σ : OM} (hbl0 : okd bl0 = 8) (h : fX3_worldsByAnswer_b44 bl0 l1 k0 σ = some (r0, σ0)) : Go K 44 [.ref (bl0 + 10), .int l1, .null] [.int k0] σ := by
  unfold fX3_worldsByAnswer_b44 at h
  refine go_istore_n hc (lv1 := [.ref (bl0 + 10), .int l1, .int k0]) dX3_worldsByAnswer_44 rfl hL (by decide) (fun _ _ e => by cases e; rfl) rfl ?_
  refine go_aload_n hc dX3_worldsByAnswer_45 rfl rfl ?_
  refine go_getC (b := bl0 + 1) (ow_c10_0 hbl0) hc ho flX3_18 dX3_worldsByAnswer_46 (ow_k10 hbl0) ?_
  refine go_aload_n hc dX3_worldsByAnswer_49 rfl rfl ?_
  refine go_getC (b := bl0 + 5) (ow_c10_1 hbl0) hc ho flX3_22 dX3_worldsByAnswer_50 (ow_k10 hbl0) ?_
  refine go_getC (b := bl0 + 7) (ow_c5_2 hbl0) hc ho flX3_67 dX3_worldsByAnswer_53 (ow_k5 hbl0) ?_
  refine go_iload_n hc dX3_worldsByAnswer_56 rfl rfl ?_
  obtain ⟨hg1, h⟩ := ogd_some h
  refine go_iald hc dX3_worldsByAnswer_57 (ow_k7 hbl0) (ow_l7 hbl0) hg1 rfl ?_
  refine go_aload_n hc dX3_worldsByAnswer_58 rfl rfl ?_
  refine go_getC (b := bl0 + 5) (ow_c10_1 hbl0) hc ho flX3_22 dX3_worldsByAnswer_59 (ow_k10 hbl0) ?_
  refine go_getC (b := bl0 + 8) (ow_c5_3 hbl0) hc ho flX3_70 dX3_worldsByAnswer_62 (ow_k5 hbl0) ?_
  refine go_iload_n hc dX3_worldsByAnswer_65 rfl rfl ?_
  obtain ⟨hg2, h⟩ := ogd_some h
  refine go_zald hc dX3_worldsByAnswer_66 (ow_k8 hbl0) (ow_l8 hbl0) hg2 rfl ?_
  refine go_iload_n hc dX3_worldsByAnswer_67 rfl rfl ?_
  refine go_icmp_eq (tgt := 75) hc dX3_worldsByAnswer_68 rfl (fun hh => ?_) (fun hh => ?_)
  · rw [if_pos hh] at h
    refine go_iconst hc dX3_worldsByAnswer_75 ci_0 ?_
    obtain ⟨r3, σ4, hf5, h⟩ := obi_some h
    refine go_callVl hc ho cmX2_worldsWith mlX3_74 dX3_worldsByAnswer_76 (ow_k1 hbl0) (As := [.int (mI σ (bl0 + 7) l1.toNatClampNeg), .int (0 : Int32)]) (rest := []) (rX2_worldsWith (N := 1) hbl0 hf5 (Nat.le_refl _)) rfl (Nat.le_trans (Nat.le_of_ble_eq_true rfl) hN) rfl (Nat.le_of_ble_eq_true rfl) (Or.inl hz) ?_
    exact go_lret hc (oend_l h hE) hr dX3_worldsByAnswer_79
  · rw [if_neg hh] at h
    refine go_iconst hc dX3_worldsByAnswer_71 ci_1 ?_
    refine go_goto (tgt := 76) hc dX3_worldsByAnswer_72 rfl ?_
    obtain ⟨r6, σ7, hf8, h⟩ := obi_some h
    refine go_callVl hc ho cmX2_worldsWith mlX3_74 dX3_worldsByAnswer_76 (ow_k1 hbl0) (As := [.int (mI σ (bl0 + 7) l1.toNatClampNeg), .int (1 : Int32)]) (rest := []) (rX2_worldsWith (N := 1) hbl0 hf8 (Nat.le_refl _)) rfl (Nat.le_trans (Nat.le_of_ble_eq_true rfl) hN) rfl (Nat.le_of_ble_eq_true rfl) (Or.inl hz) ?_
    exact go_lret hc (oend_l h hE) hr dX3_worldsByAnswer_79
def fX3_worldsByAnswer (w : Nat) (x0 : Int32) (σ : OM) : Option (Int64 × OM) :=
  if x0 < 0 then (
   some ((mL σ (w + 1) 3), σ))
  else (if x0 < (20 : Int32) then (
   ogd (oin x0 20) (
   obi (fX9_bitOf ((mI σ (w + 10) 4).toInt64) (mI σ (w + 6) x0.toNatClampNeg) σ) (fun r2 σ3 =>
   if r2 = (1 : Int32) then (
    fX3_worldsByAnswer_b44 w x0 (1 : Int32) σ3)
   else (fX3_worldsByAnswer_b44 w x0 (0 : Int32) σ3))))
  else (some ((mL σ (w + 1) 3), σ)))
set_option maxRecDepth 100000 in
set_option maxHeartbeats 4000000 in
theorem rX3_worldsByAnswer {N : Nat} {w : Nat} {x0 : Int32} {σ : OM} {r0 : Int64} {σ0 : OM} (hw : okd w = 8) (h : fX3_worldsByAnswer w x0 σ = some (r0, σ0)) (hN0 : 2 ≤ N) : oEv N MX3_worldsByAnswer [.ref (w + 10), .int x0] σ (some (.long r0)) σ0 := by
  refine oEv_of (lv := [.ref (w + 10), .int x0, .null]) (by decide +kernel) (fun g q hq => hq) (fun g => Nat.le_of_ble_eq_true rfl) ?_
  intro K hc ho hL hN1 hr hE hz
  have hN : 2 ≤ kN K := by rw [hN1]; exact hN0
  unfold fX3_worldsByAnswer at h
  refine go_iload_n hc dX3_worldsByAnswer_0 rfl rfl ?_
  refine go_if_lt (tgt := 10) hc dX3_worldsByAnswer_1 rfl (fun hh => ?_) (fun hh => ?_)
  · rw [if_pos hh] at h
    refine go_aload_n hc dX3_worldsByAnswer_10 rfl rfl ?_
    refine go_getC (b := w + 1) (ow_c10_0 hw) hc ho flX3_18 dX3_worldsByAnswer_11 (ow_k10 hw) ?_
    refine go_getL hc ho flX3_52 dX3_worldsByAnswer_14 (ow_k1 hw) ?_
    exact go_lret hc (oend_l h hE) hr dX3_worldsByAnswer_17
  · rw [if_neg hh] at h
    refine go_iload_n hc dX3_worldsByAnswer_4 rfl rfl ?_
    refine go_bipush hc dX3_worldsByAnswer_5 cb_20 ?_
    refine go_icmp_lt (tgt := 18) hc dX3_worldsByAnswer_7 rfl (fun hh => ?_) (fun hh => ?_)
    · rw [if_pos hh] at h
      refine go_aload_n hc dX3_worldsByAnswer_18 rfl rfl ?_
      refine go_getI hc ho flX3_29 dX3_worldsByAnswer_19 (ow_k10 hw) ?_
      refine go_i2l hc dX3_worldsByAnswer_22 ?_
      refine go_aload_n hc dX3_worldsByAnswer_23 rfl rfl ?_
      refine go_getC (b := w + 5) (ow_c10_1 hw) hc ho flX3_22 dX3_worldsByAnswer_24 (ow_k10 hw) ?_
      refine go_getC (b := w + 6) (ow_c5_1 hw) hc ho flX3_63 dX3_worldsByAnswer_27 (ow_k5 hw) ?_
      refine go_iload_n hc dX3_worldsByAnswer_30 rfl rfl ?_
      obtain ⟨hg1, h⟩ := ogd_some h
      refine go_iald hc dX3_worldsByAnswer_31 (ow_k6 hw) (ow_l6 hw) hg1 rfl ?_
      obtain ⟨r2, σ3, hf4, h⟩ := obi_some h
      refine go_callSNi hc ho cmX9_bitOf mnX3_78 dX3_worldsByAnswer_32 (As := [.long ((mI σ (w + 10) 4).toInt64), .int (mI σ (w + 6) x0.toNatClampNeg)]) (rest := []) (rX9_bitOf (N := 0) hf4 (Nat.le_refl _)) rfl (Nat.le_trans (Nat.le_of_ble_eq_true rfl) hN) rfl (Nat.le_of_ble_eq_true rfl) (Or.inl hz) ?_
      refine go_iconst hc dX3_worldsByAnswer_35 ci_1 ?_
      refine go_icmp_ne (tgt := 43) hc dX3_worldsByAnswer_36 rfl (fun hh => ?_) (fun hh => ?_)
      · rw [if_neg hh] at h
        refine go_iconst hc dX3_worldsByAnswer_43 ci_0 ?_
        exact rX3_worldsByAnswer_b44 hc ho hL hN hr hE hz hw h
      · rw [if_pos hh] at h
        refine go_iconst hc dX3_worldsByAnswer_39 ci_1 ?_
        refine go_goto (tgt := 44) hc dX3_worldsByAnswer_40 rfl ?_
        exact rX3_worldsByAnswer_b44 hc ho hL hN hr hE hz hw h
    · rw [if_neg hh] at h
      refine go_aload_n hc dX3_worldsByAnswer_10 rfl rfl ?_
      refine go_getC (b := w + 1) (ow_c10_0 hw) hc ho flX3_18 dX3_worldsByAnswer_11 (ow_k10 hw) ?_
      refine go_getL hc ho flX3_52 dX3_worldsByAnswer_14 (ow_k1 hw) ?_
      exact go_lret hc (oend_l h hE) hr dX3_worldsByAnswer_17
def fX3_worldsWithout_b11 : Nat → Nat → Int32 → Int32 → Int64 → Int32 → OM → Option (Int64 × OM)
  | 0, _, _, _, _, _, _ => none
  | n + 1, bl0, l1, l2, l3, l5, σ =>
    if (mI σ (bl0 + 5) 0) ≤ l5 then (
     some (l3, σ))
    else (if (20 : Int32) ≤ l5 then (
     some (l3, σ))
    else (if l5 = l1 then (
     fX3_worldsWithout_b11 n bl0 l1 l2 l3 (l5 + 1) σ)
    else (ogd (oin l5 20) (
    obi (fX9_bitOf l2.toInt64 (mI σ (bl0 + 6) l5.toNatClampNeg) σ) (fun r2 σ3 =>
    if r2 = (1 : Int32) then (
     obi (fX3_worldsByAnswer bl0 l5 σ3) (fun r5 σ6 =>
     fX3_worldsWithout_b11 n bl0 l1 l2 (l3 &&& r5) (l5 + 1) σ6))
    else (fX3_worldsWithout_b11 n bl0 l1 l2 l3 (l5 + 1) σ3))))))
set_option maxRecDepth 100000 in
set_option maxHeartbeats 4000000 in
theorem rX3_worldsWithout_b11 {K : OK} (hc : kcc K = cX3_worldsWithout) (ho : kow K = RX3) (hL : knL K = 6) (hN : 3 ≤ kN K) (hr : (kme K).sig.returnType = (some .long)) {r0 : Int64} {σ0 : OM} (hE : oEnd K (some (.long r0)) σ0) (hz : kz K = 0) : ∀ (n : Nat) (bl0 : Nat) (l1 : Int32) (l2 : Int32) (l3 : Int64) (l5 : Int32) (σ : OM), okd bl0 = 8 → fX3_worldsWithout_b11 n bl0 l1 l2 l3 l5 σ = some (r0, σ0) → Go K 11 [.ref (bl0 + 10), .int l1, .int l2, .long l3, .null, .int l5] [] σ := by
  intro n
  induction n with
  | zero =>
    intro bl0 l1 l2 l3 l5 σ hbl0 h
    cases h
  | succ n ih =>
    intro bl0 l1 l2 l3 l5 σ hbl0 h
    rw [fX3_worldsWithout_b11] at h
    refine go_iload hc dX3_worldsWithout_11 rfl ?_
    refine go_aload_n hc dX3_worldsWithout_13 rfl rfl ?_
    refine go_getC (b := bl0 + 5) (ow_c10_1 hbl0) hc ho flX3_22 dX3_worldsWithout_14 (ow_k10 hbl0) ?_
    refine go_getI hc ho flX3_58 dX3_worldsWithout_17 (ow_k5 hbl0) ?_
    refine go_icmp_ge (tgt := 70) hc dX3_worldsWithout_20 rfl (fun hh => ?_) (fun hh => ?_)
    · rw [if_pos hh] at h
      refine go_lload_n hc dX3_worldsWithout_70 rfl rfl ?_
      exact go_lret hc (oend_l h hE) hr dX3_worldsWithout_71
    · rw [if_neg hh] at h
      refine go_iload hc dX3_worldsWithout_23 rfl ?_
      refine go_bipush hc dX3_worldsWithout_25 cb_20 ?_
      refine go_icmp_ge (tgt := 70) hc dX3_worldsWithout_27 rfl (fun hh => ?_) (fun hh => ?_)
      · rw [if_pos hh] at h
        refine go_lload_n hc dX3_worldsWithout_70 rfl rfl ?_
        exact go_lret hc (oend_l h hE) hr dX3_worldsWithout_71
      · rw [if_neg hh] at h
        refine go_iload hc dX3_worldsWithout_30 rfl ?_
        refine go_iload_n hc dX3_worldsWithout_32 rfl rfl ?_
        refine go_icmp_eq (tgt := 64) hc dX3_worldsWithout_33 rfl (fun hh => ?_) (fun hh => ?_)
        · rw [if_pos hh] at h
          refine go_iinc hc (lv1 := [.ref (bl0 + 10), .int l1, .int l2, .long l3, .null, .int (l5 + 1)]) dX3_worldsWithout_64 rfl ci_1 hL (by decide) (fun _ _ e => by cases e; rfl) rfl ?_
          refine go_goto (tgt := 11) hc dX3_worldsWithout_67 rfl ?_
          exact ih bl0 l1 l2 l3 (l5 + 1) _ hbl0 h
        · rw [if_neg hh] at h
          refine go_iload_n hc dX3_worldsWithout_36 rfl rfl ?_
          refine go_i2l hc dX3_worldsWithout_37 ?_
          refine go_aload_n hc dX3_worldsWithout_38 rfl rfl ?_
          refine go_getC (b := bl0 + 5) (ow_c10_1 hbl0) hc ho flX3_22 dX3_worldsWithout_39 (ow_k10 hbl0) ?_
          refine go_getC (b := bl0 + 6) (ow_c5_1 hbl0) hc ho flX3_63 dX3_worldsWithout_42 (ow_k5 hbl0) ?_
          refine go_iload hc dX3_worldsWithout_45 rfl ?_
          obtain ⟨hg1, h⟩ := ogd_some h
          refine go_iald hc dX3_worldsWithout_47 (ow_k6 hbl0) (ow_l6 hbl0) hg1 rfl ?_
          obtain ⟨r2, σ3, hf4, h⟩ := obi_some h
          refine go_callSNi hc ho cmX9_bitOf mnX3_78 dX3_worldsWithout_48 (As := [.long l2.toInt64, .int (mI σ (bl0 + 6) l5.toNatClampNeg)]) (rest := []) (rX9_bitOf (N := 0) hf4 (Nat.le_refl _)) rfl (Nat.le_trans (Nat.le_of_ble_eq_true rfl) hN) rfl (Nat.le_of_ble_eq_true rfl) (Or.inl hz) ?_
          refine go_iconst hc dX3_worldsWithout_51 ci_1 ?_
          refine go_icmp_ne (tgt := 64) hc dX3_worldsWithout_52 rfl (fun hh => ?_) (fun hh => ?_)
          · rw [if_neg hh] at h
            refine go_iinc hc (lv1 := [.ref (bl0 + 10), .int l1, .int l2, .long l3, .null, .int (l5 + 1)]) dX3_worldsWithout_64 rfl ci_1 hL (by decide) (fun _ _ e => by cases e; rfl) rfl ?_
            refine go_goto (tgt := 11) hc dX3_worldsWithout_67 rfl ?_
            exact ih bl0 l1 l2 l3 (l5 + 1) _ hbl0 h
          · rw [if_pos hh] at h
            refine go_lload_n hc dX3_worldsWithout_55 rfl rfl ?_
            refine go_aload_n hc dX3_worldsWithout_56 rfl rfl ?_
            refine go_iload hc dX3_worldsWithout_57 rfl ?_
            obtain ⟨r5, σ6, hf7, h⟩ := obi_some h
            refine go_callVl hc ho cmX3_worldsByAnswer mlX3_88 dX3_worldsWithout_59 (ow_k10 hbl0) (As := [.int l5]) (rest := [.long l3]) (rX3_worldsByAnswer (N := 2) hbl0 hf7 (Nat.le_refl _)) rfl (Nat.le_trans (Nat.le_of_ble_eq_true rfl) hN) rfl (Nat.le_of_ble_eq_true rfl) (Or.inl hz) ?_
            refine go_land hc dX3_worldsWithout_62 ?_
            refine go_lstore_n hc (lv1 := [.ref (bl0 + 10), .int l1, .int l2, .long (l3 &&& r5), .null, .int l5]) dX3_worldsWithout_63 rfl hL (by decide) (fun _ _ e => by cases e; rfl) rfl ?_
            refine go_iinc hc (lv1 := [.ref (bl0 + 10), .int l1, .int l2, .long (l3 &&& r5), .null, .int (l5 + 1)]) dX3_worldsWithout_64 rfl ci_1 hL (by decide) (fun _ _ e => by cases e; rfl) rfl ?_
            refine go_goto (tgt := 11) hc dX3_worldsWithout_67 rfl ?_
            exact ih bl0 l1 l2 (l3 &&& r5) (l5 + 1) _ hbl0 h
def fX3_worldsWithout (w : Nat) (x0 : Int32) (x1 : Int32) (σ : OM) : Option (Int64 × OM) :=
  fX3_worldsWithout_b11 oF w x0 x1 (mL σ (w + 1) 3) (0 : Int32) σ
set_option maxRecDepth 100000 in
set_option maxHeartbeats 4000000 in
theorem rX3_worldsWithout {N : Nat} {w : Nat} {x0 : Int32} {x1 : Int32} {σ : OM} {r0 : Int64} {σ0 : OM} (hw : okd w = 8) (h : fX3_worldsWithout w x0 x1 σ = some (r0, σ0)) (hN0 : 3 ≤ N) : oEv N MX3_worldsWithout [.ref (w + 10), .int x0, .int x1] σ (some (.long r0)) σ0 := by
  refine oEv_of (lv := [.ref (w + 10), .int x0, .int x1, .null, .null, .null]) (by decide +kernel) (fun g q hq => hq) (fun g => Nat.le_of_ble_eq_true rfl) ?_
  intro K hc ho hL hN1 hr hE hz
  have hN : 3 ≤ kN K := by rw [hN1]; exact hN0
  unfold fX3_worldsWithout at h
  refine go_aload_n hc dX3_worldsWithout_0 rfl rfl ?_
  refine go_getC (b := w + 1) (ow_c10_0 hw) hc ho flX3_18 dX3_worldsWithout_1 (ow_k10 hw) ?_
  refine go_getL hc ho flX3_52 dX3_worldsWithout_4 (ow_k1 hw) ?_
  refine go_lstore_n hc (lv1 := [.ref (w + 10), .int x0, .int x1, .long (mL σ (w + 1) 3), .null, .null]) dX3_worldsWithout_7 rfl hL (by decide) (fun _ _ e => by cases e; rfl) rfl ?_
  refine go_iconst hc dX3_worldsWithout_8 ci_0 ?_
  refine go_istore hc (lv1 := [.ref (w + 10), .int x0, .int x1, .long (mL σ (w + 1) 3), .null, .int (0 : Int32)]) dX3_worldsWithout_9 hL (by decide) (fun _ _ e => by cases e; rfl) rfl ?_
  exact rX3_worldsWithout_b11 hc ho hL hN hr hE hz oF w x0 x1 (mL σ (w + 1) 3) (0 : Int32) _ hw h
def fX3_worldsOf (w : Nat) (x0 : Int32) (σ : OM) : Option (Int64 × OM) :=
  obi (fX7_kinOf (w + 5) x0 σ) (fun r1 σ2 =>
  obi (fX3_worldsWithout w ((-1) : Int32) r1 σ2) (fun r4 σ5 =>
  some (r4, σ5)))
set_option maxRecDepth 100000 in
set_option maxHeartbeats 4000000 in
theorem rX3_worldsOf {N : Nat} {w : Nat} {x0 : Int32} {σ : OM} {r0 : Int64} {σ0 : OM} (hw : okd w = 8) (h : fX3_worldsOf w x0 σ = some (r0, σ0)) (hN0 : 4 ≤ N) : oEv N MX3_worldsOf [.ref (w + 10), .int x0] σ (some (.long r0)) σ0 := by
  refine oEv_of (lv := [.ref (w + 10), .int x0]) (by decide +kernel) (fun g q hq => hq) (fun g => Nat.le_of_ble_eq_true rfl) ?_
  intro K hc ho hL hN1 hr hE hz
  have hN : 4 ≤ kN K := by rw [hN1]; exact hN0
  unfold fX3_worldsOf at h
  refine go_aload_n hc dX3_worldsOf_0 rfl rfl ?_
  refine go_iconst hc dX3_worldsOf_1 ci_m1 ?_
  refine go_aload_n hc dX3_worldsOf_2 rfl rfl ?_
  refine go_getC (b := w + 5) (ow_c10_1 hw) hc ho flX3_22 dX3_worldsOf_3 (ow_k10 hw) ?_
  refine go_iload_n hc dX3_worldsOf_6 rfl rfl ?_
  obtain ⟨r1, σ2, hf3, h⟩ := obi_some h
  refine go_callVi hc ho cmX7_kinOf mlX3_82 dX3_worldsOf_7 (ow_k5 hw) (As := [.int x0]) (rest := [.int ((-1) : Int32), .ref (w + 10)]) (rX7_kinOf (N := 1) (ow_k5 hw) hf3 (Nat.le_refl _)) rfl (Nat.le_trans (Nat.le_of_ble_eq_true rfl) hN) rfl (Nat.le_of_ble_eq_true rfl) (Or.inl hz) ?_
  obtain ⟨r4, σ5, hf6, h⟩ := obi_some h
  refine go_callVl hc ho cmX3_worldsWithout mlX3_85 dX3_worldsOf_10 (ow_k10 hw) (As := [.int ((-1) : Int32), .int r1]) (rest := []) (rX3_worldsWithout (N := 3) hw hf6 (Nat.le_refl _)) rfl (Nat.le_trans (Nat.le_of_ble_eq_true rfl) hN) rfl (Nat.le_of_ble_eq_true rfl) (Or.inl hz) ?_
  exact go_lret hc (oend_l h hE) hr dX3_worldsOf_13
def fX9_left (x0 : Int32) (σ : OM) : Option (Int32 × OM) :=
  obi (fX9_isHouse x0 σ) (fun r1 σ2 =>
  if r1 = 0 then (
   obi (fX9_refuse (1 : Int32) σ2) (fun r14 σ15 =>
   some (r14, σ15)))
  else (ogd (decide (okd (mR σ2 0 0) = 8)) (
  obi (fX3_worldsOf (mR σ2 0 0) x0 σ2) (fun r5 σ6 =>
  obi (fJ13_bitCount_95d88 r5 σ6) (fun r8 σ9 =>
  obi (fX9_answer r8 σ9) (fun r11 σ12 =>
  some (r11, σ12)))))))
set_option maxRecDepth 100000 in
set_option maxHeartbeats 4000000 in
theorem rX9_left {N : Nat} {x0 : Int32} {σ : OM} {r0 : Int32} {σ0 : OM} (h : fX9_left x0 σ = some (r0, σ0)) (hN0 : 5 ≤ N) : oEv N MX9_left [.ref 0, .int x0] σ (some (.int r0)) σ0 := by
  refine oEv_of (lv := [.ref 0, .int x0]) (by decide +kernel) (fun g q hq => hq) (fun g => Nat.le_of_ble_eq_true rfl) ?_
  intro K hc ho hL hN1 hr hE hz
  have hN : 5 ≤ kN K := by rw [hN1]; exact hN0
  unfold fX9_left at h
  refine go_aload_n hc dX9_left_0 rfl rfl ?_
  refine go_iload_n hc dX9_left_1 rfl rfl ?_
  obtain ⟨r1, σ2, hf3, h⟩ := obi_some h
  refine go_callVi hc ho cmX9_isHouse mlX9_161 dX9_left_2 ok_0 (As := [.int x0]) (rest := []) (rX9_isHouse (N := 0) hf3 (Nat.le_refl _)) rfl (Nat.le_trans (Nat.le_of_ble_eq_true rfl) hN) rfl (Nat.le_of_ble_eq_true rfl) (Or.inl hz) ?_
  refine go_if_ne (tgt := 14) hc dX9_left_5 rfl (fun hh => ?_) (fun hh => ?_)
  · rw [if_neg hh] at h
    refine go_aload_n hc dX9_left_14 rfl rfl ?_
    refine go_aload_n hc dX9_left_15 rfl rfl ?_
    obtain ⟨hg4, h⟩ := ogd_some h
    refine go_getR hc ho flX9_10 dX9_left_16 ok_0 ?_
    refine go_getC (b := (mR σ2 0 0) + 10) (ow_c0_2 (of_decide_eq_true hg4)) hc ho flX9_149 dX9_left_19 (of_decide_eq_true hg4) ?_
    refine go_iload_n hc dX9_left_22 rfl rfl ?_
    obtain ⟨r5, σ6, hf7, h⟩ := obi_some h
    refine go_callVl hc ho cmX3_worldsOf mlX9_177 dX9_left_23 (ow_k10 (of_decide_eq_true hg4)) (As := [.int x0]) (rest := [.ref 0]) (rX3_worldsOf (N := 4) (of_decide_eq_true hg4) hf7 (Nat.le_refl _)) rfl (Nat.le_trans (Nat.le_of_ble_eq_true rfl) hN) rfl (Nat.le_of_ble_eq_true rfl) (Or.inl hz) ?_
    obtain ⟨r8, σ9, hf10, h⟩ := obi_some h
    refine go_callSi hc ho cmJ13_bitCount_95d88 mlX9_123 dX9_left_26 (As := [.long r5]) (rest := [.ref 0]) (rJ13_bitCount_95d88 (N := 0) hf10 (Nat.le_refl _)) rfl (Nat.le_trans (Nat.le_of_ble_eq_true rfl) hN) rfl (Nat.le_of_ble_eq_true rfl) (Or.inl hz) ?_
    obtain ⟨r11, σ12, hf13, h⟩ := obi_some h
    refine go_callVi hc ho cmX9_answer mlX9_103 dX9_left_29 ok_0 (As := [.int r8]) (rest := []) (rX9_answer (N := 0) hf13 (Nat.le_refl _)) rfl (Nat.le_trans (Nat.le_of_ble_eq_true rfl) hN) rfl (Nat.le_of_ble_eq_true rfl) (Or.inl hz) ?_
    exact go_iret hc (oend_i h hE) hr dX9_left_32
  · rw [if_pos hh] at h
    refine go_aload_n hc dX9_left_8 rfl rfl ?_
    refine go_iconst hc dX9_left_9 ci_1 ?_
    obtain ⟨r14, σ15, hf16, h⟩ := obi_some h
    refine go_callVi hc ho cmX9_refuse mlX9_70 dX9_left_10 ok_0 (As := [.int (1 : Int32)]) (rest := []) (rX9_refuse (N := 0) hf16 (Nat.le_refl _)) rfl (Nat.le_trans (Nat.le_of_ble_eq_true rfl) hN) rfl (Nat.le_of_ble_eq_true rfl) (Or.inl hz) ?_
    exact go_iret hc (oend_i h hE) hr dX9_left_13
def fX9_verdict (x0 : Int64) (x1 : Int64) (σ : OM) : Option (Int32 × OM) :=
  if (lg_cmp x0 (0 : Int64)) = 0 then (
   some (((-2) : Int32), σ))
  else (if (lg_cmp (x0 &&& (x1 ^^^ ((-1) : Int64))) (0 : Int64)) = 0 then (
   some ((1 : Int32), σ))
  else (if (lg_cmp (x0 &&& x1) (0 : Int64)) = 0 then (
   some ((0 : Int32), σ))
  else (some (((-2) : Int32), σ))))
set_option maxRecDepth 100000 in
set_option maxHeartbeats 4000000 in
theorem rX9_verdict {N : Nat} {x0 : Int64} {x1 : Int64} {σ : OM} {r0 : Int32} {σ0 : OM} (h : fX9_verdict x0 x1 σ = some (r0, σ0)) (hN0 : 0 ≤ N) : oEv N MX9_verdict [.long x0, .long x1] σ (some (.int r0)) σ0 := by
  refine oEv_of (lv := [.long x0, .null, .long x1, .null]) (by decide +kernel) (fun g q hq => hq) (fun g => Nat.le_of_ble_eq_true rfl) ?_
  intro K hc ho hL hN1 hr hE hz
  have hN : 0 ≤ kN K := by rw [hN1]; exact hN0
  unfold fX9_verdict at h
  refine go_lload_n hc dX9_verdict_0 rfl rfl ?_
  refine go_lconst hc dX9_verdict_1 cl_0 ?_
  refine go_lcmp hc dX9_verdict_2 ?_
  refine go_if_ne (tgt := 9) hc dX9_verdict_3 rfl (fun hh => ?_) (fun hh => ?_)
  · rw [if_neg hh] at h
    refine go_lload_n hc dX9_verdict_9 rfl rfl ?_
    refine go_lload_n hc dX9_verdict_10 rfl rfl ?_
    refine go_ldc2 hc ho klX9_147 dX9_verdict_11 ?_
    refine go_lxor hc dX9_verdict_14 ?_
    refine go_land hc dX9_verdict_15 ?_
    refine go_lconst hc dX9_verdict_16 cl_0 ?_
    refine go_lcmp hc dX9_verdict_17 ?_
    refine go_if_ne (tgt := 23) hc dX9_verdict_18 rfl (fun hh => ?_) (fun hh => ?_)
    · rw [if_neg hh] at h
      refine go_lload_n hc dX9_verdict_23 rfl rfl ?_
      refine go_lload_n hc dX9_verdict_24 rfl rfl ?_
      refine go_land hc dX9_verdict_25 ?_
      refine go_lconst hc dX9_verdict_26 cl_0 ?_
      refine go_lcmp hc dX9_verdict_27 ?_
      refine go_if_ne (tgt := 35) hc dX9_verdict_28 rfl (fun hh => ?_) (fun hh => ?_)
      · rw [if_neg hh] at h
        refine go_bipush hc dX9_verdict_35 cb_m2 ?_
        exact go_iret hc (oend_i h hE) hr dX9_verdict_37
      · rw [if_pos hh] at h
        refine go_iconst hc dX9_verdict_31 ci_0 ?_
        refine go_goto (tgt := 37) hc dX9_verdict_32 rfl ?_
        exact go_iret hc (oend_i h hE) hr dX9_verdict_37
    · rw [if_pos hh] at h
      refine go_iconst hc dX9_verdict_21 ci_1 ?_
      exact go_iret hc (oend_i h hE) hr dX9_verdict_22
  · rw [if_pos hh] at h
    refine go_bipush hc dX9_verdict_6 cb_m2 ?_
    exact go_iret hc (oend_i h hE) hr dX9_verdict_8
def fX9_known (x0 : Int32) (x1 : Int32) (σ : OM) : Option (Int32 × OM) :=
  obi (fX9_isHouse x0 σ) (fun r1 σ2 =>
  if r1 = 0 then (
   obi (fX9_refuse (1 : Int32) σ2) (fun r4 σ5 =>
   some (r4, σ5)))
  else (obi (fX9_isQuestion x1 σ2) (fun r7 σ8 =>
  if r7 = 0 then (
   obi (fX9_refuse (1 : Int32) σ8) (fun r24 σ25 =>
   some (r24, σ25)))
  else (ogd (decide (okd (mR σ8 0 0) = 8)) (
  obi (fX3_worldsOf (mR σ8 0 0) x0 σ8) (fun r11 σ12 =>
  ogd (decide (okd (mR σ12 0 0) = 8)) (
  obi (fX2_soWorlds (mR σ12 0 0) x1 σ12) (fun r15 σ16 =>
  obi (fX9_verdict r11 r15 σ16) (fun r18 σ19 =>
  obi (fX9_answer r18 σ19) (fun r21 σ22 =>
  some (r21, σ22)))))))))))
set_option maxRecDepth 100000 in
set_option maxHeartbeats 4000000 in
theorem rX9_known {N : Nat} {x0 : Int32} {x1 : Int32} {σ : OM} {r0 : Int32} {σ0 : OM} (h : fX9_known x0 x1 σ = some (r0, σ0)) (hN0 : 5 ≤ N) : oEv N MX9_known [.ref 0, .int x0, .int x1] σ (some (.int r0)) σ0 := by
  refine oEv_of (lv := [.ref 0, .int x0, .int x1]) (by decide +kernel) (fun g q hq => hq) (fun g => Nat.le_of_ble_eq_true rfl) ?_
  intro K hc ho hL hN1 hr hE hz
  have hN : 5 ≤ kN K := by rw [hN1]; exact hN0
  unfold fX9_known at h
  refine go_aload_n hc dX9_known_0 rfl rfl ?_
  refine go_iload_n hc dX9_known_1 rfl rfl ?_
  obtain ⟨r1, σ2, hf3, h⟩ := obi_some h
  refine go_callVi hc ho cmX9_isHouse mlX9_161 dX9_known_2 ok_0 (As := [.int x0]) (rest := []) (rX9_isHouse (N := 0) hf3 (Nat.le_refl _)) rfl (Nat.le_trans (Nat.le_of_ble_eq_true rfl) hN) rfl (Nat.le_of_ble_eq_true rfl) (Or.inl hz) ?_
  refine go_if_eq (tgt := 16) hc dX9_known_5 rfl (fun hh => ?_) (fun hh => ?_)
  · rw [if_pos hh] at h
    refine go_aload_n hc dX9_known_16 rfl rfl ?_
    refine go_iconst hc dX9_known_17 ci_1 ?_
    obtain ⟨r4, σ5, hf6, h⟩ := obi_some h
    refine go_callVi hc ho cmX9_refuse mlX9_70 dX9_known_18 ok_0 (As := [.int (1 : Int32)]) (rest := []) (rX9_refuse (N := 0) hf6 (Nat.le_refl _)) rfl (Nat.le_trans (Nat.le_of_ble_eq_true rfl) hN) rfl (Nat.le_of_ble_eq_true rfl) (Or.inl hz) ?_
    exact go_iret hc (oend_i h hE) hr dX9_known_21
  · rw [if_neg hh] at h
    refine go_aload_n hc dX9_known_8 rfl rfl ?_
    refine go_iload_n hc dX9_known_9 rfl rfl ?_
    obtain ⟨r7, σ8, hf9, h⟩ := obi_some h
    refine go_callVi hc ho cmX9_isQuestion mlX9_133 dX9_known_10 ok_0 (As := [.int x1]) (rest := []) (rX9_isQuestion (N := 0) hf9 (Nat.le_refl _)) rfl (Nat.le_trans (Nat.le_of_ble_eq_true rfl) hN) rfl (Nat.le_of_ble_eq_true rfl) (Or.inl hz) ?_
    refine go_if_ne (tgt := 22) hc dX9_known_13 rfl (fun hh => ?_) (fun hh => ?_)
    · rw [if_neg hh] at h
      refine go_aload_n hc dX9_known_22 rfl rfl ?_
      refine go_aload_n hc dX9_known_23 rfl rfl ?_
      obtain ⟨hg10, h⟩ := ogd_some h
      refine go_getR hc ho flX9_10 dX9_known_24 ok_0 ?_
      refine go_getC (b := (mR σ8 0 0) + 10) (ow_c0_2 (of_decide_eq_true hg10)) hc ho flX9_149 dX9_known_27 (of_decide_eq_true hg10) ?_
      refine go_iload_n hc dX9_known_30 rfl rfl ?_
      obtain ⟨r11, σ12, hf13, h⟩ := obi_some h
      refine go_callVl hc ho cmX3_worldsOf mlX9_177 dX9_known_31 (ow_k10 (of_decide_eq_true hg10)) (As := [.int x0]) (rest := [.ref 0]) (rX3_worldsOf (N := 4) (of_decide_eq_true hg10) hf13 (Nat.le_refl _)) rfl (Nat.le_trans (Nat.le_of_ble_eq_true rfl) hN) rfl (Nat.le_of_ble_eq_true rfl) (Or.inl hz) ?_
      refine go_aload_n hc dX9_known_34 rfl rfl ?_
      obtain ⟨hg14, h⟩ := ogd_some h
      refine go_getR hc ho flX9_10 dX9_known_35 ok_0 ?_
      refine go_getC (b := (mR σ12 0 0) + 1) (ow_c0_0 (of_decide_eq_true hg14)) hc ho flX9_37 dX9_known_38 (of_decide_eq_true hg14) ?_
      refine go_iload_n hc dX9_known_41 rfl rfl ?_
      obtain ⟨r15, σ16, hf17, h⟩ := obi_some h
      refine go_callVl hc ho cmX2_soWorlds mlX9_136 dX9_known_42 (ow_k1 (of_decide_eq_true hg14)) (As := [.int x1]) (rest := [.long r11, .ref 0]) (rX2_soWorlds (N := 0) (of_decide_eq_true hg14) hf17 (Nat.le_refl _)) rfl (Nat.le_trans (Nat.le_of_ble_eq_true rfl) hN) rfl (Nat.le_of_ble_eq_true rfl) (Or.inl hz) ?_
      obtain ⟨r18, σ19, hf20, h⟩ := obi_some h
      refine go_callSi hc ho cmX9_verdict mlX9_180 dX9_known_45 (As := [.long r11, .long r15]) (rest := [.ref 0]) (rX9_verdict (N := 0) hf20 (Nat.le_refl _)) rfl (Nat.le_trans (Nat.le_of_ble_eq_true rfl) hN) rfl (Nat.le_of_ble_eq_true rfl) (Or.inl hz) ?_
      obtain ⟨r21, σ22, hf23, h⟩ := obi_some h
      refine go_callVi hc ho cmX9_answer mlX9_103 dX9_known_48 ok_0 (As := [.int r18]) (rest := []) (rX9_answer (N := 0) hf23 (Nat.le_refl _)) rfl (Nat.le_trans (Nat.le_of_ble_eq_true rfl) hN) rfl (Nat.le_of_ble_eq_true rfl) (Or.inl hz) ?_
      exact go_iret hc (oend_i h hE) hr dX9_known_51
    · rw [if_pos hh] at h
      refine go_aload_n hc dX9_known_16 rfl rfl ?_
      refine go_iconst hc dX9_known_17 ci_1 ?_
      obtain ⟨r24, σ25, hf26, h⟩ := obi_some h
      refine go_callVi hc ho cmX9_refuse mlX9_70 dX9_known_18 ok_0 (As := [.int (1 : Int32)]) (rest := []) (rX9_refuse (N := 0) hf26 (Nat.le_refl _)) rfl (Nat.le_trans (Nat.le_of_ble_eq_true rfl) hN) rfl (Nat.le_of_ble_eq_true rfl) (Or.inl hz) ?_
      exact go_iret hc (oend_i h hE) hr dX9_known_21
def fX9_fact (x0 : Int32) (x1 : Int32) (σ : OM) : Option (Int32 × OM) :=
  obi (fX9_isHouse x0 σ) (fun r1 σ2 =>
  if r1 = 0 then (
   obi (fX9_refuse (1 : Int32) σ2) (fun r4 σ5 =>
   some (r4, σ5)))
  else (if x1 < 0 then (
   obi (fX9_refuse (1 : Int32) σ2) (fun r7 σ8 =>
   some (r7, σ8)))
  else (ogd (decide (okd (mR σ2 0 0) = 8)) (
  if (mI σ2 ((mR σ2 0 0) + 1) 0) ≤ x1 then (
   obi (fX9_refuse (1 : Int32) σ2) (fun r11 σ12 =>
   some (r11, σ12)))
  else (if x1 < (6 : Int32) then (
   ogd (decide (okd (mR σ2 0 0) = 8)) (
   obi (fX3_worldsOf (mR σ2 0 0) x0 σ2) (fun r15 σ16 =>
   ogd (oin x1 6) (
   obi (fX9_verdict r15 (oho x1.toNatClampNeg) σ16) (fun r19 σ20 =>
   obi (fX9_answer r19 σ20) (fun r22 σ23 =>
   some (r22, σ23)))))))
  else (obi (fX9_refuse (1 : Int32) σ2) (fun r25 σ26 =>
  some (r25, σ26))))))))
set_option maxRecDepth 100000 in
set_option maxHeartbeats 4000000 in
theorem rX9_fact {N : Nat} {x0 : Int32} {x1 : Int32} {σ : OM} {r0 : Int32} {σ0 : OM} (h : fX9_fact x0 x1 σ = some (r0, σ0)) (hN0 : 5 ≤ N) : oEv N MX9_fact [.ref 0, .int x0, .int x1] σ (some (.int r0)) σ0 := by
  refine oEv_of (lv := [.ref 0, .int x0, .int x1]) (by decide +kernel) (fun g q hq => hq) (fun g => Nat.le_of_ble_eq_true rfl) ?_
  intro K hc ho hL hN1 hr hE hz
  have hN : 5 ≤ kN K := by rw [hN1]; exact hN0
  unfold fX9_fact at h
  refine go_aload_n hc dX9_fact_0 rfl rfl ?_
  refine go_iload_n hc dX9_fact_1 rfl rfl ?_
  obtain ⟨r1, σ2, hf3, h⟩ := obi_some h
  refine go_callVi hc ho cmX9_isHouse mlX9_161 dX9_fact_2 ok_0 (As := [.int x0]) (rest := []) (rX9_isHouse (N := 0) hf3 (Nat.le_refl _)) rfl (Nat.le_trans (Nat.le_of_ble_eq_true rfl) hN) rfl (Nat.le_of_ble_eq_true rfl) (Or.inl hz) ?_
  refine go_if_eq (tgt := 32) hc dX9_fact_5 rfl (fun hh => ?_) (fun hh => ?_)
  · rw [if_pos hh] at h
    refine go_aload_n hc dX9_fact_32 rfl rfl ?_
    refine go_iconst hc dX9_fact_33 ci_1 ?_
    obtain ⟨r4, σ5, hf6, h⟩ := obi_some h
    refine go_callVi hc ho cmX9_refuse mlX9_70 dX9_fact_34 ok_0 (As := [.int (1 : Int32)]) (rest := []) (rX9_refuse (N := 0) hf6 (Nat.le_refl _)) rfl (Nat.le_trans (Nat.le_of_ble_eq_true rfl) hN) rfl (Nat.le_of_ble_eq_true rfl) (Or.inl hz) ?_
    exact go_iret hc (oend_i h hE) hr dX9_fact_37
  · rw [if_neg hh] at h
    refine go_iload_n hc dX9_fact_8 rfl rfl ?_
    refine go_if_lt (tgt := 32) hc dX9_fact_9 rfl (fun hh => ?_) (fun hh => ?_)
    · rw [if_pos hh] at h
      refine go_aload_n hc dX9_fact_32 rfl rfl ?_
      refine go_iconst hc dX9_fact_33 ci_1 ?_
      obtain ⟨r7, σ8, hf9, h⟩ := obi_some h
      refine go_callVi hc ho cmX9_refuse mlX9_70 dX9_fact_34 ok_0 (As := [.int (1 : Int32)]) (rest := []) (rX9_refuse (N := 0) hf9 (Nat.le_refl _)) rfl (Nat.le_trans (Nat.le_of_ble_eq_true rfl) hN) rfl (Nat.le_of_ble_eq_true rfl) (Or.inl hz) ?_
      exact go_iret hc (oend_i h hE) hr dX9_fact_37
    · rw [if_neg hh] at h
      refine go_iload_n hc dX9_fact_12 rfl rfl ?_
      refine go_aload_n hc dX9_fact_13 rfl rfl ?_
      obtain ⟨hg10, h⟩ := ogd_some h
      refine go_getR hc ho flX9_10 dX9_fact_14 ok_0 ?_
      refine go_getC (b := (mR σ2 0 0) + 1) (ow_c0_0 (of_decide_eq_true hg10)) hc ho flX9_37 dX9_fact_17 (of_decide_eq_true hg10) ?_
      refine go_getI hc ho flX9_184 dX9_fact_20 (ow_k1 (of_decide_eq_true hg10)) ?_
      refine go_icmp_ge (tgt := 32) hc dX9_fact_23 rfl (fun hh => ?_) (fun hh => ?_)
      · rw [if_pos hh] at h
        refine go_aload_n hc dX9_fact_32 rfl rfl ?_
        refine go_iconst hc dX9_fact_33 ci_1 ?_
        obtain ⟨r11, σ12, hf13, h⟩ := obi_some h
        refine go_callVi hc ho cmX9_refuse mlX9_70 dX9_fact_34 ok_0 (As := [.int (1 : Int32)]) (rest := []) (rX9_refuse (N := 0) hf13 (Nat.le_refl _)) rfl (Nat.le_trans (Nat.le_of_ble_eq_true rfl) hN) rfl (Nat.le_of_ble_eq_true rfl) (Or.inl hz) ?_
        exact go_iret hc (oend_i h hE) hr dX9_fact_37
      · rw [if_neg hh] at h
        refine go_iload_n hc dX9_fact_26 rfl rfl ?_
        refine go_bipush hc dX9_fact_27 cb_6 ?_
        refine go_icmp_lt (tgt := 38) hc dX9_fact_29 rfl (fun hh => ?_) (fun hh => ?_)
        · rw [if_pos hh] at h
          refine go_aload_n hc dX9_fact_38 rfl rfl ?_
          refine go_aload_n hc dX9_fact_39 rfl rfl ?_
          obtain ⟨hg14, h⟩ := ogd_some h
          refine go_getR hc ho flX9_10 dX9_fact_40 ok_0 ?_
          refine go_getC (b := (mR σ2 0 0) + 10) (ow_c0_2 (of_decide_eq_true hg14)) hc ho flX9_149 dX9_fact_43 (of_decide_eq_true hg14) ?_
          refine go_iload_n hc dX9_fact_46 rfl rfl ?_
          obtain ⟨r15, σ16, hf17, h⟩ := obi_some h
          refine go_callVl hc ho cmX3_worldsOf mlX9_177 dX9_fact_47 (ow_k10 (of_decide_eq_true hg14)) (As := [.int x0]) (rest := [.ref 0]) (rX3_worldsOf (N := 4) (of_decide_eq_true hg14) hf17 (Nat.le_refl _)) rfl (Nat.le_trans (Nat.le_of_ble_eq_true rfl) hN) rfl (Nat.le_of_ble_eq_true rfl) (Or.inl hz) ?_
          refine go_ho hc ho fsX9_187 dX9_fact_50 ?_
          refine go_iload_n hc dX9_fact_53 rfl rfl ?_
          obtain ⟨hg18, h⟩ := ogd_some h
          refine go_hoa hc dX9_fact_54 hg18 ?_
          obtain ⟨r19, σ20, hf21, h⟩ := obi_some h
          refine go_callSi hc ho cmX9_verdict mlX9_180 dX9_fact_55 (As := [.long r15, .long (oho x1.toNatClampNeg)]) (rest := [.ref 0]) (rX9_verdict (N := 0) hf21 (Nat.le_refl _)) rfl (Nat.le_trans (Nat.le_of_ble_eq_true rfl) hN) rfl (Nat.le_of_ble_eq_true rfl) (Or.inl hz) ?_
          obtain ⟨r22, σ23, hf24, h⟩ := obi_some h
          refine go_callVi hc ho cmX9_answer mlX9_103 dX9_fact_58 ok_0 (As := [.int r19]) (rest := []) (rX9_answer (N := 0) hf24 (Nat.le_refl _)) rfl (Nat.le_trans (Nat.le_of_ble_eq_true rfl) hN) rfl (Nat.le_of_ble_eq_true rfl) (Or.inl hz) ?_
          exact go_iret hc (oend_i h hE) hr dX9_fact_61
        · rw [if_neg hh] at h
          refine go_aload_n hc dX9_fact_32 rfl rfl ?_
          refine go_iconst hc dX9_fact_33 ci_1 ?_
          obtain ⟨r25, σ26, hf27, h⟩ := obi_some h
          refine go_callVi hc ho cmX9_refuse mlX9_70 dX9_fact_34 ok_0 (As := [.int (1 : Int32)]) (rest := []) (rX9_refuse (N := 0) hf27 (Nat.le_refl _)) rfl (Nat.le_trans (Nat.le_of_ble_eq_true rfl) hN) rfl (Nat.le_of_ble_eq_true rfl) (Or.inl hz) ?_
          exact go_iret hc (oend_i h hE) hr dX9_fact_37
def fX3_worldsOfAll (w : Nat) (σ : OM) : Option (Int64 × OM) :=
  obi (fX3_worldsWithout w ((-1) : Int32) ((-1) : Int32) σ) (fun r1 σ2 =>
  some (r1, σ2))
set_option maxRecDepth 100000 in
set_option maxHeartbeats 4000000 in
theorem rX3_worldsOfAll {N : Nat} {w : Nat} {σ : OM} {r0 : Int64} {σ0 : OM} (hw : okd w = 8) (h : fX3_worldsOfAll w σ = some (r0, σ0)) (hN0 : 4 ≤ N) : oEv N MX3_worldsOfAll [.ref (w + 10)] σ (some (.long r0)) σ0 := by
  refine oEv_of (lv := [.ref (w + 10)]) (by decide +kernel) (fun g q hq => hq) (fun g => Nat.le_of_ble_eq_true rfl) ?_
  intro K hc ho hL hN1 hr hE hz
  have hN : 4 ≤ kN K := by rw [hN1]; exact hN0
  unfold fX3_worldsOfAll at h
  refine go_aload_n hc dX3_worldsOfAll_0 rfl rfl ?_
  refine go_iconst hc dX3_worldsOfAll_1 ci_m1 ?_
  refine go_iconst hc dX3_worldsOfAll_2 ci_m1 ?_
  obtain ⟨r1, σ2, hf3, h⟩ := obi_some h
  refine go_callVl hc ho cmX3_worldsWithout mlX3_85 dX3_worldsOfAll_3 (ow_k10 hw) (As := [.int ((-1) : Int32), .int ((-1) : Int32)]) (rest := []) (rX3_worldsWithout (N := 3) hw hf3 (Nat.le_refl _)) rfl (Nat.le_trans (Nat.le_of_ble_eq_true rfl) hN) rfl (Nat.le_of_ble_eq_true rfl) (Or.inl hz) ?_
  exact go_lret hc (oend_l h hE) hr dX3_worldsOfAll_6
def fX9_knownByAll (x0 : Int32) (σ : OM) : Option (Int32 × OM) :=
  obi (fX9_isQuestion x0 σ) (fun r1 σ2 =>
  if r1 = 0 then (
   obi (fX9_refuse (1 : Int32) σ2) (fun r18 σ19 =>
   some (r18, σ19)))
  else (ogd (decide (okd (mR σ2 0 0) = 8)) (
  obi (fX3_worldsOfAll (mR σ2 0 0) σ2) (fun r5 σ6 =>
  ogd (decide (okd (mR σ6 0 0) = 8)) (
  obi (fX2_soWorlds (mR σ6 0 0) x0 σ6) (fun r9 σ10 =>
  obi (fX9_verdict r5 r9 σ10) (fun r12 σ13 =>
  obi (fX9_answer r12 σ13) (fun r15 σ16 =>
  some (r15, σ16)))))))))
set_option maxRecDepth 100000 in
set_option maxHeartbeats 4000000 in
theorem rX9_knownByAll {N : Nat} {x0 : Int32} {σ : OM} {r0 : Int32} {σ0 : OM} (h : fX9_knownByAll x0 σ = some (r0, σ0)) (hN0 : 5 ≤ N) : oEv N MX9_knownByAll [.ref 0, .int x0] σ (some (.int r0)) σ0 := by
  refine oEv_of (lv := [.ref 0, .int x0]) (by decide +kernel) (fun g q hq => hq) (fun g => Nat.le_of_ble_eq_true rfl) ?_
  intro K hc ho hL hN1 hr hE hz
  have hN : 5 ≤ kN K := by rw [hN1]; exact hN0
  unfold fX9_knownByAll at h
  refine go_aload_n hc dX9_knownByAll_0 rfl rfl ?_
  refine go_iload_n hc dX9_knownByAll_1 rfl rfl ?_
  obtain ⟨r1, σ2, hf3, h⟩ := obi_some h
  refine go_callVi hc ho cmX9_isQuestion mlX9_133 dX9_knownByAll_2 ok_0 (As := [.int x0]) (rest := []) (rX9_isQuestion (N := 0) hf3 (Nat.le_refl _)) rfl (Nat.le_trans (Nat.le_of_ble_eq_true rfl) hN) rfl (Nat.le_of_ble_eq_true rfl) (Or.inl hz) ?_
  refine go_if_ne (tgt := 14) hc dX9_knownByAll_5 rfl (fun hh => ?_) (fun hh => ?_)
  · rw [if_neg hh] at h
    refine go_aload_n hc dX9_knownByAll_14 rfl rfl ?_
    refine go_aload_n hc dX9_knownByAll_15 rfl rfl ?_
    obtain ⟨hg4, h⟩ := ogd_some h
    refine go_getR hc ho flX9_10 dX9_knownByAll_16 ok_0 ?_
    refine go_getC (b := (mR σ2 0 0) + 10) (ow_c0_2 (of_decide_eq_true hg4)) hc ho flX9_149 dX9_knownByAll_19 (of_decide_eq_true hg4) ?_
    obtain ⟨r5, σ6, hf7, h⟩ := obi_some h
    refine go_callVl hc ho cmX3_worldsOfAll mlX9_191 dX9_knownByAll_22 (ow_k10 (of_decide_eq_true hg4)) (As := []) (rest := [.ref 0]) (rX3_worldsOfAll (N := 4) (of_decide_eq_true hg4) hf7 (Nat.le_refl _)) rfl (Nat.le_trans (Nat.le_of_ble_eq_true rfl) hN) rfl (Nat.le_of_ble_eq_true rfl) (Or.inl hz) ?_
    refine go_aload_n hc dX9_knownByAll_25 rfl rfl ?_
    obtain ⟨hg8, h⟩ := ogd_some h
    refine go_getR hc ho flX9_10 dX9_knownByAll_26 ok_0 ?_
    refine go_getC (b := (mR σ6 0 0) + 1) (ow_c0_0 (of_decide_eq_true hg8)) hc ho flX9_37 dX9_knownByAll_29 (of_decide_eq_true hg8) ?_
    refine go_iload_n hc dX9_knownByAll_32 rfl rfl ?_
    obtain ⟨r9, σ10, hf11, h⟩ := obi_some h
    refine go_callVl hc ho cmX2_soWorlds mlX9_136 dX9_knownByAll_33 (ow_k1 (of_decide_eq_true hg8)) (As := [.int x0]) (rest := [.long r5, .ref 0]) (rX2_soWorlds (N := 0) (of_decide_eq_true hg8) hf11 (Nat.le_refl _)) rfl (Nat.le_trans (Nat.le_of_ble_eq_true rfl) hN) rfl (Nat.le_of_ble_eq_true rfl) (Or.inl hz) ?_
    obtain ⟨r12, σ13, hf14, h⟩ := obi_some h
    refine go_callSi hc ho cmX9_verdict mlX9_180 dX9_knownByAll_36 (As := [.long r5, .long r9]) (rest := [.ref 0]) (rX9_verdict (N := 0) hf14 (Nat.le_refl _)) rfl (Nat.le_trans (Nat.le_of_ble_eq_true rfl) hN) rfl (Nat.le_of_ble_eq_true rfl) (Or.inl hz) ?_
    obtain ⟨r15, σ16, hf17, h⟩ := obi_some h
    refine go_callVi hc ho cmX9_answer mlX9_103 dX9_knownByAll_39 ok_0 (As := [.int r12]) (rest := []) (rX9_answer (N := 0) hf17 (Nat.le_refl _)) rfl (Nat.le_trans (Nat.le_of_ble_eq_true rfl) hN) rfl (Nat.le_of_ble_eq_true rfl) (Or.inl hz) ?_
    exact go_iret hc (oend_i h hE) hr dX9_knownByAll_42
  · rw [if_pos hh] at h
    refine go_aload_n hc dX9_knownByAll_8 rfl rfl ?_
    refine go_iconst hc dX9_knownByAll_9 ci_1 ?_
    obtain ⟨r18, σ19, hf20, h⟩ := obi_some h
    refine go_callVi hc ho cmX9_refuse mlX9_70 dX9_knownByAll_10 ok_0 (As := [.int (1 : Int32)]) (rest := []) (rX9_refuse (N := 0) hf20 (Nat.le_refl _)) rfl (Nat.le_trans (Nat.le_of_ble_eq_true rfl) hN) rfl (Nat.le_of_ble_eq_true rfl) (Or.inl hz) ?_
    exact go_iret hc (oend_i h hE) hr dX9_knownByAll_13
def fX2_settled_b5 : Nat → Nat → Int64 → Int32 → Int32 → OM → Option (Int32 × OM)
  | 0, _, _, _, _, _ => none
  | n + 1, bl0, l1, l3, l4, σ =>
    if (mI σ (bl0 + 1) 6) ≤ l4 then (
     some (l3, σ))
    else (obi (fX2_soWorlds bl0 l4 σ) (fun r1 σ2 =>
    obi (fX9_verdict l1 r1 σ2) (fun r4 σ5 =>
    if r4 = ((-2) : Int32) then (
     fX2_settled_b5 n bl0 l1 l3 (l4 + 1) σ5)
    else (fX2_settled_b5 n bl0 l1 (l3 ||| ((1 : Int32) <<< (l4 &&& 31))) (l4 + 1) σ5))))
set_option maxRecDepth 100000 in
set_option maxHeartbeats 4000000 in
theorem rX2_settled_b5 {K : OK} (hc : kcc K = cX2_settled) (ho : kow K = RX2) (hL : knL K = 5) (hN : 1 ≤ kN K) (hr : (kme K).sig.returnType = (some .int)) {r0 : Int32} {σ0 : OM} (hE : oEnd K (some (.int r0)) σ0) (hz : kz K = 0) : ∀ (n : Nat) (bl0 : Nat) (l1 : Int64) (l3 : Int32) (l4 : Int32) (σ : OM), okd bl0 = 8 → fX2_settled_b5 n bl0 l1 l3 l4 σ = some (r0, σ0) → Go K 5 [.ref (bl0 + 1), .long l1, .null, .int l3, .int l4] [] σ := by
  intro n
  induction n with
  | zero =>
    intro bl0 l1 l3 l4 σ hbl0 h
    cases h
  | succ n ih =>
    intro bl0 l1 l3 l4 σ hbl0 h
    rw [fX2_settled_b5] at h
    refine go_iload hc dX2_settled_5 rfl ?_
    refine go_aload_n hc dX2_settled_7 rfl rfl ?_
    refine go_getI hc ho flX2_42 dX2_settled_8 (ow_k1 hbl0) ?_
    refine go_icmp_ge (tgt := 42) hc dX2_settled_11 rfl (fun hh => ?_) (fun hh => ?_)
    · rw [if_pos hh] at h
      refine go_iload_n hc dX2_settled_42 rfl rfl ?_
      exact go_iret hc (oend_i h hE) hr dX2_settled_43
    · rw [if_neg hh] at h
      refine go_lload_n hc dX2_settled_14 rfl rfl ?_
      refine go_aload_n hc dX2_settled_15 rfl rfl ?_
      refine go_iload hc dX2_settled_16 rfl ?_
      obtain ⟨r1, σ2, hf3, h⟩ := obi_some h
      refine go_callVl hc ho cmX2_soWorlds mlX2_65 dX2_settled_18 (ow_k1 hbl0) (As := [.int l4]) (rest := [.long l1]) (rX2_soWorlds (N := 0) hbl0 hf3 (Nat.le_refl _)) rfl (Nat.le_trans (Nat.le_of_ble_eq_true rfl) hN) rfl (Nat.le_of_ble_eq_true rfl) (Or.inl hz) ?_
      obtain ⟨r4, σ5, hf6, h⟩ := obi_some h
      refine go_callSNi hc ho cmX9_verdict mnX2_69 dX2_settled_21 (As := [.long l1, .long r1]) (rest := []) (rX9_verdict (N := 0) hf6 (Nat.le_refl _)) rfl (Nat.le_trans (Nat.le_of_ble_eq_true rfl) hN) rfl (Nat.le_of_ble_eq_true rfl) (Or.inl hz) ?_
      refine go_bipush hc dX2_settled_24 cb_m2 ?_
      refine go_icmp_eq (tgt := 36) hc dX2_settled_26 rfl (fun hh => ?_) (fun hh => ?_)
      · rw [if_pos hh] at h
        refine go_iinc hc (lv1 := [.ref (bl0 + 1), .long l1, .null, .int l3, .int (l4 + 1)]) dX2_settled_36 rfl ci_1 hL (by decide) (fun _ _ e => by cases e; rfl) rfl ?_
        refine go_goto (tgt := 5) hc dX2_settled_39 rfl ?_
        exact ih bl0 l1 l3 (l4 + 1) _ hbl0 h
      · rw [if_neg hh] at h
        refine go_iload_n hc dX2_settled_29 rfl rfl ?_
        refine go_iconst hc dX2_settled_30 ci_1 ?_
        refine go_iload hc dX2_settled_31 rfl ?_
        refine go_ishl hc dX2_settled_33 ?_
        refine go_ior hc dX2_settled_34 ?_
        refine go_istore_n hc (lv1 := [.ref (bl0 + 1), .long l1, .null, .int (l3 ||| ((1 : Int32) <<< (l4 &&& 31))), .int l4]) dX2_settled_35 rfl hL (by decide) (fun _ _ e => by cases e; rfl) rfl ?_
        refine go_iinc hc (lv1 := [.ref (bl0 + 1), .long l1, .null, .int (l3 ||| ((1 : Int32) <<< (l4 &&& 31))), .int (l4 + 1)]) dX2_settled_36 rfl ci_1 hL (by decide) (fun _ _ e => by cases e; rfl) rfl ?_
        refine go_goto (tgt := 5) hc dX2_settled_39 rfl ?_
        exact ih bl0 l1 (l3 ||| ((1 : Int32) <<< (l4 &&& 31))) (l4 + 1) _ hbl0 h
def fX2_settled (w : Nat) (x0 : Int64) (σ : OM) : Option (Int32 × OM) :=
  fX2_settled_b5 oF w x0 (0 : Int32) (0 : Int32) σ
set_option maxRecDepth 100000 in
set_option maxHeartbeats 4000000 in
theorem rX2_settled {N : Nat} {w : Nat} {x0 : Int64} {σ : OM} {r0 : Int32} {σ0 : OM} (hw : okd w = 8) (h : fX2_settled w x0 σ = some (r0, σ0)) (hN0 : 1 ≤ N) : oEv N MX2_settled [.ref (w + 1), .long x0] σ (some (.int r0)) σ0 := by
  refine oEv_of (lv := [.ref (w + 1), .long x0, .null, .null, .null]) (by decide +kernel) (fun g q hq => hq) (fun g => Nat.le_of_ble_eq_true rfl) ?_
  intro K hc ho hL hN1 hr hE hz
  have hN : 1 ≤ kN K := by rw [hN1]; exact hN0
  unfold fX2_settled at h
  refine go_iconst hc dX2_settled_0 ci_0 ?_
  refine go_istore_n hc (lv1 := [.ref (w + 1), .long x0, .null, .int (0 : Int32), .null]) dX2_settled_1 rfl hL (by decide) (fun _ _ e => by cases e; rfl) rfl ?_
  refine go_iconst hc dX2_settled_2 ci_0 ?_
  refine go_istore hc (lv1 := [.ref (w + 1), .long x0, .null, .int (0 : Int32), .int (0 : Int32)]) dX2_settled_3 hL (by decide) (fun _ _ e => by cases e; rfl) rfl ?_
  exact rX2_settled_b5 hc ho hL hN hr hE hz oF w x0 (0 : Int32) (0 : Int32) _ hw h
def fX9_onlyTogether_b75 (l2 : Int32) (σ : OM) : Option (Int32 × OM) :=
  obi (fX9_answer l2 σ) (fun r1 σ2 =>
  some (r1, σ2))
set_option maxRecDepth 100000 in
set_option maxHeartbeats 4000000 in
theorem rX9_onlyTogether_b75 {K : OK} (hc : kcc K = cX9_onlyTogether) (ho : kow K = RX9) (hL : knL K = 4) (hN : 5 ≤ kN K) (hr : (kme K).sig.returnType = (some .int)) {r0 : Int32} {σ0 : OM} (hE : oEnd K (some (.int r0)) σ0) (hz : kz K = 0) {l2 : Int32} {σ : OM} (h : fX9_onlyTogether_b75 l2 σ = some (r0, σ0)) : Go K 75 [.ref 0, .null, .int l2, .null] [] σ := by
  unfold fX9_onlyTogether_b75 at h
  refine go_aload_n hc dX9_onlyTogether_75 rfl rfl ?_
  refine go_iload_n hc dX9_onlyTogether_76 rfl rfl ?_
  obtain ⟨r1, σ2, hf3, h⟩ := obi_some h
  refine go_callVi hc ho cmX9_answer mlX9_103 dX9_onlyTogether_77 ok_0 (As := [.int l2]) (rest := []) (rX9_answer (N := 0) hf3 (Nat.le_refl _)) rfl (Nat.le_trans (Nat.le_of_ble_eq_true rfl) hN) rfl (Nat.le_of_ble_eq_true rfl) (Or.inl hz) ?_
  exact go_iret hc (oend_i h hE) hr dX9_onlyTogether_80
def fX9_onlyTogether_b38 : Nat → Nat → Int32 → Int32 → OM → Option (Int32 × OM)
  | 0, _, _, _, _ => none
  | n + 1, bl1, l2, l3, σ =>
    ogd (decide (okd (mR σ 0 0) = 8)) (
    if (mI σ (mR σ 0 0) 4) ≤ l3 then (
     fX9_onlyTogether_b75 l2 σ)
    else (ogd (decide (okd (mR σ 0 0) = 8)) (
    obi (fX3_worldsOf (mR σ 0 0) l3 σ) (fun r3 σ4 =>
    obi (fX2_settled bl1 r3 σ4) (fun r6 σ7 =>
    fX9_onlyTogether_b38 n bl1 (l2 &&& (r6 ^^^ ((-1) : Int32))) (l3 + 1) σ7)))))
set_option maxRecDepth 100000 in
set_option maxHeartbeats 4000000 in
theorem rX9_onlyTogether_b38 {K : OK} (hc : kcc K = cX9_onlyTogether) (ho : kow K = RX9) (hL : knL K = 4) (hN : 5 ≤ kN K) (hr : (kme K).sig.returnType = (some .int)) {r0 : Int32} {σ0 : OM} (hE : oEnd K (some (.int r0)) σ0) (hz : kz K = 0) : ∀ (n : Nat) (bl1 : Nat) (l2 : Int32) (l3 : Int32) (σ : OM), okd bl1 = 8 → fX9_onlyTogether_b38 n bl1 l2 l3 σ = some (r0, σ0) → Go K 38 [.ref 0, .ref (bl1 + 1), .int l2, .int l3] [] σ := by
  intro n
  induction n with
  | zero =>
    intro bl1 l2 l3 σ hbl1 h
    cases h
  | succ n ih =>
    intro bl1 l2 l3 σ hbl1 h
    rw [fX9_onlyTogether_b38] at h
    refine go_iload_n hc dX9_onlyTogether_38 rfl rfl ?_
    refine go_aload_n hc dX9_onlyTogether_39 rfl rfl ?_
    obtain ⟨hg1, h⟩ := ogd_some h
    refine go_getR hc ho flX9_10 dX9_onlyTogether_40 ok_0 ?_
    refine go_getI hc ho flX9_100 dX9_onlyTogether_43 (of_decide_eq_true hg1) ?_
    refine go_icmp_ge (tgt := 75) hc dX9_onlyTogether_46 rfl (fun hh => ?_) (fun hh => ?_)
    · rw [if_pos hh] at h
      refine go_mask [true, false, true, false] (lv1 := [.ref 0, .null, .int l2, .null]) rfl ?_
      exact rX9_onlyTogether_b75 hc ho hL hN hr hE hz h
    · rw [if_neg hh] at h
      refine go_iload_n hc dX9_onlyTogether_49 rfl rfl ?_
      refine go_aload_n hc dX9_onlyTogether_50 rfl rfl ?_
      refine go_aload_n hc dX9_onlyTogether_51 rfl rfl ?_
      obtain ⟨hg2, h⟩ := ogd_some h
      refine go_getR hc ho flX9_10 dX9_onlyTogether_52 ok_0 ?_
      refine go_getC (b := (mR σ 0 0) + 10) (ow_c0_2 (of_decide_eq_true hg2)) hc ho flX9_149 dX9_onlyTogether_55 (of_decide_eq_true hg2) ?_
      refine go_iload_n hc dX9_onlyTogether_58 rfl rfl ?_
      obtain ⟨r3, σ4, hf5, h⟩ := obi_some h
      refine go_callVl hc ho cmX3_worldsOf mlX9_177 dX9_onlyTogether_59 (ow_k10 (of_decide_eq_true hg2)) (As := [.int l3]) (rest := [.ref (bl1 + 1), .int l2]) (rX3_worldsOf (N := 4) (of_decide_eq_true hg2) hf5 (Nat.le_refl _)) rfl (Nat.le_trans (Nat.le_of_ble_eq_true rfl) hN) rfl (Nat.le_of_ble_eq_true rfl) (Or.inl hz) ?_
      obtain ⟨r6, σ7, hf8, h⟩ := obi_some h
      refine go_callVi hc ho cmX2_settled mlX9_195 dX9_onlyTogether_62 (ow_k1 hbl1) (As := [.long r3]) (rest := [.int l2]) (rX2_settled (N := 1) hbl1 hf8 (Nat.le_refl _)) rfl (Nat.le_trans (Nat.le_of_ble_eq_true rfl) hN) rfl (Nat.le_of_ble_eq_true rfl) (Or.inl hz) ?_
      refine go_iconst hc dX9_onlyTogether_65 ci_m1 ?_
      refine go_ixor hc dX9_onlyTogether_66 ?_
      refine go_iand hc dX9_onlyTogether_67 ?_
      refine go_istore_n hc (lv1 := [.ref 0, .ref (bl1 + 1), .int (l2 &&& (r6 ^^^ ((-1) : Int32))), .int l3]) dX9_onlyTogether_68 rfl hL (by decide) (fun _ _ e => by cases e; rfl) rfl ?_
      refine go_iinc hc (lv1 := [.ref 0, .ref (bl1 + 1), .int (l2 &&& (r6 ^^^ ((-1) : Int32))), .int (l3 + 1)]) dX9_onlyTogether_69 rfl ci_1 hL (by decide) (fun _ _ e => by cases e; rfl) rfl ?_
      refine go_goto (tgt := 38) hc dX9_onlyTogether_72 rfl ?_
      exact ih bl1 (l2 &&& (r6 ^^^ ((-1) : Int32))) (l3 + 1) _ hbl1 h
def fX9_onlyTogether (σ : OM) : Option (Int32 × OM) :=
  if (mI σ 0 7) = 0 then (
   obi (fX9_refuse (1 : Int32) σ) (fun r9 σ10 =>
   some (r9, σ10)))
  else (ogd (decide (okd (mR σ 0 0) = 8)) (
  ogd (decide (okd (mR σ 0 0) = 8)) (
  obi (fX3_worldsOfAll (mR σ 0 0) σ) (fun r3 σ4 =>
  obi (fX2_settled (mR σ 0 0) r3 σ4) (fun r6 σ7 =>
  fX9_onlyTogether_b38 oF (mR σ 0 0) r6 (0 : Int32) σ7)))))
set_option maxRecDepth 100000 in
set_option maxHeartbeats 4000000 in
theorem rX9_onlyTogether {N : Nat} {σ : OM} {r0 : Int32} {σ0 : OM} (h : fX9_onlyTogether σ = some (r0, σ0)) (hN0 : 5 ≤ N) : oEv N MX9_onlyTogether [.ref 0] σ (some (.int r0)) σ0 := by
  refine oEv_of (lv := [.ref 0, .null, .null, .null]) (by decide +kernel) (fun g q hq => hq) (fun g => Nat.le_of_ble_eq_true rfl) ?_
  intro K hc ho hL hN1 hr hE hz
  have hN : 5 ≤ kN K := by rw [hN1]; exact hN0
  unfold fX9_onlyTogether at h
  refine go_aload_n hc dX9_onlyTogether_0 rfl rfl ?_
  refine go_getI hc ho flX9_90 dX9_onlyTogether_1 ok_0 ?_
  refine go_if_ne (tgt := 13) hc dX9_onlyTogether_4 rfl (fun hh => ?_) (fun hh => ?_)
  · rw [if_neg hh] at h
    refine go_aload_n hc dX9_onlyTogether_13 rfl rfl ?_
    obtain ⟨hg1, h⟩ := ogd_some h
    refine go_getR hc ho flX9_10 dX9_onlyTogether_14 ok_0 ?_
    refine go_getC (b := (mR σ 0 0) + 1) (ow_c0_0 (of_decide_eq_true hg1)) hc ho flX9_37 dX9_onlyTogether_17 (of_decide_eq_true hg1) ?_
    refine go_astore_n hc (lv1 := [.ref 0, .ref ((mR σ 0 0) + 1), .null, .null]) dX9_onlyTogether_20 rfl hL (by decide) (fun _ _ e => by cases e; rfl) rfl ?_
    refine go_aload_n hc dX9_onlyTogether_21 rfl rfl ?_
    refine go_aload_n hc dX9_onlyTogether_22 rfl rfl ?_
    obtain ⟨hg2, h⟩ := ogd_some h
    refine go_getR hc ho flX9_10 dX9_onlyTogether_23 ok_0 ?_
    refine go_getC (b := (mR σ 0 0) + 10) (ow_c0_2 (of_decide_eq_true hg2)) hc ho flX9_149 dX9_onlyTogether_26 (of_decide_eq_true hg2) ?_
    obtain ⟨r3, σ4, hf5, h⟩ := obi_some h
    refine go_callVl hc ho cmX3_worldsOfAll mlX9_191 dX9_onlyTogether_29 (ow_k10 (of_decide_eq_true hg2)) (As := []) (rest := [.ref ((mR σ 0 0) + 1)]) (rX3_worldsOfAll (N := 4) (of_decide_eq_true hg2) hf5 (Nat.le_refl _)) rfl (Nat.le_trans (Nat.le_of_ble_eq_true rfl) hN) rfl (Nat.le_of_ble_eq_true rfl) (Or.inl hz) ?_
    obtain ⟨r6, σ7, hf8, h⟩ := obi_some h
    refine go_callVi hc ho cmX2_settled mlX9_195 dX9_onlyTogether_32 (ow_k1 (of_decide_eq_true hg1)) (As := [.long r3]) (rest := []) (rX2_settled (N := 1) (of_decide_eq_true hg1) hf8 (Nat.le_refl _)) rfl (Nat.le_trans (Nat.le_of_ble_eq_true rfl) hN) rfl (Nat.le_of_ble_eq_true rfl) (Or.inl hz) ?_
    refine go_istore_n hc (lv1 := [.ref 0, .ref ((mR σ 0 0) + 1), .int r6, .null]) dX9_onlyTogether_35 rfl hL (by decide) (fun _ _ e => by cases e; rfl) rfl ?_
    refine go_iconst hc dX9_onlyTogether_36 ci_0 ?_
    refine go_istore_n hc (lv1 := [.ref 0, .ref ((mR σ 0 0) + 1), .int r6, .int (0 : Int32)]) dX9_onlyTogether_37 rfl hL (by decide) (fun _ _ e => by cases e; rfl) rfl ?_
    exact rX9_onlyTogether_b38 hc ho hL hN hr hE hz oF (mR σ 0 0) r6 (0 : Int32) _ (of_decide_eq_true hg1) h
  · rw [if_pos hh] at h
    refine go_aload_n hc dX9_onlyTogether_7 rfl rfl ?_
    refine go_iconst hc dX9_onlyTogether_8 ci_1 ?_
    obtain ⟨r9, σ10, hf11, h⟩ := obi_some h
    refine go_callVi hc ho cmX9_refuse mlX9_70 dX9_onlyTogether_9 ok_0 (As := [.int (1 : Int32)]) (rest := []) (rX9_refuse (N := 0) hf11 (Nat.le_refl _)) rfl (Nat.le_trans (Nat.le_of_ble_eq_true rfl) hN) rfl (Nat.le_of_ble_eq_true rfl) (Or.inl hz) ?_
    exact go_iret hc (oend_i h hE) hr dX9_onlyTogether_12
def fX3_worldsBy (w : Nat) (x0 : Int32) (σ : OM) : Option (Int64 × OM) :=
  obi (fX3_worldsWithout w ((-1) : Int32) x0 σ) (fun r1 σ2 =>
  some (r1, σ2))
set_option maxRecDepth 100000 in
set_option maxHeartbeats 4000000 in
theorem rX3_worldsBy {N : Nat} {w : Nat} {x0 : Int32} {σ : OM} {r0 : Int64} {σ0 : OM} (hw : okd w = 8) (h : fX3_worldsBy w x0 σ = some (r0, σ0)) (hN0 : 4 ≤ N) : oEv N MX3_worldsBy [.ref (w + 10), .int x0] σ (some (.long r0)) σ0 := by
  refine oEv_of (lv := [.ref (w + 10), .int x0]) (by decide +kernel) (fun g q hq => hq) (fun g => Nat.le_of_ble_eq_true rfl) ?_
  intro K hc ho hL hN1 hr hE hz
  have hN : 4 ≤ kN K := by rw [hN1]; exact hN0
  unfold fX3_worldsBy at h
  refine go_aload_n hc dX3_worldsBy_0 rfl rfl ?_
  refine go_iconst hc dX3_worldsBy_1 ci_m1 ?_
  refine go_iload_n hc dX3_worldsBy_2 rfl rfl ?_
  obtain ⟨r1, σ2, hf3, h⟩ := obi_some h
  refine go_callVl hc ho cmX3_worldsWithout mlX3_85 dX3_worldsBy_3 (ow_k10 hw) (As := [.int ((-1) : Int32), .int x0]) (rest := []) (rX3_worldsWithout (N := 3) hw hf3 (Nat.le_refl _)) rfl (Nat.le_trans (Nat.le_of_ble_eq_true rfl) hN) rfl (Nat.le_of_ble_eq_true rfl) (Or.inl hz) ?_
  exact go_lret hc (oend_l h hE) hr dX3_worldsBy_6
def fX9_gainOfWedding (x0 : Int32) (x1 : Int32) (σ : OM) : Option (Int32 × OM) :=
  ogd (decide (okd (mR σ 0 0) = 8)) (
  obi (fX7_kinOf ((mR σ 0 0) + 5) x0 σ) (fun r2 σ3 =>
  obi (fX9_bitOf r2.toInt64 x1 σ3) (fun r5 σ6 =>
  if r5 = (1 : Int32) then (
   some (((-1) : Int32), σ6))
  else (ogd (decide (okd (mR σ6 0 0) = 8)) (
  ogd (decide (okd (mR σ6 0 0) = 8)) (
  ogd (decide (okd (mR σ6 0 0) = 8)) (
  obi (fX7_kinOf ((mR σ6 0 0) + 5) x1 σ6) (fun r11 σ12 =>
  obi (fX3_worldsBy (mR σ6 0 0) (r2 ||| r11) σ12) (fun r14 σ15 =>
  obi (fX2_settled (mR σ6 0 0) r14 σ15) (fun r17 σ18 =>
  ogd (decide (okd (mR σ18 0 0) = 8)) (
  obi (fX3_worldsOf (mR σ18 0 0) x0 σ18) (fun r21 σ22 =>
  obi (fX2_settled (mR σ6 0 0) r21 σ22) (fun r24 σ25 =>
  ogd (decide (okd (mR σ25 0 0) = 8)) (
  obi (fX3_worldsOf (mR σ25 0 0) x1 σ25) (fun r28 σ29 =>
  obi (fX2_settled (mR σ6 0 0) r28 σ29) (fun r31 σ32 =>
  obi (fJ6_bitCount_0f7a4 (r17 &&& ((r24 ||| r31) ^^^ ((-1) : Int32))) σ32) (fun r34 σ35 =>
  some (r34, σ35))))))))))))))))))
set_option maxRecDepth 100000 in
set_option maxHeartbeats 4000000 in
theorem rX9_gainOfWedding {N : Nat} {x0 : Int32} {x1 : Int32} {σ : OM} {r0 : Int32} {σ0 : OM} (h : fX9_gainOfWedding x0 x1 σ = some (r0, σ0)) (hN0 : 5 ≤ N) : oEv N MX9_gainOfWedding [.ref 0, .int x0, .int x1] σ (some (.int r0)) σ0 := by
  refine oEv_of (lv := [.ref 0, .int x0, .int x1, .null, .null, .null, .null]) (by decide +kernel) (fun g q hq => hq) (fun g => Nat.le_of_ble_eq_true rfl) ?_
  intro K hc ho hL hN1 hr hE hz
  have hN : 5 ≤ kN K := by rw [hN1]; exact hN0
  unfold fX9_gainOfWedding at h
  refine go_aload_n hc dX9_gainOfWedding_0 rfl rfl ?_
  obtain ⟨hg1, h⟩ := ogd_some h
  refine go_getR hc ho flX9_10 dX9_gainOfWedding_1 ok_0 ?_
  refine go_getC (b := (mR σ 0 0) + 5) (ow_c0_1 (of_decide_eq_true hg1)) hc ho flX9_170 dX9_gainOfWedding_4 (of_decide_eq_true hg1) ?_
  refine go_iload_n hc dX9_gainOfWedding_7 rfl rfl ?_
  obtain ⟨r2, σ3, hf4, h⟩ := obi_some h
  refine go_callVi hc ho cmX7_kinOf mlX9_174 dX9_gainOfWedding_8 (ow_k5 (of_decide_eq_true hg1)) (As := [.int x0]) (rest := []) (rX7_kinOf (N := 1) (ow_k5 (of_decide_eq_true hg1)) hf4 (Nat.le_refl _)) rfl (Nat.le_trans (Nat.le_of_ble_eq_true rfl) hN) rfl (Nat.le_of_ble_eq_true rfl) (Or.inl hz) ?_
  refine go_istore_n hc (lv1 := [.ref 0, .int x0, .int x1, .int r2, .null, .null, .null]) dX9_gainOfWedding_11 rfl hL (by decide) (fun _ _ e => by cases e; rfl) rfl ?_
  refine go_iload_n hc dX9_gainOfWedding_12 rfl rfl ?_
  refine go_i2l hc dX9_gainOfWedding_13 ?_
  refine go_iload_n hc dX9_gainOfWedding_14 rfl rfl ?_
  obtain ⟨r5, σ6, hf7, h⟩ := obi_some h
  refine go_callSi hc ho cmX9_bitOf mlX9_119 dX9_gainOfWedding_15 (As := [.long r2.toInt64, .int x1]) (rest := []) (rX9_bitOf (N := 0) hf7 (Nat.le_refl _)) rfl (Nat.le_trans (Nat.le_of_ble_eq_true rfl) hN) rfl (Nat.le_of_ble_eq_true rfl) (Or.inl hz) ?_
  refine go_iconst hc dX9_gainOfWedding_18 ci_1 ?_
  refine go_icmp_ne (tgt := 24) hc dX9_gainOfWedding_19 rfl (fun hh => ?_) (fun hh => ?_)
  · rw [if_neg hh] at h
    refine go_aload_n hc dX9_gainOfWedding_24 rfl rfl ?_
    obtain ⟨hg8, h⟩ := ogd_some h
    refine go_getR hc ho flX9_10 dX9_gainOfWedding_25 ok_0 ?_
    refine go_getC (b := (mR σ6 0 0) + 1) (ow_c0_0 (of_decide_eq_true hg8)) hc ho flX9_37 dX9_gainOfWedding_28 (of_decide_eq_true hg8) ?_
    refine go_astore hc (lv1 := [.ref 0, .int x0, .int x1, .int r2, .ref ((mR σ6 0 0) + 1), .null, .null]) dX9_gainOfWedding_31 hL (by decide) (fun _ _ e => by cases e; rfl) rfl ?_
    refine go_aload hc dX9_gainOfWedding_33 rfl ?_
    refine go_aload_n hc dX9_gainOfWedding_35 rfl rfl ?_
    obtain ⟨hg9, h⟩ := ogd_some h
    refine go_getR hc ho flX9_10 dX9_gainOfWedding_36 ok_0 ?_
    refine go_getC (b := (mR σ6 0 0) + 10) (ow_c0_2 (of_decide_eq_true hg9)) hc ho flX9_149 dX9_gainOfWedding_39 (of_decide_eq_true hg9) ?_
    refine go_iload_n hc dX9_gainOfWedding_42 rfl rfl ?_
    refine go_aload_n hc dX9_gainOfWedding_43 rfl rfl ?_
    obtain ⟨hg10, h⟩ := ogd_some h
    refine go_getR hc ho flX9_10 dX9_gainOfWedding_44 ok_0 ?_
    refine go_getC (b := (mR σ6 0 0) + 5) (ow_c0_1 (of_decide_eq_true hg10)) hc ho flX9_170 dX9_gainOfWedding_47 (of_decide_eq_true hg10) ?_
    refine go_iload_n hc dX9_gainOfWedding_50 rfl rfl ?_
    obtain ⟨r11, σ12, hf13, h⟩ := obi_some h
    refine go_callVi hc ho cmX7_kinOf mlX9_174 dX9_gainOfWedding_51 (ow_k5 (of_decide_eq_true hg10)) (As := [.int x1]) (rest := [.int r2, .ref ((mR σ6 0 0) + 10), .ref ((mR σ6 0 0) + 1)]) (rX7_kinOf (N := 1) (ow_k5 (of_decide_eq_true hg10)) hf13 (Nat.le_refl _)) rfl (Nat.le_trans (Nat.le_of_ble_eq_true rfl) hN) rfl (Nat.le_of_ble_eq_true rfl) (Or.inl hz) ?_
    refine go_ior hc dX9_gainOfWedding_54 ?_
    obtain ⟨r14, σ15, hf16, h⟩ := obi_some h
    refine go_callVl hc ho cmX3_worldsBy mlX9_345 dX9_gainOfWedding_55 (ow_k10 (of_decide_eq_true hg9)) (As := [.int (r2 ||| r11)]) (rest := [.ref ((mR σ6 0 0) + 1)]) (rX3_worldsBy (N := 4) (of_decide_eq_true hg9) hf16 (Nat.le_refl _)) rfl (Nat.le_trans (Nat.le_of_ble_eq_true rfl) hN) rfl (Nat.le_of_ble_eq_true rfl) (Or.inl hz) ?_
    obtain ⟨r17, σ18, hf19, h⟩ := obi_some h
    refine go_callVi hc ho cmX2_settled mlX9_195 dX9_gainOfWedding_58 (ow_k1 (of_decide_eq_true hg8)) (As := [.long r14]) (rest := []) (rX2_settled (N := 1) (of_decide_eq_true hg8) hf19 (Nat.le_refl _)) rfl (Nat.le_trans (Nat.le_of_ble_eq_true rfl) hN) rfl (Nat.le_of_ble_eq_true rfl) (Or.inl hz) ?_
    refine go_istore hc (lv1 := [.ref 0, .int x0, .int x1, .int r2, .ref ((mR σ6 0 0) + 1), .int r17, .null]) dX9_gainOfWedding_61 hL (by decide) (fun _ _ e => by cases e; rfl) rfl ?_
    refine go_aload hc dX9_gainOfWedding_63 rfl ?_
    refine go_aload_n hc dX9_gainOfWedding_65 rfl rfl ?_
    obtain ⟨hg20, h⟩ := ogd_some h
    refine go_getR hc ho flX9_10 dX9_gainOfWedding_66 ok_0 ?_
    refine go_getC (b := (mR σ18 0 0) + 10) (ow_c0_2 (of_decide_eq_true hg20)) hc ho flX9_149 dX9_gainOfWedding_69 (of_decide_eq_true hg20) ?_
    refine go_iload_n hc dX9_gainOfWedding_72 rfl rfl ?_
    obtain ⟨r21, σ22, hf23, h⟩ := obi_some h
    refine go_callVl hc ho cmX3_worldsOf mlX9_177 dX9_gainOfWedding_73 (ow_k10 (of_decide_eq_true hg20)) (As := [.int x0]) (rest := [.ref ((mR σ6 0 0) + 1)]) (rX3_worldsOf (N := 4) (of_decide_eq_true hg20) hf23 (Nat.le_refl _)) rfl (Nat.le_trans (Nat.le_of_ble_eq_true rfl) hN) rfl (Nat.le_of_ble_eq_true rfl) (Or.inl hz) ?_
    obtain ⟨r24, σ25, hf26, h⟩ := obi_some h
    refine go_callVi hc ho cmX2_settled mlX9_195 dX9_gainOfWedding_76 (ow_k1 (of_decide_eq_true hg8)) (As := [.long r21]) (rest := []) (rX2_settled (N := 1) (of_decide_eq_true hg8) hf26 (Nat.le_refl _)) rfl (Nat.le_trans (Nat.le_of_ble_eq_true rfl) hN) rfl (Nat.le_of_ble_eq_true rfl) (Or.inl hz) ?_
    refine go_aload hc dX9_gainOfWedding_79 rfl ?_
    refine go_aload_n hc dX9_gainOfWedding_81 rfl rfl ?_
    obtain ⟨hg27, h⟩ := ogd_some h
    refine go_getR hc ho flX9_10 dX9_gainOfWedding_82 ok_0 ?_
    refine go_getC (b := (mR σ25 0 0) + 10) (ow_c0_2 (of_decide_eq_true hg27)) hc ho flX9_149 dX9_gainOfWedding_85 (of_decide_eq_true hg27) ?_
    refine go_iload_n hc dX9_gainOfWedding_88 rfl rfl ?_
    obtain ⟨r28, σ29, hf30, h⟩ := obi_some h
    refine go_callVl hc ho cmX3_worldsOf mlX9_177 dX9_gainOfWedding_89 (ow_k10 (of_decide_eq_true hg27)) (As := [.int x1]) (rest := [.ref ((mR σ6 0 0) + 1), .int r24]) (rX3_worldsOf (N := 4) (of_decide_eq_true hg27) hf30 (Nat.le_refl _)) rfl (Nat.le_trans (Nat.le_of_ble_eq_true rfl) hN) rfl (Nat.le_of_ble_eq_true rfl) (Or.inl hz) ?_
    obtain ⟨r31, σ32, hf33, h⟩ := obi_some h
    refine go_callVi hc ho cmX2_settled mlX9_195 dX9_gainOfWedding_92 (ow_k1 (of_decide_eq_true hg8)) (As := [.long r28]) (rest := [.int r24]) (rX2_settled (N := 1) (of_decide_eq_true hg8) hf33 (Nat.le_refl _)) rfl (Nat.le_trans (Nat.le_of_ble_eq_true rfl) hN) rfl (Nat.le_of_ble_eq_true rfl) (Or.inl hz) ?_
    refine go_ior hc dX9_gainOfWedding_95 ?_
    refine go_istore hc (lv1 := [.ref 0, .int x0, .int x1, .int r2, .ref ((mR σ6 0 0) + 1), .int r17, .int (r24 ||| r31)]) dX9_gainOfWedding_96 hL (by decide) (fun _ _ e => by cases e; rfl) rfl ?_
    refine go_iload hc dX9_gainOfWedding_98 rfl ?_
    refine go_iload hc dX9_gainOfWedding_100 rfl ?_
    refine go_iconst hc dX9_gainOfWedding_102 ci_m1 ?_
    refine go_ixor hc dX9_gainOfWedding_103 ?_
    refine go_iand hc dX9_gainOfWedding_104 ?_
    obtain ⟨r34, σ35, hf36, h⟩ := obi_some h
    refine go_callSi hc ho cmJ6_bitCount_0f7a4 mlX9_348 dX9_gainOfWedding_105 (As := [.int (r17 &&& ((r24 ||| r31) ^^^ ((-1) : Int32)))]) (rest := []) (rJ6_bitCount_0f7a4 (N := 0) hf36 (Nat.le_refl _)) rfl (Nat.le_trans (Nat.le_of_ble_eq_true rfl) hN) rfl (Nat.le_of_ble_eq_true rfl) (Or.inl hz) ?_
    exact go_iret hc (oend_i h hE) hr dX9_gainOfWedding_108
  · rw [if_pos hh] at h
    refine go_iconst hc dX9_gainOfWedding_22 ci_m1 ?_
    exact go_iret hc (oend_i h hE) hr dX9_gainOfWedding_23
def fX9_bestWedding_b86 (l2 : Int32) (σ : OM) : Option (Int32 × OM) :=
  obi (fX9_answer l2 σ) (fun r1 σ2 =>
  some (r1, σ2))
set_option maxRecDepth 100000 in
set_option maxHeartbeats 4000000 in
theorem rX9_bestWedding_b86 {K : OK} (hc : kcc K = cX9_bestWedding) (ho : kow K = RX9) (hL : knL K = 6) (hN : 6 ≤ kN K) (hr : (kme K).sig.returnType = (some .int)) {r0 : Int32} {σ0 : OM} (hE : oEnd K (some (.int r0)) σ0) (hz : kz K = 0) {l2 : Int32} {σ : OM} (h : fX9_bestWedding_b86 l2 σ = some (r0, σ0)) : Go K 86 [.ref 0, .null, .int l2, .null, .null, .null] [] σ := by
  unfold fX9_bestWedding_b86 at h
  refine go_aload_n hc dX9_bestWedding_86 rfl rfl ?_
  refine go_iload_n hc dX9_bestWedding_87 rfl rfl ?_
  obtain ⟨r1, σ2, hf3, h⟩ := obi_some h
  refine go_callVi hc ho cmX9_answer mlX9_103 dX9_bestWedding_88 ok_0 (As := [.int l2]) (rest := []) (rX9_answer (N := 0) hf3 (Nat.le_refl _)) rfl (Nat.le_trans (Nat.le_of_ble_eq_true rfl) hN) rfl (Nat.le_of_ble_eq_true rfl) (Or.inl hz) ?_
  exact go_iret hc (oend_i h hE) hr dX9_bestWedding_91
def fX9_bestWedding_b36 (rc20 : Int32 → Int32 → Int32 → OM → Option (Int32 × OM)) : Nat → Int32 → Int32 → Int32 → Int32 → OM → Option (Int32 × OM)
  | 0, _, _, _, _, _ => none
  | n + 1, l1, l2, l3, l4, σ =>
    ogd (decide (okd (mR σ 0 0) = 8)) (
    if (mI σ (mR σ 0 0) 4) ≤ l4 then (
     rc20 l1 l2 (l3 + 1) σ)
    else (obi (fX9_gainOfWedding l3 l4 σ) (fun r2 σ3 =>
    if r2 ≤ l1 then (
     fX9_bestWedding_b36 rc20 n l1 l2 l3 (l4 + 1) σ3)
    else (fX9_bestWedding_b36 rc20 n r2 (((10 : Int32) * l3) + l4) l3 (l4 + 1) σ3))))
set_option maxRecDepth 100000 in
set_option maxHeartbeats 4000000 in
theorem rX9_bestWedding_b36 {K : OK} (hc : kcc K = cX9_bestWedding) (ho : kow K = RX9) (hL : knL K = 6) (hN : 6 ≤ kN K) (hr : (kme K).sig.returnType = (some .int)) {r0 : Int32} {σ0 : OM} (hE : oEnd K (some (.int r0)) σ0) (hz : kz K = 0) {rc20 : Int32 → Int32 → Int32 → OM → Option (Int32 × OM)} (hrc20 : ∀ (l1 : Int32) (l2 : Int32) (l3 : Int32) (σ : OM), rc20 l1 l2 l3 σ = some (r0, σ0) → Go K 20 [.ref 0, .int l1, .int l2, .int l3, .null, .null] [] σ) : ∀ (n : Nat) (l1 : Int32) (l2 : Int32) (l3 : Int32) (l4 : Int32) (σ : OM), fX9_bestWedding_b36 rc20 n l1 l2 l3 l4 σ = some (r0, σ0) → Go K 36 [.ref 0, .int l1, .int l2, .int l3, .int l4, .null] [] σ := by
  intro n
  induction n with
  | zero =>
    intro l1 l2 l3 l4 σ h
    cases h
  | succ n ih =>
    intro l1 l2 l3 l4 σ h
    rw [fX9_bestWedding_b36] at h
    refine go_iload hc dX9_bestWedding_36 rfl ?_
    refine go_aload_n hc dX9_bestWedding_38 rfl rfl ?_
    obtain ⟨hg1, h⟩ := ogd_some h
    refine go_getR hc ho flX9_10 dX9_bestWedding_39 ok_0 ?_
    refine go_getI hc ho flX9_100 dX9_bestWedding_42 (of_decide_eq_true hg1) ?_
    refine go_icmp_ge (tgt := 80) hc dX9_bestWedding_45 rfl (fun hh => ?_) (fun hh => ?_)
    · rw [if_pos hh] at h
      refine go_iinc hc (lv1 := [.ref 0, .int l1, .int l2, .int (l3 + 1), .int l4, .null]) dX9_bestWedding_80 rfl ci_1 hL (by decide) (fun _ _ e => by cases e; rfl) rfl ?_
      refine go_goto (tgt := 20) hc dX9_bestWedding_83 rfl ?_
      refine go_mask [true, true, true, true, false, false] (lv1 := [.ref 0, .int l1, .int l2, .int (l3 + 1), .null, .null]) rfl ?_
      exact hrc20 l1 l2 (l3 + 1) _ h
    · rw [if_neg hh] at h
      refine go_aload_n hc dX9_bestWedding_48 rfl rfl ?_
      refine go_iload_n hc dX9_bestWedding_49 rfl rfl ?_
      refine go_iload hc dX9_bestWedding_50 rfl ?_
      obtain ⟨r2, σ3, hf4, h⟩ := obi_some h
      refine go_callVi hc ho cmX9_gainOfWedding mlX9_198 dX9_bestWedding_52 ok_0 (As := [.int l3, .int l4]) (rest := []) (rX9_gainOfWedding (N := 5) hf4 (Nat.le_refl _)) rfl (Nat.le_trans (Nat.le_of_ble_eq_true rfl) hN) rfl (Nat.le_of_ble_eq_true rfl) (Or.inl hz) ?_
      refine go_istore hc (lv1 := [.ref 0, .int l1, .int l2, .int l3, .int l4, .int r2]) dX9_bestWedding_55 hL (by decide) (fun _ _ e => by cases e; rfl) rfl ?_
      refine go_iload hc dX9_bestWedding_57 rfl ?_
      refine go_iload_n hc dX9_bestWedding_59 rfl rfl ?_
      refine go_icmp_le (tgt := 74) hc dX9_bestWedding_60 rfl (fun hh => ?_) (fun hh => ?_)
      · rw [if_pos hh] at h
        refine go_iinc hc (lv1 := [.ref 0, .int l1, .int l2, .int l3, .int (l4 + 1), .int r2]) dX9_bestWedding_74 rfl ci_1 hL (by decide) (fun _ _ e => by cases e; rfl) rfl ?_
        refine go_goto (tgt := 36) hc dX9_bestWedding_77 rfl ?_
        refine go_mask [true, true, true, true, true, false] (lv1 := [.ref 0, .int l1, .int l2, .int l3, .int (l4 + 1), .null]) rfl ?_
        exact ih l1 l2 l3 (l4 + 1) _ h
      · rw [if_neg hh] at h
        refine go_iload hc dX9_bestWedding_63 rfl ?_
        refine go_istore_n hc (lv1 := [.ref 0, .int r2, .int l2, .int l3, .int l4, .int r2]) dX9_bestWedding_65 rfl hL (by decide) (fun _ _ e => by cases e; rfl) rfl ?_
        refine go_bipush hc dX9_bestWedding_66 cb_10 ?_
        refine go_iload_n hc dX9_bestWedding_68 rfl rfl ?_
        refine go_imul hc dX9_bestWedding_69 ?_
        refine go_iload hc dX9_bestWedding_70 rfl ?_
        refine go_iadd hc dX9_bestWedding_72 ?_
        refine go_istore_n hc (lv1 := [.ref 0, .int r2, .int (((10 : Int32) * l3) + l4), .int l3, .int l4, .int r2]) dX9_bestWedding_73 rfl hL (by decide) (fun _ _ e => by cases e; rfl) rfl ?_
        refine go_iinc hc (lv1 := [.ref 0, .int r2, .int (((10 : Int32) * l3) + l4), .int l3, .int (l4 + 1), .int r2]) dX9_bestWedding_74 rfl ci_1 hL (by decide) (fun _ _ e => by cases e; rfl) rfl ?_
        refine go_goto (tgt := 36) hc dX9_bestWedding_77 rfl ?_
        refine go_mask [true, true, true, true, true, false] (lv1 := [.ref 0, .int r2, .int (((10 : Int32) * l3) + l4), .int l3, .int (l4 + 1), .null]) rfl ?_
        exact ih r2 (((10 : Int32) * l3) + l4) l3 (l4 + 1) _ h
def fX9_bestWedding_b20 : Nat → Int32 → Int32 → Int32 → OM → Option (Int32 × OM)
  | 0, _, _, _, _ => none
  | n + 1, l1, l2, l3, σ =>
    ogd (decide (okd (mR σ 0 0) = 8)) (
    if (mI σ (mR σ 0 0) 4) ≤ l3 then (
     fX9_bestWedding_b86 l2 σ)
    else (fX9_bestWedding_b36 (fX9_bestWedding_b20 n) oF l1 l2 l3 (l3 + (1 : Int32)) σ))
set_option maxRecDepth 100000 in
set_option maxHeartbeats 4000000 in
theorem rX9_bestWedding_b20 {K : OK} (hc : kcc K = cX9_bestWedding) (ho : kow K = RX9) (hL : knL K = 6) (hN : 6 ≤ kN K) (hr : (kme K).sig.returnType = (some .int)) {r0 : Int32} {σ0 : OM} (hE : oEnd K (some (.int r0)) σ0) (hz : kz K = 0) : ∀ (n : Nat) (l1 : Int32) (l2 : Int32) (l3 : Int32) (σ : OM), fX9_bestWedding_b20 n l1 l2 l3 σ = some (r0, σ0) → Go K 20 [.ref 0, .int l1, .int l2, .int l3, .null, .null] [] σ := by
  intro n
  induction n with
  | zero =>
    intro l1 l2 l3 σ h
    cases h
  | succ n ih =>
    intro l1 l2 l3 σ h
    rw [fX9_bestWedding_b20] at h
    refine go_iload_n hc dX9_bestWedding_20 rfl rfl ?_
    refine go_aload_n hc dX9_bestWedding_21 rfl rfl ?_
    obtain ⟨hg1, h⟩ := ogd_some h
    refine go_getR hc ho flX9_10 dX9_bestWedding_22 ok_0 ?_
    refine go_getI hc ho flX9_100 dX9_bestWedding_25 (of_decide_eq_true hg1) ?_
    refine go_icmp_ge (tgt := 86) hc dX9_bestWedding_28 rfl (fun hh => ?_) (fun hh => ?_)
    · rw [if_pos hh] at h
      refine go_mask [true, false, true, false, false, false] (lv1 := [.ref 0, .null, .int l2, .null, .null, .null]) rfl ?_
      exact rX9_bestWedding_b86 hc ho hL hN hr hE hz h
    · rw [if_neg hh] at h
      refine go_iload_n hc dX9_bestWedding_31 rfl rfl ?_
      refine go_iconst hc dX9_bestWedding_32 ci_1 ?_
      refine go_iadd hc dX9_bestWedding_33 ?_
      refine go_istore hc (lv1 := [.ref 0, .int l1, .int l2, .int l3, .int (l3 + (1 : Int32)), .null]) dX9_bestWedding_34 hL (by decide) (fun _ _ e => by cases e; rfl) rfl ?_
      exact rX9_bestWedding_b36 hc ho hL hN hr hE hz ih oF l1 l2 l3 (l3 + (1 : Int32)) _ h
def fX9_bestWedding (σ : OM) : Option (Int32 × OM) :=
  if (mI σ 0 7) = 0 then (
   obi (fX9_refuse (1 : Int32) σ) (fun r1 σ2 =>
   some (r1, σ2)))
  else (fX9_bestWedding_b20 oF ((-1) : Int32) ((-2) : Int32) (0 : Int32) σ)
set_option maxRecDepth 100000 in
set_option maxHeartbeats 4000000 in
theorem rX9_bestWedding {N : Nat} {σ : OM} {r0 : Int32} {σ0 : OM} (h : fX9_bestWedding σ = some (r0, σ0)) (hN0 : 6 ≤ N) : oEv N MX9_bestWedding [.ref 0] σ (some (.int r0)) σ0 := by
  refine oEv_of (lv := [.ref 0, .null, .null, .null, .null, .null]) (by decide +kernel) (fun g q hq => hq) (fun g => Nat.le_of_ble_eq_true rfl) ?_
  intro K hc ho hL hN1 hr hE hz
  have hN : 6 ≤ kN K := by rw [hN1]; exact hN0
  unfold fX9_bestWedding at h
  refine go_aload_n hc dX9_bestWedding_0 rfl rfl ?_
  refine go_getI hc ho flX9_90 dX9_bestWedding_1 ok_0 ?_
  refine go_if_ne (tgt := 13) hc dX9_bestWedding_4 rfl (fun hh => ?_) (fun hh => ?_)
  · rw [if_neg hh] at h
    refine go_iconst hc dX9_bestWedding_13 ci_m1 ?_
    refine go_istore_n hc (lv1 := [.ref 0, .int ((-1) : Int32), .null, .null, .null, .null]) dX9_bestWedding_14 rfl hL (by decide) (fun _ _ e => by cases e; rfl) rfl ?_
    refine go_bipush hc dX9_bestWedding_15 cb_m2 ?_
    refine go_istore_n hc (lv1 := [.ref 0, .int ((-1) : Int32), .int ((-2) : Int32), .null, .null, .null]) dX9_bestWedding_17 rfl hL (by decide) (fun _ _ e => by cases e; rfl) rfl ?_
    refine go_iconst hc dX9_bestWedding_18 ci_0 ?_
    refine go_istore_n hc (lv1 := [.ref 0, .int ((-1) : Int32), .int ((-2) : Int32), .int (0 : Int32), .null, .null]) dX9_bestWedding_19 rfl hL (by decide) (fun _ _ e => by cases e; rfl) rfl ?_
    exact rX9_bestWedding_b20 hc ho hL hN hr hE hz oF ((-1) : Int32) ((-2) : Int32) (0 : Int32) _ h
  · rw [if_pos hh] at h
    refine go_aload_n hc dX9_bestWedding_7 rfl rfl ?_
    refine go_iconst hc dX9_bestWedding_8 ci_1 ?_
    obtain ⟨r1, σ2, hf3, h⟩ := obi_some h
    refine go_callVi hc ho cmX9_refuse mlX9_70 dX9_bestWedding_9 ok_0 (As := [.int (1 : Int32)]) (rest := []) (rX9_refuse (N := 0) hf3 (Nat.le_refl _)) rfl (Nat.le_trans (Nat.le_of_ble_eq_true rfl) hN) rfl (Nat.le_of_ble_eq_true rfl) (Or.inl hz) ?_
    exact go_iret hc (oend_i h hE) hr dX9_bestWedding_12
def fX2_likeliestOf_b9 : Nat → Nat → Int64 → Int32 → Int32 → Int32 → OM → Option (Int32 × OM)
  | 0, _, _, _, _, _, _ => none
  | n + 1, bl0, l1, l3, l4, l5, σ =>
    if (64 : Int32) ≤ l5 then (
     some (l3, σ))
    else (obi (fX9_bitOf l1 l5 σ) (fun r1 σ2 =>
    if r1 = (1 : Int32) then (
     ogd (oin l5 64) (
     if (mI σ2 (bl0 + 4) l5.toNatClampNeg) ≤ l4 then (
      fX2_likeliestOf_b9 n bl0 l1 l3 l4 (l5 + 1) σ2)
     else (ogd (oin l5 64) (
     fX2_likeliestOf_b9 n bl0 l1 l5 (mI σ2 (bl0 + 4) l5.toNatClampNeg) (l5 + 1) σ2))))
    else (fX2_likeliestOf_b9 n bl0 l1 l3 l4 (l5 + 1) σ2)))
set_option maxRecDepth 100000 in
set_option maxHeartbeats 4000000 in
theorem rX2_likeliestOf_b9 {K : OK} (hc : kcc K = cX2_likeliestOf) (ho : kow K = RX2) (hL : knL K = 6) (hN : 1 ≤ kN K) (hr : (kme K).sig.returnType = (some .int)) {r0 : Int32} {σ0 : OM} (hE : oEnd K (some (.int r0)) σ0) (hz : kz K = 0) : ∀ (n : Nat) (bl0 : Nat) (l1 : Int64) (l3 : Int32) (l4 : Int32) (l5 : Int32) (σ : OM), okd bl0 = 8 → fX2_likeliestOf_b9 n bl0 l1 l3 l4 l5 σ = some (r0, σ0) → Go K 9 [.ref (bl0 + 1), .long l1, .null, .int l3, .int l4, .int l5] [] σ := by
  intro n
  induction n with
  | zero =>
    intro bl0 l1 l3 l4 l5 σ hbl0 h
    cases h
  | succ n ih =>
    intro bl0 l1 l3 l4 l5 σ hbl0 h
    rw [fX2_likeliestOf_b9] at h
    refine go_iload hc dX2_likeliestOf_9 rfl ?_
    refine go_bipush hc dX2_likeliestOf_11 cb_64 ?_
    refine go_icmp_ge (tgt := 56) hc dX2_likeliestOf_13 rfl (fun hh => ?_) (fun hh => ?_)
    · rw [if_pos hh] at h
      refine go_iload_n hc dX2_likeliestOf_56 rfl rfl ?_
      exact go_iret hc (oend_i h hE) hr dX2_likeliestOf_57
    · rw [if_neg hh] at h
      refine go_lload_n hc dX2_likeliestOf_16 rfl rfl ?_
      refine go_iload hc dX2_likeliestOf_17 rfl ?_
      obtain ⟨r1, σ2, hf3, h⟩ := obi_some h
      refine go_callSNi hc ho cmX9_bitOf mnX2_55 dX2_likeliestOf_19 (As := [.long l1, .int l5]) (rest := []) (rX9_bitOf (N := 0) hf3 (Nat.le_refl _)) rfl (Nat.le_trans (Nat.le_of_ble_eq_true rfl) hN) rfl (Nat.le_of_ble_eq_true rfl) (Or.inl hz) ?_
      refine go_iconst hc dX2_likeliestOf_22 ci_1 ?_
      refine go_icmp_ne (tgt := 50) hc dX2_likeliestOf_23 rfl (fun hh => ?_) (fun hh => ?_)
      · rw [if_neg hh] at h
        refine go_iinc hc (lv1 := [.ref (bl0 + 1), .long l1, .null, .int l3, .int l4, .int (l5 + 1)]) dX2_likeliestOf_50 rfl ci_1 hL (by decide) (fun _ _ e => by cases e; rfl) rfl ?_
        refine go_goto (tgt := 9) hc dX2_likeliestOf_53 rfl ?_
        exact ih bl0 l1 l3 l4 (l5 + 1) _ hbl0 h
      · rw [if_pos hh] at h
        refine go_aload_n hc dX2_likeliestOf_26 rfl rfl ?_
        refine go_getC (b := bl0 + 4) (ow_c1_10 hbl0) hc ho flX2_19 dX2_likeliestOf_27 (ow_k1 hbl0) ?_
        refine go_iload hc dX2_likeliestOf_30 rfl ?_
        obtain ⟨hg4, h⟩ := ogd_some h
        refine go_iald hc dX2_likeliestOf_32 (ow_k4 hbl0) (ow_l4 hbl0) hg4 rfl ?_
        refine go_iload hc dX2_likeliestOf_33 rfl ?_
        refine go_icmp_le (tgt := 50) hc dX2_likeliestOf_35 rfl (fun hh => ?_) (fun hh => ?_)
        · rw [if_pos hh] at h
          refine go_iinc hc (lv1 := [.ref (bl0 + 1), .long l1, .null, .int l3, .int l4, .int (l5 + 1)]) dX2_likeliestOf_50 rfl ci_1 hL (by decide) (fun _ _ e => by cases e; rfl) rfl ?_
          refine go_goto (tgt := 9) hc dX2_likeliestOf_53 rfl ?_
          exact ih bl0 l1 l3 l4 (l5 + 1) _ hbl0 h
        · rw [if_neg hh] at h
          refine go_aload_n hc dX2_likeliestOf_38 rfl rfl ?_
          refine go_getC (b := bl0 + 4) (ow_c1_10 hbl0) hc ho flX2_19 dX2_likeliestOf_39 (ow_k1 hbl0) ?_
          refine go_iload hc dX2_likeliestOf_42 rfl ?_
          obtain ⟨hg5, h⟩ := ogd_some h
          refine go_iald hc dX2_likeliestOf_44 (ow_k4 hbl0) (ow_l4 hbl0) hg5 rfl ?_
          refine go_istore hc (lv1 := [.ref (bl0 + 1), .long l1, .null, .int l3, .int (mI σ2 (bl0 + 4) l5.toNatClampNeg), .int l5]) dX2_likeliestOf_45 hL (by decide) (fun _ _ e => by cases e; rfl) rfl ?_
          refine go_iload hc dX2_likeliestOf_47 rfl ?_
          refine go_istore_n hc (lv1 := [.ref (bl0 + 1), .long l1, .null, .int l5, .int (mI σ2 (bl0 + 4) l5.toNatClampNeg), .int l5]) dX2_likeliestOf_49 rfl hL (by decide) (fun _ _ e => by cases e; rfl) rfl ?_
          refine go_iinc hc (lv1 := [.ref (bl0 + 1), .long l1, .null, .int l5, .int (mI σ2 (bl0 + 4) l5.toNatClampNeg), .int (l5 + 1)]) dX2_likeliestOf_50 rfl ci_1 hL (by decide) (fun _ _ e => by cases e; rfl) rfl ?_
          refine go_goto (tgt := 9) hc dX2_likeliestOf_53 rfl ?_
          exact ih bl0 l1 l5 (mI σ2 (bl0 + 4) l5.toNatClampNeg) (l5 + 1) _ hbl0 h
def fX2_likeliestOf (w : Nat) (x0 : Int64) (σ : OM) : Option (Int32 × OM) :=
  fX2_likeliestOf_b9 oF w x0 ((-2) : Int32) (0 : Int32) (0 : Int32) σ
set_option maxRecDepth 100000 in
set_option maxHeartbeats 4000000 in
theorem rX2_likeliestOf {N : Nat} {w : Nat} {x0 : Int64} {σ : OM} {r0 : Int32} {σ0 : OM} (hw : okd w = 8) (h : fX2_likeliestOf w x0 σ = some (r0, σ0)) (hN0 : 1 ≤ N) : oEv N MX2_likeliestOf [.ref (w + 1), .long x0] σ (some (.int r0)) σ0 := by
  refine oEv_of (lv := [.ref (w + 1), .long x0, .null, .null, .null, .null]) (by decide +kernel) (fun g q hq => hq) (fun g => Nat.le_of_ble_eq_true rfl) ?_
  intro K hc ho hL hN1 hr hE hz
  have hN : 1 ≤ kN K := by rw [hN1]; exact hN0
  unfold fX2_likeliestOf at h
  refine go_bipush hc dX2_likeliestOf_0 cb_m2 ?_
  refine go_istore_n hc (lv1 := [.ref (w + 1), .long x0, .null, .int ((-2) : Int32), .null, .null]) dX2_likeliestOf_2 rfl hL (by decide) (fun _ _ e => by cases e; rfl) rfl ?_
  refine go_iconst hc dX2_likeliestOf_3 ci_0 ?_
  refine go_istore hc (lv1 := [.ref (w + 1), .long x0, .null, .int ((-2) : Int32), .int (0 : Int32), .null]) dX2_likeliestOf_4 hL (by decide) (fun _ _ e => by cases e; rfl) rfl ?_
  refine go_iconst hc dX2_likeliestOf_6 ci_0 ?_
  refine go_istore hc (lv1 := [.ref (w + 1), .long x0, .null, .int ((-2) : Int32), .int (0 : Int32), .int (0 : Int32)]) dX2_likeliestOf_7 hL (by decide) (fun _ _ e => by cases e; rfl) rfl ?_
  exact rX2_likeliestOf_b9 hc ho hL hN hr hE hz oF w x0 ((-2) : Int32) (0 : Int32) (0 : Int32) _ hw h
def fX9_likeliest (x0 : Int32) (σ : OM) : Option (Int32 × OM) :=
  obi (fX9_isHouse x0 σ) (fun r1 σ2 =>
  if r1 = 0 then (
   obi (fX9_refuse (1 : Int32) σ2) (fun r15 σ16 =>
   some (r15, σ16)))
  else (ogd (decide (okd (mR σ2 0 0) = 8)) (
  ogd (decide (okd (mR σ2 0 0) = 8)) (
  obi (fX3_worldsOf (mR σ2 0 0) x0 σ2) (fun r6 σ7 =>
  obi (fX2_likeliestOf (mR σ2 0 0) r6 σ7) (fun r9 σ10 =>
  obi (fX9_answer r9 σ10) (fun r12 σ13 =>
  some (r12, σ13))))))))
set_option maxRecDepth 100000 in
set_option maxHeartbeats 4000000 in
theorem rX9_likeliest {N : Nat} {x0 : Int32} {σ : OM} {r0 : Int32} {σ0 : OM} (h : fX9_likeliest x0 σ = some (r0, σ0)) (hN0 : 5 ≤ N) : oEv N MX9_likeliest [.ref 0, .int x0] σ (some (.int r0)) σ0 := by
  refine oEv_of (lv := [.ref 0, .int x0]) (by decide +kernel) (fun g q hq => hq) (fun g => Nat.le_of_ble_eq_true rfl) ?_
  intro K hc ho hL hN1 hr hE hz
  have hN : 5 ≤ kN K := by rw [hN1]; exact hN0
  unfold fX9_likeliest at h
  refine go_aload_n hc dX9_likeliest_0 rfl rfl ?_
  refine go_iload_n hc dX9_likeliest_1 rfl rfl ?_
  obtain ⟨r1, σ2, hf3, h⟩ := obi_some h
  refine go_callVi hc ho cmX9_isHouse mlX9_161 dX9_likeliest_2 ok_0 (As := [.int x0]) (rest := []) (rX9_isHouse (N := 0) hf3 (Nat.le_refl _)) rfl (Nat.le_trans (Nat.le_of_ble_eq_true rfl) hN) rfl (Nat.le_of_ble_eq_true rfl) (Or.inl hz) ?_
  refine go_if_ne (tgt := 14) hc dX9_likeliest_5 rfl (fun hh => ?_) (fun hh => ?_)
  · rw [if_neg hh] at h
    refine go_aload_n hc dX9_likeliest_14 rfl rfl ?_
    refine go_aload_n hc dX9_likeliest_15 rfl rfl ?_
    obtain ⟨hg4, h⟩ := ogd_some h
    refine go_getR hc ho flX9_10 dX9_likeliest_16 ok_0 ?_
    refine go_getC (b := (mR σ2 0 0) + 1) (ow_c0_0 (of_decide_eq_true hg4)) hc ho flX9_37 dX9_likeliest_19 (of_decide_eq_true hg4) ?_
    refine go_aload_n hc dX9_likeliest_22 rfl rfl ?_
    obtain ⟨hg5, h⟩ := ogd_some h
    refine go_getR hc ho flX9_10 dX9_likeliest_23 ok_0 ?_
    refine go_getC (b := (mR σ2 0 0) + 10) (ow_c0_2 (of_decide_eq_true hg5)) hc ho flX9_149 dX9_likeliest_26 (of_decide_eq_true hg5) ?_
    refine go_iload_n hc dX9_likeliest_29 rfl rfl ?_
    obtain ⟨r6, σ7, hf8, h⟩ := obi_some h
    refine go_callVl hc ho cmX3_worldsOf mlX9_177 dX9_likeliest_30 (ow_k10 (of_decide_eq_true hg5)) (As := [.int x0]) (rest := [.ref ((mR σ2 0 0) + 1), .ref 0]) (rX3_worldsOf (N := 4) (of_decide_eq_true hg5) hf8 (Nat.le_refl _)) rfl (Nat.le_trans (Nat.le_of_ble_eq_true rfl) hN) rfl (Nat.le_of_ble_eq_true rfl) (Or.inl hz) ?_
    obtain ⟨r9, σ10, hf11, h⟩ := obi_some h
    refine go_callVi hc ho cmX2_likeliestOf mlX9_202 dX9_likeliest_33 (ow_k1 (of_decide_eq_true hg4)) (As := [.long r6]) (rest := [.ref 0]) (rX2_likeliestOf (N := 1) (of_decide_eq_true hg4) hf11 (Nat.le_refl _)) rfl (Nat.le_trans (Nat.le_of_ble_eq_true rfl) hN) rfl (Nat.le_of_ble_eq_true rfl) (Or.inl hz) ?_
    obtain ⟨r12, σ13, hf14, h⟩ := obi_some h
    refine go_callVi hc ho cmX9_answer mlX9_103 dX9_likeliest_36 ok_0 (As := [.int r9]) (rest := []) (rX9_answer (N := 0) hf14 (Nat.le_refl _)) rfl (Nat.le_trans (Nat.le_of_ble_eq_true rfl) hN) rfl (Nat.le_of_ble_eq_true rfl) (Or.inl hz) ?_
    exact go_iret hc (oend_i h hE) hr dX9_likeliest_39
  · rw [if_pos hh] at h
    refine go_aload_n hc dX9_likeliest_8 rfl rfl ?_
    refine go_iconst hc dX9_likeliest_9 ci_1 ?_
    obtain ⟨r15, σ16, hf17, h⟩ := obi_some h
    refine go_callVi hc ho cmX9_refuse mlX9_70 dX9_likeliest_10 ok_0 (As := [.int (1 : Int32)]) (rest := []) (rX9_refuse (N := 0) hf17 (Nat.le_refl _)) rfl (Nat.le_trans (Nat.le_of_ble_eq_true rfl) hN) rfl (Nat.le_of_ble_eq_true rfl) (Or.inl hz) ?_
    exact go_iret hc (oend_i h hE) hr dX9_likeliest_13
def fX9_chanceOf (x0 : Int32) (x1 : Int32) (x2 : Int32) (σ : OM) : Option (Int64 × OM) :=
  obi (fX9_isHouse x0 σ) (fun r1 σ2 =>
  if r1 = 0 then (
   obi (fX9_refuse (1 : Int32) σ2) (fun r4 σ5 =>
   some (r4.toInt64, σ5)))
  else (obi (fX9_isQuestion x1 σ2) (fun r7 σ8 =>
  if r7 = 0 then (
   obi (fX9_refuse (1 : Int32) σ8) (fun r20 σ21 =>
   some (r20.toInt64, σ21)))
  else (ogd (decide (okd (mR σ8 0 0) = 8)) (
  obi (fX3_worldsOf (mR σ8 0 0) x0 σ8) (fun r11 σ12 =>
  if (lg_cmp r11 (0 : Int64)) = 0 then (
   obi (fX9_refuse (6 : Int32) σ12) (fun r17 σ18 =>
   some (r17.toInt64, σ18)))
  else (obi (fX9_chanceIn r11 x1 x2 σ12) (fun r14 σ15 =>
  some (r14, σ15)))))))))
set_option maxRecDepth 100000 in
set_option maxHeartbeats 4000000 in
theorem rX9_chanceOf {N : Nat} {x0 : Int32} {x1 : Int32} {x2 : Int32} {σ : OM} {r0 : Int64} {σ0 : OM} (h : fX9_chanceOf x0 x1 x2 σ = some (r0, σ0)) (hN0 : 5 ≤ N) : oEv N MX9_chanceOf [.ref 0, .int x0, .int x1, .int x2] σ (some (.long r0)) σ0 := by
  refine oEv_of (lv := [.ref 0, .int x0, .int x1, .int x2, .null, .null]) (by decide +kernel) (fun g q hq => hq) (fun g => Nat.le_of_ble_eq_true rfl) ?_
  intro K hc ho hL hN1 hr hE hz
  have hN : 5 ≤ kN K := by rw [hN1]; exact hN0
  unfold fX9_chanceOf at h
  refine go_aload_n hc dX9_chanceOf_0 rfl rfl ?_
  refine go_iload_n hc dX9_chanceOf_1 rfl rfl ?_
  obtain ⟨r1, σ2, hf3, h⟩ := obi_some h
  refine go_callVi hc ho cmX9_isHouse mlX9_161 dX9_chanceOf_2 ok_0 (As := [.int x0]) (rest := []) (rX9_isHouse (N := 0) hf3 (Nat.le_refl _)) rfl (Nat.le_trans (Nat.le_of_ble_eq_true rfl) hN) rfl (Nat.le_of_ble_eq_true rfl) (Or.inl hz) ?_
  refine go_if_eq (tgt := 16) hc dX9_chanceOf_5 rfl (fun hh => ?_) (fun hh => ?_)
  · rw [if_pos hh] at h
    refine go_aload_n hc dX9_chanceOf_16 rfl rfl ?_
    refine go_iconst hc dX9_chanceOf_17 ci_1 ?_
    obtain ⟨r4, σ5, hf6, h⟩ := obi_some h
    refine go_callVi hc ho cmX9_refuse mlX9_70 dX9_chanceOf_18 ok_0 (As := [.int (1 : Int32)]) (rest := []) (rX9_refuse (N := 0) hf6 (Nat.le_refl _)) rfl (Nat.le_trans (Nat.le_of_ble_eq_true rfl) hN) rfl (Nat.le_of_ble_eq_true rfl) (Or.inl hz) ?_
    refine go_i2l hc dX9_chanceOf_21 ?_
    exact go_lret hc (oend_l h hE) hr dX9_chanceOf_22
  · rw [if_neg hh] at h
    refine go_aload_n hc dX9_chanceOf_8 rfl rfl ?_
    refine go_iload_n hc dX9_chanceOf_9 rfl rfl ?_
    obtain ⟨r7, σ8, hf9, h⟩ := obi_some h
    refine go_callVi hc ho cmX9_isQuestion mlX9_133 dX9_chanceOf_10 ok_0 (As := [.int x1]) (rest := []) (rX9_isQuestion (N := 0) hf9 (Nat.le_refl _)) rfl (Nat.le_trans (Nat.le_of_ble_eq_true rfl) hN) rfl (Nat.le_of_ble_eq_true rfl) (Or.inl hz) ?_
    refine go_if_ne (tgt := 23) hc dX9_chanceOf_13 rfl (fun hh => ?_) (fun hh => ?_)
    · rw [if_neg hh] at h
      refine go_aload_n hc dX9_chanceOf_23 rfl rfl ?_
      obtain ⟨hg10, h⟩ := ogd_some h
      refine go_getR hc ho flX9_10 dX9_chanceOf_24 ok_0 ?_
      refine go_getC (b := (mR σ8 0 0) + 10) (ow_c0_2 (of_decide_eq_true hg10)) hc ho flX9_149 dX9_chanceOf_27 (of_decide_eq_true hg10) ?_
      refine go_iload_n hc dX9_chanceOf_30 rfl rfl ?_
      obtain ⟨r11, σ12, hf13, h⟩ := obi_some h
      refine go_callVl hc ho cmX3_worldsOf mlX9_177 dX9_chanceOf_31 (ow_k10 (of_decide_eq_true hg10)) (As := [.int x0]) (rest := []) (rX3_worldsOf (N := 4) (of_decide_eq_true hg10) hf13 (Nat.le_refl _)) rfl (Nat.le_trans (Nat.le_of_ble_eq_true rfl) hN) rfl (Nat.le_of_ble_eq_true rfl) (Or.inl hz) ?_
      refine go_lstore hc (lv1 := [.ref 0, .int x0, .int x1, .int x2, .long r11, .null]) dX9_chanceOf_34 hL (by decide) (fun _ _ e => by cases e; rfl) rfl ?_
      refine go_lload hc dX9_chanceOf_36 rfl ?_
      refine go_lconst hc dX9_chanceOf_38 cl_0 ?_
      refine go_lcmp hc dX9_chanceOf_39 ?_
      refine go_if_ne (tgt := 51) hc dX9_chanceOf_40 rfl (fun hh => ?_) (fun hh => ?_)
      · rw [if_neg hh] at h
        refine go_aload_n hc dX9_chanceOf_51 rfl rfl ?_
        refine go_lload hc dX9_chanceOf_52 rfl ?_
        refine go_iload_n hc dX9_chanceOf_54 rfl rfl ?_
        refine go_iload_n hc dX9_chanceOf_55 rfl rfl ?_
        obtain ⟨r14, σ15, hf16, h⟩ := obi_some h
        refine go_callVl hc ho cmX9_chanceIn mlX9_140 dX9_chanceOf_56 ok_0 (As := [.long r11, .int x1, .int x2]) (rest := []) (rX9_chanceIn (N := 2) hf16 (Nat.le_refl _)) rfl (Nat.le_trans (Nat.le_of_ble_eq_true rfl) hN) rfl (Nat.le_of_ble_eq_true rfl) (Or.inl hz) ?_
        exact go_lret hc (oend_l h hE) hr dX9_chanceOf_59
      · rw [if_pos hh] at h
        refine go_aload_n hc dX9_chanceOf_43 rfl rfl ?_
        refine go_bipush hc dX9_chanceOf_44 cb_6 ?_
        obtain ⟨r17, σ18, hf19, h⟩ := obi_some h
        refine go_callVi hc ho cmX9_refuse mlX9_70 dX9_chanceOf_46 ok_0 (As := [.int (6 : Int32)]) (rest := []) (rX9_refuse (N := 0) hf19 (Nat.le_refl _)) rfl (Nat.le_trans (Nat.le_of_ble_eq_true rfl) hN) rfl (Nat.le_of_ble_eq_true rfl) (Or.inl hz) ?_
        refine go_i2l hc dX9_chanceOf_49 ?_
        exact go_lret hc (oend_l h hE) hr dX9_chanceOf_50
    · rw [if_pos hh] at h
      refine go_aload_n hc dX9_chanceOf_16 rfl rfl ?_
      refine go_iconst hc dX9_chanceOf_17 ci_1 ?_
      obtain ⟨r20, σ21, hf22, h⟩ := obi_some h
      refine go_callVi hc ho cmX9_refuse mlX9_70 dX9_chanceOf_18 ok_0 (As := [.int (1 : Int32)]) (rest := []) (rX9_refuse (N := 0) hf22 (Nat.le_refl _)) rfl (Nat.le_trans (Nat.le_of_ble_eq_true rfl) hN) rfl (Nat.le_of_ble_eq_true rfl) (Or.inl hz) ?_
      refine go_i2l hc dX9_chanceOf_21 ?_
      exact go_lret hc (oend_l h hE) hr dX9_chanceOf_22
def fX9_wouldKnow (x0 : Int32) (x1 : Int32) (x2 : Int32) (σ : OM) : Option (Int32 × OM) :=
  obi (fX9_isHouse x0 σ) (fun r1 σ2 =>
  if r1 = 0 then (
   obi (fX9_refuse (1 : Int32) σ2) (fun r4 σ5 =>
   some (r4, σ5)))
  else (obi (fX9_isQuestion x1 σ2) (fun r7 σ8 =>
  if r7 = 0 then (
   obi (fX9_refuse (1 : Int32) σ8) (fun r28 σ29 =>
   some (r28, σ29)))
  else (ogd (decide (okd (mR σ8 0 0) = 8)) (
  obi (fX3_worldsOf (mR σ8 0 0) x0 σ8) (fun r11 σ12 =>
  ogd (decide (okd (mR σ12 0 0) = 8)) (
  obi (fX2_worldsWith (mR σ12 0 0) x1 x2 σ12) (fun r15 σ16 =>
  if (lg_cmp (r11 &&& r15) (0 : Int64)) = 0 then (
   obi (fX9_answer ((-2) : Int32) σ16) (fun r25 σ26 =>
   some (r25, σ26)))
  else (ogd (decide (okd (mR σ16 0 0) = 8)) (
  obi (fX2_settled (mR σ16 0 0) (r11 &&& r15) σ16) (fun r19 σ20 =>
  obi (fX9_answer r19 σ20) (fun r22 σ23 =>
  some (r22, σ23)))))))))))))
set_option maxRecDepth 100000 in
set_option maxHeartbeats 4000000 in
theorem rX9_wouldKnow {N : Nat} {x0 : Int32} {x1 : Int32} {x2 : Int32} {σ : OM} {r0 : Int32} {σ0 : OM} (h : fX9_wouldKnow x0 x1 x2 σ = some (r0, σ0)) (hN0 : 5 ≤ N) : oEv N MX9_wouldKnow [.ref 0, .int x0, .int x1, .int x2] σ (some (.int r0)) σ0 := by
  refine oEv_of (lv := [.ref 0, .int x0, .int x1, .int x2, .null, .null]) (by decide +kernel) (fun g q hq => hq) (fun g => Nat.le_of_ble_eq_true rfl) ?_
  intro K hc ho hL hN1 hr hE hz
  have hN : 5 ≤ kN K := by rw [hN1]; exact hN0
  unfold fX9_wouldKnow at h
  refine go_aload_n hc dX9_wouldKnow_0 rfl rfl ?_
  refine go_iload_n hc dX9_wouldKnow_1 rfl rfl ?_
  obtain ⟨r1, σ2, hf3, h⟩ := obi_some h
  refine go_callVi hc ho cmX9_isHouse mlX9_161 dX9_wouldKnow_2 ok_0 (As := [.int x0]) (rest := []) (rX9_isHouse (N := 0) hf3 (Nat.le_refl _)) rfl (Nat.le_trans (Nat.le_of_ble_eq_true rfl) hN) rfl (Nat.le_of_ble_eq_true rfl) (Or.inl hz) ?_
  refine go_if_eq (tgt := 16) hc dX9_wouldKnow_5 rfl (fun hh => ?_) (fun hh => ?_)
  · rw [if_pos hh] at h
    refine go_aload_n hc dX9_wouldKnow_16 rfl rfl ?_
    refine go_iconst hc dX9_wouldKnow_17 ci_1 ?_
    obtain ⟨r4, σ5, hf6, h⟩ := obi_some h
    refine go_callVi hc ho cmX9_refuse mlX9_70 dX9_wouldKnow_18 ok_0 (As := [.int (1 : Int32)]) (rest := []) (rX9_refuse (N := 0) hf6 (Nat.le_refl _)) rfl (Nat.le_trans (Nat.le_of_ble_eq_true rfl) hN) rfl (Nat.le_of_ble_eq_true rfl) (Or.inl hz) ?_
    exact go_iret hc (oend_i h hE) hr dX9_wouldKnow_21
  · rw [if_neg hh] at h
    refine go_aload_n hc dX9_wouldKnow_8 rfl rfl ?_
    refine go_iload_n hc dX9_wouldKnow_9 rfl rfl ?_
    obtain ⟨r7, σ8, hf9, h⟩ := obi_some h
    refine go_callVi hc ho cmX9_isQuestion mlX9_133 dX9_wouldKnow_10 ok_0 (As := [.int x1]) (rest := []) (rX9_isQuestion (N := 0) hf9 (Nat.le_refl _)) rfl (Nat.le_trans (Nat.le_of_ble_eq_true rfl) hN) rfl (Nat.le_of_ble_eq_true rfl) (Or.inl hz) ?_
    refine go_if_ne (tgt := 22) hc dX9_wouldKnow_13 rfl (fun hh => ?_) (fun hh => ?_)
    · rw [if_neg hh] at h
      refine go_aload_n hc dX9_wouldKnow_22 rfl rfl ?_
      obtain ⟨hg10, h⟩ := ogd_some h
      refine go_getR hc ho flX9_10 dX9_wouldKnow_23 ok_0 ?_
      refine go_getC (b := (mR σ8 0 0) + 10) (ow_c0_2 (of_decide_eq_true hg10)) hc ho flX9_149 dX9_wouldKnow_26 (of_decide_eq_true hg10) ?_
      refine go_iload_n hc dX9_wouldKnow_29 rfl rfl ?_
      obtain ⟨r11, σ12, hf13, h⟩ := obi_some h
      refine go_callVl hc ho cmX3_worldsOf mlX9_177 dX9_wouldKnow_30 (ow_k10 (of_decide_eq_true hg10)) (As := [.int x0]) (rest := []) (rX3_worldsOf (N := 4) (of_decide_eq_true hg10) hf13 (Nat.le_refl _)) rfl (Nat.le_trans (Nat.le_of_ble_eq_true rfl) hN) rfl (Nat.le_of_ble_eq_true rfl) (Or.inl hz) ?_
      refine go_aload_n hc dX9_wouldKnow_33 rfl rfl ?_
      obtain ⟨hg14, h⟩ := ogd_some h
      refine go_getR hc ho flX9_10 dX9_wouldKnow_34 ok_0 ?_
      refine go_getC (b := (mR σ12 0 0) + 1) (ow_c0_0 (of_decide_eq_true hg14)) hc ho flX9_37 dX9_wouldKnow_37 (of_decide_eq_true hg14) ?_
      refine go_iload_n hc dX9_wouldKnow_40 rfl rfl ?_
      refine go_iload_n hc dX9_wouldKnow_41 rfl rfl ?_
      obtain ⟨r15, σ16, hf17, h⟩ := obi_some h
      refine go_callVl hc ho cmX2_worldsWith mlX9_205 dX9_wouldKnow_42 (ow_k1 (of_decide_eq_true hg14)) (As := [.int x1, .int x2]) (rest := [.long r11]) (rX2_worldsWith (N := 1) (of_decide_eq_true hg14) hf17 (Nat.le_refl _)) rfl (Nat.le_trans (Nat.le_of_ble_eq_true rfl) hN) rfl (Nat.le_of_ble_eq_true rfl) (Or.inl hz) ?_
      refine go_land hc dX9_wouldKnow_45 ?_
      refine go_lstore hc (lv1 := [.ref 0, .int x0, .int x1, .int x2, .long (r11 &&& r15), .null]) dX9_wouldKnow_46 hL (by decide) (fun _ _ e => by cases e; rfl) rfl ?_
      refine go_aload_n hc dX9_wouldKnow_48 rfl rfl ?_
      refine go_lload hc dX9_wouldKnow_49 rfl ?_
      refine go_lconst hc dX9_wouldKnow_51 cl_0 ?_
      refine go_lcmp hc dX9_wouldKnow_52 ?_
      refine go_if_ne (tgt := 61) hc dX9_wouldKnow_53 rfl (fun hh => ?_) (fun hh => ?_)
      · rw [if_neg hh] at h
        refine go_aload_n hc dX9_wouldKnow_61 rfl rfl ?_
        obtain ⟨hg18, h⟩ := ogd_some h
        refine go_getR hc ho flX9_10 dX9_wouldKnow_62 ok_0 ?_
        refine go_getC (b := (mR σ16 0 0) + 1) (ow_c0_0 (of_decide_eq_true hg18)) hc ho flX9_37 dX9_wouldKnow_65 (of_decide_eq_true hg18) ?_
        refine go_lload hc dX9_wouldKnow_68 rfl ?_
        obtain ⟨r19, σ20, hf21, h⟩ := obi_some h
        refine go_callVi hc ho cmX2_settled mlX9_195 dX9_wouldKnow_70 (ow_k1 (of_decide_eq_true hg18)) (As := [.long (r11 &&& r15)]) (rest := [.ref 0]) (rX2_settled (N := 1) (of_decide_eq_true hg18) hf21 (Nat.le_refl _)) rfl (Nat.le_trans (Nat.le_of_ble_eq_true rfl) hN) rfl (Nat.le_of_ble_eq_true rfl) (Or.inl hz) ?_
        obtain ⟨r22, σ23, hf24, h⟩ := obi_some h
        refine go_callVi hc ho cmX9_answer mlX9_103 dX9_wouldKnow_73 ok_0 (As := [.int r19]) (rest := []) (rX9_answer (N := 0) hf24 (Nat.le_refl _)) rfl (Nat.le_trans (Nat.le_of_ble_eq_true rfl) hN) rfl (Nat.le_of_ble_eq_true rfl) (Or.inl hz) ?_
        exact go_iret hc (oend_i h hE) hr dX9_wouldKnow_76
      · rw [if_pos hh] at h
        refine go_bipush hc dX9_wouldKnow_56 cb_m2 ?_
        refine go_goto (tgt := 73) hc dX9_wouldKnow_58 rfl ?_
        obtain ⟨r25, σ26, hf27, h⟩ := obi_some h
        refine go_callVi hc ho cmX9_answer mlX9_103 dX9_wouldKnow_73 ok_0 (As := [.int ((-2) : Int32)]) (rest := []) (rX9_answer (N := 0) hf27 (Nat.le_refl _)) rfl (Nat.le_trans (Nat.le_of_ble_eq_true rfl) hN) rfl (Nat.le_of_ble_eq_true rfl) (Or.inl hz) ?_
        exact go_iret hc (oend_i h hE) hr dX9_wouldKnow_76
    · rw [if_pos hh] at h
      refine go_aload_n hc dX9_wouldKnow_16 rfl rfl ?_
      refine go_iconst hc dX9_wouldKnow_17 ci_1 ?_
      obtain ⟨r28, σ29, hf30, h⟩ := obi_some h
      refine go_callVi hc ho cmX9_refuse mlX9_70 dX9_wouldKnow_18 ok_0 (As := [.int (1 : Int32)]) (rest := []) (rX9_refuse (N := 0) hf30 (Nat.le_refl _)) rfl (Nat.le_trans (Nat.le_of_ble_eq_true rfl) hN) rfl (Nat.le_of_ble_eq_true rfl) (Or.inl hz) ?_
      exact go_iret hc (oend_i h hE) hr dX9_wouldKnow_21
def fX3_needlessTo_b12 : Nat → Nat → Int32 → Int64 → Int32 → Int32 → OM → Option (Int32 × OM)
  | 0, _, _, _, _, _, _ => none
  | n + 1, bl0, l1, l2, l4, l5, σ =>
    if (mI σ (bl0 + 5) 0) ≤ l5 then (
     some (l4, σ))
    else (if (20 : Int32) ≤ l5 then (
     some (l4, σ))
    else (ogd (oin l5 20) (
    obi (fX9_bitOf l1.toInt64 (mI σ (bl0 + 6) l5.toNatClampNeg) σ) (fun r2 σ3 =>
    if r2 = (1 : Int32) then (
     obi (fX3_worldsWithout bl0 l5 l1 σ3) (fun r5 σ6 =>
     if (lg_cmp r5 l2) = 0 then (
      fX3_needlessTo_b12 n bl0 l1 l2 (l4 ||| ((1 : Int32) <<< (l5 &&& 31))) (l5 + 1) σ6)
     else (fX3_needlessTo_b12 n bl0 l1 l2 l4 (l5 + 1) σ6)))
    else (fX3_needlessTo_b12 n bl0 l1 l2 l4 (l5 + 1) σ3)))))
set_option maxRecDepth 100000 in
set_option maxHeartbeats 4000000 in
theorem rX3_needlessTo_b12 {K : OK} (hc : kcc K = cX3_needlessTo) (ho : kow K = RX3) (hL : knL K = 6) (hN : 5 ≤ kN K) (hr : (kme K).sig.returnType = (some .int)) {r0 : Int32} {σ0 : OM} (hE : oEnd K (some (.int r0)) σ0) (hz : kz K = 0) : ∀ (n : Nat) (bl0 : Nat) (l1 : Int32) (l2 : Int64) (l4 : Int32) (l5 : Int32) (σ : OM), okd bl0 = 8 → fX3_needlessTo_b12 n bl0 l1 l2 l4 l5 σ = some (r0, σ0) → Go K 12 [.ref (bl0 + 10), .int l1, .long l2, .null, .int l4, .int l5] [] σ := by
  intro n
  induction n with
  | zero =>
    intro bl0 l1 l2 l4 l5 σ hbl0 h
    cases h
  | succ n ih =>
    intro bl0 l1 l2 l4 l5 σ hbl0 h
    rw [fX3_needlessTo_b12] at h
    refine go_iload hc dX3_needlessTo_12 rfl ?_
    refine go_aload_n hc dX3_needlessTo_14 rfl rfl ?_
    refine go_getC (b := bl0 + 5) (ow_c10_1 hbl0) hc ho flX3_22 dX3_needlessTo_15 (ow_k10 hbl0) ?_
    refine go_getI hc ho flX3_58 dX3_needlessTo_18 (ow_k5 hbl0) ?_
    refine go_icmp_ge (tgt := 77) hc dX3_needlessTo_21 rfl (fun hh => ?_) (fun hh => ?_)
    · rw [if_pos hh] at h
      refine go_iload hc dX3_needlessTo_77 rfl ?_
      exact go_iret hc (oend_i h hE) hr dX3_needlessTo_79
    · rw [if_neg hh] at h
      refine go_iload hc dX3_needlessTo_24 rfl ?_
      refine go_bipush hc dX3_needlessTo_26 cb_20 ?_
      refine go_icmp_ge (tgt := 77) hc dX3_needlessTo_28 rfl (fun hh => ?_) (fun hh => ?_)
      · rw [if_pos hh] at h
        refine go_iload hc dX3_needlessTo_77 rfl ?_
        exact go_iret hc (oend_i h hE) hr dX3_needlessTo_79
      · rw [if_neg hh] at h
        refine go_iload_n hc dX3_needlessTo_31 rfl rfl ?_
        refine go_i2l hc dX3_needlessTo_32 ?_
        refine go_aload_n hc dX3_needlessTo_33 rfl rfl ?_
        refine go_getC (b := bl0 + 5) (ow_c10_1 hbl0) hc ho flX3_22 dX3_needlessTo_34 (ow_k10 hbl0) ?_
        refine go_getC (b := bl0 + 6) (ow_c5_1 hbl0) hc ho flX3_63 dX3_needlessTo_37 (ow_k5 hbl0) ?_
        refine go_iload hc dX3_needlessTo_40 rfl ?_
        obtain ⟨hg1, h⟩ := ogd_some h
        refine go_iald hc dX3_needlessTo_42 (ow_k6 hbl0) (ow_l6 hbl0) hg1 rfl ?_
        obtain ⟨r2, σ3, hf4, h⟩ := obi_some h
        refine go_callSNi hc ho cmX9_bitOf mnX3_78 dX3_needlessTo_43 (As := [.long l1.toInt64, .int (mI σ (bl0 + 6) l5.toNatClampNeg)]) (rest := []) (rX9_bitOf (N := 0) hf4 (Nat.le_refl _)) rfl (Nat.le_trans (Nat.le_of_ble_eq_true rfl) hN) rfl (Nat.le_of_ble_eq_true rfl) (Or.inl hz) ?_
        refine go_iconst hc dX3_needlessTo_46 ci_1 ?_
        refine go_icmp_ne (tgt := 71) hc dX3_needlessTo_47 rfl (fun hh => ?_) (fun hh => ?_)
        · rw [if_neg hh] at h
          refine go_iinc hc (lv1 := [.ref (bl0 + 10), .int l1, .long l2, .null, .int l4, .int (l5 + 1)]) dX3_needlessTo_71 rfl ci_1 hL (by decide) (fun _ _ e => by cases e; rfl) rfl ?_
          refine go_goto (tgt := 12) hc dX3_needlessTo_74 rfl ?_
          exact ih bl0 l1 l2 l4 (l5 + 1) _ hbl0 h
        · rw [if_pos hh] at h
          refine go_aload_n hc dX3_needlessTo_50 rfl rfl ?_
          refine go_iload hc dX3_needlessTo_51 rfl ?_
          refine go_iload_n hc dX3_needlessTo_53 rfl rfl ?_
          obtain ⟨r5, σ6, hf7, h⟩ := obi_some h
          refine go_callVl hc ho cmX3_worldsWithout mlX3_85 dX3_needlessTo_54 (ow_k10 hbl0) (As := [.int l5, .int l1]) (rest := []) (rX3_worldsWithout (N := 3) hbl0 hf7 (Nat.le_refl _)) rfl (Nat.le_trans (Nat.le_of_ble_eq_true rfl) hN) rfl (Nat.le_of_ble_eq_true rfl) (Or.inl hz) ?_
          refine go_lload_n hc dX3_needlessTo_57 rfl rfl ?_
          refine go_lcmp hc dX3_needlessTo_58 ?_
          refine go_if_ne (tgt := 71) hc dX3_needlessTo_59 rfl (fun hh => ?_) (fun hh => ?_)
          · rw [if_neg hh] at h
            refine go_iinc hc (lv1 := [.ref (bl0 + 10), .int l1, .long l2, .null, .int l4, .int (l5 + 1)]) dX3_needlessTo_71 rfl ci_1 hL (by decide) (fun _ _ e => by cases e; rfl) rfl ?_
            refine go_goto (tgt := 12) hc dX3_needlessTo_74 rfl ?_
            exact ih bl0 l1 l2 l4 (l5 + 1) _ hbl0 h
          · rw [if_pos hh] at h
            refine go_iload hc dX3_needlessTo_62 rfl ?_
            refine go_iconst hc dX3_needlessTo_64 ci_1 ?_
            refine go_iload hc dX3_needlessTo_65 rfl ?_
            refine go_ishl hc dX3_needlessTo_67 ?_
            refine go_ior hc dX3_needlessTo_68 ?_
            refine go_istore hc (lv1 := [.ref (bl0 + 10), .int l1, .long l2, .null, .int (l4 ||| ((1 : Int32) <<< (l5 &&& 31))), .int l5]) dX3_needlessTo_69 hL (by decide) (fun _ _ e => by cases e; rfl) rfl ?_
            refine go_iinc hc (lv1 := [.ref (bl0 + 10), .int l1, .long l2, .null, .int (l4 ||| ((1 : Int32) <<< (l5 &&& 31))), .int (l5 + 1)]) dX3_needlessTo_71 rfl ci_1 hL (by decide) (fun _ _ e => by cases e; rfl) rfl ?_
            refine go_goto (tgt := 12) hc dX3_needlessTo_74 rfl ?_
            exact ih bl0 l1 l2 (l4 ||| ((1 : Int32) <<< (l5 &&& 31))) (l5 + 1) _ hbl0 h
def fX3_needlessTo (w : Nat) (x0 : Int32) (σ : OM) : Option (Int32 × OM) :=
  obi (fX3_worldsBy w x0 σ) (fun r1 σ2 =>
  fX3_needlessTo_b12 oF w x0 r1 (0 : Int32) (0 : Int32) σ2)
set_option maxRecDepth 100000 in
set_option maxHeartbeats 4000000 in
theorem rX3_needlessTo {N : Nat} {w : Nat} {x0 : Int32} {σ : OM} {r0 : Int32} {σ0 : OM} (hw : okd w = 8) (h : fX3_needlessTo w x0 σ = some (r0, σ0)) (hN0 : 5 ≤ N) : oEv N MX3_needlessTo [.ref (w + 10), .int x0] σ (some (.int r0)) σ0 := by
  refine oEv_of (lv := [.ref (w + 10), .int x0, .null, .null, .null, .null]) (by decide +kernel) (fun g q hq => hq) (fun g => Nat.le_of_ble_eq_true rfl) ?_
  intro K hc ho hL hN1 hr hE hz
  have hN : 5 ≤ kN K := by rw [hN1]; exact hN0
  unfold fX3_needlessTo at h
  refine go_aload_n hc dX3_needlessTo_0 rfl rfl ?_
  refine go_iload_n hc dX3_needlessTo_1 rfl rfl ?_
  obtain ⟨r1, σ2, hf3, h⟩ := obi_some h
  refine go_callVl hc ho cmX3_worldsBy mlX3_92 dX3_needlessTo_2 (ow_k10 hw) (As := [.int x0]) (rest := []) (rX3_worldsBy (N := 4) hw hf3 (Nat.le_refl _)) rfl (Nat.le_trans (Nat.le_of_ble_eq_true rfl) hN) rfl (Nat.le_of_ble_eq_true rfl) (Or.inl hz) ?_
  refine go_lstore_n hc (lv1 := [.ref (w + 10), .int x0, .long r1, .null, .null, .null]) dX3_needlessTo_5 rfl hL (by decide) (fun _ _ e => by cases e; rfl) rfl ?_
  refine go_iconst hc dX3_needlessTo_6 ci_0 ?_
  refine go_istore hc (lv1 := [.ref (w + 10), .int x0, .long r1, .null, .int (0 : Int32), .null]) dX3_needlessTo_7 hL (by decide) (fun _ _ e => by cases e; rfl) rfl ?_
  refine go_iconst hc dX3_needlessTo_9 ci_0 ?_
  refine go_istore hc (lv1 := [.ref (w + 10), .int x0, .long r1, .null, .int (0 : Int32), .int (0 : Int32)]) dX3_needlessTo_10 hL (by decide) (fun _ _ e => by cases e; rfl) rfl ?_
  exact rX3_needlessTo_b12 hc ho hL hN hr hE hz oF w x0 r1 (0 : Int32) (0 : Int32) _ hw h
def fX9_needless (x0 : Int32) (σ : OM) : Option (Int32 × OM) :=
  obi (fX9_isHouse x0 σ) (fun r1 σ2 =>
  if r1 = 0 then (
   obi (fX9_refuse (1 : Int32) σ2) (fun r15 σ16 =>
   some (r15, σ16)))
  else (ogd (decide (okd (mR σ2 0 0) = 8)) (
  ogd (decide (okd (mR σ2 0 0) = 8)) (
  obi (fX7_kinOf ((mR σ2 0 0) + 5) x0 σ2) (fun r6 σ7 =>
  obi (fX3_needlessTo (mR σ2 0 0) r6 σ7) (fun r9 σ10 =>
  obi (fX9_answer r9 σ10) (fun r12 σ13 =>
  some (r12, σ13))))))))
set_option maxRecDepth 100000 in
set_option maxHeartbeats 4000000 in
theorem rX9_needless {N : Nat} {x0 : Int32} {σ : OM} {r0 : Int32} {σ0 : OM} (h : fX9_needless x0 σ = some (r0, σ0)) (hN0 : 6 ≤ N) : oEv N MX9_needless [.ref 0, .int x0] σ (some (.int r0)) σ0 := by
  refine oEv_of (lv := [.ref 0, .int x0]) (by decide +kernel) (fun g q hq => hq) (fun g => Nat.le_of_ble_eq_true rfl) ?_
  intro K hc ho hL hN1 hr hE hz
  have hN : 6 ≤ kN K := by rw [hN1]; exact hN0
  unfold fX9_needless at h
  refine go_aload_n hc dX9_needless_0 rfl rfl ?_
  refine go_iload_n hc dX9_needless_1 rfl rfl ?_
  obtain ⟨r1, σ2, hf3, h⟩ := obi_some h
  refine go_callVi hc ho cmX9_isHouse mlX9_161 dX9_needless_2 ok_0 (As := [.int x0]) (rest := []) (rX9_isHouse (N := 0) hf3 (Nat.le_refl _)) rfl (Nat.le_trans (Nat.le_of_ble_eq_true rfl) hN) rfl (Nat.le_of_ble_eq_true rfl) (Or.inl hz) ?_
  refine go_if_ne (tgt := 14) hc dX9_needless_5 rfl (fun hh => ?_) (fun hh => ?_)
  · rw [if_neg hh] at h
    refine go_aload_n hc dX9_needless_14 rfl rfl ?_
    refine go_aload_n hc dX9_needless_15 rfl rfl ?_
    obtain ⟨hg4, h⟩ := ogd_some h
    refine go_getR hc ho flX9_10 dX9_needless_16 ok_0 ?_
    refine go_getC (b := (mR σ2 0 0) + 10) (ow_c0_2 (of_decide_eq_true hg4)) hc ho flX9_149 dX9_needless_19 (of_decide_eq_true hg4) ?_
    refine go_aload_n hc dX9_needless_22 rfl rfl ?_
    obtain ⟨hg5, h⟩ := ogd_some h
    refine go_getR hc ho flX9_10 dX9_needless_23 ok_0 ?_
    refine go_getC (b := (mR σ2 0 0) + 5) (ow_c0_1 (of_decide_eq_true hg5)) hc ho flX9_170 dX9_needless_26 (of_decide_eq_true hg5) ?_
    refine go_iload_n hc dX9_needless_29 rfl rfl ?_
    obtain ⟨r6, σ7, hf8, h⟩ := obi_some h
    refine go_callVi hc ho cmX7_kinOf mlX9_174 dX9_needless_30 (ow_k5 (of_decide_eq_true hg5)) (As := [.int x0]) (rest := [.ref ((mR σ2 0 0) + 10), .ref 0]) (rX7_kinOf (N := 1) (ow_k5 (of_decide_eq_true hg5)) hf8 (Nat.le_refl _)) rfl (Nat.le_trans (Nat.le_of_ble_eq_true rfl) hN) rfl (Nat.le_of_ble_eq_true rfl) (Or.inl hz) ?_
    obtain ⟨r9, σ10, hf11, h⟩ := obi_some h
    refine go_callVi hc ho cmX3_needlessTo mlX9_209 dX9_needless_33 (ow_k10 (of_decide_eq_true hg4)) (As := [.int r6]) (rest := [.ref 0]) (rX3_needlessTo (N := 5) (of_decide_eq_true hg4) hf11 (Nat.le_refl _)) rfl (Nat.le_trans (Nat.le_of_ble_eq_true rfl) hN) rfl (Nat.le_of_ble_eq_true rfl) (Or.inl hz) ?_
    obtain ⟨r12, σ13, hf14, h⟩ := obi_some h
    refine go_callVi hc ho cmX9_answer mlX9_103 dX9_needless_36 ok_0 (As := [.int r9]) (rest := []) (rX9_answer (N := 0) hf14 (Nat.le_refl _)) rfl (Nat.le_trans (Nat.le_of_ble_eq_true rfl) hN) rfl (Nat.le_of_ble_eq_true rfl) (Or.inl hz) ?_
    exact go_iret hc (oend_i h hE) hr dX9_needless_39
  · rw [if_pos hh] at h
    refine go_aload_n hc dX9_needless_8 rfl rfl ?_
    refine go_iconst hc dX9_needless_9 ci_1 ?_
    obtain ⟨r15, σ16, hf17, h⟩ := obi_some h
    refine go_callVi hc ho cmX9_refuse mlX9_70 dX9_needless_10 ok_0 (As := [.int (1 : Int32)]) (rest := []) (rX9_refuse (N := 0) hf17 (Nat.le_refl _)) rfl (Nat.le_trans (Nat.le_of_ble_eq_true rfl) hN) rfl (Nat.le_of_ble_eq_true rfl) (Or.inl hz) ?_
    exact go_iret hc (oend_i h hE) hr dX9_needless_13
def fX9_isAnswer (x0 : Int32) (σ : OM) : Option (Int32 × OM) :=
  if x0 < 0 then (
   some ((0 : Int32), σ))
  else (ogd (decide (okd (mR σ 0 0) = 8)) (
  if (mI σ ((mR σ 0 0) + 5) 0) ≤ x0 then (
   some ((0 : Int32), σ))
  else (if (20 : Int32) ≤ x0 then (
   some ((0 : Int32), σ))
  else (some ((1 : Int32), σ)))))
set_option maxRecDepth 100000 in
set_option maxHeartbeats 4000000 in
theorem rX9_isAnswer {N : Nat} {x0 : Int32} {σ : OM} {r0 : Int32} {σ0 : OM} (h : fX9_isAnswer x0 σ = some (r0, σ0)) (hN0 : 0 ≤ N) : oEv N MX9_isAnswer [.ref 0, .int x0] σ (some (.int r0)) σ0 := by
  refine oEv_of (lv := [.ref 0, .int x0]) (by decide +kernel) (fun g q hq => hq) (fun g => Nat.le_of_ble_eq_true rfl) ?_
  intro K hc ho hL hN1 hr hE hz
  have hN : 0 ≤ kN K := by rw [hN1]; exact hN0
  unfold fX9_isAnswer at h
  refine go_iload_n hc dX9_isAnswer_0 rfl rfl ?_
  refine go_if_lt (tgt := 28) hc dX9_isAnswer_1 rfl (fun hh => ?_) (fun hh => ?_)
  · rw [if_pos hh] at h
    refine go_iconst hc dX9_isAnswer_28 ci_0 ?_
    exact go_zret hc (oend_i h hE) hr rfl dX9_isAnswer_29
  · rw [if_neg hh] at h
    refine go_iload_n hc dX9_isAnswer_4 rfl rfl ?_
    refine go_aload_n hc dX9_isAnswer_5 rfl rfl ?_
    obtain ⟨hg1, h⟩ := ogd_some h
    refine go_getR hc ho flX9_10 dX9_isAnswer_6 ok_0 ?_
    refine go_getC (b := (mR σ 0 0) + 5) (ow_c0_1 (of_decide_eq_true hg1)) hc ho flX9_170 dX9_isAnswer_9 (of_decide_eq_true hg1) ?_
    refine go_getI hc ho flX9_231 dX9_isAnswer_12 (ow_k5 (of_decide_eq_true hg1)) ?_
    refine go_icmp_ge (tgt := 28) hc dX9_isAnswer_15 rfl (fun hh => ?_) (fun hh => ?_)
    · rw [if_pos hh] at h
      refine go_iconst hc dX9_isAnswer_28 ci_0 ?_
      exact go_zret hc (oend_i h hE) hr rfl dX9_isAnswer_29
    · rw [if_neg hh] at h
      refine go_iload_n hc dX9_isAnswer_18 rfl rfl ?_
      refine go_bipush hc dX9_isAnswer_19 cb_20 ?_
      refine go_icmp_ge (tgt := 28) hc dX9_isAnswer_21 rfl (fun hh => ?_) (fun hh => ?_)
      · rw [if_pos hh] at h
        refine go_iconst hc dX9_isAnswer_28 ci_0 ?_
        exact go_zret hc (oend_i h hE) hr rfl dX9_isAnswer_29
      · rw [if_neg hh] at h
        refine go_iconst hc dX9_isAnswer_24 ci_1 ?_
        refine go_goto (tgt := 29) hc dX9_isAnswer_25 rfl ?_
        exact go_zret hc (oend_i h hE) hr rfl dX9_isAnswer_29
def fX3_takenBy_b44 (bl0 : Nat) (l1 : Int32) (l2 : Int64) (σ : OM) : Option (Int32 × OM) :=
  obi (fX3_worldsByAnswer bl0 l1 σ) (fun r1 σ2 =>
  obi (fJ13_bitCount_95d88 (l2 &&& (r1 ^^^ ((-1) : Int64))) σ2) (fun r4 σ5 =>
  some (r4, σ5)))
set_option maxRecDepth 100000 in
set_option maxHeartbeats 4000000 in
theorem rX3_takenBy_b44 {K : OK} (hc : kcc K = cX3_takenBy) (ho : kow K = RX3) (hL : knL K = 5) (hN : 3 ≤ kN K) (hr : (kme K).sig.returnType = (some .int)) {r0 : Int32} {σ0 : OM} (hE : oEnd K (some (.int r0)) σ0) (hz : kz K = 0) {bl0 : Nat} {l1 : Int32} {l2 : Int64} {σ : OM} (hbl0 : okd bl0 = 8) (h : fX3_takenBy_b44 bl0 l1 l2 σ = some (r0, σ0)) : Go K 44 [.ref (bl0 + 10), .int l1, .long l2, .null, .null] [] σ := by
  unfold fX3_takenBy_b44 at h
  refine go_lload_n hc dX3_takenBy_44 rfl rfl ?_
  refine go_aload_n hc dX3_takenBy_45 rfl rfl ?_
  refine go_iload_n hc dX3_takenBy_46 rfl rfl ?_
  obtain ⟨r1, σ2, hf3, h⟩ := obi_some h
  refine go_callVl hc ho cmX3_worldsByAnswer mlX3_88 dX3_takenBy_47 (ow_k10 hbl0) (As := [.int l1]) (rest := [.long l2]) (rX3_worldsByAnswer (N := 2) hbl0 hf3 (Nat.le_refl _)) rfl (Nat.le_trans (Nat.le_of_ble_eq_true rfl) hN) rfl (Nat.le_of_ble_eq_true rfl) (Or.inl hz) ?_
  refine go_ldc2 hc ho klX3_95 dX3_takenBy_50 ?_
  refine go_lxor hc dX3_takenBy_53 ?_
  refine go_land hc dX3_takenBy_54 ?_
  obtain ⟨r4, σ5, hf6, h⟩ := obi_some h
  refine go_callSi hc ho cmJ13_bitCount_95d88 mlX3_97 dX3_takenBy_55 (As := [.long (l2 &&& (r1 ^^^ ((-1) : Int64)))]) (rest := []) (rJ13_bitCount_95d88 (N := 0) hf6 (Nat.le_refl _)) rfl (Nat.le_trans (Nat.le_of_ble_eq_true rfl) hN) rfl (Nat.le_of_ble_eq_true rfl) (Or.inl hz) ?_
  exact go_iret hc (oend_i h hE) hr dX3_takenBy_58
def fX3_takenBy_b11 : Nat → Nat → Int32 → Int64 → Int32 → OM → Option (Int32 × OM)
  | 0, _, _, _, _, _ => none
  | n + 1, bl0, l1, l2, l4, σ =>
    if l1 ≤ l4 then (
     fX3_takenBy_b44 bl0 l1 l2 σ)
    else (if (mI σ (bl0 + 5) 0) ≤ l4 then (
     fX3_takenBy_b44 bl0 l1 l2 σ)
    else (obi (fX3_worldsByAnswer bl0 l4 σ) (fun r1 σ2 =>
    fX3_takenBy_b11 n bl0 l1 (l2 &&& r1) (l4 + 1) σ2)))
set_option maxRecDepth 100000 in
set_option maxHeartbeats 4000000 in
theorem rX3_takenBy_b11 {K : OK} (hc : kcc K = cX3_takenBy) (ho : kow K = RX3) (hL : knL K = 5) (hN : 3 ≤ kN K) (hr : (kme K).sig.returnType = (some .int)) {r0 : Int32} {σ0 : OM} (hE : oEnd K (some (.int r0)) σ0) (hz : kz K = 0) : ∀ (n : Nat) (bl0 : Nat) (l1 : Int32) (l2 : Int64) (l4 : Int32) (σ : OM), okd bl0 = 8 → fX3_takenBy_b11 n bl0 l1 l2 l4 σ = some (r0, σ0) → Go K 11 [.ref (bl0 + 10), .int l1, .long l2, .null, .int l4] [] σ := by
  intro n
  induction n with
  | zero =>
    intro bl0 l1 l2 l4 σ hbl0 h
    cases h
  | succ n ih =>
    intro bl0 l1 l2 l4 σ hbl0 h
    rw [fX3_takenBy_b11] at h
    refine go_iload hc dX3_takenBy_11 rfl ?_
    refine go_iload_n hc dX3_takenBy_13 rfl rfl ?_
    refine go_icmp_ge (tgt := 44) hc dX3_takenBy_14 rfl (fun hh => ?_) (fun hh => ?_)
    · rw [if_pos hh] at h
      refine go_mask [true, true, true, false, false] (lv1 := [.ref (bl0 + 10), .int l1, .long l2, .null, .null]) rfl ?_
      exact rX3_takenBy_b44 hc ho hL hN hr hE hz hbl0 h
    · rw [if_neg hh] at h
      refine go_iload hc dX3_takenBy_17 rfl ?_
      refine go_aload_n hc dX3_takenBy_19 rfl rfl ?_
      refine go_getC (b := bl0 + 5) (ow_c10_1 hbl0) hc ho flX3_22 dX3_takenBy_20 (ow_k10 hbl0) ?_
      refine go_getI hc ho flX3_58 dX3_takenBy_23 (ow_k5 hbl0) ?_
      refine go_icmp_ge (tgt := 44) hc dX3_takenBy_26 rfl (fun hh => ?_) (fun hh => ?_)
      · rw [if_pos hh] at h
        refine go_mask [true, true, true, false, false] (lv1 := [.ref (bl0 + 10), .int l1, .long l2, .null, .null]) rfl ?_
        exact rX3_takenBy_b44 hc ho hL hN hr hE hz hbl0 h
      · rw [if_neg hh] at h
        refine go_lload_n hc dX3_takenBy_29 rfl rfl ?_
        refine go_aload_n hc dX3_takenBy_30 rfl rfl ?_
        refine go_iload hc dX3_takenBy_31 rfl ?_
        obtain ⟨r1, σ2, hf3, h⟩ := obi_some h
        refine go_callVl hc ho cmX3_worldsByAnswer mlX3_88 dX3_takenBy_33 (ow_k10 hbl0) (As := [.int l4]) (rest := [.long l2]) (rX3_worldsByAnswer (N := 2) hbl0 hf3 (Nat.le_refl _)) rfl (Nat.le_trans (Nat.le_of_ble_eq_true rfl) hN) rfl (Nat.le_of_ble_eq_true rfl) (Or.inl hz) ?_
        refine go_land hc dX3_takenBy_36 ?_
        refine go_lstore_n hc (lv1 := [.ref (bl0 + 10), .int l1, .long (l2 &&& r1), .null, .int l4]) dX3_takenBy_37 rfl hL (by decide) (fun _ _ e => by cases e; rfl) rfl ?_
        refine go_iinc hc (lv1 := [.ref (bl0 + 10), .int l1, .long (l2 &&& r1), .null, .int (l4 + 1)]) dX3_takenBy_38 rfl ci_1 hL (by decide) (fun _ _ e => by cases e; rfl) rfl ?_
        refine go_goto (tgt := 11) hc dX3_takenBy_41 rfl ?_
        exact ih bl0 l1 (l2 &&& r1) (l4 + 1) _ hbl0 h
def fX3_takenBy (w : Nat) (x0 : Int32) (σ : OM) : Option (Int32 × OM) :=
  fX3_takenBy_b11 oF w x0 (mL σ (w + 1) 3) (0 : Int32) σ
set_option maxRecDepth 100000 in
set_option maxHeartbeats 4000000 in
theorem rX3_takenBy {N : Nat} {w : Nat} {x0 : Int32} {σ : OM} {r0 : Int32} {σ0 : OM} (hw : okd w = 8) (h : fX3_takenBy w x0 σ = some (r0, σ0)) (hN0 : 3 ≤ N) : oEv N MX3_takenBy [.ref (w + 10), .int x0] σ (some (.int r0)) σ0 := by
  refine oEv_of (lv := [.ref (w + 10), .int x0, .null, .null, .null]) (by decide +kernel) (fun g q hq => hq) (fun g => Nat.le_of_ble_eq_true rfl) ?_
  intro K hc ho hL hN1 hr hE hz
  have hN : 3 ≤ kN K := by rw [hN1]; exact hN0
  unfold fX3_takenBy at h
  refine go_aload_n hc dX3_takenBy_0 rfl rfl ?_
  refine go_getC (b := w + 1) (ow_c10_0 hw) hc ho flX3_18 dX3_takenBy_1 (ow_k10 hw) ?_
  refine go_getL hc ho flX3_52 dX3_takenBy_4 (ow_k1 hw) ?_
  refine go_lstore_n hc (lv1 := [.ref (w + 10), .int x0, .long (mL σ (w + 1) 3), .null, .null]) dX3_takenBy_7 rfl hL (by decide) (fun _ _ e => by cases e; rfl) rfl ?_
  refine go_iconst hc dX3_takenBy_8 ci_0 ?_
  refine go_istore hc (lv1 := [.ref (w + 10), .int x0, .long (mL σ (w + 1) 3), .null, .int (0 : Int32)]) dX3_takenBy_9 hL (by decide) (fun _ _ e => by cases e; rfl) rfl ?_
  exact rX3_takenBy_b11 hc ho hL hN hr hE hz oF w x0 (mL σ (w + 1) 3) (0 : Int32) _ hw h
def fX3_worldsAsTold (w : Nat) (x0 : Int32) (σ : OM) : Option (Int64 × OM) :=
  if x0 < 0 then (
   some ((mL σ (w + 1) 3), σ))
  else (if x0 < (20 : Int32) then (
   ogd (oin x0 20) (
   ogd (oin x0 20) (
   obi (fX2_worldsWith w (mI σ (w + 7) x0.toNatClampNeg) (mI σ (w + 8) x0.toNatClampNeg) σ) (fun r3 σ4 =>
   some (r3, σ4)))))
  else (some ((mL σ (w + 1) 3), σ)))
set_option maxRecDepth 100000 in
set_option maxHeartbeats 4000000 in
theorem rX3_worldsAsTold {N : Nat} {w : Nat} {x0 : Int32} {σ : OM} {r0 : Int64} {σ0 : OM} (hw : okd w = 8) (h : fX3_worldsAsTold w x0 σ = some (r0, σ0)) (hN0 : 2 ≤ N) : oEv N MX3_worldsAsTold [.ref (w + 10), .int x0] σ (some (.long r0)) σ0 := by
  refine oEv_of (lv := [.ref (w + 10), .int x0]) (by decide +kernel) (fun g q hq => hq) (fun g => Nat.le_of_ble_eq_true rfl) ?_
  intro K hc ho hL hN1 hr hE hz
  have hN : 2 ≤ kN K := by rw [hN1]; exact hN0
  unfold fX3_worldsAsTold at h
  refine go_iload_n hc dX3_worldsAsTold_0 rfl rfl ?_
  refine go_if_lt (tgt := 10) hc dX3_worldsAsTold_1 rfl (fun hh => ?_) (fun hh => ?_)
  · rw [if_pos hh] at h
    refine go_aload_n hc dX3_worldsAsTold_10 rfl rfl ?_
    refine go_getC (b := w + 1) (ow_c10_0 hw) hc ho flX3_18 dX3_worldsAsTold_11 (ow_k10 hw) ?_
    refine go_getL hc ho flX3_52 dX3_worldsAsTold_14 (ow_k1 hw) ?_
    exact go_lret hc (oend_l h hE) hr dX3_worldsAsTold_17
  · rw [if_neg hh] at h
    refine go_iload_n hc dX3_worldsAsTold_4 rfl rfl ?_
    refine go_bipush hc dX3_worldsAsTold_5 cb_20 ?_
    refine go_icmp_lt (tgt := 18) hc dX3_worldsAsTold_7 rfl (fun hh => ?_) (fun hh => ?_)
    · rw [if_pos hh] at h
      refine go_aload_n hc dX3_worldsAsTold_18 rfl rfl ?_
      refine go_getC (b := w + 1) (ow_c10_0 hw) hc ho flX3_18 dX3_worldsAsTold_19 (ow_k10 hw) ?_
      refine go_aload_n hc dX3_worldsAsTold_22 rfl rfl ?_
      refine go_getC (b := w + 5) (ow_c10_1 hw) hc ho flX3_22 dX3_worldsAsTold_23 (ow_k10 hw) ?_
      refine go_getC (b := w + 7) (ow_c5_2 hw) hc ho flX3_67 dX3_worldsAsTold_26 (ow_k5 hw) ?_
      refine go_iload_n hc dX3_worldsAsTold_29 rfl rfl ?_
      obtain ⟨hg1, h⟩ := ogd_some h
      refine go_iald hc dX3_worldsAsTold_30 (ow_k7 hw) (ow_l7 hw) hg1 rfl ?_
      refine go_aload_n hc dX3_worldsAsTold_31 rfl rfl ?_
      refine go_getC (b := w + 5) (ow_c10_1 hw) hc ho flX3_22 dX3_worldsAsTold_32 (ow_k10 hw) ?_
      refine go_getC (b := w + 8) (ow_c5_3 hw) hc ho flX3_70 dX3_worldsAsTold_35 (ow_k5 hw) ?_
      refine go_iload_n hc dX3_worldsAsTold_38 rfl rfl ?_
      obtain ⟨hg2, h⟩ := ogd_some h
      refine go_zald hc dX3_worldsAsTold_39 (ow_k8 hw) (ow_l8 hw) hg2 rfl ?_
      obtain ⟨r3, σ4, hf5, h⟩ := obi_some h
      refine go_callVl hc ho cmX2_worldsWith mlX3_74 dX3_worldsAsTold_40 (ow_k1 hw) (As := [.int (mI σ (w + 7) x0.toNatClampNeg), .int (mI σ (w + 8) x0.toNatClampNeg)]) (rest := []) (rX2_worldsWith (N := 1) hw hf5 (Nat.le_refl _)) rfl (Nat.le_trans (Nat.le_of_ble_eq_true rfl) hN) rfl (Nat.le_of_ble_eq_true rfl) (Or.inl hz) ?_
      exact go_lret hc (oend_l h hE) hr dX3_worldsAsTold_43
    · rw [if_neg hh] at h
      refine go_aload_n hc dX3_worldsAsTold_10 rfl rfl ?_
      refine go_getC (b := w + 1) (ow_c10_0 hw) hc ho flX3_18 dX3_worldsAsTold_11 (ow_k10 hw) ?_
      refine go_getL hc ho flX3_52 dX3_worldsAsTold_14 (ow_k1 hw) ?_
      exact go_lret hc (oend_l h hE) hr dX3_worldsAsTold_17
def fX3_clashesOf_b5 : Nat → Nat → Int32 → Int32 → Int32 → OM → Option (Int32 × OM)
  | 0, _, _, _, _, _ => none
  | n + 1, bl0, l1, l3, l4, σ =>
    if (mI σ (bl0 + 5) 0) ≤ l4 then (
     some (l3, σ))
    else (if l4 = l1 then (
     fX3_clashesOf_b5 n bl0 l1 l3 (l4 + 1) σ)
    else (obi (fX3_worldsAsTold bl0 l1 σ) (fun r1 σ2 =>
    obi (fX3_worldsAsTold bl0 l4 σ2) (fun r4 σ5 =>
    if (lg_cmp (r1 &&& r4) (0 : Int64)) = 0 then (
     fX3_clashesOf_b5 n bl0 l1 (l3 + 1) (l4 + 1) σ5)
    else (fX3_clashesOf_b5 n bl0 l1 l3 (l4 + 1) σ5)))))
set_option maxRecDepth 100000 in
set_option maxHeartbeats 4000000 in
theorem rX3_clashesOf_b5 {K : OK} (hc : kcc K = cX3_clashesOf) (ho : kow K = RX3) (hL : knL K = 5) (hN : 3 ≤ kN K) (hr : (kme K).sig.returnType = (some .int)) {r0 : Int32} {σ0 : OM} (hE : oEnd K (some (.int r0)) σ0) (hz : kz K = 0) : ∀ (n : Nat) (bl0 : Nat) (l1 : Int32) (l3 : Int32) (l4 : Int32) (σ : OM), okd bl0 = 8 → fX3_clashesOf_b5 n bl0 l1 l3 l4 σ = some (r0, σ0) → Go K 5 [.ref (bl0 + 10), .int l1, .null, .int l3, .int l4] [] σ := by
  intro n
  induction n with
  | zero =>
    intro bl0 l1 l3 l4 σ hbl0 h
    cases h
  | succ n ih =>
    intro bl0 l1 l3 l4 σ hbl0 h
    rw [fX3_clashesOf_b5] at h
    refine go_iload hc dX3_clashesOf_5 rfl ?_
    refine go_aload_n hc dX3_clashesOf_7 rfl rfl ?_
    refine go_getC (b := bl0 + 5) (ow_c10_1 hbl0) hc ho flX3_22 dX3_clashesOf_8 (ow_k10 hbl0) ?_
    refine go_getI hc ho flX3_58 dX3_clashesOf_11 (ow_k5 hbl0) ?_
    refine go_icmp_ge (tgt := 49) hc dX3_clashesOf_14 rfl (fun hh => ?_) (fun hh => ?_)
    · rw [if_pos hh] at h
      refine go_iload_n hc dX3_clashesOf_49 rfl rfl ?_
      exact go_iret hc (oend_i h hE) hr dX3_clashesOf_50
    · rw [if_neg hh] at h
      refine go_iload hc dX3_clashesOf_17 rfl ?_
      refine go_iload_n hc dX3_clashesOf_19 rfl rfl ?_
      refine go_icmp_eq (tgt := 43) hc dX3_clashesOf_20 rfl (fun hh => ?_) (fun hh => ?_)
      · rw [if_pos hh] at h
        refine go_iinc hc (lv1 := [.ref (bl0 + 10), .int l1, .null, .int l3, .int (l4 + 1)]) dX3_clashesOf_43 rfl ci_1 hL (by decide) (fun _ _ e => by cases e; rfl) rfl ?_
        refine go_goto (tgt := 5) hc dX3_clashesOf_46 rfl ?_
        exact ih bl0 l1 l3 (l4 + 1) _ hbl0 h
      · rw [if_neg hh] at h
        refine go_aload_n hc dX3_clashesOf_23 rfl rfl ?_
        refine go_iload_n hc dX3_clashesOf_24 rfl rfl ?_
        obtain ⟨r1, σ2, hf3, h⟩ := obi_some h
        refine go_callVl hc ho cmX3_worldsAsTold mlX3_102 dX3_clashesOf_25 (ow_k10 hbl0) (As := [.int l1]) (rest := []) (rX3_worldsAsTold (N := 2) hbl0 hf3 (Nat.le_refl _)) rfl (Nat.le_trans (Nat.le_of_ble_eq_true rfl) hN) rfl (Nat.le_of_ble_eq_true rfl) (Or.inl hz) ?_
        refine go_aload_n hc dX3_clashesOf_28 rfl rfl ?_
        refine go_iload hc dX3_clashesOf_29 rfl ?_
        obtain ⟨r4, σ5, hf6, h⟩ := obi_some h
        refine go_callVl hc ho cmX3_worldsAsTold mlX3_102 dX3_clashesOf_31 (ow_k10 hbl0) (As := [.int l4]) (rest := [.long r1]) (rX3_worldsAsTold (N := 2) hbl0 hf6 (Nat.le_refl _)) rfl (Nat.le_trans (Nat.le_of_ble_eq_true rfl) hN) rfl (Nat.le_of_ble_eq_true rfl) (Or.inl hz) ?_
        refine go_land hc dX3_clashesOf_34 ?_
        refine go_lconst hc dX3_clashesOf_35 cl_0 ?_
        refine go_lcmp hc dX3_clashesOf_36 ?_
        refine go_if_ne (tgt := 43) hc dX3_clashesOf_37 rfl (fun hh => ?_) (fun hh => ?_)
        · rw [if_neg hh] at h
          refine go_iinc hc (lv1 := [.ref (bl0 + 10), .int l1, .null, .int l3, .int (l4 + 1)]) dX3_clashesOf_43 rfl ci_1 hL (by decide) (fun _ _ e => by cases e; rfl) rfl ?_
          refine go_goto (tgt := 5) hc dX3_clashesOf_46 rfl ?_
          exact ih bl0 l1 l3 (l4 + 1) _ hbl0 h
        · rw [if_pos hh] at h
          refine go_iinc hc (lv1 := [.ref (bl0 + 10), .int l1, .null, .int (l3 + 1), .int l4]) dX3_clashesOf_40 rfl ci_1 hL (by decide) (fun _ _ e => by cases e; rfl) rfl ?_
          refine go_iinc hc (lv1 := [.ref (bl0 + 10), .int l1, .null, .int (l3 + 1), .int (l4 + 1)]) dX3_clashesOf_43 rfl ci_1 hL (by decide) (fun _ _ e => by cases e; rfl) rfl ?_
          refine go_goto (tgt := 5) hc dX3_clashesOf_46 rfl ?_
          exact ih bl0 l1 (l3 + 1) (l4 + 1) _ hbl0 h
def fX3_clashesOf (w : Nat) (x0 : Int32) (x1 : Int32) (σ : OM) : Option (Int32 × OM) :=
  fX3_clashesOf_b5 oF w x0 (0 : Int32) x1 σ
set_option maxRecDepth 100000 in
set_option maxHeartbeats 4000000 in
theorem rX3_clashesOf {N : Nat} {w : Nat} {x0 : Int32} {x1 : Int32} {σ : OM} {r0 : Int32} {σ0 : OM} (hw : okd w = 8) (h : fX3_clashesOf w x0 x1 σ = some (r0, σ0)) (hN0 : 3 ≤ N) : oEv N MX3_clashesOf [.ref (w + 10), .int x0, .int x1] σ (some (.int r0)) σ0 := by
  refine oEv_of (lv := [.ref (w + 10), .int x0, .int x1, .null, .null]) (by decide +kernel) (fun g q hq => hq) (fun g => Nat.le_of_ble_eq_true rfl) ?_
  intro K hc ho hL hN1 hr hE hz
  have hN : 3 ≤ kN K := by rw [hN1]; exact hN0
  unfold fX3_clashesOf at h
  refine go_iconst hc dX3_clashesOf_0 ci_0 ?_
  refine go_istore_n hc (lv1 := [.ref (w + 10), .int x0, .int x1, .int (0 : Int32), .null]) dX3_clashesOf_1 rfl hL (by decide) (fun _ _ e => by cases e; rfl) rfl ?_
  refine go_iload_n hc dX3_clashesOf_2 rfl rfl ?_
  refine go_istore hc (lv1 := [.ref (w + 10), .int x0, .int x1, .int (0 : Int32), .int x1]) dX3_clashesOf_3 hL (by decide) (fun _ _ e => by cases e; rfl) rfl ?_
  refine go_mask [true, true, false, true, true] (lv1 := [.ref (w + 10), .int x0, .null, .int (0 : Int32), .int x1]) rfl ?_
  exact rX3_clashesOf_b5 hc ho hL hN hr hE hz oF w x0 (0 : Int32) x1 _ hw h
def fX9_told (x0 : Int32) (x1 : Int32) (σ : OM) : Option (Int32 × OM) :=
  obi (fX9_isAnswer x0 σ) (fun r1 σ2 =>
  if r1 = 0 then (
   obi (fX9_refuse (1 : Int32) σ2) (fun r42 σ43 =>
   some (r42, σ43)))
  else (if x1 = 0 then (
   ogd (decide (okd (mR σ2 0 0) = 8)) (
   ogd (oin x0 20) (
   obi (fX9_answer (mI σ2 ((mR σ2 0 0) + 6) x0.toNatClampNeg) σ2) (fun r6 σ7 =>
   some (r6, σ7)))))
  else if x1 = 1 then (
   ogd (decide (okd (mR σ2 0 0) = 8)) (
   ogd (oin x0 20) (
   obi (fX9_answer (mI σ2 ((mR σ2 0 0) + 7) x0.toNatClampNeg) σ2) (fun r11 σ12 =>
   some (r11, σ12)))))
  else if x1 = 2 then (
   ogd (decide (okd (mR σ2 0 0) = 8)) (
   ogd (oin x0 20) (
   if (mI σ2 ((mR σ2 0 0) + 8) x0.toNatClampNeg) = 0 then (
    obi (fX9_answer (0 : Int32) σ2) (fun r16 σ17 =>
    some (r16, σ17)))
   else (obi (fX9_answer (1 : Int32) σ2) (fun r19 σ20 =>
   some (r19, σ20))))))
  else if x1 = 3 then (
   ogd (decide (okd (mR σ2 0 0) = 8)) (
   obi (fX3_takenBy (mR σ2 0 0) x0 σ2) (fun r23 σ24 =>
   if r23 = 0 then (
    obi (fX9_answer (1 : Int32) σ24) (fun r29 σ30 =>
    some (r29, σ30)))
   else (obi (fX9_answer (0 : Int32) σ24) (fun r26 σ27 =>
   some (r26, σ27))))))
  else if x1 = 4 then (
   ogd (decide (okd (mR σ2 0 0) = 8)) (
   obi (fX3_clashesOf (mR σ2 0 0) x0 (0 : Int32) σ2) (fun r33 σ34 =>
   obi (fX9_answer r33 σ34) (fun r36 σ37 =>
   some (r36, σ37)))))
  else (obi (fX9_refuse (1 : Int32) σ2) (fun r39 σ40 =>
  some (r39, σ40)))))
set_option maxRecDepth 100000 in
set_option maxHeartbeats 4000000 in
theorem rX9_told {N : Nat} {x0 : Int32} {x1 : Int32} {σ : OM} {r0 : Int32} {σ0 : OM} (h : fX9_told x0 x1 σ = some (r0, σ0)) (hN0 : 4 ≤ N) : oEv N MX9_told [.ref 0, .int x0, .int x1] σ (some (.int r0)) σ0 := by
  refine oEv_of (lv := [.ref 0, .int x0, .int x1]) (by decide +kernel) (fun g q hq => hq) (fun g => Nat.le_of_ble_eq_true rfl) ?_
  intro K hc ho hL hN1 hr hE hz
  have hN : 4 ≤ kN K := by rw [hN1]; exact hN0
  unfold fX9_told at h
  refine go_aload_n hc dX9_told_0 rfl rfl ?_
  refine go_iload_n hc dX9_told_1 rfl rfl ?_
  obtain ⟨r1, σ2, hf3, h⟩ := obi_some h
  refine go_callVi hc ho cmX9_isAnswer mlX9_212 dX9_told_2 ok_0 (As := [.int x0]) (rest := []) (rX9_isAnswer (N := 0) hf3 (Nat.le_refl _)) rfl (Nat.le_trans (Nat.le_of_ble_eq_true rfl) hN) rfl (Nat.le_of_ble_eq_true rfl) (Or.inl hz) ?_
  refine go_if_ne (tgt := 14) hc dX9_told_5 rfl (fun hh => ?_) (fun hh => ?_)
  · rw [if_neg hh] at h
    refine go_iload_n hc dX9_told_14 rfl rfl ?_
    by_cases e0 : x1 = 0
    · rw [if_pos e0] at h
      refine go_tabIn (tgt := 48) (off := 33) hc dX9_told_15 (by rw [e0]; decide) (by rw [e0]; decide) (by rw [e0]; decide +kernel) rfl ?_
      refine go_aload_n hc dX9_told_48 rfl rfl ?_
      refine go_aload_n hc dX9_told_49 rfl rfl ?_
      obtain ⟨hg4, h⟩ := ogd_some h
      refine go_getR hc ho flX9_10 dX9_told_50 ok_0 ?_
      refine go_getC (b := (mR σ2 0 0) + 5) (ow_c0_1 (of_decide_eq_true hg4)) hc ho flX9_170 dX9_told_53 (of_decide_eq_true hg4) ?_
      refine go_getC (b := (mR σ2 0 0) + 6) (ow_c5_1 (of_decide_eq_true hg4)) hc ho flX9_215 dX9_told_56 (ow_k5 (of_decide_eq_true hg4)) ?_
      refine go_iload_n hc dX9_told_59 rfl rfl ?_
      obtain ⟨hg5, h⟩ := ogd_some h
      refine go_iald hc dX9_told_60 (ow_k6 (of_decide_eq_true hg4)) (ow_l6 (of_decide_eq_true hg4)) hg5 rfl ?_
      obtain ⟨r6, σ7, hf8, h⟩ := obi_some h
      refine go_callVi hc ho cmX9_answer mlX9_103 dX9_told_61 ok_0 (As := [.int (mI σ2 ((mR σ2 0 0) + 6) x0.toNatClampNeg)]) (rest := []) (rX9_answer (N := 0) hf8 (Nat.le_refl _)) rfl (Nat.le_trans (Nat.le_of_ble_eq_true rfl) hN) rfl (Nat.le_of_ble_eq_true rfl) (Or.inl hz) ?_
      exact go_iret hc (oend_i h hE) hr dX9_told_64
    rw [if_neg e0] at h
    by_cases e1 : x1 = 1
    · rw [if_pos e1] at h
      refine go_tabIn (tgt := 65) (off := 50) hc dX9_told_15 (by rw [e1]; decide) (by rw [e1]; decide) (by rw [e1]; decide +kernel) rfl ?_
      refine go_aload_n hc dX9_told_65 rfl rfl ?_
      refine go_aload_n hc dX9_told_66 rfl rfl ?_
      obtain ⟨hg9, h⟩ := ogd_some h
      refine go_getR hc ho flX9_10 dX9_told_67 ok_0 ?_
      refine go_getC (b := (mR σ2 0 0) + 5) (ow_c0_1 (of_decide_eq_true hg9)) hc ho flX9_170 dX9_told_70 (of_decide_eq_true hg9) ?_
      refine go_getC (b := (mR σ2 0 0) + 7) (ow_c5_2 (of_decide_eq_true hg9)) hc ho flX9_218 dX9_told_73 (ow_k5 (of_decide_eq_true hg9)) ?_
      refine go_iload_n hc dX9_told_76 rfl rfl ?_
      obtain ⟨hg10, h⟩ := ogd_some h
      refine go_iald hc dX9_told_77 (ow_k7 (of_decide_eq_true hg9)) (ow_l7 (of_decide_eq_true hg9)) hg10 rfl ?_
      obtain ⟨r11, σ12, hf13, h⟩ := obi_some h
      refine go_callVi hc ho cmX9_answer mlX9_103 dX9_told_78 ok_0 (As := [.int (mI σ2 ((mR σ2 0 0) + 7) x0.toNatClampNeg)]) (rest := []) (rX9_answer (N := 0) hf13 (Nat.le_refl _)) rfl (Nat.le_trans (Nat.le_of_ble_eq_true rfl) hN) rfl (Nat.le_of_ble_eq_true rfl) (Or.inl hz) ?_
      exact go_iret hc (oend_i h hE) hr dX9_told_81
    rw [if_neg e1] at h
    by_cases e2 : x1 = 2
    · rw [if_pos e2] at h
      refine go_tabIn (tgt := 82) (off := 67) hc dX9_told_15 (by rw [e2]; decide) (by rw [e2]; decide) (by rw [e2]; decide +kernel) rfl ?_
      refine go_aload_n hc dX9_told_82 rfl rfl ?_
      refine go_aload_n hc dX9_told_83 rfl rfl ?_
      obtain ⟨hg14, h⟩ := ogd_some h
      refine go_getR hc ho flX9_10 dX9_told_84 ok_0 ?_
      refine go_getC (b := (mR σ2 0 0) + 5) (ow_c0_1 (of_decide_eq_true hg14)) hc ho flX9_170 dX9_told_87 (of_decide_eq_true hg14) ?_
      refine go_getC (b := (mR σ2 0 0) + 8) (ow_c5_3 (of_decide_eq_true hg14)) hc ho flX9_221 dX9_told_90 (ow_k5 (of_decide_eq_true hg14)) ?_
      refine go_iload_n hc dX9_told_93 rfl rfl ?_
      obtain ⟨hg15, h⟩ := ogd_some h
      refine go_zald hc dX9_told_94 (ow_k8 (of_decide_eq_true hg14)) (ow_l8 (of_decide_eq_true hg14)) hg15 rfl ?_
      refine go_if_eq (tgt := 102) hc dX9_told_95 rfl (fun hh => ?_) (fun hh => ?_)
      · rw [if_pos hh] at h
        refine go_iconst hc dX9_told_102 ci_0 ?_
        obtain ⟨r16, σ17, hf18, h⟩ := obi_some h
        refine go_callVi hc ho cmX9_answer mlX9_103 dX9_told_103 ok_0 (As := [.int (0 : Int32)]) (rest := []) (rX9_answer (N := 0) hf18 (Nat.le_refl _)) rfl (Nat.le_trans (Nat.le_of_ble_eq_true rfl) hN) rfl (Nat.le_of_ble_eq_true rfl) (Or.inl hz) ?_
        exact go_iret hc (oend_i h hE) hr dX9_told_106
      · rw [if_neg hh] at h
        refine go_iconst hc dX9_told_98 ci_1 ?_
        refine go_goto (tgt := 103) hc dX9_told_99 rfl ?_
        obtain ⟨r19, σ20, hf21, h⟩ := obi_some h
        refine go_callVi hc ho cmX9_answer mlX9_103 dX9_told_103 ok_0 (As := [.int (1 : Int32)]) (rest := []) (rX9_answer (N := 0) hf21 (Nat.le_refl _)) rfl (Nat.le_trans (Nat.le_of_ble_eq_true rfl) hN) rfl (Nat.le_of_ble_eq_true rfl) (Or.inl hz) ?_
        exact go_iret hc (oend_i h hE) hr dX9_told_106
    rw [if_neg e2] at h
    by_cases e3 : x1 = 3
    · rw [if_pos e3] at h
      refine go_tabIn (tgt := 107) (off := 92) hc dX9_told_15 (by rw [e3]; decide) (by rw [e3]; decide) (by rw [e3]; decide +kernel) rfl ?_
      refine go_aload_n hc dX9_told_107 rfl rfl ?_
      refine go_aload_n hc dX9_told_108 rfl rfl ?_
      obtain ⟨hg22, h⟩ := ogd_some h
      refine go_getR hc ho flX9_10 dX9_told_109 ok_0 ?_
      refine go_getC (b := (mR σ2 0 0) + 10) (ow_c0_2 (of_decide_eq_true hg22)) hc ho flX9_149 dX9_told_112 (of_decide_eq_true hg22) ?_
      refine go_iload_n hc dX9_told_115 rfl rfl ?_
      obtain ⟨r23, σ24, hf25, h⟩ := obi_some h
      refine go_callVi hc ho cmX3_takenBy mlX9_225 dX9_told_116 (ow_k10 (of_decide_eq_true hg22)) (As := [.int x0]) (rest := [.ref 0]) (rX3_takenBy (N := 3) (of_decide_eq_true hg22) hf25 (Nat.le_refl _)) rfl (Nat.le_trans (Nat.le_of_ble_eq_true rfl) hN) rfl (Nat.le_of_ble_eq_true rfl) (Or.inl hz) ?_
      refine go_if_ne (tgt := 126) hc dX9_told_119 rfl (fun hh => ?_) (fun hh => ?_)
      · rw [if_neg hh] at h
        refine go_iconst hc dX9_told_126 ci_0 ?_
        obtain ⟨r26, σ27, hf28, h⟩ := obi_some h
        refine go_callVi hc ho cmX9_answer mlX9_103 dX9_told_127 ok_0 (As := [.int (0 : Int32)]) (rest := []) (rX9_answer (N := 0) hf28 (Nat.le_refl _)) rfl (Nat.le_trans (Nat.le_of_ble_eq_true rfl) hN) rfl (Nat.le_of_ble_eq_true rfl) (Or.inl hz) ?_
        exact go_iret hc (oend_i h hE) hr dX9_told_130
      · rw [if_pos hh] at h
        refine go_iconst hc dX9_told_122 ci_1 ?_
        refine go_goto (tgt := 127) hc dX9_told_123 rfl ?_
        obtain ⟨r29, σ30, hf31, h⟩ := obi_some h
        refine go_callVi hc ho cmX9_answer mlX9_103 dX9_told_127 ok_0 (As := [.int (1 : Int32)]) (rest := []) (rX9_answer (N := 0) hf31 (Nat.le_refl _)) rfl (Nat.le_trans (Nat.le_of_ble_eq_true rfl) hN) rfl (Nat.le_of_ble_eq_true rfl) (Or.inl hz) ?_
        exact go_iret hc (oend_i h hE) hr dX9_told_130
    rw [if_neg e3] at h
    by_cases e4 : x1 = 4
    · rw [if_pos e4] at h
      refine go_tabIn (tgt := 131) (off := 116) hc dX9_told_15 (by rw [e4]; decide) (by rw [e4]; decide) (by rw [e4]; decide +kernel) rfl ?_
      refine go_aload_n hc dX9_told_131 rfl rfl ?_
      refine go_aload_n hc dX9_told_132 rfl rfl ?_
      obtain ⟨hg32, h⟩ := ogd_some h
      refine go_getR hc ho flX9_10 dX9_told_133 ok_0 ?_
      refine go_getC (b := (mR σ2 0 0) + 10) (ow_c0_2 (of_decide_eq_true hg32)) hc ho flX9_149 dX9_told_136 (of_decide_eq_true hg32) ?_
      refine go_iload_n hc dX9_told_139 rfl rfl ?_
      refine go_iconst hc dX9_told_140 ci_0 ?_
      obtain ⟨r33, σ34, hf35, h⟩ := obi_some h
      refine go_callVi hc ho cmX3_clashesOf mlX9_228 dX9_told_141 (ow_k10 (of_decide_eq_true hg32)) (As := [.int x0, .int (0 : Int32)]) (rest := [.ref 0]) (rX3_clashesOf (N := 3) (of_decide_eq_true hg32) hf35 (Nat.le_refl _)) rfl (Nat.le_trans (Nat.le_of_ble_eq_true rfl) hN) rfl (Nat.le_of_ble_eq_true rfl) (Or.inl hz) ?_
      obtain ⟨r36, σ37, hf38, h⟩ := obi_some h
      refine go_callVi hc ho cmX9_answer mlX9_103 dX9_told_144 ok_0 (As := [.int r33]) (rest := []) (rX9_answer (N := 0) hf38 (Nat.le_refl _)) rfl (Nat.le_trans (Nat.le_of_ble_eq_true rfl) hN) rfl (Nat.le_of_ble_eq_true rfl) (Or.inl hz) ?_
      exact go_iret hc (oend_i h hE) hr dX9_told_147
    rw [if_neg e4] at h
    refine go_tabOut (tgt := 148) hc dX9_told_15 ((otab 5 (by decide) (fun k hk => by rcases (show k = 0 ∨ k = 1 ∨ k = 2 ∨ k = 3 ∨ k = 4 by omega) with rfl | rfl | rfl | rfl | rfl <;> first | exact e0 | exact e1 | exact e2 | exact e3 | exact e4)).imp id (fun q => by omega)) rfl ?_
    refine go_aload_n hc dX9_told_148 rfl rfl ?_
    refine go_iconst hc dX9_told_149 ci_1 ?_
    obtain ⟨r39, σ40, hf41, h⟩ := obi_some h
    refine go_callVi hc ho cmX9_refuse mlX9_70 dX9_told_150 ok_0 (As := [.int (1 : Int32)]) (rest := []) (rX9_refuse (N := 0) hf41 (Nat.le_refl _)) rfl (Nat.le_trans (Nat.le_of_ble_eq_true rfl) hN) rfl (Nat.le_of_ble_eq_true rfl) (Or.inl hz) ?_
    exact go_iret hc (oend_i h hE) hr dX9_told_153
  · rw [if_pos hh] at h
    refine go_aload_n hc dX9_told_8 rfl rfl ?_
    refine go_iconst hc dX9_told_9 ci_1 ?_
    obtain ⟨r42, σ43, hf44, h⟩ := obi_some h
    refine go_callVi hc ho cmX9_refuse mlX9_70 dX9_told_10 ok_0 (As := [.int (1 : Int32)]) (rest := []) (rX9_refuse (N := 0) hf44 (Nat.le_refl _)) rfl (Nat.le_trans (Nat.le_of_ble_eq_true rfl) hN) rfl (Nat.le_of_ble_eq_true rfl) (Or.inl hz) ?_
    exact go_iret hc (oend_i h hE) hr dX9_told_13
def fX9_clashes_b54 (l1 : Int32) (σ : OM) : Option (Int32 × OM) :=
  obi (fX9_answer l1 σ) (fun r1 σ2 =>
  some (r1, σ2))
set_option maxRecDepth 100000 in
set_option maxHeartbeats 4000000 in
theorem rX9_clashes_b54 {K : OK} (hc : kcc K = cX9_clashes) (ho : kow K = RX9) (hL : knL K = 3) (hN : 4 ≤ kN K) (hr : (kme K).sig.returnType = (some .int)) {r0 : Int32} {σ0 : OM} (hE : oEnd K (some (.int r0)) σ0) (hz : kz K = 0) {l1 : Int32} {σ : OM} (h : fX9_clashes_b54 l1 σ = some (r0, σ0)) : Go K 54 [.ref 0, .int l1, .null] [] σ := by
  unfold fX9_clashes_b54 at h
  refine go_aload_n hc dX9_clashes_54 rfl rfl ?_
  refine go_iload_n hc dX9_clashes_55 rfl rfl ?_
  obtain ⟨r1, σ2, hf3, h⟩ := obi_some h
  refine go_callVi hc ho cmX9_answer mlX9_103 dX9_clashes_56 ok_0 (As := [.int l1]) (rest := []) (rX9_answer (N := 0) hf3 (Nat.le_refl _)) rfl (Nat.le_trans (Nat.le_of_ble_eq_true rfl) hN) rfl (Nat.le_of_ble_eq_true rfl) (Or.inl hz) ?_
  exact go_iret hc (oend_i h hE) hr dX9_clashes_59
def fX9_clashes_b17 : Nat → Int32 → Int32 → OM → Option (Int32 × OM)
  | 0, _, _, _ => none
  | n + 1, l1, l2, σ =>
    ogd (decide (okd (mR σ 0 0) = 8)) (
    if (mI σ ((mR σ 0 0) + 5) 0) ≤ l2 then (
     fX9_clashes_b54 l1 σ)
    else (ogd (decide (okd (mR σ 0 0) = 8)) (
    obi (fX3_clashesOf (mR σ 0 0) l2 (l2 + (1 : Int32)) σ) (fun r3 σ4 =>
    fX9_clashes_b17 n (l1 + r3) (l2 + 1) σ4))))
set_option maxRecDepth 100000 in
set_option maxHeartbeats 4000000 in
theorem rX9_clashes_b17 {K : OK} (hc : kcc K = cX9_clashes) (ho : kow K = RX9) (hL : knL K = 3) (hN : 4 ≤ kN K) (hr : (kme K).sig.returnType = (some .int)) {r0 : Int32} {σ0 : OM} (hE : oEnd K (some (.int r0)) σ0) (hz : kz K = 0) : ∀ (n : Nat) (l1 : Int32) (l2 : Int32) (σ : OM), fX9_clashes_b17 n l1 l2 σ = some (r0, σ0) → Go K 17 [.ref 0, .int l1, .int l2] [] σ := by
  intro n
  induction n with
  | zero =>
    intro l1 l2 σ h
    cases h
  | succ n ih =>
    intro l1 l2 σ h
    rw [fX9_clashes_b17] at h
    refine go_iload_n hc dX9_clashes_17 rfl rfl ?_
    refine go_aload_n hc dX9_clashes_18 rfl rfl ?_
    obtain ⟨hg1, h⟩ := ogd_some h
    refine go_getR hc ho flX9_10 dX9_clashes_19 ok_0 ?_
    refine go_getC (b := (mR σ 0 0) + 5) (ow_c0_1 (of_decide_eq_true hg1)) hc ho flX9_170 dX9_clashes_22 (of_decide_eq_true hg1) ?_
    refine go_getI hc ho flX9_231 dX9_clashes_25 (ow_k5 (of_decide_eq_true hg1)) ?_
    refine go_icmp_ge (tgt := 54) hc dX9_clashes_28 rfl (fun hh => ?_) (fun hh => ?_)
    · rw [if_pos hh] at h
      refine go_mask [true, true, false] (lv1 := [.ref 0, .int l1, .null]) rfl ?_
      exact rX9_clashes_b54 hc ho hL hN hr hE hz h
    · rw [if_neg hh] at h
      refine go_iload_n hc dX9_clashes_31 rfl rfl ?_
      refine go_aload_n hc dX9_clashes_32 rfl rfl ?_
      obtain ⟨hg2, h⟩ := ogd_some h
      refine go_getR hc ho flX9_10 dX9_clashes_33 ok_0 ?_
      refine go_getC (b := (mR σ 0 0) + 10) (ow_c0_2 (of_decide_eq_true hg2)) hc ho flX9_149 dX9_clashes_36 (of_decide_eq_true hg2) ?_
      refine go_iload_n hc dX9_clashes_39 rfl rfl ?_
      refine go_iload_n hc dX9_clashes_40 rfl rfl ?_
      refine go_iconst hc dX9_clashes_41 ci_1 ?_
      refine go_iadd hc dX9_clashes_42 ?_
      obtain ⟨r3, σ4, hf5, h⟩ := obi_some h
      refine go_callVi hc ho cmX3_clashesOf mlX9_228 dX9_clashes_43 (ow_k10 (of_decide_eq_true hg2)) (As := [.int l2, .int (l2 + (1 : Int32))]) (rest := [.int l1]) (rX3_clashesOf (N := 3) (of_decide_eq_true hg2) hf5 (Nat.le_refl _)) rfl (Nat.le_trans (Nat.le_of_ble_eq_true rfl) hN) rfl (Nat.le_of_ble_eq_true rfl) (Or.inl hz) ?_
      refine go_iadd hc dX9_clashes_46 ?_
      refine go_istore_n hc (lv1 := [.ref 0, .int (l1 + r3), .int l2]) dX9_clashes_47 rfl hL (by decide) (fun _ _ e => by cases e; rfl) rfl ?_
      refine go_iinc hc (lv1 := [.ref 0, .int (l1 + r3), .int (l2 + 1)]) dX9_clashes_48 rfl ci_1 hL (by decide) (fun _ _ e => by cases e; rfl) rfl ?_
      refine go_goto (tgt := 17) hc dX9_clashes_51 rfl ?_
      exact ih (l1 + r3) (l2 + 1) _ h
def fX9_clashes (σ : OM) : Option (Int32 × OM) :=
  if (mI σ 0 7) = 0 then (
   obi (fX9_refuse (1 : Int32) σ) (fun r1 σ2 =>
   some (r1, σ2)))
  else (fX9_clashes_b17 oF (0 : Int32) (0 : Int32) σ)
set_option maxRecDepth 100000 in
set_option maxHeartbeats 4000000 in
theorem rX9_clashes {N : Nat} {σ : OM} {r0 : Int32} {σ0 : OM} (h : fX9_clashes σ = some (r0, σ0)) (hN0 : 4 ≤ N) : oEv N MX9_clashes [.ref 0] σ (some (.int r0)) σ0 := by
  refine oEv_of (lv := [.ref 0, .null, .null]) (by decide +kernel) (fun g q hq => hq) (fun g => Nat.le_of_ble_eq_true rfl) ?_
  intro K hc ho hL hN1 hr hE hz
  have hN : 4 ≤ kN K := by rw [hN1]; exact hN0
  unfold fX9_clashes at h
  refine go_aload_n hc dX9_clashes_0 rfl rfl ?_
  refine go_getI hc ho flX9_90 dX9_clashes_1 ok_0 ?_
  refine go_if_ne (tgt := 13) hc dX9_clashes_4 rfl (fun hh => ?_) (fun hh => ?_)
  · rw [if_neg hh] at h
    refine go_iconst hc dX9_clashes_13 ci_0 ?_
    refine go_istore_n hc (lv1 := [.ref 0, .int (0 : Int32), .null]) dX9_clashes_14 rfl hL (by decide) (fun _ _ e => by cases e; rfl) rfl ?_
    refine go_iconst hc dX9_clashes_15 ci_0 ?_
    refine go_istore_n hc (lv1 := [.ref 0, .int (0 : Int32), .int (0 : Int32)]) dX9_clashes_16 rfl hL (by decide) (fun _ _ e => by cases e; rfl) rfl ?_
    exact rX9_clashes_b17 hc ho hL hN hr hE hz oF (0 : Int32) (0 : Int32) _ h
  · rw [if_pos hh] at h
    refine go_aload_n hc dX9_clashes_7 rfl rfl ?_
    refine go_iconst hc dX9_clashes_8 ci_1 ?_
    obtain ⟨r1, σ2, hf3, h⟩ := obi_some h
    refine go_callVi hc ho cmX9_refuse mlX9_70 dX9_clashes_9 ok_0 (As := [.int (1 : Int32)]) (rest := []) (rX9_refuse (N := 0) hf3 (Nat.le_refl _)) rfl (Nat.le_trans (Nat.le_of_ble_eq_true rfl) hN) rfl (Nat.le_of_ble_eq_true rfl) (Or.inl hz) ?_
    exact go_iret hc (oend_i h hE) hr dX9_clashes_12
def fX9_takes (x0 : Int32) (σ : OM) : Option (Int32 × OM) :=
  obi (fX9_isAnswer x0 σ) (fun r1 σ2 =>
  if r1 = 0 then (
   obi (fX9_refuse (1 : Int32) σ2) (fun r11 σ12 =>
   some (r11, σ12)))
  else (ogd (decide (okd (mR σ2 0 0) = 8)) (
  obi (fX3_takenBy (mR σ2 0 0) x0 σ2) (fun r5 σ6 =>
  obi (fX9_answer r5 σ6) (fun r8 σ9 =>
  some (r8, σ9))))))
set_option maxRecDepth 100000 in
set_option maxHeartbeats 4000000 in
theorem rX9_takes {N : Nat} {x0 : Int32} {σ : OM} {r0 : Int32} {σ0 : OM} (h : fX9_takes x0 σ = some (r0, σ0)) (hN0 : 4 ≤ N) : oEv N MX9_takes [.ref 0, .int x0] σ (some (.int r0)) σ0 := by
  refine oEv_of (lv := [.ref 0, .int x0]) (by decide +kernel) (fun g q hq => hq) (fun g => Nat.le_of_ble_eq_true rfl) ?_
  intro K hc ho hL hN1 hr hE hz
  have hN : 4 ≤ kN K := by rw [hN1]; exact hN0
  unfold fX9_takes at h
  refine go_aload_n hc dX9_takes_0 rfl rfl ?_
  refine go_iload_n hc dX9_takes_1 rfl rfl ?_
  obtain ⟨r1, σ2, hf3, h⟩ := obi_some h
  refine go_callVi hc ho cmX9_isAnswer mlX9_212 dX9_takes_2 ok_0 (As := [.int x0]) (rest := []) (rX9_isAnswer (N := 0) hf3 (Nat.le_refl _)) rfl (Nat.le_trans (Nat.le_of_ble_eq_true rfl) hN) rfl (Nat.le_of_ble_eq_true rfl) (Or.inl hz) ?_
  refine go_if_ne (tgt := 14) hc dX9_takes_5 rfl (fun hh => ?_) (fun hh => ?_)
  · rw [if_neg hh] at h
    refine go_aload_n hc dX9_takes_14 rfl rfl ?_
    refine go_aload_n hc dX9_takes_15 rfl rfl ?_
    obtain ⟨hg4, h⟩ := ogd_some h
    refine go_getR hc ho flX9_10 dX9_takes_16 ok_0 ?_
    refine go_getC (b := (mR σ2 0 0) + 10) (ow_c0_2 (of_decide_eq_true hg4)) hc ho flX9_149 dX9_takes_19 (of_decide_eq_true hg4) ?_
    refine go_iload_n hc dX9_takes_22 rfl rfl ?_
    obtain ⟨r5, σ6, hf7, h⟩ := obi_some h
    refine go_callVi hc ho cmX3_takenBy mlX9_225 dX9_takes_23 (ow_k10 (of_decide_eq_true hg4)) (As := [.int x0]) (rest := [.ref 0]) (rX3_takenBy (N := 3) (of_decide_eq_true hg4) hf7 (Nat.le_refl _)) rfl (Nat.le_trans (Nat.le_of_ble_eq_true rfl) hN) rfl (Nat.le_of_ble_eq_true rfl) (Or.inl hz) ?_
    obtain ⟨r8, σ9, hf10, h⟩ := obi_some h
    refine go_callVi hc ho cmX9_answer mlX9_103 dX9_takes_26 ok_0 (As := [.int r5]) (rest := []) (rX9_answer (N := 0) hf10 (Nat.le_refl _)) rfl (Nat.le_trans (Nat.le_of_ble_eq_true rfl) hN) rfl (Nat.le_of_ble_eq_true rfl) (Or.inl hz) ?_
    exact go_iret hc (oend_i h hE) hr dX9_takes_29
  · rw [if_pos hh] at h
    refine go_aload_n hc dX9_takes_8 rfl rfl ?_
    refine go_iconst hc dX9_takes_9 ci_1 ?_
    obtain ⟨r11, σ12, hf13, h⟩ := obi_some h
    refine go_callVi hc ho cmX9_refuse mlX9_70 dX9_takes_10 ok_0 (As := [.int (1 : Int32)]) (rest := []) (rX9_refuse (N := 0) hf13 (Nat.le_refl _)) rfl (Nat.le_trans (Nat.le_of_ble_eq_true rfl) hN) rfl (Nat.le_of_ble_eq_true rfl) (Or.inl hz) ?_
    exact go_iret hc (oend_i h hE) hr dX9_takes_13
