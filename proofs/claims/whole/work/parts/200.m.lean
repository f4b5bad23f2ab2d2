def fX6_put_b3 : Nat → Int32 → Int32 → OM → Option OM
  | 0, _, _, _ => none
  | n + 1, l1, l2, σ =>
    if l2 < 0 then (
     some σ)
    else (if (900 : Int32) ≤ (mI σ 43 1) then (
     fX6_put_b3 n l1 (l2 + (-8)) σ)
    else (ogd (oin (mI σ 43 1) 900) (
    fX6_put_b3 n l1 (l2 + (-8)) (sI (sI σ 44 ((mI σ 43 1).toNatClampNeg) (vp_nar .byte ((((l1).toUInt32 >>> (l2.toUInt32 &&& Int32.toUInt32 31)).toInt32).toInt8.toInt32))) 43 1 ((mI (sI σ 44 ((mI σ 43 1).toNatClampNeg) (vp_nar .byte ((((l1).toUInt32 >>> (l2.toUInt32 &&& Int32.toUInt32 31)).toInt32).toInt8.toInt32))) 43 1) + (1 : Int32))))))
set_option maxRecDepth 100000 in
set_option maxHeartbeats 4000000 in
theorem rX6_put_b3 {K : OK} (hc : kcc K = cX6_put) (ho : kow K = RX6) (hL : knL K = 3) (hN : 0 ≤ kN K) (hr : (kme K).sig.returnType = none) {σ0 : OM} (hE : oEnd K (none) σ0) (hz : kz K = 0) : ∀ (n : Nat) (l1 : Int32) (l2 : Int32) (σ : OM), fX6_put_b3 n l1 l2 σ = some σ0 → Go K 3 [.ref 43, .int l1, .int l2] [] σ := by
  intro n
  induction n with
  | zero =>
    intro l1 l2 σ h
    cases h
  | succ n ih =>
    intro l1 l2 σ h
    rw [fX6_put_b3] at h
    refine go_iload_n hc dX6_put_3 rfl rfl ?_
    refine go_if_lt (tgt := 46) hc dX6_put_4 rfl (fun hh => ?_) (fun hh => ?_)
    · rw [if_pos hh] at h
      exact go_vret hc (oend_v h hE) hr dX6_put_46
    · rw [if_neg hh] at h
      refine go_aload_n hc dX6_put_7 rfl rfl ?_
      refine go_getI hc ho flX6_26 dX6_put_8 ok_43 ?_
      refine go_sipush hc dX6_put_11 cs_900 ?_
      refine go_icmp_ge (tgt := 40) hc dX6_put_14 rfl (fun hh => ?_) (fun hh => ?_)
      · rw [if_pos hh] at h
        refine go_iinc hc (lv1 := [.ref 43, .int l1, .int (l2 + (-8))]) dX6_put_40 rfl ci_m8 hL (by decide) (fun _ _ e => by cases e; rfl) rfl ?_
        refine go_goto (tgt := 3) hc dX6_put_43 rfl ?_
        exact ih l1 (l2 + (-8)) _ h
      · rw [if_neg hh] at h
        refine go_aload_n hc dX6_put_17 rfl rfl ?_
        refine go_getC (b := 44) rfl hc ho flX6_9 dX6_put_18 ok_43 ?_
        refine go_aload_n hc dX6_put_21 rfl rfl ?_
        refine go_getI hc ho flX6_26 dX6_put_22 ok_43 ?_
        refine go_iload_n hc dX6_put_25 rfl rfl ?_
        refine go_iload_n hc dX6_put_26 rfl rfl ?_
        refine go_iushr hc dX6_put_27 ?_
        refine go_i2b hc dX6_put_28 ?_
        obtain ⟨hg1, h⟩ := ogd_some h
        refine go_bast hc dX6_put_29 ok_44 ol_44 hg1 rfl ?_
        refine go_aload_n hc dX6_put_30 rfl rfl ?_
        refine go_dup hc dX6_put_31 rfl ?_
        refine go_getI hc ho flX6_26 dX6_put_32 ok_43 ?_
        refine go_iconst hc dX6_put_35 ci_1 ?_
        refine go_iadd hc dX6_put_36 ?_
        refine go_putI hc ho fpX6_26 dX6_put_37 ok_43 (fun g => oni g _) (fun _ => rfl) ?_
        refine go_iinc hc (lv1 := [.ref 43, .int l1, .int (l2 + (-8))]) dX6_put_40 rfl ci_m8 hL (by decide) (fun _ _ e => by cases e; rfl) rfl ?_
        refine go_goto (tgt := 3) hc dX6_put_43 rfl ?_
        exact ih l1 (l2 + (-8)) _ h
def fX6_put (x0 : Int32) (σ : OM) : Option OM :=
  fX6_put_b3 oF x0 (24 : Int32) σ
set_option maxRecDepth 100000 in
set_option maxHeartbeats 4000000 in
theorem rX6_put {N : Nat} {x0 : Int32} {σ : OM} {σ0 : OM} (h : fX6_put x0 σ = some σ0) (hN0 : 0 ≤ N) : oEv N MX6_put [.ref 43, .int x0] σ (none) σ0 := by
  refine oEv_of (lv := [.ref 43, .int x0, .null]) (by decide +kernel) (fun g q hq => hq) (fun g => Nat.le_of_ble_eq_true rfl) ?_
  intro K hc ho hL hN1 hr hE hz
  have hN : 0 ≤ kN K := by rw [hN1]; exact hN0
  unfold fX6_put at h
  refine go_bipush hc dX6_put_0 cb_24 ?_
  refine go_istore_n hc (lv1 := [.ref 43, .int x0, .int (24 : Int32)]) dX6_put_2 rfl hL (by decide) (fun _ _ e => by cases e; rfl) rfl ?_
  exact rX6_put_b3 hc ho hL hN hr hE hz oF x0 (24 : Int32) _ h
def fX9_feed (x0 : Int32) (x1 : Int32) (x2 : Int32) (x3 : Int32) (x4 : Int32) (σ : OM) : Option (Int32 × OM) :=
  if (mI σ 43 1) ≤ (880 : Int32) then (
   obv (fX6_put x0 σ) (fun σ2 =>
   obv (fX6_put x1 σ2) (fun σ5 =>
   obv (fX6_put x2 σ5) (fun σ8 =>
   obv (fX6_put x3 σ8) (fun σ11 =>
   obv (fX6_put x4 σ11) (fun σ14 =>
   some ((mI σ14 43 1), σ14)))))))
  else (some (((-1) : Int32), σ))
set_option maxRecDepth 100000 in
set_option maxHeartbeats 4000000 in
theorem rX9_feed {N : Nat} {x0 : Int32} {x1 : Int32} {x2 : Int32} {x3 : Int32} {x4 : Int32} {σ : OM} {r0 : Int32} {σ0 : OM} (h : fX9_feed x0 x1 x2 x3 x4 σ = some (r0, σ0)) (hN0 : 1 ≤ N) : oEv N MX9_feed [.ref 0, .int x0, .int x1, .int x2, .int x3, .int x4] σ (some (.int r0)) σ0 := by
  refine oEv_of (lv := [.ref 0, .int x0, .int x1, .int x2, .int x3, .int x4]) (by decide +kernel) (fun g q hq => hq) (fun g => Nat.le_of_ble_eq_true rfl) ?_
  intro K hc ho hL hN1 hr hE hz
  have hN : 1 ≤ kN K := by rw [hN1]; exact hN0
  unfold fX9_feed at h
  refine go_aload_n hc dX9_feed_0 rfl rfl ?_
  refine go_getC (b := 43) rfl hc ho flX9_22 dX9_feed_1 ok_0 ?_
  refine go_getI hc ho flX9_62 dX9_feed_4 ok_43 ?_
  refine go_sipush hc dX9_feed_7 cs_880 ?_
  refine go_icmp_le (tgt := 15) hc dX9_feed_10 rfl (fun hh => ?_) (fun hh => ?_)
  · rw [if_pos hh] at h
    refine go_aload_n hc dX9_feed_15 rfl rfl ?_
    refine go_getC (b := 43) rfl hc ho flX9_22 dX9_feed_16 ok_0 ?_
    refine go_iload_n hc dX9_feed_19 rfl rfl ?_
    obtain ⟨σ2, hf3, h⟩ := obv_some h
    refine go_callVv hc ho cmX6_put mlX9_66 dX9_feed_20 ok_43 (As := [.int x0]) (rest := []) (rX6_put (N := 0) hf3 (Nat.le_refl _)) rfl (Nat.le_trans (Nat.le_of_ble_eq_true rfl) hN) rfl (Nat.le_of_ble_eq_true rfl) (Or.inl hz) ?_
    refine go_aload_n hc dX9_feed_23 rfl rfl ?_
    refine go_getC (b := 43) rfl hc ho flX9_22 dX9_feed_24 ok_0 ?_
    refine go_iload_n hc dX9_feed_27 rfl rfl ?_
    obtain ⟨σ5, hf6, h⟩ := obv_some h
    refine go_callVv hc ho cmX6_put mlX9_66 dX9_feed_28 ok_43 (As := [.int x1]) (rest := []) (rX6_put (N := 0) hf6 (Nat.le_refl _)) rfl (Nat.le_trans (Nat.le_of_ble_eq_true rfl) hN) rfl (Nat.le_of_ble_eq_true rfl) (Or.inl hz) ?_
    refine go_aload_n hc dX9_feed_31 rfl rfl ?_
    refine go_getC (b := 43) rfl hc ho flX9_22 dX9_feed_32 ok_0 ?_
    refine go_iload_n hc dX9_feed_35 rfl rfl ?_
    obtain ⟨σ8, hf9, h⟩ := obv_some h
    refine go_callVv hc ho cmX6_put mlX9_66 dX9_feed_36 ok_43 (As := [.int x2]) (rest := []) (rX6_put (N := 0) hf9 (Nat.le_refl _)) rfl (Nat.le_trans (Nat.le_of_ble_eq_true rfl) hN) rfl (Nat.le_of_ble_eq_true rfl) (Or.inl hz) ?_
    refine go_aload_n hc dX9_feed_39 rfl rfl ?_
    refine go_getC (b := 43) rfl hc ho flX9_22 dX9_feed_40 ok_0 ?_
    refine go_iload hc dX9_feed_43 rfl ?_
    obtain ⟨σ11, hf12, h⟩ := obv_some h
    refine go_callVv hc ho cmX6_put mlX9_66 dX9_feed_45 ok_43 (As := [.int x3]) (rest := []) (rX6_put (N := 0) hf12 (Nat.le_refl _)) rfl (Nat.le_trans (Nat.le_of_ble_eq_true rfl) hN) rfl (Nat.le_of_ble_eq_true rfl) (Or.inl hz) ?_
    refine go_aload_n hc dX9_feed_48 rfl rfl ?_
    refine go_getC (b := 43) rfl hc ho flX9_22 dX9_feed_49 ok_0 ?_
    refine go_iload hc dX9_feed_52 rfl ?_
    obtain ⟨σ14, hf15, h⟩ := obv_some h
    refine go_callVv hc ho cmX6_put mlX9_66 dX9_feed_54 ok_43 (As := [.int x4]) (rest := []) (rX6_put (N := 0) hf15 (Nat.le_refl _)) rfl (Nat.le_trans (Nat.le_of_ble_eq_true rfl) hN) rfl (Nat.le_of_ble_eq_true rfl) (Or.inl hz) ?_
    refine go_aload_n hc dX9_feed_57 rfl rfl ?_
    refine go_getC (b := 43) rfl hc ho flX9_22 dX9_feed_58 ok_0 ?_
    refine go_getI hc ho flX9_62 dX9_feed_61 ok_43 ?_
    exact go_iret hc (oend_i h hE) hr dX9_feed_64
  · rw [if_neg hh] at h
    refine go_iconst hc dX9_feed_13 ci_m1 ?_
    exact go_iret hc (oend_i h hE) hr dX9_feed_14
def fX9_refuse (x0 : Int32) (σ : OM) : Option (Int32 × OM) :=
  some (((-1) : Int32), sI σ 0 9 x0)
set_option maxRecDepth 100000 in
set_option maxHeartbeats 4000000 in
theorem rX9_refuse {N : Nat} {x0 : Int32} {σ : OM} {r0 : Int32} {σ0 : OM} (h : fX9_refuse x0 σ = some (r0, σ0)) (hN0 : 0 ≤ N) : oEv N MX9_refuse [.ref 0, .int x0] σ (some (.int r0)) σ0 := by
  refine oEv_of (lv := [.ref 0, .int x0]) (by decide +kernel) (fun g q hq => hq) (fun g => Nat.le_of_ble_eq_true rfl) ?_
  intro K hc ho hL hN1 hr hE hz
  have hN : 0 ≤ kN K := by rw [hN1]; exact hN0
  unfold fX9_refuse at h
  refine go_aload_n hc dX9_refuse_0 rfl rfl ?_
  refine go_iload_n hc dX9_refuse_1 rfl rfl ?_
  refine go_putI hc ho fpX9_106 dX9_refuse_2 ok_0 (fun g => oni g _) (fun _ => rfl) ?_
  refine go_iconst hc dX9_refuse_5 ci_m1 ?_
  exact go_iret hc (oend_i h hE) hr dX9_refuse_6
def fX2_clear (w : Nat) (σ : OM) : Option OM :=
  some (sI (sI (sI (sI (sI (sL (sI (sI σ (w + 1) 0 (0 : Int32)) (w + 1) 2 (0 : Int32)) (w + 1) 3 ((-1) : Int64)) (w + 1) 4 (0 : Int32)) (w + 1) 5 (0 : Int32)) (w + 1) 6 (0 : Int32)) (w + 1) 8 (0 : Int32)) (w + 1) 9 (0 : Int32))
set_option maxRecDepth 100000 in
set_option maxHeartbeats 4000000 in
theorem rX2_clear {N : Nat} {w : Nat} {σ : OM} {σ0 : OM} (hw : okd w = 8) (h : fX2_clear w σ = some σ0) (hN0 : 0 ≤ N) : oEv N MX2_clear [.ref (w + 1)] σ (none) σ0 := by
  refine oEv_of (lv := [.ref (w + 1)]) (by decide +kernel) (fun g q hq => hq) (fun g => Nat.le_of_ble_eq_true rfl) ?_
  intro K hc ho hL hN1 hr hE hz
  have hN : 0 ≤ kN K := by rw [hN1]; exact hN0
  unfold fX2_clear at h
  refine go_aload_n hc dX2_clear_0 rfl rfl ?_
  refine go_iconst hc dX2_clear_1 ci_0 ?_
  refine go_putI hc ho fpX2_22 dX2_clear_2 (ow_k1 hw) (fun g => oni g _) (fun _ => rfl) ?_
  refine go_aload_n hc dX2_clear_5 rfl rfl ?_
  refine go_iconst hc dX2_clear_6 ci_0 ?_
  refine go_putI hc ho fpX2_26 dX2_clear_7 (ow_k1 hw) (fun g => oni g _) (fun _ => rfl) ?_
  refine go_aload_n hc dX2_clear_10 rfl rfl ?_
  refine go_ldc2 hc ho klX2_29 dX2_clear_11 ?_
  refine go_putL hc ho fpX2_31 dX2_clear_14 (ow_k1 hw) (fun g => onl g _) (fun _ => rfl) ?_
  refine go_aload_n hc dX2_clear_17 rfl rfl ?_
  refine go_iconst hc dX2_clear_18 ci_0 ?_
  refine go_putI hc ho fpX2_35 dX2_clear_19 (ow_k1 hw) (fun _ => rfl) (fun _ => rfl) ?_
  refine go_aload_n hc dX2_clear_22 rfl rfl ?_
  refine go_iconst hc dX2_clear_23 ci_0 ?_
  refine go_putI hc ho fpX2_39 dX2_clear_24 (ow_k1 hw) (fun g => oni g _) (fun _ => rfl) ?_
  refine go_aload_n hc dX2_clear_27 rfl rfl ?_
  refine go_iconst hc dX2_clear_28 ci_0 ?_
  refine go_putI hc ho fpX2_42 dX2_clear_29 (ow_k1 hw) (fun g => oni g _) (fun _ => rfl) ?_
  refine go_aload_n hc dX2_clear_32 rfl rfl ?_
  refine go_iconst hc dX2_clear_33 ci_0 ?_
  refine go_putI hc ho fpX2_45 dX2_clear_34 (ow_k1 hw) (fun g => oni g _) (fun _ => rfl) ?_
  refine go_aload_n hc dX2_clear_37 rfl rfl ?_
  refine go_iconst hc dX2_clear_38 ci_0 ?_
  refine go_putI hc ho fpX2_48 dX2_clear_39 (ow_k1 hw) (fun g => oni g _) (fun _ => rfl) ?_
  exact go_vret hc (oend_v h hE) hr dX2_clear_42
def fX7_clear_b17 : Nat → Nat → Int32 → OM → Option OM
  | 0, _, _, _ => none
  | n + 1, bl0, l1, σ =>
    if (6 : Int32) ≤ l1 then (
     some σ)
    else (ogd (oin l1 6) (
    fX7_clear_b17 n bl0 (l1 + 1) (sI σ (bl0 + 4) l1.toNatClampNeg (0 : Int32))))
set_option maxRecDepth 100000 in
set_option maxHeartbeats 4000000 in
theorem rX7_clear_b17 {K : OK} (hc : kcc K = cX7_clear) (ho : kow K = RX7) (hL : knL K = 2) (hN : 0 ≤ kN K) (hr : (kme K).sig.returnType = none) {σ0 : OM} (hE : oEnd K (none) σ0) (hz : kz K = 0) : ∀ (n : Nat) (bl0 : Nat) (l1 : Int32) (σ : OM), okd bl0 = 7 → fX7_clear_b17 n bl0 l1 σ = some σ0 → Go K 17 [.ref bl0, .int l1] [] σ := by
  intro n
  induction n with
  | zero =>
    intro bl0 l1 σ hbl0 h
    cases h
  | succ n ih =>
    intro bl0 l1 σ hbl0 h
    rw [fX7_clear_b17] at h
    refine go_iload_n hc dX7_clear_17 rfl rfl ?_
    refine go_bipush hc dX7_clear_18 cb_6 ?_
    refine go_icmp_ge (tgt := 36) hc dX7_clear_20 rfl (fun hh => ?_) (fun hh => ?_)
    · rw [if_pos hh] at h
      exact go_vret hc (oend_v h hE) hr dX7_clear_36
    · rw [if_neg hh] at h
      refine go_aload_n hc dX7_clear_23 rfl rfl ?_
      refine go_getC (b := bl0 + 4) (ot_c4 hbl0) hc ho flX7_22 dX7_clear_24 hbl0 ?_
      refine go_iload_n hc dX7_clear_27 rfl rfl ?_
      refine go_iconst hc dX7_clear_28 ci_0 ?_
      obtain ⟨hg1, h⟩ := ogd_some h
      refine go_iast hc dX7_clear_29 (ot_k4 hbl0) (ot_l4 hbl0) hg1 rfl ?_
      refine go_iinc hc (lv1 := [.ref bl0, .int (l1 + 1)]) dX7_clear_30 rfl ci_1 hL (by decide) (fun _ _ e => by cases e; rfl) rfl ?_
      refine go_goto (tgt := 17) hc dX7_clear_33 rfl ?_
      exact ih bl0 (l1 + 1) _ hbl0 h
def fX7_clear (t : Nat) (σ : OM) : Option OM :=
  fX7_clear_b17 oF t (0 : Int32) (sI (sI (sI σ t 0 (0 : Int32)) t 5 (0 : Int32)) t 6 (0 : Int32))
set_option maxRecDepth 100000 in
set_option maxHeartbeats 4000000 in
theorem rX7_clear {N : Nat} {t : Nat} {σ : OM} {σ0 : OM} (ht : okd t = 7) (h : fX7_clear t σ = some σ0) (hN0 : 0 ≤ N) : oEv N MX7_clear [.ref t] σ (none) σ0 := by
  refine oEv_of (lv := [.ref t, .null]) (by decide +kernel) (fun g q hq => hq) (fun g => Nat.le_of_ble_eq_true rfl) ?_
  intro K hc ho hL hN1 hr hE hz
  have hN : 0 ≤ kN K := by rw [hN1]; exact hN0
  unfold fX7_clear at h
  refine go_aload_n hc dX7_clear_0 rfl rfl ?_
  refine go_iconst hc dX7_clear_1 ci_0 ?_
  refine go_putI hc ho fpX7_25 dX7_clear_2 ht (fun g => oni g _) (fun _ => rfl) ?_
  refine go_aload_n hc dX7_clear_5 rfl rfl ?_
  refine go_iconst hc dX7_clear_6 ci_0 ?_
  refine go_putI hc ho fpX7_29 dX7_clear_7 ht (fun g => oni g _) (fun _ => rfl) ?_
  refine go_aload_n hc dX7_clear_10 rfl rfl ?_
  refine go_iconst hc dX7_clear_11 ci_0 ?_
  refine go_putI hc ho fpX7_32 dX7_clear_12 ht (fun g => oni g _) (fun _ => rfl) ?_
  refine go_iconst hc dX7_clear_15 ci_0 ?_
  refine go_istore_n hc (lv1 := [.ref t, .int (0 : Int32)]) dX7_clear_16 rfl hL (by decide) (fun _ _ e => by cases e; rfl) rfl ?_
  exact rX7_clear_b17 hc ho hL hN hr hE hz oF t (0 : Int32) _ ht h
def fX1_clear (u : Nat) (σ : OM) : Option OM :=
  some (sI (sI (sI (sI (sI σ u 0 (0 : Int32)) u 1 (1 : Int32)) u 2 (0 : Int32)) u 3 (0 : Int32)) u 4 ((-1) : Int32))
set_option maxRecDepth 100000 in
set_option maxHeartbeats 4000000 in
theorem rX1_clear {N : Nat} {u : Nat} {σ : OM} {σ0 : OM} (hu : okd u = 1) (h : fX1_clear u σ = some σ0) (hN0 : 0 ≤ N) : oEv N MX1_clear [.ref u] σ (none) σ0 := by
  refine oEv_of (lv := [.ref u]) (by decide +kernel) (fun g q hq => hq) (fun g => Nat.le_of_ble_eq_true rfl) ?_
  intro K hc ho hL hN1 hr hE hz
  have hN : 0 ≤ kN K := by rw [hN1]; exact hN0
  unfold fX1_clear at h
  refine go_aload_n hc dX1_clear_0 rfl rfl ?_
  refine go_iconst hc dX1_clear_1 ci_0 ?_
  refine go_putI hc ho fpX1_9 dX1_clear_2 hu (fun g => oni g _) (fun _ => rfl) ?_
  refine go_aload_n hc dX1_clear_5 rfl rfl ?_
  refine go_iconst hc dX1_clear_6 ci_1 ?_
  refine go_putI hc ho fpX1_15 dX1_clear_7 hu (fun g => oni g _) (fun _ => rfl) ?_
  refine go_aload_n hc dX1_clear_10 rfl rfl ?_
  refine go_iconst hc dX1_clear_11 ci_0 ?_
  refine go_putI hc ho fpX1_18 dX1_clear_12 hu (fun g => oni g _) (fun _ => rfl) ?_
  refine go_aload_n hc dX1_clear_15 rfl rfl ?_
  refine go_iconst hc dX1_clear_16 ci_0 ?_
  refine go_putI hc ho fpX1_21 dX1_clear_17 hu (fun g => oni g _) (fun _ => rfl) ?_
  refine go_aload_n hc dX1_clear_20 rfl rfl ?_
  refine go_iconst hc dX1_clear_21 ci_m1 ?_
  refine go_putI hc ho fpX1_24 dX1_clear_22 hu (fun g => oni g _) (fun _ => rfl) ?_
  exact go_vret hc (oend_v h hE) hr dX1_clear_25
def fX8_clear_b26 : Nat → Nat → Int32 → OM → Option OM
  | 0, _, _, _ => none
  | n + 1, bl0, l1, σ =>
    if (6 : Int32) ≤ l1 then (
     some σ)
    else (ogd (oin l1 6) (
    obv (fX1_clear (bl0 + 14 + l1.toNatClampNeg) σ) (fun σ3 =>
    fX8_clear_b26 n bl0 (l1 + 1) σ3)))
set_option maxRecDepth 100000 in
set_option maxHeartbeats 4000000 in
theorem rX8_clear_b26 {K : OK} (hc : kcc K = cX8_clear) (ho : kow K = RX8) (hL : knL K = 2) (hN : 1 ≤ kN K) (hr : (kme K).sig.returnType = none) {σ0 : OM} (hE : oEnd K (none) σ0) (hz : kz K = 0) : ∀ (n : Nat) (bl0 : Nat) (l1 : Int32) (σ : OM), okd bl0 = 8 → fX8_clear_b26 n bl0 l1 σ = some σ0 → Go K 26 [.ref bl0, .int l1] [] σ := by
  intro n
  induction n with
  | zero =>
    intro bl0 l1 σ hbl0 h
    cases h
  | succ n ih =>
    intro bl0 l1 σ hbl0 h
    rw [fX8_clear_b26] at h
    refine go_iload_n hc dX8_clear_26 rfl rfl ?_
    refine go_bipush hc dX8_clear_27 cb_6 ?_
    refine go_icmp_ge (tgt := 47) hc dX8_clear_29 rfl (fun hh => ?_) (fun hh => ?_)
    · rw [if_pos hh] at h
      exact go_vret hc (oend_v h hE) hr dX8_clear_47
    · rw [if_neg hh] at h
      refine go_aload_n hc dX8_clear_32 rfl rfl ?_
      refine go_getC (b := bl0 + 13) (ow_c0_3 hbl0) hc ho flX8_37 dX8_clear_33 hbl0 ?_
      refine go_iload_n hc dX8_clear_36 rfl rfl ?_
      obtain ⟨hg1, h⟩ := ogd_some h
      refine go_ald4 hc dX8_clear_37 (ow_k13 hbl0) (ow_l13 hbl0) hg1 rfl (oh_c hbl0 (oin_lt hg1)) ?_
      obtain ⟨σ3, hf4, h⟩ := obv_some h
      refine go_callVv hc ho cmX1_clear mlX8_56 dX8_clear_38 (oh_k hbl0 (oin_lt hg1)) (As := []) (rest := []) (rX1_clear (N := 0) (oh_k hbl0 (oin_lt hg1)) hf4 (Nat.le_refl _)) rfl (Nat.le_trans (Nat.le_of_ble_eq_true rfl) hN) rfl (Nat.le_of_ble_eq_true rfl) (Or.inl hz) ?_
      refine go_iinc hc (lv1 := [.ref bl0, .int (l1 + 1)]) dX8_clear_41 rfl ci_1 hL (by decide) (fun _ _ e => by cases e; rfl) rfl ?_
      refine go_goto (tgt := 26) hc dX8_clear_44 rfl ?_
      exact ih bl0 (l1 + 1) _ hbl0 h
def fX8_clear (w : Nat) (σ : OM) : Option OM :=
  obv (fX2_clear w σ) (fun σ2 =>
  obv (fX7_clear (w + 5) σ2) (fun σ5 =>
  fX8_clear_b26 oF w (0 : Int32) (sI (sI σ5 w 4 (0 : Int32)) w 5 (0 : Int32))))
set_option maxRecDepth 100000 in
set_option maxHeartbeats 4000000 in
theorem rX8_clear {N : Nat} {w : Nat} {σ : OM} {σ0 : OM} (hw : okd w = 8) (h : fX8_clear w σ = some σ0) (hN0 : 1 ≤ N) : oEv N MX8_clear [.ref w] σ (none) σ0 := by
  refine oEv_of (lv := [.ref w, .null]) (by decide +kernel) (fun g q hq => hq) (fun g => Nat.le_of_ble_eq_true rfl) ?_
  intro K hc ho hL hN1 hr hE hz
  have hN : 1 ≤ kN K := by rw [hN1]; exact hN0
  unfold fX8_clear at h
  refine go_aload_n hc dX8_clear_0 rfl rfl ?_
  refine go_getC (b := w + 1) (ow_c0_0 hw) hc ho flX8_12 dX8_clear_1 hw ?_
  obtain ⟨σ2, hf3, h⟩ := obv_some h
  refine go_callVv hc ho cmX2_clear mlX8_45 dX8_clear_4 (ow_k1 hw) (As := []) (rest := []) (rX2_clear (N := 0) hw hf3 (Nat.le_refl _)) rfl (Nat.le_trans (Nat.le_of_ble_eq_true rfl) hN) rfl (Nat.le_of_ble_eq_true rfl) (Or.inl hz) ?_
  refine go_aload_n hc dX8_clear_7 rfl rfl ?_
  refine go_getC (b := w + 5) (ow_c0_1 hw) hc ho flX8_21 dX8_clear_8 hw ?_
  obtain ⟨σ5, hf6, h⟩ := obv_some h
  refine go_callVv hc ho cmX7_clear mlX8_48 dX8_clear_11 (ow_k5 hw) (As := []) (rest := []) (rX7_clear (N := 0) (ow_k5 hw) hf6 (Nat.le_refl _)) rfl (Nat.le_trans (Nat.le_of_ble_eq_true rfl) hN) rfl (Nat.le_of_ble_eq_true rfl) (Or.inl hz) ?_
  refine go_aload_n hc dX8_clear_14 rfl rfl ?_
  refine go_iconst hc dX8_clear_15 ci_0 ?_
  refine go_putI hc ho fpX8_49 dX8_clear_16 hw (fun g => oni g _) (fun _ => rfl) ?_
  refine go_aload_n hc dX8_clear_19 rfl rfl ?_
  refine go_iconst hc dX8_clear_20 ci_0 ?_
  refine go_putI hc ho fpX8_53 dX8_clear_21 hw (fun g => oni g _) (fun _ => rfl) ?_
  refine go_iconst hc dX8_clear_24 ci_0 ?_
  refine go_istore_n hc (lv1 := [.ref w, .int (0 : Int32)]) dX8_clear_25 rfl hL (by decide) (fun _ _ e => by cases e; rfl) rfl ?_
  exact rX8_clear_b26 hc ho hL hN hr hE hz oF w (0 : Int32) _ hw h
def fJ9_min_7cf53 (x0 : Int32) (x1 : Int32) (σ : OM) : Option (Int32 × OM) :=
  if x1 < x0 then (
   some (x1, σ))
  else (some (x0, σ))
set_option maxRecDepth 100000 in
set_option maxHeartbeats 4000000 in
theorem rJ9_min_7cf53 {N : Nat} {x0 : Int32} {x1 : Int32} {σ : OM} {r0 : Int32} {σ0 : OM} (h : fJ9_min_7cf53 x0 x1 σ = some (r0, σ0)) (hN0 : 0 ≤ N) : oEv N MJ9_min_7cf53 [.int x0, .int x1] σ (some (.int r0)) σ0 := by
  refine oEv_of (lv := [.int x0, .int x1]) (by decide +kernel) (fun g q hq => hq) (fun g => Nat.le_of_ble_eq_true rfl) ?_
  intro K hc ho hL hN1 hr hE hz
  have hN : 0 ≤ kN K := by rw [hN1]; exact hN0
  unfold fJ9_min_7cf53 at h
  refine go_iload_n hc dJ9_min_7cf53_0 rfl rfl ?_
  refine go_iload_n hc dJ9_min_7cf53_1 rfl rfl ?_
  refine go_icmp_gt (tgt := 9) hc dJ9_min_7cf53_2 rfl (fun hh => ?_) (fun hh => ?_)
  · rw [if_pos hh] at h
    refine go_iload_n hc dJ9_min_7cf53_9 rfl rfl ?_
    exact go_iret hc (oend_i h hE) hr dJ9_min_7cf53_10
  · rw [if_neg hh] at h
    refine go_iload_n hc dJ9_min_7cf53_5 rfl rfl ?_
    refine go_goto (tgt := 10) hc dJ9_min_7cf53_6 rfl ?_
    exact go_iret hc (oend_i h hE) hr dJ9_min_7cf53_10
def fX6_byteAt (x0 : Int32) (σ : OM) : Option (Int32 × OM) :=
  if x0 < 0 then (
   some ((0 : Int32), σ))
  else (if (mI σ 43 2) ≤ x0 then (
   some ((0 : Int32), σ))
  else (if (900 : Int32) ≤ x0 then (
   some ((0 : Int32), σ))
  else (ogd (oin x0 900) (
  some ((mI σ 44 x0.toNatClampNeg), σ)))))
set_option maxRecDepth 100000 in
set_option maxHeartbeats 4000000 in
theorem rX6_byteAt {N : Nat} {x0 : Int32} {σ : OM} {r0 : Int32} {σ0 : OM} (h : fX6_byteAt x0 σ = some (r0, σ0)) (hN0 : 0 ≤ N) : oEv N MX6_byteAt [.ref 43, .int x0] σ (some (.int r0)) σ0 := by
  refine oEv_of (lv := [.ref 43, .int x0]) (by decide +kernel) (fun g q hq => hq) (fun g => Nat.le_of_ble_eq_true rfl) ?_
  intro K hc ho hL hN1 hr hE hz
  have hN : 0 ≤ kN K := by rw [hN1]; exact hN0
  unfold fX6_byteAt at h
  refine go_iload_n hc dX6_byteAt_0 rfl rfl ?_
  refine go_if_lt (tgt := 28) hc dX6_byteAt_1 rfl (fun hh => ?_) (fun hh => ?_)
  · rw [if_pos hh] at h
    refine go_iconst hc dX6_byteAt_28 ci_0 ?_
    exact go_iret hc (oend_i h hE) hr dX6_byteAt_29
  · rw [if_neg hh] at h
    refine go_iload_n hc dX6_byteAt_4 rfl rfl ?_
    refine go_aload_n hc dX6_byteAt_5 rfl rfl ?_
    refine go_getI hc ho flX6_36 dX6_byteAt_6 ok_43 ?_
    refine go_icmp_ge (tgt := 28) hc dX6_byteAt_9 rfl (fun hh => ?_) (fun hh => ?_)
    · rw [if_pos hh] at h
      refine go_iconst hc dX6_byteAt_28 ci_0 ?_
      exact go_iret hc (oend_i h hE) hr dX6_byteAt_29
    · rw [if_neg hh] at h
      refine go_iload_n hc dX6_byteAt_12 rfl rfl ?_
      refine go_sipush hc dX6_byteAt_13 cs_900 ?_
      refine go_icmp_ge (tgt := 28) hc dX6_byteAt_16 rfl (fun hh => ?_) (fun hh => ?_)
      · rw [if_pos hh] at h
        refine go_iconst hc dX6_byteAt_28 ci_0 ?_
        exact go_iret hc (oend_i h hE) hr dX6_byteAt_29
      · rw [if_neg hh] at h
        refine go_aload_n hc dX6_byteAt_19 rfl rfl ?_
        refine go_getC (b := 44) rfl hc ho flX6_9 dX6_byteAt_20 ok_43 ?_
        refine go_iload_n hc dX6_byteAt_23 rfl rfl ?_
        obtain ⟨hg1, h⟩ := ogd_some h
        refine go_bald hc dX6_byteAt_24 ok_44 ol_44 hg1 rfl ?_
        refine go_goto (tgt := 29) hc dX6_byteAt_25 rfl ?_
        exact go_iret hc (oend_i h hE) hr dX6_byteAt_29
def fX6_isLetter (x0 : Int32) (σ : OM) : Option (Int32 × OM) :=
  if x0 < (97 : Int32) then (
   some ((0 : Int32), σ))
  else (if (122 : Int32) < x0 then (
   some ((0 : Int32), σ))
  else (some ((1 : Int32), σ)))
set_option maxRecDepth 100000 in
set_option maxHeartbeats 4000000 in
theorem rX6_isLetter {N : Nat} {x0 : Int32} {σ : OM} {r0 : Int32} {σ0 : OM} (h : fX6_isLetter x0 σ = some (r0, σ0)) (hN0 : 0 ≤ N) : oEv N MX6_isLetter [.int x0] σ (some (.int r0)) σ0 := by
  refine oEv_of (lv := [.int x0]) (by decide +kernel) (fun g q hq => hq) (fun g => Nat.le_of_ble_eq_true rfl) ?_
  intro K hc ho hL hN1 hr hE hz
  have hN : 0 ≤ kN K := by rw [hN1]; exact hN0
  unfold fX6_isLetter at h
  refine go_iload_n hc dX6_isLetter_0 rfl rfl ?_
  refine go_bipush hc dX6_isLetter_1 cb_97 ?_
  refine go_icmp_lt (tgt := 16) hc dX6_isLetter_3 rfl (fun hh => ?_) (fun hh => ?_)
  · rw [if_pos hh] at h
    refine go_iconst hc dX6_isLetter_16 ci_0 ?_
    exact go_zret hc (oend_i h hE) hr rfl dX6_isLetter_17
  · rw [if_neg hh] at h
    refine go_iload_n hc dX6_isLetter_6 rfl rfl ?_
    refine go_bipush hc dX6_isLetter_7 cb_122 ?_
    refine go_icmp_gt (tgt := 16) hc dX6_isLetter_9 rfl (fun hh => ?_) (fun hh => ?_)
    · rw [if_pos hh] at h
      refine go_iconst hc dX6_isLetter_16 ci_0 ?_
      exact go_zret hc (oend_i h hE) hr rfl dX6_isLetter_17
    · rw [if_neg hh] at h
      refine go_iconst hc dX6_isLetter_12 ci_1 ?_
      refine go_goto (tgt := 17) hc dX6_isLetter_13 rfl ?_
      exact go_zret hc (oend_i h hE) hr rfl dX6_isLetter_17
def fX6_isDigit (x0 : Int32) (σ : OM) : Option (Int32 × OM) :=
  if x0 < (48 : Int32) then (
   some ((0 : Int32), σ))
  else (if (57 : Int32) < x0 then (
   some ((0 : Int32), σ))
  else (some ((1 : Int32), σ)))
set_option maxRecDepth 100000 in
set_option maxHeartbeats 4000000 in
theorem rX6_isDigit {N : Nat} {x0 : Int32} {σ : OM} {r0 : Int32} {σ0 : OM} (h : fX6_isDigit x0 σ = some (r0, σ0)) (hN0 : 0 ≤ N) : oEv N MX6_isDigit [.int x0] σ (some (.int r0)) σ0 := by
  refine oEv_of (lv := [.int x0]) (by decide +kernel) (fun g q hq => hq) (fun g => Nat.le_of_ble_eq_true rfl) ?_
  intro K hc ho hL hN1 hr hE hz
  have hN : 0 ≤ kN K := by rw [hN1]; exact hN0
  unfold fX6_isDigit at h
  refine go_iload_n hc dX6_isDigit_0 rfl rfl ?_
  refine go_bipush hc dX6_isDigit_1 cb_48 ?_
  refine go_icmp_lt (tgt := 16) hc dX6_isDigit_3 rfl (fun hh => ?_) (fun hh => ?_)
  · rw [if_pos hh] at h
    refine go_iconst hc dX6_isDigit_16 ci_0 ?_
    exact go_zret hc (oend_i h hE) hr rfl dX6_isDigit_17
  · rw [if_neg hh] at h
    refine go_iload_n hc dX6_isDigit_6 rfl rfl ?_
    refine go_bipush hc dX6_isDigit_7 cb_57 ?_
    refine go_icmp_gt (tgt := 16) hc dX6_isDigit_9 rfl (fun hh => ?_) (fun hh => ?_)
    · rw [if_pos hh] at h
      refine go_iconst hc dX6_isDigit_16 ci_0 ?_
      exact go_zret hc (oend_i h hE) hr rfl dX6_isDigit_17
    · rw [if_neg hh] at h
      refine go_iconst hc dX6_isDigit_12 ci_1 ?_
      refine go_goto (tgt := 17) hc dX6_isDigit_13 rfl ?_
      exact go_zret hc (oend_i h hE) hr rfl dX6_isDigit_17
def fX6_lengthFrom_b49 : Nat → Int32 → Int32 → OM → Option (Int32 × OM)
  | 0, _, _, _ => none
  | n + 1, l1, l2, σ =>
    if (3 : Int32) < l2 then (
     some (l2, σ))
    else (obi (fX6_byteAt (l1 + l2) σ) (fun r1 σ2 =>
    obi (fX6_isDigit r1 σ2) (fun r4 σ5 =>
    if r4 = 0 then (
     some (l2, σ5))
    else (fX6_lengthFrom_b49 n l1 (l2 + 1) σ5))))
set_option maxRecDepth 100000 in
set_option maxHeartbeats 4000000 in
theorem rX6_lengthFrom_b49 {K : OK} (hc : kcc K = cX6_lengthFrom) (ho : kow K = RX6) (hL : knL K = 3) (hN : 1 ≤ kN K) (hr : (kme K).sig.returnType = (some .int)) {r0 : Int32} {σ0 : OM} (hE : oEnd K (some (.int r0)) σ0) (hz : kz K = 0) : ∀ (n : Nat) (l1 : Int32) (l2 : Int32) (σ : OM), fX6_lengthFrom_b49 n l1 l2 σ = some (r0, σ0) → Go K 49 [.ref 43, .int l1, .int l2] [] σ := by
  intro n
  induction n with
  | zero =>
    intro l1 l2 σ h
    cases h
  | succ n ih =>
    intro l1 l2 σ h
    rw [fX6_lengthFrom_b49] at h
    refine go_iload_n hc dX6_lengthFrom_49 rfl rfl ?_
    refine go_iconst hc dX6_lengthFrom_50 ci_3 ?_
    refine go_icmp_gt (tgt := 73) hc dX6_lengthFrom_51 rfl (fun hh => ?_) (fun hh => ?_)
    · rw [if_pos hh] at h
      refine go_iload_n hc dX6_lengthFrom_73 rfl rfl ?_
      exact go_iret hc (oend_i h hE) hr dX6_lengthFrom_74
    · rw [if_neg hh] at h
      refine go_aload_n hc dX6_lengthFrom_54 rfl rfl ?_
      refine go_iload_n hc dX6_lengthFrom_55 rfl rfl ?_
      refine go_iload_n hc dX6_lengthFrom_56 rfl rfl ?_
      refine go_iadd hc dX6_lengthFrom_57 ?_
      obtain ⟨r1, σ2, hf3, h⟩ := obi_some h
      refine go_callVi hc ho cmX6_byteAt mlX6_42 dX6_lengthFrom_58 ok_43 (As := [.int (l1 + l2)]) (rest := []) (rX6_byteAt (N := 0) hf3 (Nat.le_refl _)) rfl (Nat.le_trans (Nat.le_of_ble_eq_true rfl) hN) rfl (Nat.le_of_ble_eq_true rfl) (Or.inl hz) ?_
      obtain ⟨r4, σ5, hf6, h⟩ := obi_some h
      refine go_callSi hc ho cmX6_isDigit mlX6_80 dX6_lengthFrom_61 (As := [.int r1]) (rest := []) (rX6_isDigit (N := 0) hf6 (Nat.le_refl _)) rfl (Nat.le_trans (Nat.le_of_ble_eq_true rfl) hN) rfl (Nat.le_of_ble_eq_true rfl) (Or.inl hz) ?_
      refine go_if_eq (tgt := 73) hc dX6_lengthFrom_64 rfl (fun hh => ?_) (fun hh => ?_)
      · rw [if_pos hh] at h
        refine go_iload_n hc dX6_lengthFrom_73 rfl rfl ?_
        exact go_iret hc (oend_i h hE) hr dX6_lengthFrom_74
      · rw [if_neg hh] at h
        refine go_iinc hc (lv1 := [.ref 43, .int l1, .int (l2 + 1)]) dX6_lengthFrom_67 rfl ci_1 hL (by decide) (fun _ _ e => by cases e; rfl) rfl ?_
        refine go_goto (tgt := 49) hc dX6_lengthFrom_70 rfl ?_
        exact ih l1 (l2 + 1) _ h
def fX6_lengthFrom_b13 : Nat → Int32 → Int32 → OM → Option (Int32 × OM)
  | 0, _, _, _ => none
  | n + 1, l1, l2, σ =>
    if (8 : Int32) < l2 then (
     some (l2, σ))
    else (obi (fX6_byteAt (l1 + l2) σ) (fun r1 σ2 =>
    obi (fX6_isLetter r1 σ2) (fun r4 σ5 =>
    if r4 = 0 then (
     some (l2, σ5))
    else (fX6_lengthFrom_b13 n l1 (l2 + 1) σ5))))
set_option maxRecDepth 100000 in
set_option maxHeartbeats 4000000 in
theorem rX6_lengthFrom_b13 {K : OK} (hc : kcc K = cX6_lengthFrom) (ho : kow K = RX6) (hL : knL K = 3) (hN : 1 ≤ kN K) (hr : (kme K).sig.returnType = (some .int)) {r0 : Int32} {σ0 : OM} (hE : oEnd K (some (.int r0)) σ0) (hz : kz K = 0) : ∀ (n : Nat) (l1 : Int32) (l2 : Int32) (σ : OM), fX6_lengthFrom_b13 n l1 l2 σ = some (r0, σ0) → Go K 13 [.ref 43, .int l1, .int l2] [] σ := by
  intro n
  induction n with
  | zero =>
    intro l1 l2 σ h
    cases h
  | succ n ih =>
    intro l1 l2 σ h
    rw [fX6_lengthFrom_b13] at h
    refine go_iload_n hc dX6_lengthFrom_13 rfl rfl ?_
    refine go_bipush hc dX6_lengthFrom_14 cb_8 ?_
    refine go_icmp_gt (tgt := 73) hc dX6_lengthFrom_16 rfl (fun hh => ?_) (fun hh => ?_)
    · rw [if_pos hh] at h
      refine go_iload_n hc dX6_lengthFrom_73 rfl rfl ?_
      exact go_iret hc (oend_i h hE) hr dX6_lengthFrom_74
    · rw [if_neg hh] at h
      refine go_aload_n hc dX6_lengthFrom_19 rfl rfl ?_
      refine go_iload_n hc dX6_lengthFrom_20 rfl rfl ?_
      refine go_iload_n hc dX6_lengthFrom_21 rfl rfl ?_
      refine go_iadd hc dX6_lengthFrom_22 ?_
      obtain ⟨r1, σ2, hf3, h⟩ := obi_some h
      refine go_callVi hc ho cmX6_byteAt mlX6_42 dX6_lengthFrom_23 ok_43 (As := [.int (l1 + l2)]) (rest := []) (rX6_byteAt (N := 0) hf3 (Nat.le_refl _)) rfl (Nat.le_trans (Nat.le_of_ble_eq_true rfl) hN) rfl (Nat.le_of_ble_eq_true rfl) (Or.inl hz) ?_
      obtain ⟨r4, σ5, hf6, h⟩ := obi_some h
      refine go_callSi hc ho cmX6_isLetter mlX6_76 dX6_lengthFrom_26 (As := [.int r1]) (rest := []) (rX6_isLetter (N := 0) hf6 (Nat.le_refl _)) rfl (Nat.le_trans (Nat.le_of_ble_eq_true rfl) hN) rfl (Nat.le_of_ble_eq_true rfl) (Or.inl hz) ?_
      refine go_if_eq (tgt := 73) hc dX6_lengthFrom_29 rfl (fun hh => ?_) (fun hh => ?_)
      · rw [if_pos hh] at h
        refine go_iload_n hc dX6_lengthFrom_73 rfl rfl ?_
        exact go_iret hc (oend_i h hE) hr dX6_lengthFrom_74
      · rw [if_neg hh] at h
        refine go_iinc hc (lv1 := [.ref 43, .int l1, .int (l2 + 1)]) dX6_lengthFrom_32 rfl ci_1 hL (by decide) (fun _ _ e => by cases e; rfl) rfl ?_
        refine go_goto (tgt := 13) hc dX6_lengthFrom_35 rfl ?_
        exact ih l1 (l2 + 1) _ h
def fX6_lengthFrom (x0 : Int32) (σ : OM) : Option (Int32 × OM) :=
  obi (fX6_byteAt x0 σ) (fun r1 σ2 =>
  obi (fX6_isLetter r1 σ2) (fun r4 σ5 =>
  if r4 = 0 then (
   obi (fX6_byteAt x0 σ5) (fun r7 σ8 =>
   obi (fX6_isDigit r7 σ8) (fun r10 σ11 =>
   if r10 = 0 then (
    some ((1 : Int32), σ11))
   else (fX6_lengthFrom_b49 oF x0 (1 : Int32) σ11))))
  else (fX6_lengthFrom_b13 oF x0 (1 : Int32) σ5)))
set_option maxRecDepth 100000 in
set_option maxHeartbeats 4000000 in
theorem rX6_lengthFrom {N : Nat} {x0 : Int32} {σ : OM} {r0 : Int32} {σ0 : OM} (h : fX6_lengthFrom x0 σ = some (r0, σ0)) (hN0 : 1 ≤ N) : oEv N MX6_lengthFrom [.ref 43, .int x0] σ (some (.int r0)) σ0 := by
  refine oEv_of (lv := [.ref 43, .int x0, .null]) (by decide +kernel) (fun g q hq => hq) (fun g => Nat.le_of_ble_eq_true rfl) ?_
  intro K hc ho hL hN1 hr hE hz
  have hN : 1 ≤ kN K := by rw [hN1]; exact hN0
  unfold fX6_lengthFrom at h
  refine go_iconst hc dX6_lengthFrom_0 ci_1 ?_
  refine go_istore_n hc (lv1 := [.ref 43, .int x0, .int (1 : Int32)]) dX6_lengthFrom_1 rfl hL (by decide) (fun _ _ e => by cases e; rfl) rfl ?_
  refine go_aload_n hc dX6_lengthFrom_2 rfl rfl ?_
  refine go_iload_n hc dX6_lengthFrom_3 rfl rfl ?_
  obtain ⟨r1, σ2, hf3, h⟩ := obi_some h
  refine go_callVi hc ho cmX6_byteAt mlX6_42 dX6_lengthFrom_4 ok_43 (As := [.int x0]) (rest := []) (rX6_byteAt (N := 0) hf3 (Nat.le_refl _)) rfl (Nat.le_trans (Nat.le_of_ble_eq_true rfl) hN) rfl (Nat.le_of_ble_eq_true rfl) (Or.inl hz) ?_
  obtain ⟨r4, σ5, hf6, h⟩ := obi_some h
  refine go_callSi hc ho cmX6_isLetter mlX6_76 dX6_lengthFrom_7 (As := [.int r1]) (rest := []) (rX6_isLetter (N := 0) hf6 (Nat.le_refl _)) rfl (Nat.le_trans (Nat.le_of_ble_eq_true rfl) hN) rfl (Nat.le_of_ble_eq_true rfl) (Or.inl hz) ?_
  refine go_if_eq (tgt := 38) hc dX6_lengthFrom_10 rfl (fun hh => ?_) (fun hh => ?_)
  · rw [if_pos hh] at h
    refine go_aload_n hc dX6_lengthFrom_38 rfl rfl ?_
    refine go_iload_n hc dX6_lengthFrom_39 rfl rfl ?_
    obtain ⟨r7, σ8, hf9, h⟩ := obi_some h
    refine go_callVi hc ho cmX6_byteAt mlX6_42 dX6_lengthFrom_40 ok_43 (As := [.int x0]) (rest := []) (rX6_byteAt (N := 0) hf9 (Nat.le_refl _)) rfl (Nat.le_trans (Nat.le_of_ble_eq_true rfl) hN) rfl (Nat.le_of_ble_eq_true rfl) (Or.inl hz) ?_
    obtain ⟨r10, σ11, hf12, h⟩ := obi_some h
    refine go_callSi hc ho cmX6_isDigit mlX6_80 dX6_lengthFrom_43 (As := [.int r7]) (rest := []) (rX6_isDigit (N := 0) hf12 (Nat.le_refl _)) rfl (Nat.le_trans (Nat.le_of_ble_eq_true rfl) hN) rfl (Nat.le_of_ble_eq_true rfl) (Or.inl hz) ?_
    refine go_if_eq (tgt := 73) hc dX6_lengthFrom_46 rfl (fun hh => ?_) (fun hh => ?_)
    · rw [if_pos hh] at h
      refine go_iload_n hc dX6_lengthFrom_73 rfl rfl ?_
      exact go_iret hc (oend_i h hE) hr dX6_lengthFrom_74
    · rw [if_neg hh] at h
      exact rX6_lengthFrom_b49 hc ho hL hN hr hE hz oF x0 (1 : Int32) _ h
  · rw [if_neg hh] at h
    exact rX6_lengthFrom_b13 hc ho hL hN hr hE hz oF x0 (1 : Int32) _ h
def fX6_valueFrom_b5 : Nat → Int32 → Int32 → Int64 → Int32 → OM → Option (Int64 × OM)
  | 0, _, _, _, _, _ => none
  | n + 1, l1, l2, l3, l5, σ =>
    if (l1 + l2) ≤ l5 then (
     some (l3, σ))
    else (obi (fX6_byteAt l5 σ) (fun r1 σ2 =>
    obi (fX6_isDigit r1 σ2) (fun r4 σ5 =>
    if r4 = 0 then (
     fX6_valueFrom_b5 n l1 l2 ((l3 <<< ((8 : Int32).toInt64 &&& 63)) ||| r1.toInt64) (l5 + 1) σ5)
    else (fX6_valueFrom_b5 n l1 l2 ((((10 : Int64) * l3) + r1.toInt64) - (48 : Int64)) (l5 + 1) σ5))))
set_option maxRecDepth 100000 in
set_option maxHeartbeats 4000000 in
theorem rX6_valueFrom_b5 {K : OK} (hc : kcc K = cX6_valueFrom) (ho : kow K = RX6) (hL : knL K = 7) (hN : 1 ≤ kN K) (hr : (kme K).sig.returnType = (some .long)) {r0 : Int64} {σ0 : OM} (hE : oEnd K (some (.long r0)) σ0) (hz : kz K = 0) : ∀ (n : Nat) (l1 : Int32) (l2 : Int32) (l3 : Int64) (l5 : Int32) (σ : OM), fX6_valueFrom_b5 n l1 l2 l3 l5 σ = some (r0, σ0) → Go K 5 [.ref 43, .int l1, .int l2, .long l3, .null, .int l5, .null] [] σ := by
  intro n
  induction n with
  | zero =>
    intro l1 l2 l3 l5 σ h
    cases h
  | succ n ih =>
    intro l1 l2 l3 l5 σ h
    rw [fX6_valueFrom_b5] at h
    refine go_iload hc dX6_valueFrom_5 rfl ?_
    refine go_iload_n hc dX6_valueFrom_7 rfl rfl ?_
    refine go_iload_n hc dX6_valueFrom_8 rfl rfl ?_
    refine go_iadd hc dX6_valueFrom_9 ?_
    refine go_icmp_ge (tgt := 60) hc dX6_valueFrom_10 rfl (fun hh => ?_) (fun hh => ?_)
    · rw [if_pos hh] at h
      refine go_lload_n hc dX6_valueFrom_60 rfl rfl ?_
      exact go_lret hc (oend_l h hE) hr dX6_valueFrom_61
    · rw [if_neg hh] at h
      refine go_aload_n hc dX6_valueFrom_13 rfl rfl ?_
      refine go_iload hc dX6_valueFrom_14 rfl ?_
      obtain ⟨r1, σ2, hf3, h⟩ := obi_some h
      refine go_callVi hc ho cmX6_byteAt mlX6_42 dX6_valueFrom_16 ok_43 (As := [.int l5]) (rest := []) (rX6_byteAt (N := 0) hf3 (Nat.le_refl _)) rfl (Nat.le_trans (Nat.le_of_ble_eq_true rfl) hN) rfl (Nat.le_of_ble_eq_true rfl) (Or.inl hz) ?_
      refine go_istore hc (lv1 := [.ref 43, .int l1, .int l2, .long l3, .null, .int l5, .int r1]) dX6_valueFrom_19 hL (by decide) (fun _ _ e => by cases e; rfl) rfl ?_
      refine go_iload hc dX6_valueFrom_21 rfl ?_
      obtain ⟨r4, σ5, hf6, h⟩ := obi_some h
      refine go_callSi hc ho cmX6_isDigit mlX6_80 dX6_valueFrom_23 (As := [.int r1]) (rest := []) (rX6_isDigit (N := 0) hf6 (Nat.le_refl _)) rfl (Nat.le_trans (Nat.le_of_ble_eq_true rfl) hN) rfl (Nat.le_of_ble_eq_true rfl) (Or.inl hz) ?_
      refine go_if_eq (tgt := 45) hc dX6_valueFrom_26 rfl (fun hh => ?_) (fun hh => ?_)
      · rw [if_pos hh] at h
        refine go_lload_n hc dX6_valueFrom_45 rfl rfl ?_
        refine go_bipush hc dX6_valueFrom_46 cb_8 ?_
        refine go_lshl hc dX6_valueFrom_48 ?_
        refine go_iload hc dX6_valueFrom_49 rfl ?_
        refine go_i2l hc dX6_valueFrom_51 ?_
        refine go_lor hc dX6_valueFrom_52 ?_
        refine go_lstore_n hc (lv1 := [.ref 43, .int l1, .int l2, .long ((l3 <<< ((8 : Int32).toInt64 &&& 63)) ||| r1.toInt64), .null, .int l5, .int r1]) dX6_valueFrom_53 rfl hL (by decide) (fun _ _ e => by cases e; rfl) rfl ?_
        refine go_iinc hc (lv1 := [.ref 43, .int l1, .int l2, .long ((l3 <<< ((8 : Int32).toInt64 &&& 63)) ||| r1.toInt64), .null, .int (l5 + 1), .int r1]) dX6_valueFrom_54 rfl ci_1 hL (by decide) (fun _ _ e => by cases e; rfl) rfl ?_
        refine go_goto (tgt := 5) hc dX6_valueFrom_57 rfl ?_
        refine go_mask [true, true, true, true, false, true, false] (lv1 := [.ref 43, .int l1, .int l2, .long ((l3 <<< ((8 : Int32).toInt64 &&& 63)) ||| r1.toInt64), .null, .int (l5 + 1), .null]) rfl ?_
        exact ih l1 l2 ((l3 <<< ((8 : Int32).toInt64 &&& 63)) ||| r1.toInt64) (l5 + 1) _ h
      · rw [if_neg hh] at h
        refine go_ldc2 hc ho klX6_83 dX6_valueFrom_29 ?_
        refine go_lload_n hc dX6_valueFrom_32 rfl rfl ?_
        refine go_lmul hc dX6_valueFrom_33 ?_
        refine go_iload hc dX6_valueFrom_34 rfl ?_
        refine go_i2l hc dX6_valueFrom_36 ?_
        refine go_ladd hc dX6_valueFrom_37 ?_
        refine go_ldc2 hc ho klX6_85 dX6_valueFrom_38 ?_
        refine go_lsub hc dX6_valueFrom_41 ?_
        refine go_goto (tgt := 53) hc dX6_valueFrom_42 rfl ?_
        refine go_lstore_n hc (lv1 := [.ref 43, .int l1, .int l2, .long ((((10 : Int64) * l3) + r1.toInt64) - (48 : Int64)), .null, .int l5, .int r1]) dX6_valueFrom_53 rfl hL (by decide) (fun _ _ e => by cases e; rfl) rfl ?_
        refine go_iinc hc (lv1 := [.ref 43, .int l1, .int l2, .long ((((10 : Int64) * l3) + r1.toInt64) - (48 : Int64)), .null, .int (l5 + 1), .int r1]) dX6_valueFrom_54 rfl ci_1 hL (by decide) (fun _ _ e => by cases e; rfl) rfl ?_
        refine go_goto (tgt := 5) hc dX6_valueFrom_57 rfl ?_
        refine go_mask [true, true, true, true, false, true, false] (lv1 := [.ref 43, .int l1, .int l2, .long ((((10 : Int64) * l3) + r1.toInt64) - (48 : Int64)), .null, .int (l5 + 1), .null]) rfl ?_
        exact ih l1 l2 ((((10 : Int64) * l3) + r1.toInt64) - (48 : Int64)) (l5 + 1) _ h
def fX6_valueFrom (x0 : Int32) (x1 : Int32) (σ : OM) : Option (Int64 × OM) :=
  fX6_valueFrom_b5 oF x0 x1 (0 : Int64) x0 σ
set_option maxRecDepth 100000 in
set_option maxHeartbeats 4000000 in
theorem rX6_valueFrom {N : Nat} {x0 : Int32} {x1 : Int32} {σ : OM} {r0 : Int64} {σ0 : OM} (h : fX6_valueFrom x0 x1 σ = some (r0, σ0)) (hN0 : 1 ≤ N) : oEv N MX6_valueFrom [.ref 43, .int x0, .int x1] σ (some (.long r0)) σ0 := by
  refine oEv_of (lv := [.ref 43, .int x0, .int x1, .null, .null, .null, .null]) (by decide +kernel) (fun g q hq => hq) (fun g => Nat.le_of_ble_eq_true rfl) ?_
  intro K hc ho hL hN1 hr hE hz
  have hN : 1 ≤ kN K := by rw [hN1]; exact hN0
  unfold fX6_valueFrom at h
  refine go_lconst hc dX6_valueFrom_0 cl_0 ?_
  refine go_lstore_n hc (lv1 := [.ref 43, .int x0, .int x1, .long (0 : Int64), .null, .null, .null]) dX6_valueFrom_1 rfl hL (by decide) (fun _ _ e => by cases e; rfl) rfl ?_
  refine go_iload_n hc dX6_valueFrom_2 rfl rfl ?_
  refine go_istore hc (lv1 := [.ref 43, .int x0, .int x1, .long (0 : Int64), .null, .int x0, .null]) dX6_valueFrom_3 hL (by decide) (fun _ _ e => by cases e; rfl) rfl ?_
  exact rX6_valueFrom_b5 hc ho hL hN hr hE hz oF x0 x1 (0 : Int64) x0 _ h
def fX6_kindOfWord_b2 : Nat → Int64 → Int32 → OM → Option (Int32 × OM)
  | 0, _, _, _ => none
  | n + 1, l0, l2, σ =>
    if (15 : Int32) ≤ l2 then (
     some ((1 : Int32), σ))
    else (ogd (oin l2 15) (
    if (lg_cmp (okw l2.toNatClampNeg) l0) = 0 then (
     some (((256 : Int32) + l2), σ))
    else (fX6_kindOfWord_b2 n l0 (l2 + 1) σ)))
set_option maxRecDepth 100000 in
set_option maxHeartbeats 4000000 in
theorem rX6_kindOfWord_b2 {K : OK} (hc : kcc K = cX6_kindOfWord) (ho : kow K = RX6) (hL : knL K = 3) (hN : 0 ≤ kN K) (hr : (kme K).sig.returnType = (some .int)) {r0 : Int32} {σ0 : OM} (hE : oEnd K (some (.int r0)) σ0) (hz : kz K = 0) : ∀ (n : Nat) (l0 : Int64) (l2 : Int32) (σ : OM), fX6_kindOfWord_b2 n l0 l2 σ = some (r0, σ0) → Go K 2 [.long l0, .null, .int l2] [] σ := by
  intro n
  induction n with
  | zero =>
    intro l0 l2 σ h
    cases h
  | succ n ih =>
    intro l0 l2 σ h
    rw [fX6_kindOfWord_b2] at h
    refine go_iload_n hc dX6_kindOfWord_2 rfl rfl ?_
    refine go_kw hc ho fsX6_91 dX6_kindOfWord_3 ?_
    refine go_kwl hc dX6_kindOfWord_6 ?_
    refine go_icmp_ge (tgt := 32) hc dX6_kindOfWord_7 rfl (fun hh => ?_) (fun hh => ?_)
    · rw [if_pos hh] at h
      refine go_iconst hc dX6_kindOfWord_32 ci_1 ?_
      exact go_iret hc (oend_i h hE) hr dX6_kindOfWord_33
    · rw [if_neg hh] at h
      refine go_kw hc ho fsX6_91 dX6_kindOfWord_10 ?_
      refine go_iload_n hc dX6_kindOfWord_13 rfl rfl ?_
      obtain ⟨hg1, h⟩ := ogd_some h
      refine go_kwa hc dX6_kindOfWord_14 hg1 ?_
      refine go_lload_n hc dX6_kindOfWord_15 rfl rfl ?_
      refine go_lcmp hc dX6_kindOfWord_16 ?_
      refine go_if_ne (tgt := 26) hc dX6_kindOfWord_17 rfl (fun hh => ?_) (fun hh => ?_)
      · rw [if_neg hh] at h
        refine go_iinc hc (lv1 := [.long l0, .null, .int (l2 + 1)]) dX6_kindOfWord_26 rfl ci_1 hL (by decide) (fun _ _ e => by cases e; rfl) rfl ?_
        refine go_goto (tgt := 2) hc dX6_kindOfWord_29 rfl ?_
        exact ih l0 (l2 + 1) _ h
      · rw [if_pos hh] at h
        refine go_sipush hc dX6_kindOfWord_20 cs_256 ?_
        refine go_iload_n hc dX6_kindOfWord_23 rfl rfl ?_
        refine go_iadd hc dX6_kindOfWord_24 ?_
        exact go_iret hc (oend_i h hE) hr dX6_kindOfWord_25
def fX6_kindOfWord (x0 : Int64) (σ : OM) : Option (Int32 × OM) :=
  fX6_kindOfWord_b2 oF x0 (0 : Int32) σ
set_option maxRecDepth 100000 in
set_option maxHeartbeats 4000000 in
theorem rX6_kindOfWord {N : Nat} {x0 : Int64} {σ : OM} {r0 : Int32} {σ0 : OM} (h : fX6_kindOfWord x0 σ = some (r0, σ0)) (hN0 : 0 ≤ N) : oEv N MX6_kindOfWord [.long x0] σ (some (.int r0)) σ0 := by
  refine oEv_of (lv := [.long x0, .null, .null]) (by decide +kernel) (fun g q hq => hq) (fun g => Nat.le_of_ble_eq_true rfl) ?_
  intro K hc ho hL hN1 hr hE hz
  have hN : 0 ≤ kN K := by rw [hN1]; exact hN0
  unfold fX6_kindOfWord at h
  refine go_iconst hc dX6_kindOfWord_0 ci_0 ?_
  refine go_istore_n hc (lv1 := [.long x0, .null, .int (0 : Int32)]) dX6_kindOfWord_1 rfl hL (by decide) (fun _ _ e => by cases e; rfl) rfl ?_
  exact rX6_kindOfWord_b2 hc ho hL hN hr hE hz oF x0 (0 : Int32) _ h
def fX6_kindFrom (x0 : Int32) (x1 : Int32) (σ : OM) : Option (Int32 × OM) :=
  obi (fX6_byteAt x0 σ) (fun r1 σ2 =>
  obi (fX6_isLetter r1 σ2) (fun r4 σ5 =>
  if r4 = 0 then (
   obi (fX6_isDigit r1 σ5) (fun r7 σ8 =>
   if r7 = 0 then (
    if r1 = (59 : Int32) then (
     some (r1, σ8))
    else (if r1 = (44 : Int32) then (
     some (r1, σ8))
    else (if r1 = (40 : Int32) then (
     some (r1, σ8))
    else (if r1 = (41 : Int32) then (
     some (r1, σ8))
    else (some ((3 : Int32), σ8))))))
   else (if (3 : Int32) < x1 then (
    some ((3 : Int32), σ8))
   else (some ((2 : Int32), σ8)))))
  else (if (8 : Int32) < x1 then (
   some ((3 : Int32), σ5))
  else (obi (fX6_valueFrom x0 x1 σ5) (fun r10 σ11 =>
  obi (fX6_kindOfWord r10 σ11) (fun r13 σ14 =>
  some (r13, σ14)))))))
set_option maxRecDepth 100000 in
set_option maxHeartbeats 4000000 in
theorem rX6_kindFrom {N : Nat} {x0 : Int32} {x1 : Int32} {σ : OM} {r0 : Int32} {σ0 : OM} (h : fX6_kindFrom x0 x1 σ = some (r0, σ0)) (hN0 : 2 ≤ N) : oEv N MX6_kindFrom [.ref 43, .int x0, .int x1] σ (some (.int r0)) σ0 := by
  refine oEv_of (lv := [.ref 43, .int x0, .int x1, .null]) (by decide +kernel) (fun g q hq => hq) (fun g => Nat.le_of_ble_eq_true rfl) ?_
  intro K hc ho hL hN1 hr hE hz
  have hN : 2 ≤ kN K := by rw [hN1]; exact hN0
  unfold fX6_kindFrom at h
  refine go_aload_n hc dX6_kindFrom_0 rfl rfl ?_
  refine go_iload_n hc dX6_kindFrom_1 rfl rfl ?_
  obtain ⟨r1, σ2, hf3, h⟩ := obi_some h
  refine go_callVi hc ho cmX6_byteAt mlX6_42 dX6_kindFrom_2 ok_43 (As := [.int x0]) (rest := []) (rX6_byteAt (N := 0) hf3 (Nat.le_refl _)) rfl (Nat.le_trans (Nat.le_of_ble_eq_true rfl) hN) rfl (Nat.le_of_ble_eq_true rfl) (Or.inl hz) ?_
  refine go_istore_n hc (lv1 := [.ref 43, .int x0, .int x1, .int r1]) dX6_kindFrom_5 rfl hL (by decide) (fun _ _ e => by cases e; rfl) rfl ?_
  refine go_iload_n hc dX6_kindFrom_6 rfl rfl ?_
  obtain ⟨r4, σ5, hf6, h⟩ := obi_some h
  refine go_callSi hc ho cmX6_isLetter mlX6_76 dX6_kindFrom_7 (As := [.int r1]) (rest := []) (rX6_isLetter (N := 0) hf6 (Nat.le_refl _)) rfl (Nat.le_trans (Nat.le_of_ble_eq_true rfl) hN) rfl (Nat.le_of_ble_eq_true rfl) (Or.inl hz) ?_
  refine go_if_eq (tgt := 33) hc dX6_kindFrom_10 rfl (fun hh => ?_) (fun hh => ?_)
  · rw [if_pos hh] at h
    refine go_iload_n hc dX6_kindFrom_33 rfl rfl ?_
    obtain ⟨r7, σ8, hf9, h⟩ := obi_some h
    refine go_callSi hc ho cmX6_isDigit mlX6_80 dX6_kindFrom_34 (As := [.int r1]) (rest := []) (rX6_isDigit (N := 0) hf9 (Nat.le_refl _)) rfl (Nat.le_trans (Nat.le_of_ble_eq_true rfl) hN) rfl (Nat.le_of_ble_eq_true rfl) (Or.inl hz) ?_
    refine go_if_eq (tgt := 51) hc dX6_kindFrom_37 rfl (fun hh => ?_) (fun hh => ?_)
    · rw [if_pos hh] at h
      refine go_iload_n hc dX6_kindFrom_51 rfl rfl ?_
      refine go_bipush hc dX6_kindFrom_52 cb_59 ?_
      refine go_icmp_eq (tgt := 75) hc dX6_kindFrom_54 rfl (fun hh => ?_) (fun hh => ?_)
      · rw [if_pos hh] at h
        refine go_iload_n hc dX6_kindFrom_75 rfl rfl ?_
        refine go_goto (tgt := 80) hc dX6_kindFrom_76 rfl ?_
        exact go_iret hc (oend_i h hE) hr dX6_kindFrom_80
      · rw [if_neg hh] at h
        refine go_iload_n hc dX6_kindFrom_57 rfl rfl ?_
        refine go_bipush hc dX6_kindFrom_58 cb_44 ?_
        refine go_icmp_eq (tgt := 75) hc dX6_kindFrom_60 rfl (fun hh => ?_) (fun hh => ?_)
        · rw [if_pos hh] at h
          refine go_iload_n hc dX6_kindFrom_75 rfl rfl ?_
          refine go_goto (tgt := 80) hc dX6_kindFrom_76 rfl ?_
          exact go_iret hc (oend_i h hE) hr dX6_kindFrom_80
        · rw [if_neg hh] at h
          refine go_iload_n hc dX6_kindFrom_63 rfl rfl ?_
          refine go_bipush hc dX6_kindFrom_64 cb_40 ?_
          refine go_icmp_eq (tgt := 75) hc dX6_kindFrom_66 rfl (fun hh => ?_) (fun hh => ?_)
          · rw [if_pos hh] at h
            refine go_iload_n hc dX6_kindFrom_75 rfl rfl ?_
            refine go_goto (tgt := 80) hc dX6_kindFrom_76 rfl ?_
            exact go_iret hc (oend_i h hE) hr dX6_kindFrom_80
          · rw [if_neg hh] at h
            refine go_iload_n hc dX6_kindFrom_69 rfl rfl ?_
            refine go_bipush hc dX6_kindFrom_70 cb_41 ?_
            refine go_icmp_ne (tgt := 79) hc dX6_kindFrom_72 rfl (fun hh => ?_) (fun hh => ?_)
            · rw [if_neg hh] at h
              refine go_iconst hc dX6_kindFrom_79 ci_3 ?_
              exact go_iret hc (oend_i h hE) hr dX6_kindFrom_80
            · rw [if_pos hh] at h
              refine go_iload_n hc dX6_kindFrom_75 rfl rfl ?_
              refine go_goto (tgt := 80) hc dX6_kindFrom_76 rfl ?_
              exact go_iret hc (oend_i h hE) hr dX6_kindFrom_80
    · rw [if_neg hh] at h
      refine go_iload_n hc dX6_kindFrom_40 rfl rfl ?_
      refine go_iconst hc dX6_kindFrom_41 ci_3 ?_
      refine go_icmp_gt (tgt := 49) hc dX6_kindFrom_42 rfl (fun hh => ?_) (fun hh => ?_)
      · rw [if_pos hh] at h
        refine go_iconst hc dX6_kindFrom_49 ci_3 ?_
        exact go_iret hc (oend_i h hE) hr dX6_kindFrom_50
      · rw [if_neg hh] at h
        refine go_iconst hc dX6_kindFrom_45 ci_2 ?_
        refine go_goto (tgt := 50) hc dX6_kindFrom_46 rfl ?_
        exact go_iret hc (oend_i h hE) hr dX6_kindFrom_50
  · rw [if_neg hh] at h
    refine go_iload_n hc dX6_kindFrom_13 rfl rfl ?_
    refine go_bipush hc dX6_kindFrom_14 cb_8 ?_
    refine go_icmp_gt (tgt := 31) hc dX6_kindFrom_16 rfl (fun hh => ?_) (fun hh => ?_)
    · rw [if_pos hh] at h
      refine go_iconst hc dX6_kindFrom_31 ci_3 ?_
      exact go_iret hc (oend_i h hE) hr dX6_kindFrom_32
    · rw [if_neg hh] at h
      refine go_aload_n hc dX6_kindFrom_19 rfl rfl ?_
      refine go_iload_n hc dX6_kindFrom_20 rfl rfl ?_
      refine go_iload_n hc dX6_kindFrom_21 rfl rfl ?_
      obtain ⟨r10, σ11, hf12, h⟩ := obi_some h
      refine go_callVl hc ho cmX6_valueFrom mlX6_52 dX6_kindFrom_22 ok_43 (As := [.int x0, .int x1]) (rest := []) (rX6_valueFrom (N := 1) hf12 (Nat.le_refl _)) rfl (Nat.le_trans (Nat.le_of_ble_eq_true rfl) hN) rfl (Nat.le_of_ble_eq_true rfl) (Or.inl hz) ?_
      obtain ⟨r13, σ14, hf15, h⟩ := obi_some h
      refine go_callSi hc ho cmX6_kindOfWord mlX6_87 dX6_kindFrom_25 (As := [.long r10]) (rest := []) (rX6_kindOfWord (N := 0) hf15 (Nat.le_refl _)) rfl (Nat.le_trans (Nat.le_of_ble_eq_true rfl) hN) rfl (Nat.le_of_ble_eq_true rfl) (Or.inl hz) ?_
      refine go_goto (tgt := 32) hc dX6_kindFrom_28 rfl ?_
      exact go_iret hc (oend_i h hE) hr dX6_kindFrom_32
def fX6_addToken (x0 : Int32) (x1 : Int32) (x2 : Int64) (σ : OM) : Option (Int32 × OM) :=
  if (mI σ 43 6) < 0 then (
   if x0 = (3 : Int32) then (
    some ((0 : Int32), σ))
   else (some ((1 : Int32), σ)))
  else (if (900 : Int32) < (mI σ 43 6) then (
   if x0 = (3 : Int32) then (
    some ((0 : Int32), σ))
   else (some ((1 : Int32), σ)))
  else (ogd (oin (mI σ 43 6) 901) (
  ogd (oin (mI (sI σ 45 ((mI σ 43 6).toNatClampNeg) x0) 43 6) 901) (
  ogd (oin (mI (sI (sI σ 45 ((mI σ 43 6).toNatClampNeg) x0) 46 ((mI (sI σ 45 ((mI σ 43 6).toNatClampNeg) x0) 43 6).toNatClampNeg) x1) 43 6) 901) (
  if x0 = (3 : Int32) then (
   some ((0 : Int32), sI (sL (sI (sI σ 45 ((mI σ 43 6).toNatClampNeg) x0) 46 ((mI (sI σ 45 ((mI σ 43 6).toNatClampNeg) x0) 43 6).toNatClampNeg) x1) 47 ((mI (sI (sI σ 45 ((mI σ 43 6).toNatClampNeg) x0) 46 ((mI (sI σ 45 ((mI σ 43 6).toNatClampNeg) x0) 43 6).toNatClampNeg) x1) 43 6).toNatClampNeg) x2) 43 6 ((mI (sL (sI (sI σ 45 ((mI σ 43 6).toNatClampNeg) x0) 46 ((mI (sI σ 45 ((mI σ 43 6).toNatClampNeg) x0) 43 6).toNatClampNeg) x1) 47 ((mI (sI (sI σ 45 ((mI σ 43 6).toNatClampNeg) x0) 46 ((mI (sI σ 45 ((mI σ 43 6).toNatClampNeg) x0) 43 6).toNatClampNeg) x1) 43 6).toNatClampNeg) x2) 43 6) + (1 : Int32))))
  else (some ((1 : Int32), sI (sL (sI (sI σ 45 ((mI σ 43 6).toNatClampNeg) x0) 46 ((mI (sI σ 45 ((mI σ 43 6).toNatClampNeg) x0) 43 6).toNatClampNeg) x1) 47 ((mI (sI (sI σ 45 ((mI σ 43 6).toNatClampNeg) x0) 46 ((mI (sI σ 45 ((mI σ 43 6).toNatClampNeg) x0) 43 6).toNatClampNeg) x1) 43 6).toNatClampNeg) x2) 43 6 ((mI (sL (sI (sI σ 45 ((mI σ 43 6).toNatClampNeg) x0) 46 ((mI (sI σ 45 ((mI σ 43 6).toNatClampNeg) x0) 43 6).toNatClampNeg) x1) 47 ((mI (sI (sI σ 45 ((mI σ 43 6).toNatClampNeg) x0) 46 ((mI (sI σ 45 ((mI σ 43 6).toNatClampNeg) x0) 43 6).toNatClampNeg) x1) 43 6).toNatClampNeg) x2) 43 6) + (1 : Int32)))))))))
set_option maxRecDepth 100000 in
set_option maxHeartbeats 4000000 in
theorem rX6_addToken {N : Nat} {x0 : Int32} {x1 : Int32} {x2 : Int64} {σ : OM} {r0 : Int32} {σ0 : OM} (h : fX6_addToken x0 x1 x2 σ = some (r0, σ0)) (hN0 : 0 ≤ N) : oEv N MX6_addToken [.ref 43, .int x0, .int x1, .long x2] σ (some (.int r0)) σ0 := by
  refine oEv_of (lv := [.ref 43, .int x0, .int x1, .long x2, .null]) (by decide +kernel) (fun g q hq => hq) (fun g => Nat.le_of_ble_eq_true rfl) ?_
  intro K hc ho hL hN1 hr hE hz
  have hN : 0 ≤ kN K := by rw [hN1]; exact hN0
  unfold fX6_addToken at h
  refine go_aload_n hc dX6_addToken_0 rfl rfl ?_
  refine go_getI hc ho flX6_39 dX6_addToken_1 ok_43 ?_
  refine go_if_lt (tgt := 57) hc dX6_addToken_4 rfl (fun hh => ?_) (fun hh => ?_)
  · rw [if_pos hh] at h
    refine go_iload_n hc dX6_addToken_57 rfl rfl ?_
    refine go_iconst hc dX6_addToken_58 ci_3 ?_
    refine go_icmp_eq (tgt := 66) hc dX6_addToken_59 rfl (fun hh => ?_) (fun hh => ?_)
    · rw [if_pos hh] at h
      refine go_iconst hc dX6_addToken_66 ci_0 ?_
      exact go_zret hc (oend_i h hE) hr rfl dX6_addToken_67
    · rw [if_neg hh] at h
      refine go_iconst hc dX6_addToken_62 ci_1 ?_
      refine go_goto (tgt := 67) hc dX6_addToken_63 rfl ?_
      exact go_zret hc (oend_i h hE) hr rfl dX6_addToken_67
  · rw [if_neg hh] at h
    refine go_aload_n hc dX6_addToken_7 rfl rfl ?_
    refine go_getI hc ho flX6_39 dX6_addToken_8 ok_43 ?_
    refine go_sipush hc dX6_addToken_11 cs_900 ?_
    refine go_icmp_gt (tgt := 57) hc dX6_addToken_14 rfl (fun hh => ?_) (fun hh => ?_)
    · rw [if_pos hh] at h
      refine go_iload_n hc dX6_addToken_57 rfl rfl ?_
      refine go_iconst hc dX6_addToken_58 ci_3 ?_
      refine go_icmp_eq (tgt := 66) hc dX6_addToken_59 rfl (fun hh => ?_) (fun hh => ?_)
      · rw [if_pos hh] at h
        refine go_iconst hc dX6_addToken_66 ci_0 ?_
        exact go_zret hc (oend_i h hE) hr rfl dX6_addToken_67
      · rw [if_neg hh] at h
        refine go_iconst hc dX6_addToken_62 ci_1 ?_
        refine go_goto (tgt := 67) hc dX6_addToken_63 rfl ?_
        exact go_zret hc (oend_i h hE) hr rfl dX6_addToken_67
    · rw [if_neg hh] at h
      refine go_aload_n hc dX6_addToken_17 rfl rfl ?_
      refine go_getC (b := 45) rfl hc ho flX6_15 dX6_addToken_18 ok_43 ?_
      refine go_aload_n hc dX6_addToken_21 rfl rfl ?_
      refine go_getI hc ho flX6_39 dX6_addToken_22 ok_43 ?_
      refine go_iload_n hc dX6_addToken_25 rfl rfl ?_
      obtain ⟨hg1, h⟩ := ogd_some h
      refine go_iast hc dX6_addToken_26 ok_45 ol_45 hg1 rfl ?_
      refine go_aload_n hc dX6_addToken_27 rfl rfl ?_
      refine go_getC (b := 46) rfl hc ho flX6_19 dX6_addToken_28 ok_43 ?_
      refine go_aload_n hc dX6_addToken_31 rfl rfl ?_
      refine go_getI hc ho flX6_39 dX6_addToken_32 ok_43 ?_
      refine go_iload_n hc dX6_addToken_35 rfl rfl ?_
      obtain ⟨hg2, h⟩ := ogd_some h
      refine go_iast hc dX6_addToken_36 ok_46 ol_46 hg2 rfl ?_
      refine go_aload_n hc dX6_addToken_37 rfl rfl ?_
      refine go_getC (b := 47) rfl hc ho flX6_22 dX6_addToken_38 ok_43 ?_
      refine go_aload_n hc dX6_addToken_41 rfl rfl ?_
      refine go_getI hc ho flX6_39 dX6_addToken_42 ok_43 ?_
      refine go_lload_n hc dX6_addToken_45 rfl rfl ?_
      obtain ⟨hg3, h⟩ := ogd_some h
      refine go_last hc dX6_addToken_46 ok_47 ol_47 hg3 rfl ?_
      refine go_aload_n hc dX6_addToken_47 rfl rfl ?_
      refine go_dup hc dX6_addToken_48 rfl ?_
      refine go_getI hc ho flX6_39 dX6_addToken_49 ok_43 ?_
      refine go_iconst hc dX6_addToken_52 ci_1 ?_
      refine go_iadd hc dX6_addToken_53 ?_
      refine go_putI hc ho fpX6_39 dX6_addToken_54 ok_43 (fun g => oni g _) (fun _ => rfl) ?_
      refine go_iload_n hc dX6_addToken_57 rfl rfl ?_
      refine go_iconst hc dX6_addToken_58 ci_3 ?_
      refine go_icmp_eq (tgt := 66) hc dX6_addToken_59 rfl (fun hh => ?_) (fun hh => ?_)
      · rw [if_pos hh] at h
        refine go_iconst hc dX6_addToken_66 ci_0 ?_
        exact go_zret hc (oend_i h hE) hr rfl dX6_addToken_67
      · rw [if_neg hh] at h
        refine go_iconst hc dX6_addToken_62 ci_1 ?_
        refine go_goto (tgt := 67) hc dX6_addToken_63 rfl ?_
        exact go_zret hc (oend_i h hE) hr rfl dX6_addToken_67
def fX6_advance (σ : OM) : Option OM :=
  if ((mI σ 43 6) - (1 : Int32)) ≤ (mI σ 43 7) then (
   some σ)
  else (if (900 : Int32) ≤ (mI σ 43 7) then (
   some σ)
  else (ogd (oin (mI (sI σ 43 7 ((mI σ 43 7) + (1 : Int32))) 43 7) 901) (
  ogd (oin (mI (sI (sI σ 43 7 ((mI σ 43 7) + (1 : Int32))) 43 8 (mI (sI σ 43 7 ((mI σ 43 7) + (1 : Int32))) 45 ((mI (sI σ 43 7 ((mI σ 43 7) + (1 : Int32))) 43 7).toNatClampNeg))) 43 7) 901) (
  ogd (oin (mI (sI (sI (sI σ 43 7 ((mI σ 43 7) + (1 : Int32))) 43 8 (mI (sI σ 43 7 ((mI σ 43 7) + (1 : Int32))) 45 ((mI (sI σ 43 7 ((mI σ 43 7) + (1 : Int32))) 43 7).toNatClampNeg))) 43 9 (mI (sI (sI σ 43 7 ((mI σ 43 7) + (1 : Int32))) 43 8 (mI (sI σ 43 7 ((mI σ 43 7) + (1 : Int32))) 45 ((mI (sI σ 43 7 ((mI σ 43 7) + (1 : Int32))) 43 7).toNatClampNeg))) 46 ((mI (sI (sI σ 43 7 ((mI σ 43 7) + (1 : Int32))) 43 8 (mI (sI σ 43 7 ((mI σ 43 7) + (1 : Int32))) 45 ((mI (sI σ 43 7 ((mI σ 43 7) + (1 : Int32))) 43 7).toNatClampNeg))) 43 7).toNatClampNeg))) 43 7) 901) (
  some (sL (sI (sI (sI σ 43 7 ((mI σ 43 7) + (1 : Int32))) 43 8 (mI (sI σ 43 7 ((mI σ 43 7) + (1 : Int32))) 45 ((mI (sI σ 43 7 ((mI σ 43 7) + (1 : Int32))) 43 7).toNatClampNeg))) 43 9 (mI (sI (sI σ 43 7 ((mI σ 43 7) + (1 : Int32))) 43 8 (mI (sI σ 43 7 ((mI σ 43 7) + (1 : Int32))) 45 ((mI (sI σ 43 7 ((mI σ 43 7) + (1 : Int32))) 43 7).toNatClampNeg))) 46 ((mI (sI (sI σ 43 7 ((mI σ 43 7) + (1 : Int32))) 43 8 (mI (sI σ 43 7 ((mI σ 43 7) + (1 : Int32))) 45 ((mI (sI σ 43 7 ((mI σ 43 7) + (1 : Int32))) 43 7).toNatClampNeg))) 43 7).toNatClampNeg))) 43 10 (mL (sI (sI (sI σ 43 7 ((mI σ 43 7) + (1 : Int32))) 43 8 (mI (sI σ 43 7 ((mI σ 43 7) + (1 : Int32))) 45 ((mI (sI σ 43 7 ((mI σ 43 7) + (1 : Int32))) 43 7).toNatClampNeg))) 43 9 (mI (sI (sI σ 43 7 ((mI σ 43 7) + (1 : Int32))) 43 8 (mI (sI σ 43 7 ((mI σ 43 7) + (1 : Int32))) 45 ((mI (sI σ 43 7 ((mI σ 43 7) + (1 : Int32))) 43 7).toNatClampNeg))) 46 ((mI (sI (sI σ 43 7 ((mI σ 43 7) + (1 : Int32))) 43 8 (mI (sI σ 43 7 ((mI σ 43 7) + (1 : Int32))) 45 ((mI (sI σ 43 7 ((mI σ 43 7) + (1 : Int32))) 43 7).toNatClampNeg))) 43 7).toNatClampNeg))) 47 ((mI (sI (sI (sI σ 43 7 ((mI σ 43 7) + (1 : Int32))) 43 8 (mI (sI σ 43 7 ((mI σ 43 7) + (1 : Int32))) 45 ((mI (sI σ 43 7 ((mI σ 43 7) + (1 : Int32))) 43 7).toNatClampNeg))) 43 9 (mI (sI (sI σ 43 7 ((mI σ 43 7) + (1 : Int32))) 43 8 (mI (sI σ 43 7 ((mI σ 43 7) + (1 : Int32))) 45 ((mI (sI σ 43 7 ((mI σ 43 7) + (1 : Int32))) 43 7).toNatClampNeg))) 46 ((mI (sI (sI σ 43 7 ((mI σ 43 7) + (1 : Int32))) 43 8 (mI (sI σ 43 7 ((mI σ 43 7) + (1 : Int32))) 45 ((mI (sI σ 43 7 ((mI σ 43 7) + (1 : Int32))) 43 7).toNatClampNeg))) 43 7).toNatClampNeg))) 43 7).toNatClampNeg))))))))
set_option maxRecDepth 100000 in
set_option maxHeartbeats 4000000 in
theorem rX6_advance {N : Nat} {σ : OM} {σ0 : OM} (h : fX6_advance σ = some σ0) (hN0 : 0 ≤ N) : oEv N MX6_advance [.ref 43] σ (none) σ0 := by
  refine oEv_of (lv := [.ref 43]) (by decide +kernel) (fun g q hq => hq) (fun g => Nat.le_of_ble_eq_true rfl) ?_
  intro K hc ho hL hN1 hr hE hz
  have hN : 0 ≤ kN K := by rw [hN1]; exact hN0
  unfold fX6_advance at h
  refine go_aload_n hc dX6_advance_0 rfl rfl ?_
  refine go_getI hc ho flX6_60 dX6_advance_1 ok_43 ?_
  refine go_aload_n hc dX6_advance_4 rfl rfl ?_
  refine go_getI hc ho flX6_39 dX6_advance_5 ok_43 ?_
  refine go_iconst hc dX6_advance_8 ci_1 ?_
  refine go_isub hc dX6_advance_9 ?_
  refine go_icmp_ge (tgt := 72) hc dX6_advance_10 rfl (fun hh => ?_) (fun hh => ?_)
  · rw [if_pos hh] at h
    exact go_vret hc (oend_v h hE) hr dX6_advance_72
  · rw [if_neg hh] at h
    refine go_aload_n hc dX6_advance_13 rfl rfl ?_
    refine go_getI hc ho flX6_60 dX6_advance_14 ok_43 ?_
    refine go_sipush hc dX6_advance_17 cs_900 ?_
    refine go_icmp_ge (tgt := 72) hc dX6_advance_20 rfl (fun hh => ?_) (fun hh => ?_)
    · rw [if_pos hh] at h
      exact go_vret hc (oend_v h hE) hr dX6_advance_72
    · rw [if_neg hh] at h
      refine go_aload_n hc dX6_advance_23 rfl rfl ?_
      refine go_dup hc dX6_advance_24 rfl ?_
      refine go_getI hc ho flX6_60 dX6_advance_25 ok_43 ?_
      refine go_iconst hc dX6_advance_28 ci_1 ?_
      refine go_iadd hc dX6_advance_29 ?_
      refine go_putI hc ho fpX6_60 dX6_advance_30 ok_43 (fun g => oni g _) (fun _ => rfl) ?_
      refine go_aload_n hc dX6_advance_33 rfl rfl ?_
      refine go_aload_n hc dX6_advance_34 rfl rfl ?_
      refine go_getC (b := 45) rfl hc ho flX6_15 dX6_advance_35 ok_43 ?_
      refine go_aload_n hc dX6_advance_38 rfl rfl ?_
      refine go_getI hc ho flX6_60 dX6_advance_39 ok_43 ?_
      obtain ⟨hg1, h⟩ := ogd_some h
      refine go_iald hc dX6_advance_42 ok_45 ol_45 hg1 rfl ?_
      refine go_putI hc ho fpX6_66 dX6_advance_43 ok_43 (fun g => oni g _) (fun _ => rfl) ?_
      refine go_aload_n hc dX6_advance_46 rfl rfl ?_
      refine go_aload_n hc dX6_advance_47 rfl rfl ?_
      refine go_getC (b := 46) rfl hc ho flX6_19 dX6_advance_48 ok_43 ?_
      refine go_aload_n hc dX6_advance_51 rfl rfl ?_
      refine go_getI hc ho flX6_60 dX6_advance_52 ok_43 ?_
      obtain ⟨hg2, h⟩ := ogd_some h
      refine go_iald hc dX6_advance_55 ok_46 ol_46 hg2 rfl ?_
      refine go_putI hc ho fpX6_69 dX6_advance_56 ok_43 (fun g => oni g _) (fun _ => rfl) ?_
      refine go_aload_n hc dX6_advance_59 rfl rfl ?_
      refine go_aload_n hc dX6_advance_60 rfl rfl ?_
      refine go_getC (b := 47) rfl hc ho flX6_22 dX6_advance_61 ok_43 ?_
      refine go_aload_n hc dX6_advance_64 rfl rfl ?_
      refine go_getI hc ho flX6_60 dX6_advance_65 ok_43 ?_
      obtain ⟨hg3, h⟩ := ogd_some h
      refine go_lald hc dX6_advance_68 ok_47 ol_47 hg3 rfl ?_
      refine go_putL hc ho fpX6_72 dX6_advance_69 ok_43 (fun g => onl g _) (fun _ => rfl) ?_
      exact go_vret hc (oend_v h hE) hr dX6_advance_72
def fX6_begin_b81 (l2 : Int32) (σ : OM) : Option OM :=
  if l2 = 0 then (
   obv (fX6_advance (sI σ 43 7 ((-1) : Int32))) (fun σ2 =>
   some σ2))
  else (obi (fX6_addToken (0 : Int32) (mI σ 43 2) (0 : Int64) σ) (fun r4 σ5 =>
  obv (fX6_advance (sI σ5 43 7 ((-1) : Int32))) (fun σ8 =>
  some σ8)))
set_option maxRecDepth 100000 in
set_option maxHeartbeats 4000000 in
theorem rX6_begin_b81 {K : OK} (hc : kcc K = cX6_begin) (ho : kow K = RX6) (hL : knL K = 5) (hN : 3 ≤ kN K) (hr : (kme K).sig.returnType = none) {σ0 : OM} (hE : oEnd K (none) σ0) (hz : kz K = 0) {l2 : Int32} {σ : OM} (h : fX6_begin_b81 l2 σ = some σ0) : Go K 81 [.ref 43, .null, .int l2, .null, .null] [] σ := by
  unfold fX6_begin_b81 at h
  refine go_iload_n hc dX6_begin_81 rfl rfl ?_
  refine go_if_eq (tgt := 96) hc dX6_begin_82 rfl (fun hh => ?_) (fun hh => ?_)
  · rw [if_pos hh] at h
    refine go_aload_n hc dX6_begin_96 rfl rfl ?_
    refine go_iconst hc dX6_begin_97 ci_m1 ?_
    refine go_putI hc ho fpX6_60 dX6_begin_98 ok_43 (fun g => oni g _) (fun _ => rfl) ?_
    refine go_aload_n hc dX6_begin_101 rfl rfl ?_
    obtain ⟨σ2, hf3, h⟩ := obv_some h
    refine go_callVv hc ho cmX6_advance mlX6_63 dX6_begin_102 ok_43 (As := []) (rest := []) (rX6_advance (N := 0) hf3 (Nat.le_refl _)) rfl (Nat.le_trans (Nat.le_of_ble_eq_true rfl) hN) rfl (Nat.le_of_ble_eq_true rfl) (Or.inl hz) ?_
    exact go_vret hc (oend_v h hE) hr dX6_begin_105
  · rw [if_neg hh] at h
    refine go_aload_n hc dX6_begin_85 rfl rfl ?_
    refine go_iconst hc dX6_begin_86 ci_0 ?_
    refine go_aload_n hc dX6_begin_87 rfl rfl ?_
    refine go_getI hc ho flX6_36 dX6_begin_88 ok_43 ?_
    refine go_lconst hc dX6_begin_91 cl_0 ?_
    obtain ⟨r4, σ5, hf6, h⟩ := obi_some h
    refine go_callVi hc ho cmX6_addToken mlX6_56 dX6_begin_92 ok_43 (As := [.int (0 : Int32), .int (mI σ 43 2), .long (0 : Int64)]) (rest := []) (rX6_addToken (N := 0) hf6 (Nat.le_refl _)) rfl (Nat.le_trans (Nat.le_of_ble_eq_true rfl) hN) rfl (Nat.le_of_ble_eq_true rfl) (Or.inl hz) ?_
    refine go_pop hc dX6_begin_95 rfl ?_
    refine go_aload_n hc dX6_begin_96 rfl rfl ?_
    refine go_iconst hc dX6_begin_97 ci_m1 ?_
    refine go_putI hc ho fpX6_60 dX6_begin_98 ok_43 (fun g => oni g _) (fun _ => rfl) ?_
    refine go_aload_n hc dX6_begin_101 rfl rfl ?_
    obtain ⟨σ8, hf9, h⟩ := obv_some h
    refine go_callVv hc ho cmX6_advance mlX6_63 dX6_begin_102 ok_43 (As := []) (rest := []) (rX6_advance (N := 0) hf9 (Nat.le_refl _)) rfl (Nat.le_trans (Nat.le_of_ble_eq_true rfl) hN) rfl (Nat.le_of_ble_eq_true rfl) (Or.inl hz) ?_
    exact go_vret hc (oend_v h hE) hr dX6_begin_105
def fX6_begin_b21 : Nat → Int32 → Int32 → OM → Option OM
  | 0, _, _, _ => none
  | n + 1, l2, l3, σ =>
    if (mI σ 43 2) ≤ l3 then (
     fX6_begin_b81 l2 σ)
    else (if l2 = 0 then (
     fX6_begin_b81 l2 σ)
    else (obi (fX6_byteAt l3 σ) (fun r1 σ2 =>
    if r1 = (32 : Int32) then (
     fX6_begin_b21 n l2 (l3 + (1 : Int32)) σ2)
    else (obi (fX6_lengthFrom l3 σ2) (fun r4 σ5 =>
    obi (fX6_kindFrom l3 r4 σ5) (fun r7 σ8 =>
    obi (fX6_valueFrom l3 r4 σ8) (fun r10 σ11 =>
    obi (fX6_addToken r7 l3 r10 σ11) (fun r13 σ14 =>
    fX6_begin_b21 n r13 (l3 + r4) σ14))))))))
set_option maxRecDepth 100000 in
set_option maxHeartbeats 4000000 in
theorem rX6_begin_b21 {K : OK} (hc : kcc K = cX6_begin) (ho : kow K = RX6) (hL : knL K = 5) (hN : 3 ≤ kN K) (hr : (kme K).sig.returnType = none) {σ0 : OM} (hE : oEnd K (none) σ0) (hz : kz K = 0) : ∀ (n : Nat) (l2 : Int32) (l3 : Int32) (σ : OM), fX6_begin_b21 n l2 l3 σ = some σ0 → Go K 21 [.ref 43, .null, .int l2, .int l3, .null] [] σ := by
  intro n
  induction n with
  | zero =>
    intro l2 l3 σ h
    cases h
  | succ n ih =>
    intro l2 l3 σ h
    rw [fX6_begin_b21] at h
    refine go_iload_n hc dX6_begin_21 rfl rfl ?_
    refine go_aload_n hc dX6_begin_22 rfl rfl ?_
    refine go_getI hc ho flX6_36 dX6_begin_23 ok_43 ?_
    refine go_icmp_ge (tgt := 81) hc dX6_begin_26 rfl (fun hh => ?_) (fun hh => ?_)
    · rw [if_pos hh] at h
      refine go_mask [true, false, true, false, false] (lv1 := [.ref 43, .null, .int l2, .null, .null]) rfl ?_
      exact rX6_begin_b81 hc ho hL hN hr hE hz h
    · rw [if_neg hh] at h
      refine go_iload_n hc dX6_begin_29 rfl rfl ?_
      refine go_if_eq (tgt := 81) hc dX6_begin_30 rfl (fun hh => ?_) (fun hh => ?_)
      · rw [if_pos hh] at h
        refine go_mask [true, false, true, false, false] (lv1 := [.ref 43, .null, .int l2, .null, .null]) rfl ?_
        exact rX6_begin_b81 hc ho hL hN hr hE hz h
      · rw [if_neg hh] at h
        refine go_iconst hc dX6_begin_33 ci_1 ?_
        refine go_istore hc (lv1 := [.ref 43, .null, .int l2, .int l3, .int (1 : Int32)]) dX6_begin_34 hL (by decide) (fun _ _ e => by cases e; rfl) rfl ?_
        refine go_aload_n hc dX6_begin_36 rfl rfl ?_
        refine go_iload_n hc dX6_begin_37 rfl rfl ?_
        obtain ⟨r1, σ2, hf3, h⟩ := obi_some h
        refine go_callVi hc ho cmX6_byteAt mlX6_42 dX6_begin_38 ok_43 (As := [.int l3]) (rest := []) (rX6_byteAt (N := 0) hf3 (Nat.le_refl _)) rfl (Nat.le_trans (Nat.le_of_ble_eq_true rfl) hN) rfl (Nat.le_of_ble_eq_true rfl) (Or.inl hz) ?_
        refine go_bipush hc dX6_begin_41 cb_32 ?_
        refine go_icmp_eq (tgt := 73) hc dX6_begin_43 rfl (fun hh => ?_) (fun hh => ?_)
        · rw [if_pos hh] at h
          refine go_iload_n hc dX6_begin_73 rfl rfl ?_
          refine go_iload hc dX6_begin_74 rfl ?_
          refine go_iadd hc dX6_begin_76 ?_
          refine go_istore_n hc (lv1 := [.ref 43, .null, .int l2, .int (l3 + (1 : Int32)), .int (1 : Int32)]) dX6_begin_77 rfl hL (by decide) (fun _ _ e => by cases e; rfl) rfl ?_
          refine go_goto (tgt := 21) hc dX6_begin_78 rfl ?_
          refine go_mask [true, false, true, true, false] (lv1 := [.ref 43, .null, .int l2, .int (l3 + (1 : Int32)), .null]) rfl ?_
          exact ih l2 (l3 + (1 : Int32)) _ h
        · rw [if_neg hh] at h
          refine go_aload_n hc dX6_begin_46 rfl rfl ?_
          refine go_iload_n hc dX6_begin_47 rfl rfl ?_
          obtain ⟨r4, σ5, hf6, h⟩ := obi_some h
          refine go_callVi hc ho cmX6_lengthFrom mlX6_46 dX6_begin_48 ok_43 (As := [.int l3]) (rest := []) (rX6_lengthFrom (N := 1) hf6 (Nat.le_refl _)) rfl (Nat.le_trans (Nat.le_of_ble_eq_true rfl) hN) rfl (Nat.le_of_ble_eq_true rfl) (Or.inl hz) ?_
          refine go_istore hc (lv1 := [.ref 43, .null, .int l2, .int l3, .int r4]) dX6_begin_51 hL (by decide) (fun _ _ e => by cases e; rfl) rfl ?_
          refine go_aload_n hc dX6_begin_53 rfl rfl ?_
          refine go_aload_n hc dX6_begin_54 rfl rfl ?_
          refine go_iload_n hc dX6_begin_55 rfl rfl ?_
          refine go_iload hc dX6_begin_56 rfl ?_
          obtain ⟨r7, σ8, hf9, h⟩ := obi_some h
          refine go_callVi hc ho cmX6_kindFrom mlX6_49 dX6_begin_58 ok_43 (As := [.int l3, .int r4]) (rest := [.ref 43]) (rX6_kindFrom (N := 2) hf9 (Nat.le_refl _)) rfl (Nat.le_trans (Nat.le_of_ble_eq_true rfl) hN) rfl (Nat.le_of_ble_eq_true rfl) (Or.inl hz) ?_
          refine go_iload_n hc dX6_begin_61 rfl rfl ?_
          refine go_aload_n hc dX6_begin_62 rfl rfl ?_
          refine go_iload_n hc dX6_begin_63 rfl rfl ?_
          refine go_iload hc dX6_begin_64 rfl ?_
          obtain ⟨r10, σ11, hf12, h⟩ := obi_some h
          refine go_callVl hc ho cmX6_valueFrom mlX6_52 dX6_begin_66 ok_43 (As := [.int l3, .int r4]) (rest := [.int l3, .int r7, .ref 43]) (rX6_valueFrom (N := 1) hf12 (Nat.le_refl _)) rfl (Nat.le_trans (Nat.le_of_ble_eq_true rfl) hN) rfl (Nat.le_of_ble_eq_true rfl) (Or.inl hz) ?_
          obtain ⟨r13, σ14, hf15, h⟩ := obi_some h
          refine go_callVi hc ho cmX6_addToken mlX6_56 dX6_begin_69 ok_43 (As := [.int r7, .int l3, .long r10]) (rest := []) (rX6_addToken (N := 0) hf15 (Nat.le_refl _)) rfl (Nat.le_trans (Nat.le_of_ble_eq_true rfl) hN) rfl (Nat.le_of_ble_eq_true rfl) (Or.inl hz) ?_
          refine go_istore_n hc (lv1 := [.ref 43, .null, .int r13, .int l3, .int r4]) dX6_begin_72 rfl hL (by decide) (fun _ _ e => by cases e; rfl) rfl ?_
          refine go_iload_n hc dX6_begin_73 rfl rfl ?_
          refine go_iload hc dX6_begin_74 rfl ?_
          refine go_iadd hc dX6_begin_76 ?_
          refine go_istore_n hc (lv1 := [.ref 43, .null, .int r13, .int (l3 + r4), .int r4]) dX6_begin_77 rfl hL (by decide) (fun _ _ e => by cases e; rfl) rfl ?_
          refine go_goto (tgt := 21) hc dX6_begin_78 rfl ?_
          refine go_mask [true, false, true, true, false] (lv1 := [.ref 43, .null, .int r13, .int (l3 + r4), .null]) rfl ?_
          exact ih r13 (l3 + r4) _ h
def fX6_begin (x0 : Int32) (σ : OM) : Option OM :=
  obi (fJ9_min_7cf53 x0 (mI σ 43 1) σ) (fun r1 σ2 =>
  fX6_begin_b21 oF (1 : Int32) (0 : Int32) (sI (sI σ2 43 2 r1) 43 6 (0 : Int32)))
set_option maxRecDepth 100000 in
set_option maxHeartbeats 4000000 in
theorem rX6_begin {N : Nat} {x0 : Int32} {σ : OM} {σ0 : OM} (h : fX6_begin x0 σ = some σ0) (hN0 : 3 ≤ N) : oEv N MX6_begin [.ref 43, .int x0] σ (none) σ0 := by
  refine oEv_of (lv := [.ref 43, .int x0, .null, .null, .null]) (by decide +kernel) (fun g q hq => hq) (fun g => Nat.le_of_ble_eq_true rfl) ?_
  intro K hc ho hL hN1 hr hE hz
  have hN : 3 ≤ kN K := by rw [hN1]; exact hN0
  unfold fX6_begin at h
  refine go_aload_n hc dX6_begin_0 rfl rfl ?_
  refine go_iload_n hc dX6_begin_1 rfl rfl ?_
  refine go_aload_n hc dX6_begin_2 rfl rfl ?_
  refine go_getI hc ho flX6_26 dX6_begin_3 ok_43 ?_
  obtain ⟨r1, σ2, hf3, h⟩ := obi_some h
  refine go_callSi hc ho cmJ9_min_7cf53 mlX6_30 dX6_begin_6 (As := [.int x0, .int (mI σ 43 1)]) (rest := [.ref 43]) (rJ9_min_7cf53 (N := 0) hf3 (Nat.le_refl _)) rfl (Nat.le_trans (Nat.le_of_ble_eq_true rfl) hN) rfl (Nat.le_of_ble_eq_true rfl) (Or.inl hz) ?_
  refine go_putI hc ho fpX6_36 dX6_begin_9 ok_43 (fun g => oni g _) (fun _ => rfl) ?_
  refine go_aload_n hc dX6_begin_12 rfl rfl ?_
  refine go_iconst hc dX6_begin_13 ci_0 ?_
  refine go_putI hc ho fpX6_39 dX6_begin_14 ok_43 (fun g => oni g _) (fun _ => rfl) ?_
  refine go_iconst hc dX6_begin_17 ci_1 ?_
  refine go_istore_n hc (lv1 := [.ref 43, .int x0, .int (1 : Int32), .null, .null]) dX6_begin_18 rfl hL (by decide) (fun _ _ e => by cases e; rfl) rfl ?_
  refine go_iconst hc dX6_begin_19 ci_0 ?_
  refine go_istore_n hc (lv1 := [.ref 43, .int x0, .int (1 : Int32), .int (0 : Int32), .null]) dX6_begin_20 rfl hL (by decide) (fun _ _ e => by cases e; rfl) rfl ?_
  refine go_mask [true, false, true, true, false] (lv1 := [.ref 43, .null, .int (1 : Int32), .int (0 : Int32), .null]) rfl ?_
  exact rX6_begin_b21 hc ho hL hN hr hE hz oF (1 : Int32) (0 : Int32) _ h
def fX5_fail (x0 : Int32) (x1 : Int32) (σ : OM) : Option (Int32 × OM) :=
  if (mI σ 48 2) = 0 then (
   some ((0 : Int32), sI (sI σ 48 2 x0) 48 3 x1))
  else (some ((0 : Int32), σ))
set_option maxRecDepth 100000 in
set_option maxHeartbeats 4000000 in
theorem rX5_fail {N : Nat} {x0 : Int32} {x1 : Int32} {σ : OM} {r0 : Int32} {σ0 : OM} (h : fX5_fail x0 x1 σ = some (r0, σ0)) (hN0 : 0 ≤ N) : oEv N MX5_fail [.ref 48, .int x0, .int x1] σ (some (.int r0)) σ0 := by
  refine oEv_of (lv := [.ref 48, .int x0, .int x1]) (by decide +kernel) (fun g q hq => hq) (fun g => Nat.le_of_ble_eq_true rfl) ?_
  intro K hc ho hL hN1 hr hE hz
  have hN : 0 ≤ kN K := by rw [hN1]; exact hN0
  unfold fX5_fail at h
  refine go_aload_n hc dX5_fail_0 rfl rfl ?_
  refine go_getI hc ho flX5_50 dX5_fail_1 ok_48 ?_
  refine go_if_ne (tgt := 17) hc dX5_fail_4 rfl (fun hh => ?_) (fun hh => ?_)
  · rw [if_neg hh] at h
    refine go_iconst hc dX5_fail_17 ci_0 ?_
    exact go_zret hc (oend_i h hE) hr rfl dX5_fail_18
  · rw [if_pos hh] at h
    refine go_aload_n hc dX5_fail_7 rfl rfl ?_
    refine go_iload_n hc dX5_fail_8 rfl rfl ?_
    refine go_putI hc ho fpX5_50 dX5_fail_9 ok_48 (fun g => oni g _) (fun _ => rfl) ?_
    refine go_aload_n hc dX5_fail_12 rfl rfl ?_
    refine go_iload_n hc dX5_fail_13 rfl rfl ?_
    refine go_putI hc ho fpX5_54 dX5_fail_14 ok_48 (fun g => oni g _) (fun _ => rfl) ?_
    refine go_iconst hc dX5_fail_17 ci_0 ?_
    exact go_zret hc (oend_i h hE) hr rfl dX5_fail_18
def fX5_mayBegin_b45 (l1 : Int32) (σ : OM) : Option (Int32 × OM) :=
  ogd (oin l1 11) (
  ogd (oin l1 11) (
  ogd (oin l1 11) (
  ogd (oin l1 11) (
  if (mI (sI σ 49 l1.toNatClampNeg ((mI σ 49 l1.toNatClampNeg) + (1 : Int32))) 49 l1.toNatClampNeg) ≤ (olr l1.toNatClampNeg) then (
   some ((1 : Int32), sI σ 49 l1.toNatClampNeg ((mI σ 49 l1.toNatClampNeg) + (1 : Int32))))
  else (if l1 = 0 then (
   obi (fX5_fail (3 : Int32) (mI (sI σ 49 l1.toNatClampNeg ((mI σ 49 l1.toNatClampNeg) + (1 : Int32))) 43 9) (sI σ 49 l1.toNatClampNeg ((mI σ 49 l1.toNatClampNeg) + (1 : Int32)))) (fun r5 σ6 =>
   ogd (oisb r5) (some (r5, σ6))))
  else (if l1 = (3 : Int32) then (
   obi (fX5_fail (3 : Int32) (mI (sI σ 49 l1.toNatClampNeg ((mI σ 49 l1.toNatClampNeg) + (1 : Int32))) 43 9) (sI σ 49 l1.toNatClampNeg ((mI σ 49 l1.toNatClampNeg) + (1 : Int32)))) (fun r13 σ14 =>
   ogd (oisb r13) (some (r13, σ14))))
  else (obi (fX5_fail (5 : Int32) (mI (sI σ 49 l1.toNatClampNeg ((mI σ 49 l1.toNatClampNeg) + (1 : Int32))) 43 9) (sI σ 49 l1.toNatClampNeg ((mI σ 49 l1.toNatClampNeg) + (1 : Int32)))) (fun r9 σ10 =>
  ogd (oisb r9) (some (r9, σ10))))))))))
set_option maxRecDepth 100000 in
set_option maxHeartbeats 4000000 in
theorem rX5_mayBegin_b45 {K : OK} (hc : kcc K = cX5_mayBegin) (ho : kow K = RX5) (hL : knL K = 3) (hN : 1 ≤ kN K) (hr : (kme K).sig.returnType = (some .boolean)) {r0 : Int32} {σ0 : OM} (hE : oEnd K (some (.int r0)) σ0) (hz : kz K = 0) {l1 : Int32} {σ : OM} (h : fX5_mayBegin_b45 l1 σ = some (r0, σ0)) : Go K 45 [.ref 48, .int l1, .null] [] σ := by
  unfold fX5_mayBegin_b45 at h
  refine go_aload_n hc dX5_mayBegin_45 rfl rfl ?_
  refine go_getC (b := 49) rfl hc ho flX5_13 dX5_mayBegin_46 ok_48 ?_
  refine go_iload_n hc dX5_mayBegin_49 rfl rfl ?_
  refine go_dup2_11 hc dX5_mayBegin_50 rfl rfl ?_
  obtain ⟨hg1, h⟩ := ogd_some h
  refine go_iald hc dX5_mayBegin_51 ok_49 ol_49 hg1 rfl ?_
  refine go_iconst hc dX5_mayBegin_52 ci_1 ?_
  refine go_iadd hc dX5_mayBegin_53 ?_
  obtain ⟨hg2, h⟩ := ogd_some h
  refine go_iast hc dX5_mayBegin_54 ok_49 ol_49 hg2 rfl ?_
  refine go_aload_n hc dX5_mayBegin_55 rfl rfl ?_
  refine go_getC (b := 49) rfl hc ho flX5_13 dX5_mayBegin_56 ok_48 ?_
  refine go_iload_n hc dX5_mayBegin_59 rfl rfl ?_
  obtain ⟨hg3, h⟩ := ogd_some h
  refine go_iald hc dX5_mayBegin_60 ok_49 ol_49 hg3 rfl ?_
  refine go_lr hc ho fsX5_138 dX5_mayBegin_61 ?_
  refine go_iload_n hc dX5_mayBegin_64 rfl rfl ?_
  obtain ⟨hg4, h⟩ := ogd_some h
  refine go_lra hc dX5_mayBegin_65 hg4 ?_
  refine go_icmp_le (tgt := 95) hc dX5_mayBegin_66 rfl (fun hh => ?_) (fun hh => ?_)
  · rw [if_pos hh] at h
    refine go_iconst hc dX5_mayBegin_95 ci_1 ?_
    exact go_zret hc (oend_i h hE) hr rfl dX5_mayBegin_96
  · rw [if_neg hh] at h
    refine go_aload_n hc dX5_mayBegin_69 rfl rfl ?_
    refine go_iload_n hc dX5_mayBegin_70 rfl rfl ?_
    refine go_if_eq (tgt := 79) hc dX5_mayBegin_71 rfl (fun hh => ?_) (fun hh => ?_)
    · rw [if_pos hh] at h
      refine go_iconst hc dX5_mayBegin_79 ci_3 ?_
      refine go_goto (tgt := 84) hc dX5_mayBegin_80 rfl ?_
      refine go_aload_n hc dX5_mayBegin_84 rfl rfl ?_
      refine go_getC (b := 43) rfl hc ho flX5_37 dX5_mayBegin_85 ok_48 ?_
      refine go_getI hc ho flX5_84 dX5_mayBegin_88 ok_43 ?_
      obtain ⟨r5, σ6, hf7, h⟩ := obi_some h
      refine go_callVi hc ho cmX5_fail mlX5_87 dX5_mayBegin_91 ok_48 (As := [.int (3 : Int32), .int (mI (sI σ 49 l1.toNatClampNeg ((mI σ 49 l1.toNatClampNeg) + (1 : Int32))) 43 9)]) (rest := []) (rX5_fail (N := 0) hf7 (Nat.le_refl _)) rfl (Nat.le_trans (Nat.le_of_ble_eq_true rfl) hN) rfl (Nat.le_of_ble_eq_true rfl) (Or.inl hz) ?_
      obtain ⟨hg8, h⟩ := ogd_some h
      exact go_zret hc (oend_i h hE) hr (oisb_n hg8) dX5_mayBegin_94
    · rw [if_neg hh] at h
      refine go_iload_n hc dX5_mayBegin_74 rfl rfl ?_
      refine go_iconst hc dX5_mayBegin_75 ci_3 ?_
      refine go_icmp_ne (tgt := 83) hc dX5_mayBegin_76 rfl (fun hh => ?_) (fun hh => ?_)
      · rw [if_neg hh] at h
        refine go_iconst hc dX5_mayBegin_83 ci_5 ?_
        refine go_aload_n hc dX5_mayBegin_84 rfl rfl ?_
        refine go_getC (b := 43) rfl hc ho flX5_37 dX5_mayBegin_85 ok_48 ?_
        refine go_getI hc ho flX5_84 dX5_mayBegin_88 ok_43 ?_
        obtain ⟨r9, σ10, hf11, h⟩ := obi_some h
        refine go_callVi hc ho cmX5_fail mlX5_87 dX5_mayBegin_91 ok_48 (As := [.int (5 : Int32), .int (mI (sI σ 49 l1.toNatClampNeg ((mI σ 49 l1.toNatClampNeg) + (1 : Int32))) 43 9)]) (rest := []) (rX5_fail (N := 0) hf11 (Nat.le_refl _)) rfl (Nat.le_trans (Nat.le_of_ble_eq_true rfl) hN) rfl (Nat.le_of_ble_eq_true rfl) (Or.inl hz) ?_
        obtain ⟨hg12, h⟩ := ogd_some h
        exact go_zret hc (oend_i h hE) hr (oisb_n hg12) dX5_mayBegin_94
      · rw [if_pos hh] at h
        refine go_iconst hc dX5_mayBegin_79 ci_3 ?_
        refine go_goto (tgt := 84) hc dX5_mayBegin_80 rfl ?_
        refine go_aload_n hc dX5_mayBegin_84 rfl rfl ?_
        refine go_getC (b := 43) rfl hc ho flX5_37 dX5_mayBegin_85 ok_48 ?_
        refine go_getI hc ho flX5_84 dX5_mayBegin_88 ok_43 ?_
        obtain ⟨r13, σ14, hf15, h⟩ := obi_some h
        refine go_callVi hc ho cmX5_fail mlX5_87 dX5_mayBegin_91 ok_48 (As := [.int (3 : Int32), .int (mI (sI σ 49 l1.toNatClampNeg ((mI σ 49 l1.toNatClampNeg) + (1 : Int32))) 43 9)]) (rest := []) (rX5_fail (N := 0) hf15 (Nat.le_refl _)) rfl (Nat.le_trans (Nat.le_of_ble_eq_true rfl) hN) rfl (Nat.le_of_ble_eq_true rfl) (Or.inl hz) ?_
        obtain ⟨hg16, h⟩ := ogd_some h
        exact go_zret hc (oend_i h hE) hr (oisb_n hg16) dX5_mayBegin_94
def fX5_mayBegin (x0 : Int32) (x1 : Int32) (σ : OM) : Option (Int32 × OM) :=
  if x0 < 0 then (
   obi (fX5_fail (1 : Int32) (mI σ 43 9) σ) (fun r1 σ2 =>
   ogd (oisb r1) (some (r1, σ2))))
  else (if x0 < (11 : Int32) then (
   if x1 = 0 then (
    fX5_mayBegin_b45 x0 σ)
   else (if x0 = 0 then (
    fX5_mayBegin_b45 x0 σ)
   else (obi (fX5_fail (6 : Int32) (mI σ 43 9) σ) (fun r5 σ6 =>
   ogd (oisb r5) (some (r5, σ6))))))
  else (obi (fX5_fail (1 : Int32) (mI σ 43 9) σ) (fun r9 σ10 =>
  ogd (oisb r9) (some (r9, σ10)))))
set_option maxRecDepth 100000 in
set_option maxHeartbeats 4000000 in
theorem rX5_mayBegin {N : Nat} {x0 : Int32} {x1 : Int32} {σ : OM} {r0 : Int32} {σ0 : OM} (h : fX5_mayBegin x0 x1 σ = some (r0, σ0)) (hN0 : 1 ≤ N) : oEv N MX5_mayBegin [.ref 48, .int x0, .int x1] σ (some (.int r0)) σ0 := by
  refine oEv_of (lv := [.ref 48, .int x0, .int x1]) (by decide +kernel) (fun g q hq => hq) (fun g => Nat.le_of_ble_eq_true rfl) ?_
  intro K hc ho hL hN1 hr hE hz
  have hN : 1 ≤ kN K := by rw [hN1]; exact hN0
  unfold fX5_mayBegin at h
  refine go_iload_n hc dX5_mayBegin_0 rfl rfl ?_
  refine go_if_lt (tgt := 10) hc dX5_mayBegin_1 rfl (fun hh => ?_) (fun hh => ?_)
  · rw [if_pos hh] at h
    refine go_aload_n hc dX5_mayBegin_10 rfl rfl ?_
    refine go_iconst hc dX5_mayBegin_11 ci_1 ?_
    refine go_aload_n hc dX5_mayBegin_12 rfl rfl ?_
    refine go_getC (b := 43) rfl hc ho flX5_37 dX5_mayBegin_13 ok_48 ?_
    refine go_getI hc ho flX5_84 dX5_mayBegin_16 ok_43 ?_
    obtain ⟨r1, σ2, hf3, h⟩ := obi_some h
    refine go_callVi hc ho cmX5_fail mlX5_87 dX5_mayBegin_19 ok_48 (As := [.int (1 : Int32), .int (mI σ 43 9)]) (rest := []) (rX5_fail (N := 0) hf3 (Nat.le_refl _)) rfl (Nat.le_trans (Nat.le_of_ble_eq_true rfl) hN) rfl (Nat.le_of_ble_eq_true rfl) (Or.inl hz) ?_
    obtain ⟨hg4, h⟩ := ogd_some h
    exact go_zret hc (oend_i h hE) hr (oisb_n hg4) dX5_mayBegin_22
  · rw [if_neg hh] at h
    refine go_iload_n hc dX5_mayBegin_4 rfl rfl ?_
    refine go_bipush hc dX5_mayBegin_5 cb_11 ?_
    refine go_icmp_lt (tgt := 23) hc dX5_mayBegin_7 rfl (fun hh => ?_) (fun hh => ?_)
    · rw [if_pos hh] at h
      refine go_iload_n hc dX5_mayBegin_23 rfl rfl ?_
      refine go_if_eq (tgt := 45) hc dX5_mayBegin_24 rfl (fun hh => ?_) (fun hh => ?_)
      · rw [if_pos hh] at h
        refine go_mask [true, true, false] (lv1 := [.ref 48, .int x0, .null]) rfl ?_
        exact rX5_mayBegin_b45 hc ho hL hN hr hE hz h
      · rw [if_neg hh] at h
        refine go_iload_n hc dX5_mayBegin_27 rfl rfl ?_
        refine go_if_eq (tgt := 45) hc dX5_mayBegin_28 rfl (fun hh => ?_) (fun hh => ?_)
        · rw [if_pos hh] at h
          refine go_mask [true, true, false] (lv1 := [.ref 48, .int x0, .null]) rfl ?_
          exact rX5_mayBegin_b45 hc ho hL hN hr hE hz h
        · rw [if_neg hh] at h
          refine go_aload_n hc dX5_mayBegin_31 rfl rfl ?_
          refine go_bipush hc dX5_mayBegin_32 cb_6 ?_
          refine go_aload_n hc dX5_mayBegin_34 rfl rfl ?_
          refine go_getC (b := 43) rfl hc ho flX5_37 dX5_mayBegin_35 ok_48 ?_
          refine go_getI hc ho flX5_84 dX5_mayBegin_38 ok_43 ?_
          obtain ⟨r5, σ6, hf7, h⟩ := obi_some h
          refine go_callVi hc ho cmX5_fail mlX5_87 dX5_mayBegin_41 ok_48 (As := [.int (6 : Int32), .int (mI σ 43 9)]) (rest := []) (rX5_fail (N := 0) hf7 (Nat.le_refl _)) rfl (Nat.le_trans (Nat.le_of_ble_eq_true rfl) hN) rfl (Nat.le_of_ble_eq_true rfl) (Or.inl hz) ?_
          obtain ⟨hg8, h⟩ := ogd_some h
          exact go_zret hc (oend_i h hE) hr (oisb_n hg8) dX5_mayBegin_44
    · rw [if_neg hh] at h
      refine go_aload_n hc dX5_mayBegin_10 rfl rfl ?_
      refine go_iconst hc dX5_mayBegin_11 ci_1 ?_
      refine go_aload_n hc dX5_mayBegin_12 rfl rfl ?_
      refine go_getC (b := 43) rfl hc ho flX5_37 dX5_mayBegin_13 ok_48 ?_
      refine go_getI hc ho flX5_84 dX5_mayBegin_16 ok_43 ?_
      obtain ⟨r9, σ10, hf11, h⟩ := obi_some h
      refine go_callVi hc ho cmX5_fail mlX5_87 dX5_mayBegin_19 ok_48 (As := [.int (1 : Int32), .int (mI σ 43 9)]) (rest := []) (rX5_fail (N := 0) hf11 (Nat.le_refl _)) rfl (Nat.le_trans (Nat.le_of_ble_eq_true rfl) hN) rfl (Nat.le_of_ble_eq_true rfl) (Or.inl hz) ?_
      obtain ⟨hg12, h⟩ := ogd_some h
      exact go_zret hc (oend_i h hE) hr (oisb_n hg12) dX5_mayBegin_22
def fX6_isWord (x0 : Int64) (σ : OM) : Option (Int32 × OM) :=
  if (mI σ 43 8) = (1 : Int32) then (
   if (lg_cmp (mL σ 43 10) x0) = 0 then (
    some ((1 : Int32), σ))
   else (some ((0 : Int32), σ)))
  else (some ((0 : Int32), σ))
set_option maxRecDepth 100000 in
set_option maxHeartbeats 4000000 in
theorem rX6_isWord {N : Nat} {x0 : Int64} {σ : OM} {r0 : Int32} {σ0 : OM} (h : fX6_isWord x0 σ = some (r0, σ0)) (hN0 : 0 ≤ N) : oEv N MX6_isWord [.ref 43, .long x0] σ (some (.int r0)) σ0 := by
  refine oEv_of (lv := [.ref 43, .long x0, .null]) (by decide +kernel) (fun g q hq => hq) (fun g => Nat.le_of_ble_eq_true rfl) ?_
  intro K hc ho hL hN1 hr hE hz
  have hN : 0 ≤ kN K := by rw [hN1]; exact hN0
  unfold fX6_isWord at h
  refine go_aload_n hc dX6_isWord_0 rfl rfl ?_
  refine go_getI hc ho flX6_66 dX6_isWord_1 ok_43 ?_
  refine go_iconst hc dX6_isWord_4 ci_1 ?_
  refine go_icmp_ne (tgt := 21) hc dX6_isWord_5 rfl (fun hh => ?_) (fun hh => ?_)
  · rw [if_neg hh] at h
    refine go_iconst hc dX6_isWord_21 ci_0 ?_
    exact go_zret hc (oend_i h hE) hr rfl dX6_isWord_22
  · rw [if_pos hh] at h
    refine go_aload_n hc dX6_isWord_8 rfl rfl ?_
    refine go_getL hc ho flX6_72 dX6_isWord_9 ok_43 ?_
    refine go_lload_n hc dX6_isWord_12 rfl rfl ?_
    refine go_lcmp hc dX6_isWord_13 ?_
    refine go_if_ne (tgt := 21) hc dX6_isWord_14 rfl (fun hh => ?_) (fun hh => ?_)
    · rw [if_neg hh] at h
      refine go_iconst hc dX6_isWord_21 ci_0 ?_
      exact go_zret hc (oend_i h hE) hr rfl dX6_isWord_22
    · rw [if_pos hh] at h
      refine go_iconst hc dX6_isWord_17 ci_1 ?_
      refine go_goto (tgt := 22) hc dX6_isWord_18 rfl ?_
      exact go_zret hc (oend_i h hE) hr rfl dX6_isWord_22
def fX5_takeWord (x0 : Int64) (σ : OM) : Option (Int32 × OM) :=
  obi (fX6_isWord x0 σ) (fun r1 σ2 =>
  if r1 = 0 then (
   obi (fX5_fail (1 : Int32) (mI σ2 43 9) σ2) (fun r7 σ8 =>
   ogd (oisb r7) (some (r7, σ8))))
  else (obv (fX6_advance σ2) (fun σ5 =>
  some ((1 : Int32), σ5))))
set_option maxRecDepth 100000 in
set_option maxHeartbeats 4000000 in
theorem rX5_takeWord {N : Nat} {x0 : Int64} {σ : OM} {r0 : Int32} {σ0 : OM} (h : fX5_takeWord x0 σ = some (r0, σ0)) (hN0 : 1 ≤ N) : oEv N MX5_takeWord [.ref 48, .long x0] σ (some (.int r0)) σ0 := by
  refine oEv_of (lv := [.ref 48, .long x0, .null]) (by decide +kernel) (fun g q hq => hq) (fun g => Nat.le_of_ble_eq_true rfl) ?_
  intro K hc ho hL hN1 hr hE hz
  have hN : 1 ≤ kN K := by rw [hN1]; exact hN0
  unfold fX5_takeWord at h
  refine go_aload_n hc dX5_takeWord_0 rfl rfl ?_
  refine go_getC (b := 43) rfl hc ho flX5_37 dX5_takeWord_1 ok_48 ?_
  refine go_lload_n hc dX5_takeWord_4 rfl rfl ?_
  obtain ⟨r1, σ2, hf3, h⟩ := obi_some h
  refine go_callVi hc ho cmX6_isWord mlX5_295 dX5_takeWord_5 ok_43 (As := [.long x0]) (rest := []) (rX6_isWord (N := 0) hf3 (Nat.le_refl _)) rfl (Nat.le_trans (Nat.le_of_ble_eq_true rfl) hN) rfl (Nat.le_of_ble_eq_true rfl) (Or.inl hz) ?_
  refine go_if_ne (tgt := 24) hc dX5_takeWord_8 rfl (fun hh => ?_) (fun hh => ?_)
  · rw [if_neg hh] at h
    refine go_aload_n hc dX5_takeWord_24 rfl rfl ?_
    refine go_getC (b := 43) rfl hc ho flX5_37 dX5_takeWord_25 ok_48 ?_
    obtain ⟨σ5, hf6, h⟩ := obv_some h
    refine go_callVv hc ho cmX6_advance mlX5_97 dX5_takeWord_28 ok_43 (As := []) (rest := []) (rX6_advance (N := 0) hf6 (Nat.le_refl _)) rfl (Nat.le_trans (Nat.le_of_ble_eq_true rfl) hN) rfl (Nat.le_of_ble_eq_true rfl) (Or.inl hz) ?_
    refine go_iconst hc dX5_takeWord_31 ci_1 ?_
    exact go_zret hc (oend_i h hE) hr rfl dX5_takeWord_32
  · rw [if_pos hh] at h
    refine go_aload_n hc dX5_takeWord_11 rfl rfl ?_
    refine go_iconst hc dX5_takeWord_12 ci_1 ?_
    refine go_aload_n hc dX5_takeWord_13 rfl rfl ?_
    refine go_getC (b := 43) rfl hc ho flX5_37 dX5_takeWord_14 ok_48 ?_
    refine go_getI hc ho flX5_84 dX5_takeWord_17 ok_43 ?_
    obtain ⟨r7, σ8, hf9, h⟩ := obi_some h
    refine go_callVi hc ho cmX5_fail mlX5_87 dX5_takeWord_20 ok_48 (As := [.int (1 : Int32), .int (mI σ2 43 9)]) (rest := []) (rX5_fail (N := 0) hf9 (Nat.le_refl _)) rfl (Nat.le_trans (Nat.le_of_ble_eq_true rfl) hN) rfl (Nat.le_of_ble_eq_true rfl) (Or.inl hz) ?_
    obtain ⟨hg10, h⟩ := ogd_some h
    exact go_zret hc (oend_i h hE) hr (oisb_n hg10) dX5_takeWord_23
def fX5_takeWhole (x0 : Int32) (x1 : Int32) (σ : OM) : Option (Int32 × OM) :=
  if (mI σ 43 8) = (2 : Int32) then (
   if (mL σ 43 10).toInt32 < x0 then (
    obi (fX5_fail (4 : Int32) (mI σ 43 9) σ) (fun r1 σ2 =>
    some (((-1) : Int32), σ2)))
   else (if (mL σ 43 10).toInt32 ≤ x1 then (
    obv (fX6_advance σ) (fun σ5 =>
    some ((mL σ 43 10).toInt32, σ5)))
   else (obi (fX5_fail (4 : Int32) (mI σ 43 9) σ) (fun r7 σ8 =>
   some (((-1) : Int32), σ8)))))
  else (obi (fX5_fail (1 : Int32) (mI σ 43 9) σ) (fun r10 σ11 =>
  some (((-1) : Int32), σ11)))
set_option maxRecDepth 100000 in
set_option maxHeartbeats 4000000 in
theorem rX5_takeWhole {N : Nat} {x0 : Int32} {x1 : Int32} {σ : OM} {r0 : Int32} {σ0 : OM} (h : fX5_takeWhole x0 x1 σ = some (r0, σ0)) (hN0 : 1 ≤ N) : oEv N MX5_takeWhole [.ref 48, .int x0, .int x1] σ (some (.int r0)) σ0 := by
  refine oEv_of (lv := [.ref 48, .int x0, .int x1, .null]) (by decide +kernel) (fun g q hq => hq) (fun g => Nat.le_of_ble_eq_true rfl) ?_
  intro K hc ho hL hN1 hr hE hz
  have hN : 1 ≤ kN K := by rw [hN1]; exact hN0
  unfold fX5_takeWhole at h
  refine go_aload_n hc dX5_takeWhole_0 rfl rfl ?_
  refine go_getC (b := 43) rfl hc ho flX5_37 dX5_takeWhole_1 ok_48 ?_
  refine go_getI hc ho flX5_94 dX5_takeWhole_4 ok_43 ?_
  refine go_iconst hc dX5_takeWhole_7 ci_2 ?_
  refine go_icmp_eq (tgt := 26) hc dX5_takeWhole_8 rfl (fun hh => ?_) (fun hh => ?_)
  · rw [if_pos hh] at h
    refine go_aload_n hc dX5_takeWhole_26 rfl rfl ?_
    refine go_getC (b := 43) rfl hc ho flX5_37 dX5_takeWhole_27 ok_48 ?_
    refine go_getL hc ho flX5_302 dX5_takeWhole_30 ok_43 ?_
    refine go_l2i hc dX5_takeWhole_33 ?_
    refine go_istore_n hc (lv1 := [.ref 48, .int x0, .int x1, .int ((mL σ 43 10).toInt32)]) dX5_takeWhole_34 rfl hL (by decide) (fun _ _ e => by cases e; rfl) rfl ?_
    refine go_iload_n hc dX5_takeWhole_35 rfl rfl ?_
    refine go_iload_n hc dX5_takeWhole_36 rfl rfl ?_
    refine go_icmp_lt (tgt := 45) hc dX5_takeWhole_37 rfl (fun hh => ?_) (fun hh => ?_)
    · rw [if_pos hh] at h
      refine go_aload_n hc dX5_takeWhole_45 rfl rfl ?_
      refine go_iconst hc dX5_takeWhole_46 ci_4 ?_
      refine go_aload_n hc dX5_takeWhole_47 rfl rfl ?_
      refine go_getC (b := 43) rfl hc ho flX5_37 dX5_takeWhole_48 ok_48 ?_
      refine go_getI hc ho flX5_84 dX5_takeWhole_51 ok_43 ?_
      obtain ⟨r1, σ2, hf3, h⟩ := obi_some h
      refine go_callVi hc ho cmX5_fail mlX5_87 dX5_takeWhole_54 ok_48 (As := [.int (4 : Int32), .int (mI σ 43 9)]) (rest := []) (rX5_fail (N := 0) hf3 (Nat.le_refl _)) rfl (Nat.le_trans (Nat.le_of_ble_eq_true rfl) hN) rfl (Nat.le_of_ble_eq_true rfl) (Or.inl hz) ?_
      refine go_pop hc dX5_takeWhole_57 rfl ?_
      refine go_iconst hc dX5_takeWhole_58 ci_m1 ?_
      exact go_iret hc (oend_i h hE) hr dX5_takeWhole_59
    · rw [if_neg hh] at h
      refine go_iload_n hc dX5_takeWhole_40 rfl rfl ?_
      refine go_iload_n hc dX5_takeWhole_41 rfl rfl ?_
      refine go_icmp_le (tgt := 60) hc dX5_takeWhole_42 rfl (fun hh => ?_) (fun hh => ?_)
      · rw [if_pos hh] at h
        refine go_aload_n hc dX5_takeWhole_60 rfl rfl ?_
        refine go_getC (b := 43) rfl hc ho flX5_37 dX5_takeWhole_61 ok_48 ?_
        obtain ⟨σ5, hf6, h⟩ := obv_some h
        refine go_callVv hc ho cmX6_advance mlX5_97 dX5_takeWhole_64 ok_43 (As := []) (rest := []) (rX6_advance (N := 0) hf6 (Nat.le_refl _)) rfl (Nat.le_trans (Nat.le_of_ble_eq_true rfl) hN) rfl (Nat.le_of_ble_eq_true rfl) (Or.inl hz) ?_
        refine go_iload_n hc dX5_takeWhole_67 rfl rfl ?_
        exact go_iret hc (oend_i h hE) hr dX5_takeWhole_68
      · rw [if_neg hh] at h
        refine go_aload_n hc dX5_takeWhole_45 rfl rfl ?_
        refine go_iconst hc dX5_takeWhole_46 ci_4 ?_
        refine go_aload_n hc dX5_takeWhole_47 rfl rfl ?_
        refine go_getC (b := 43) rfl hc ho flX5_37 dX5_takeWhole_48 ok_48 ?_
        refine go_getI hc ho flX5_84 dX5_takeWhole_51 ok_43 ?_
        obtain ⟨r7, σ8, hf9, h⟩ := obi_some h
        refine go_callVi hc ho cmX5_fail mlX5_87 dX5_takeWhole_54 ok_48 (As := [.int (4 : Int32), .int (mI σ 43 9)]) (rest := []) (rX5_fail (N := 0) hf9 (Nat.le_refl _)) rfl (Nat.le_trans (Nat.le_of_ble_eq_true rfl) hN) rfl (Nat.le_of_ble_eq_true rfl) (Or.inl hz) ?_
        refine go_pop hc dX5_takeWhole_57 rfl ?_
        refine go_iconst hc dX5_takeWhole_58 ci_m1 ?_
        exact go_iret hc (oend_i h hE) hr dX5_takeWhole_59
  · rw [if_neg hh] at h
    refine go_aload_n hc dX5_takeWhole_11 rfl rfl ?_
    refine go_iconst hc dX5_takeWhole_12 ci_1 ?_
    refine go_aload_n hc dX5_takeWhole_13 rfl rfl ?_
    refine go_getC (b := 43) rfl hc ho flX5_37 dX5_takeWhole_14 ok_48 ?_
    refine go_getI hc ho flX5_84 dX5_takeWhole_17 ok_43 ?_
    obtain ⟨r10, σ11, hf12, h⟩ := obi_some h
    refine go_callVi hc ho cmX5_fail mlX5_87 dX5_takeWhole_20 ok_48 (As := [.int (1 : Int32), .int (mI σ 43 9)]) (rest := []) (rX5_fail (N := 0) hf12 (Nat.le_refl _)) rfl (Nat.le_trans (Nat.le_of_ble_eq_true rfl) hN) rfl (Nat.le_of_ble_eq_true rfl) (Or.inl hz) ?_
    refine go_pop hc dX5_takeWhole_23 rfl ?_
    refine go_iconst hc dX5_takeWhole_24 ci_m1 ?_
    exact go_iret hc (oend_i h hE) hr dX5_takeWhole_25
def fX5_readWell (σ : OM) : Option (Int32 × OM) :=
  obi (fX5_takeWord (7237495 : Int64) σ) (fun r1 σ2 =>
  if r1 = 0 then (
   some ((0 : Int32), σ2))
  else (ogd (decide (okd (mR σ2 48 1) = 8)) (
  obi (fX5_takeWhole (0 : Int32) (999 : Int32) σ2) (fun r5 σ6 =>
  if (mI (sI σ6 ((mR σ2 48 1) + 5) 6 r5) 48 2) = 0 then (
   some ((1 : Int32), sI σ6 ((mR σ2 48 1) + 5) 6 r5))
  else (some ((0 : Int32), sI σ6 ((mR σ2 48 1) + 5) 6 r5))))))
set_option maxRecDepth 100000 in
set_option maxHeartbeats 4000000 in
theorem rX5_readWell {N : Nat} {σ : OM} {r0 : Int32} {σ0 : OM} (h : fX5_readWell σ = some (r0, σ0)) (hN0 : 2 ≤ N) : oEv N MX5_readWell [.ref 48] σ (some (.int r0)) σ0 := by
  refine oEv_of (lv := [.ref 48]) (by decide +kernel) (fun g q hq => hq) (fun g => Nat.le_of_ble_eq_true rfl) ?_
  intro K hc ho hL hN1 hr hE hz
  have hN : 2 ≤ kN K := by rw [hN1]; exact hN0
  unfold fX5_readWell at h
  refine go_aload_n hc dX5_readWell_0 rfl rfl ?_
  refine go_ldc2 hc ho klX5_141 dX5_readWell_1 ?_
  obtain ⟨r1, σ2, hf3, h⟩ := obi_some h
  refine go_callVi hc ho cmX5_takeWord mlX5_143 dX5_readWell_4 ok_48 (As := [.long (7237495 : Int64)]) (rest := []) (rX5_takeWord (N := 1) hf3 (Nat.le_refl _)) rfl (Nat.le_trans (Nat.le_of_ble_eq_true rfl) hN) rfl (Nat.le_of_ble_eq_true rfl) (Or.inl hz) ?_
  refine go_if_ne (tgt := 12) hc dX5_readWell_7 rfl (fun hh => ?_) (fun hh => ?_)
  · rw [if_neg hh] at h
    refine go_aload_n hc dX5_readWell_12 rfl rfl ?_
    obtain ⟨hg4, h⟩ := ogd_some h
    refine go_getR hc ho flX5_41 dX5_readWell_13 ok_48 ?_
    refine go_getC (b := (mR σ2 48 1) + 5) (ow_c0_1 (of_decide_eq_true hg4)) hc ho flX5_147 dX5_readWell_16 (of_decide_eq_true hg4) ?_
    refine go_aload_n hc dX5_readWell_19 rfl rfl ?_
    refine go_iconst hc dX5_readWell_20 ci_0 ?_
    refine go_sipush hc dX5_readWell_21 cs_999 ?_
    obtain ⟨r5, σ6, hf7, h⟩ := obi_some h
    refine go_callVi hc ho cmX5_takeWhole mlX5_151 dX5_readWell_24 ok_48 (As := [.int (0 : Int32), .int (999 : Int32)]) (rest := [.ref ((mR σ2 48 1) + 5)]) (rX5_takeWhole (N := 1) hf7 (Nat.le_refl _)) rfl (Nat.le_trans (Nat.le_of_ble_eq_true rfl) hN) rfl (Nat.le_of_ble_eq_true rfl) (Or.inl hz) ?_
    refine go_putI hc ho fpX5_155 dX5_readWell_27 (ow_k5 (of_decide_eq_true hg4)) (fun g => oni g _) (fun _ => rfl) ?_
    refine go_aload_n hc dX5_readWell_30 rfl rfl ?_
    refine go_getI hc ho flX5_50 dX5_readWell_31 ok_48 ?_
    refine go_if_ne (tgt := 41) hc dX5_readWell_34 rfl (fun hh => ?_) (fun hh => ?_)
    · rw [if_neg hh] at h
      refine go_iconst hc dX5_readWell_41 ci_0 ?_
      exact go_zret hc (oend_i h hE) hr rfl dX5_readWell_42
    · rw [if_pos hh] at h
      refine go_iconst hc dX5_readWell_37 ci_1 ?_
      refine go_goto (tgt := 42) hc dX5_readWell_38 rfl ?_
      exact go_zret hc (oend_i h hE) hr rfl dX5_readWell_42
  · rw [if_pos hh] at h
    refine go_iconst hc dX5_readWell_10 ci_0 ?_
    exact go_zret hc (oend_i h hE) hr rfl dX5_readWell_11
def fX5_findName_b2 : Nat → Int32 → OM → Option (Int32 × OM)
  | 0, _, _ => none
  | n + 1, l1, σ =>
    if (mI σ 48 8) ≤ l1 then (
     some (((-1) : Int32), σ))
    else (if (20 : Int32) ≤ l1 then (
     some (((-1) : Int32), σ))
    else (ogd (oin l1 20) (
    if (lg_cmp (mL σ 50 l1.toNatClampNeg) (mL σ 43 10)) = 0 then (
     some (l1, σ))
    else (fX5_findName_b2 n (l1 + 1) σ))))
set_option maxRecDepth 100000 in
set_option maxHeartbeats 4000000 in
theorem rX5_findName_b2 {K : OK} (hc : kcc K = cX5_findName) (ho : kow K = RX5) (hL : knL K = 2) (hN : 0 ≤ kN K) (hr : (kme K).sig.returnType = (some .int)) {r0 : Int32} {σ0 : OM} (hE : oEnd K (some (.int r0)) σ0) (hz : kz K = 0) : ∀ (n : Nat) (l1 : Int32) (σ : OM), fX5_findName_b2 n l1 σ = some (r0, σ0) → Go K 2 [.ref 48, .int l1] [] σ := by
  intro n
  induction n with
  | zero =>
    intro l1 σ h
    cases h
  | succ n ih =>
    intro l1 σ h
    rw [fX5_findName_b2] at h
    refine go_iload_n hc dX5_findName_2 rfl rfl ?_
    refine go_aload_n hc dX5_findName_3 rfl rfl ?_
    refine go_getI hc ho flX5_57 dX5_findName_4 ok_48 ?_
    refine go_icmp_ge (tgt := 41) hc dX5_findName_7 rfl (fun hh => ?_) (fun hh => ?_)
    · rw [if_pos hh] at h
      refine go_iconst hc dX5_findName_41 ci_m1 ?_
      exact go_iret hc (oend_i h hE) hr dX5_findName_42
    · rw [if_neg hh] at h
      refine go_iload_n hc dX5_findName_10 rfl rfl ?_
      refine go_bipush hc dX5_findName_11 cb_20 ?_
      refine go_icmp_ge (tgt := 41) hc dX5_findName_13 rfl (fun hh => ?_) (fun hh => ?_)
      · rw [if_pos hh] at h
        refine go_iconst hc dX5_findName_41 ci_m1 ?_
        exact go_iret hc (oend_i h hE) hr dX5_findName_42
      · rw [if_neg hh] at h
        refine go_aload_n hc dX5_findName_16 rfl rfl ?_
        refine go_getC (b := 50) rfl hc ho flX5_17 dX5_findName_17 ok_48 ?_
        refine go_iload_n hc dX5_findName_20 rfl rfl ?_
        obtain ⟨hg1, h⟩ := ogd_some h
        refine go_lald hc dX5_findName_21 ok_50 ol_50 hg1 rfl ?_
        refine go_aload_n hc dX5_findName_22 rfl rfl ?_
        refine go_getC (b := 43) rfl hc ho flX5_37 dX5_findName_23 ok_48 ?_
        refine go_getL hc ho flX5_302 dX5_findName_26 ok_43 ?_
        refine go_lcmp hc dX5_findName_29 ?_
        refine go_if_ne (tgt := 35) hc dX5_findName_30 rfl (fun hh => ?_) (fun hh => ?_)
        · rw [if_neg hh] at h
          refine go_iinc hc (lv1 := [.ref 48, .int (l1 + 1)]) dX5_findName_35 rfl ci_1 hL (by decide) (fun _ _ e => by cases e; rfl) rfl ?_
          refine go_goto (tgt := 2) hc dX5_findName_38 rfl ?_
          exact ih (l1 + 1) _ h
        · rw [if_pos hh] at h
          refine go_iload_n hc dX5_findName_33 rfl rfl ?_
          exact go_iret hc (oend_i h hE) hr dX5_findName_34
def fX5_findName (σ : OM) : Option (Int32 × OM) :=
  fX5_findName_b2 oF (0 : Int32) σ
set_option maxRecDepth 100000 in
set_option maxHeartbeats 4000000 in
theorem rX5_findName {N : Nat} {σ : OM} {r0 : Int32} {σ0 : OM} (h : fX5_findName σ = some (r0, σ0)) (hN0 : 0 ≤ N) : oEv N MX5_findName [.ref 48] σ (some (.int r0)) σ0 := by
  refine oEv_of (lv := [.ref 48, .null]) (by decide +kernel) (fun g q hq => hq) (fun g => Nat.le_of_ble_eq_true rfl) ?_
  intro K hc ho hL hN1 hr hE hz
  have hN : 0 ≤ kN K := by rw [hN1]; exact hN0
  unfold fX5_findName at h
  refine go_iconst hc dX5_findName_0 ci_0 ?_
  refine go_istore_n hc (lv1 := [.ref 48, .int (0 : Int32)]) dX5_findName_1 rfl hL (by decide) (fun _ _ e => by cases e; rfl) rfl ?_
  exact rX5_findName_b2 hc ho hL hN hr hE hz oF (0 : Int32) _ h
def fX5_takeNewName (x0 : Int32) (x1 : Int32) (σ : OM) : Option (Int32 × OM) :=
  if (mI σ 43 8) = (1 : Int32) then (
   obi (fX5_findName σ) (fun r1 σ2 =>
   if r1 = ((-1) : Int32) then (
    if (mI σ2 48 8) < (20 : Int32) then (
     ogd (oin (mI σ2 48 8) 20) (
     ogd (oin (mI (sL σ2 50 ((mI σ2 48 8).toNatClampNeg) (mL σ2 43 10)) 48 8) 20) (
     ogd (oin (mI (sI (sL σ2 50 ((mI σ2 48 8).toNatClampNeg) (mL σ2 43 10)) 51 ((mI (sL σ2 50 ((mI σ2 48 8).toNatClampNeg) (mL σ2 43 10)) 48 8).toNatClampNeg) x0) 48 8) 20) (
     obv (fX6_advance (sI (sI (sI (sL σ2 50 ((mI σ2 48 8).toNatClampNeg) (mL σ2 43 10)) 51 ((mI (sL σ2 50 ((mI σ2 48 8).toNatClampNeg) (mL σ2 43 10)) 48 8).toNatClampNeg) x0) 52 ((mI (sI (sL σ2 50 ((mI σ2 48 8).toNatClampNeg) (mL σ2 43 10)) 51 ((mI (sL σ2 50 ((mI σ2 48 8).toNatClampNeg) (mL σ2 43 10)) 48 8).toNatClampNeg) x0) 48 8).toNatClampNeg) x1) 48 8 ((mI (sI (sI (sL σ2 50 ((mI σ2 48 8).toNatClampNeg) (mL σ2 43 10)) 51 ((mI (sL σ2 50 ((mI σ2 48 8).toNatClampNeg) (mL σ2 43 10)) 48 8).toNatClampNeg) x0) 52 ((mI (sI (sL σ2 50 ((mI σ2 48 8).toNatClampNeg) (mL σ2 43 10)) 51 ((mI (sL σ2 50 ((mI σ2 48 8).toNatClampNeg) (mL σ2 43 10)) 48 8).toNatClampNeg) x0) 48 8).toNatClampNeg) x1) 48 8) + (1 : Int32)))) (fun σ8 =>
     some ((1 : Int32), σ8))))))
    else (obi (fX5_fail (5 : Int32) (mI σ2 43 9) σ2) (fun r10 σ11 =>
    ogd (oisb r10) (some (r10, σ11)))))
   else (obi (fX5_fail (3 : Int32) (mI σ2 43 9) σ2) (fun r14 σ15 =>
   ogd (oisb r14) (some (r14, σ15))))))
  else (obi (fX5_fail (1 : Int32) (mI σ 43 9) σ) (fun r18 σ19 =>
  ogd (oisb r18) (some (r18, σ19))))
set_option maxRecDepth 100000 in
set_option maxHeartbeats 4000000 in
theorem rX5_takeNewName {N : Nat} {x0 : Int32} {x1 : Int32} {σ : OM} {r0 : Int32} {σ0 : OM} (h : fX5_takeNewName x0 x1 σ = some (r0, σ0)) (hN0 : 1 ≤ N) : oEv N MX5_takeNewName [.ref 48, .int x0, .int x1] σ (some (.int r0)) σ0 := by
  refine oEv_of (lv := [.ref 48, .int x0, .int x1]) (by decide +kernel) (fun g q hq => hq) (fun g => Nat.le_of_ble_eq_true rfl) ?_
  intro K hc ho hL hN1 hr hE hz
  have hN : 1 ≤ kN K := by rw [hN1]; exact hN0
  unfold fX5_takeNewName at h
  refine go_aload_n hc dX5_takeNewName_0 rfl rfl ?_
  refine go_getC (b := 43) rfl hc ho flX5_37 dX5_takeNewName_1 ok_48 ?_
  refine go_getI hc ho flX5_94 dX5_takeNewName_4 ok_43 ?_
  refine go_iconst hc dX5_takeNewName_7 ci_1 ?_
  refine go_icmp_eq (tgt := 24) hc dX5_takeNewName_8 rfl (fun hh => ?_) (fun hh => ?_)
  · rw [if_pos hh] at h
    refine go_aload_n hc dX5_takeNewName_24 rfl rfl ?_
    obtain ⟨r1, σ2, hf3, h⟩ := obi_some h
    refine go_callVi hc ho cmX5_findName mlX5_305 dX5_takeNewName_25 ok_48 (As := []) (rest := []) (rX5_findName (N := 0) hf3 (Nat.le_refl _)) rfl (Nat.le_trans (Nat.le_of_ble_eq_true rfl) hN) rfl (Nat.le_of_ble_eq_true rfl) (Or.inl hz) ?_
    refine go_iconst hc dX5_takeNewName_28 ci_m1 ?_
    refine go_icmp_eq (tgt := 45) hc dX5_takeNewName_29 rfl (fun hh => ?_) (fun hh => ?_)
    · rw [if_pos hh] at h
      refine go_aload_n hc dX5_takeNewName_45 rfl rfl ?_
      refine go_getI hc ho flX5_57 dX5_takeNewName_46 ok_48 ?_
      refine go_bipush hc dX5_takeNewName_49 cb_20 ?_
      refine go_icmp_lt (tgt := 67) hc dX5_takeNewName_51 rfl (fun hh => ?_) (fun hh => ?_)
      · rw [if_pos hh] at h
        refine go_aload_n hc dX5_takeNewName_67 rfl rfl ?_
        refine go_getC (b := 50) rfl hc ho flX5_17 dX5_takeNewName_68 ok_48 ?_
        refine go_aload_n hc dX5_takeNewName_71 rfl rfl ?_
        refine go_getI hc ho flX5_57 dX5_takeNewName_72 ok_48 ?_
        refine go_aload_n hc dX5_takeNewName_75 rfl rfl ?_
        refine go_getC (b := 43) rfl hc ho flX5_37 dX5_takeNewName_76 ok_48 ?_
        refine go_getL hc ho flX5_302 dX5_takeNewName_79 ok_43 ?_
        obtain ⟨hg4, h⟩ := ogd_some h
        refine go_last hc dX5_takeNewName_82 ok_50 ol_50 hg4 rfl ?_
        refine go_aload_n hc dX5_takeNewName_83 rfl rfl ?_
        refine go_getC (b := 51) rfl hc ho flX5_21 dX5_takeNewName_84 ok_48 ?_
        refine go_aload_n hc dX5_takeNewName_87 rfl rfl ?_
        refine go_getI hc ho flX5_57 dX5_takeNewName_88 ok_48 ?_
        refine go_iload_n hc dX5_takeNewName_91 rfl rfl ?_
        obtain ⟨hg5, h⟩ := ogd_some h
        refine go_iast hc dX5_takeNewName_92 ok_51 ol_51 hg5 rfl ?_
        refine go_aload_n hc dX5_takeNewName_93 rfl rfl ?_
        refine go_getC (b := 52) rfl hc ho flX5_24 dX5_takeNewName_94 ok_48 ?_
        refine go_aload_n hc dX5_takeNewName_97 rfl rfl ?_
        refine go_getI hc ho flX5_57 dX5_takeNewName_98 ok_48 ?_
        refine go_iload_n hc dX5_takeNewName_101 rfl rfl ?_
        obtain ⟨hg6, h⟩ := ogd_some h
        refine go_iast hc dX5_takeNewName_102 ok_52 ol_52 hg6 rfl ?_
        refine go_aload_n hc dX5_takeNewName_103 rfl rfl ?_
        refine go_dup hc dX5_takeNewName_104 rfl ?_
        refine go_getI hc ho flX5_57 dX5_takeNewName_105 ok_48 ?_
        refine go_iconst hc dX5_takeNewName_108 ci_1 ?_
        refine go_iadd hc dX5_takeNewName_109 ?_
        refine go_putI hc ho fpX5_57 dX5_takeNewName_110 ok_48 (fun g => oni g _) (fun _ => rfl) ?_
        refine go_aload_n hc dX5_takeNewName_113 rfl rfl ?_
        refine go_getC (b := 43) rfl hc ho flX5_37 dX5_takeNewName_114 ok_48 ?_
        obtain ⟨σ8, hf9, h⟩ := obv_some h
        refine go_callVv hc ho cmX6_advance mlX5_97 dX5_takeNewName_117 ok_43 (As := []) (rest := []) (rX6_advance (N := 0) hf9 (Nat.le_refl _)) rfl (Nat.le_trans (Nat.le_of_ble_eq_true rfl) hN) rfl (Nat.le_of_ble_eq_true rfl) (Or.inl hz) ?_
        refine go_iconst hc dX5_takeNewName_120 ci_1 ?_
        exact go_zret hc (oend_i h hE) hr rfl dX5_takeNewName_121
      · rw [if_neg hh] at h
        refine go_aload_n hc dX5_takeNewName_54 rfl rfl ?_
        refine go_iconst hc dX5_takeNewName_55 ci_5 ?_
        refine go_aload_n hc dX5_takeNewName_56 rfl rfl ?_
        refine go_getC (b := 43) rfl hc ho flX5_37 dX5_takeNewName_57 ok_48 ?_
        refine go_getI hc ho flX5_84 dX5_takeNewName_60 ok_43 ?_
        obtain ⟨r10, σ11, hf12, h⟩ := obi_some h
        refine go_callVi hc ho cmX5_fail mlX5_87 dX5_takeNewName_63 ok_48 (As := [.int (5 : Int32), .int (mI σ2 43 9)]) (rest := []) (rX5_fail (N := 0) hf12 (Nat.le_refl _)) rfl (Nat.le_trans (Nat.le_of_ble_eq_true rfl) hN) rfl (Nat.le_of_ble_eq_true rfl) (Or.inl hz) ?_
        obtain ⟨hg13, h⟩ := ogd_some h
        exact go_zret hc (oend_i h hE) hr (oisb_n hg13) dX5_takeNewName_66
    · rw [if_neg hh] at h
      refine go_aload_n hc dX5_takeNewName_32 rfl rfl ?_
      refine go_iconst hc dX5_takeNewName_33 ci_3 ?_
      refine go_aload_n hc dX5_takeNewName_34 rfl rfl ?_
      refine go_getC (b := 43) rfl hc ho flX5_37 dX5_takeNewName_35 ok_48 ?_
      refine go_getI hc ho flX5_84 dX5_takeNewName_38 ok_43 ?_
      obtain ⟨r14, σ15, hf16, h⟩ := obi_some h
      refine go_callVi hc ho cmX5_fail mlX5_87 dX5_takeNewName_41 ok_48 (As := [.int (3 : Int32), .int (mI σ2 43 9)]) (rest := []) (rX5_fail (N := 0) hf16 (Nat.le_refl _)) rfl (Nat.le_trans (Nat.le_of_ble_eq_true rfl) hN) rfl (Nat.le_of_ble_eq_true rfl) (Or.inl hz) ?_
      obtain ⟨hg17, h⟩ := ogd_some h
      exact go_zret hc (oend_i h hE) hr (oisb_n hg17) dX5_takeNewName_44
  · rw [if_neg hh] at h
    refine go_aload_n hc dX5_takeNewName_11 rfl rfl ?_
    refine go_iconst hc dX5_takeNewName_12 ci_1 ?_
    refine go_aload_n hc dX5_takeNewName_13 rfl rfl ?_
    refine go_getC (b := 43) rfl hc ho flX5_37 dX5_takeNewName_14 ok_48 ?_
    refine go_getI hc ho flX5_84 dX5_takeNewName_17 ok_43 ?_
    obtain ⟨r18, σ19, hf20, h⟩ := obi_some h
    refine go_callVi hc ho cmX5_fail mlX5_87 dX5_takeNewName_20 ok_48 (As := [.int (1 : Int32), .int (mI σ 43 9)]) (rest := []) (rX5_fail (N := 0) hf20 (Nat.le_refl _)) rfl (Nat.le_trans (Nat.le_of_ble_eq_true rfl) hN) rfl (Nat.le_of_ble_eq_true rfl) (Or.inl hz) ?_
    obtain ⟨hg21, h⟩ := ogd_some h
    exact go_zret hc (oend_i h hE) hr (oisb_n hg21) dX5_takeNewName_23
def fX5_readFact (σ : OM) : Option (Int32 × OM) :=
  ogd (decide (okd (mR σ 48 1) = 8)) (
  if (6 : Int32) ≤ (mI σ ((mR σ 48 1) + 1) 0) then (
   some ((0 : Int32), σ))
  else (obi (fX5_takeNewName (1 : Int32) (mI σ ((mR σ 48 1) + 1) 0) σ) (fun r2 σ3 =>
  if r2 = 0 then (
   some ((0 : Int32), σ3))
  else (obi (fX5_takeWord (1868850291 : Int64) σ3) (fun r5 σ6 =>
  if r5 = 0 then (
   some ((0 : Int32), σ6))
  else (ogd (decide (okd (mR σ6 48 1) = 8)) (
  obi (fX5_takeWhole (1 : Int32) (9 : Int32) σ6) (fun r9 σ10 =>
  ogd (oin (mI σ ((mR σ 48 1) + 1) 0) 6) (
  ogd (decide (okd (mR (sI σ10 ((mR σ6 48 1) + 2) ((mI σ ((mR σ 48 1) + 1) 0).toNatClampNeg) r9) 48 1) = 8)) (
  if (mI (sI (sI σ10 ((mR σ6 48 1) + 2) ((mI σ ((mR σ 48 1) + 1) 0).toNatClampNeg) r9) ((mR (sI σ10 ((mR σ6 48 1) + 2) ((mI σ ((mR σ 48 1) + 1) 0).toNatClampNeg) r9) 48 1) + 1) 0 ((mI (sI σ10 ((mR σ6 48 1) + 2) ((mI σ ((mR σ 48 1) + 1) 0).toNatClampNeg) r9) ((mR (sI σ10 ((mR σ6 48 1) + 2) ((mI σ ((mR σ 48 1) + 1) 0).toNatClampNeg) r9) 48 1) + 1) 0) + (1 : Int32))) 48 2) = 0 then (
   some ((1 : Int32), sI (sI σ10 ((mR σ6 48 1) + 2) ((mI σ ((mR σ 48 1) + 1) 0).toNatClampNeg) r9) ((mR (sI σ10 ((mR σ6 48 1) + 2) ((mI σ ((mR σ 48 1) + 1) 0).toNatClampNeg) r9) 48 1) + 1) 0 ((mI (sI σ10 ((mR σ6 48 1) + 2) ((mI σ ((mR σ 48 1) + 1) 0).toNatClampNeg) r9) ((mR (sI σ10 ((mR σ6 48 1) + 2) ((mI σ ((mR σ 48 1) + 1) 0).toNatClampNeg) r9) 48 1) + 1) 0) + (1 : Int32))))
  else (some ((0 : Int32), sI (sI σ10 ((mR σ6 48 1) + 2) ((mI σ ((mR σ 48 1) + 1) 0).toNatClampNeg) r9) ((mR (sI σ10 ((mR σ6 48 1) + 2) ((mI σ ((mR σ 48 1) + 1) 0).toNatClampNeg) r9) 48 1) + 1) 0 ((mI (sI σ10 ((mR σ6 48 1) + 2) ((mI σ ((mR σ 48 1) + 1) 0).toNatClampNeg) r9) ((mR (sI σ10 ((mR σ6 48 1) + 2) ((mI σ ((mR σ 48 1) + 1) 0).toNatClampNeg) r9) 48 1) + 1) 0) + (1 : Int32))))))))))))))
set_option maxRecDepth 100000 in
set_option maxHeartbeats 4000000 in
theorem rX5_readFact {N : Nat} {σ : OM} {r0 : Int32} {σ0 : OM} (h : fX5_readFact σ = some (r0, σ0)) (hN0 : 2 ≤ N) : oEv N MX5_readFact [.ref 48] σ (some (.int r0)) σ0 := by
  refine oEv_of (lv := [.ref 48, .null]) (by decide +kernel) (fun g q hq => hq) (fun g => Nat.le_of_ble_eq_true rfl) ?_
  intro K hc ho hL hN1 hr hE hz
  have hN : 2 ≤ kN K := by rw [hN1]; exact hN0
  unfold fX5_readFact at h
  refine go_aload_n hc dX5_readFact_0 rfl rfl ?_
  obtain ⟨hg1, h⟩ := ogd_some h
  refine go_getR hc ho flX5_41 dX5_readFact_1 ok_48 ?_
  refine go_getC (b := (mR σ 48 1) + 1) (ow_c0_0 (of_decide_eq_true hg1)) hc ho flX5_72 dX5_readFact_4 (of_decide_eq_true hg1) ?_
  refine go_getI hc ho flX5_76 dX5_readFact_7 (ow_k1 (of_decide_eq_true hg1)) ?_
  refine go_istore_n hc (lv1 := [.ref 48, .int (mI σ ((mR σ 48 1) + 1) 0)]) dX5_readFact_10 rfl hL (by decide) (fun _ _ e => by cases e; rfl) rfl ?_
  refine go_iload_n hc dX5_readFact_11 rfl rfl ?_
  refine go_bipush hc dX5_readFact_12 cb_6 ?_
  refine go_icmp_ge (tgt := 36) hc dX5_readFact_14 rfl (fun hh => ?_) (fun hh => ?_)
  · rw [if_pos hh] at h
    refine go_iconst hc dX5_readFact_36 ci_0 ?_
    exact go_zret hc (oend_i h hE) hr rfl dX5_readFact_37
  · rw [if_neg hh] at h
    refine go_aload_n hc dX5_readFact_17 rfl rfl ?_
    refine go_iconst hc dX5_readFact_18 ci_1 ?_
    refine go_iload_n hc dX5_readFact_19 rfl rfl ?_
    obtain ⟨r2, σ3, hf4, h⟩ := obi_some h
    refine go_callVi hc ho cmX5_takeNewName mlX5_160 dX5_readFact_20 ok_48 (As := [.int (1 : Int32), .int (mI σ ((mR σ 48 1) + 1) 0)]) (rest := []) (rX5_takeNewName (N := 1) hf4 (Nat.le_refl _)) rfl (Nat.le_trans (Nat.le_of_ble_eq_true rfl) hN) rfl (Nat.le_of_ble_eq_true rfl) (Or.inl hz) ?_
    refine go_if_eq (tgt := 36) hc dX5_readFact_23 rfl (fun hh => ?_) (fun hh => ?_)
    · rw [if_pos hh] at h
      refine go_iconst hc dX5_readFact_36 ci_0 ?_
      exact go_zret hc (oend_i h hE) hr rfl dX5_readFact_37
    · rw [if_neg hh] at h
      refine go_aload_n hc dX5_readFact_26 rfl rfl ?_
      refine go_ldc2 hc ho klX5_163 dX5_readFact_27 ?_
      obtain ⟨r5, σ6, hf7, h⟩ := obi_some h
      refine go_callVi hc ho cmX5_takeWord mlX5_143 dX5_readFact_30 ok_48 (As := [.long (1868850291 : Int64)]) (rest := []) (rX5_takeWord (N := 1) hf7 (Nat.le_refl _)) rfl (Nat.le_trans (Nat.le_of_ble_eq_true rfl) hN) rfl (Nat.le_of_ble_eq_true rfl) (Or.inl hz) ?_
      refine go_if_ne (tgt := 38) hc dX5_readFact_33 rfl (fun hh => ?_) (fun hh => ?_)
      · rw [if_neg hh] at h
        refine go_aload_n hc dX5_readFact_38 rfl rfl ?_
        obtain ⟨hg8, h⟩ := ogd_some h
        refine go_getR hc ho flX5_41 dX5_readFact_39 ok_48 ?_
        refine go_getC (b := (mR σ6 48 1) + 1) (ow_c0_0 (of_decide_eq_true hg8)) hc ho flX5_72 dX5_readFact_42 (of_decide_eq_true hg8) ?_
        refine go_getC (b := (mR σ6 48 1) + 2) (ow_c1_1 (of_decide_eq_true hg8)) hc ho flX5_165 dX5_readFact_45 (ow_k1 (of_decide_eq_true hg8)) ?_
        refine go_iload_n hc dX5_readFact_48 rfl rfl ?_
        refine go_aload_n hc dX5_readFact_49 rfl rfl ?_
        refine go_iconst hc dX5_readFact_50 ci_1 ?_
        refine go_bipush hc dX5_readFact_51 cb_9 ?_
        obtain ⟨r9, σ10, hf11, h⟩ := obi_some h
        refine go_callVi hc ho cmX5_takeWhole mlX5_151 dX5_readFact_53 ok_48 (As := [.int (1 : Int32), .int (9 : Int32)]) (rest := [.int (mI σ ((mR σ 48 1) + 1) 0), .ref ((mR σ6 48 1) + 2)]) (rX5_takeWhole (N := 1) hf11 (Nat.le_refl _)) rfl (Nat.le_trans (Nat.le_of_ble_eq_true rfl) hN) rfl (Nat.le_of_ble_eq_true rfl) (Or.inl hz) ?_
        obtain ⟨hg12, h⟩ := ogd_some h
        refine go_iast hc dX5_readFact_56 (ow_k2 (of_decide_eq_true hg8)) (ow_l2 (of_decide_eq_true hg8)) hg12 rfl ?_
        refine go_aload_n hc dX5_readFact_57 rfl rfl ?_
        obtain ⟨hg13, h⟩ := ogd_some h
        refine go_getR hc ho flX5_41 dX5_readFact_58 ok_48 ?_
        refine go_getC (b := (mR (sI σ10 ((mR σ6 48 1) + 2) ((mI σ ((mR σ 48 1) + 1) 0).toNatClampNeg) r9) 48 1) + 1) (ow_c0_0 (of_decide_eq_true hg13)) hc ho flX5_72 dX5_readFact_61 (of_decide_eq_true hg13) ?_
        refine go_dup hc dX5_readFact_64 rfl ?_
        refine go_getI hc ho flX5_76 dX5_readFact_65 (ow_k1 (of_decide_eq_true hg13)) ?_
        refine go_iconst hc dX5_readFact_68 ci_1 ?_
        refine go_iadd hc dX5_readFact_69 ?_
        refine go_putI hc ho fpX5_76 dX5_readFact_70 (ow_k1 (of_decide_eq_true hg13)) (fun g => oni g _) (fun _ => rfl) ?_
        refine go_aload_n hc dX5_readFact_73 rfl rfl ?_
        refine go_getI hc ho flX5_50 dX5_readFact_74 ok_48 ?_
        refine go_if_ne (tgt := 84) hc dX5_readFact_77 rfl (fun hh => ?_) (fun hh => ?_)
        · rw [if_neg hh] at h
          refine go_iconst hc dX5_readFact_84 ci_0 ?_
          exact go_zret hc (oend_i h hE) hr rfl dX5_readFact_85
        · rw [if_pos hh] at h
          refine go_iconst hc dX5_readFact_80 ci_1 ?_
          refine go_goto (tgt := 85) hc dX5_readFact_81 rfl ?_
          exact go_zret hc (oend_i h hE) hr rfl dX5_readFact_85
      · rw [if_pos hh] at h
        refine go_iconst hc dX5_readFact_36 ci_0 ?_
        exact go_zret hc (oend_i h hE) hr rfl dX5_readFact_37
def fX5_isLevel (σ : OM) : Option (Int32 × OM) :=
  if (mI σ 48 9) < 0 then (
   some ((0 : Int32), σ))
  else (if (8 : Int32) < (mI σ 48 9) then (
   some ((0 : Int32), σ))
  else (some ((1 : Int32), σ)))
set_option maxRecDepth 100000 in
set_option maxHeartbeats 4000000 in
theorem rX5_isLevel {N : Nat} {σ : OM} {r0 : Int32} {σ0 : OM} (h : fX5_isLevel σ = some (r0, σ0)) (hN0 : 0 ≤ N) : oEv N MX5_isLevel [.ref 48] σ (some (.int r0)) σ0 := by
  refine oEv_of (lv := [.ref 48]) (by decide +kernel) (fun g q hq => hq) (fun g => Nat.le_of_ble_eq_true rfl) ?_
  intro K hc ho hL hN1 hr hE hz
  have hN : 0 ≤ kN K := by rw [hN1]; exact hN0
  unfold fX5_isLevel at h
  refine go_aload_n hc dX5_isLevel_0 rfl rfl ?_
  refine go_getI hc ho flX5_257 dX5_isLevel_1 ok_48 ?_
  refine go_if_lt (tgt := 20) hc dX5_isLevel_4 rfl (fun hh => ?_) (fun hh => ?_)
  · rw [if_pos hh] at h
    refine go_iconst hc dX5_isLevel_20 ci_0 ?_
    exact go_zret hc (oend_i h hE) hr rfl dX5_isLevel_21
  · rw [if_neg hh] at h
    refine go_aload_n hc dX5_isLevel_7 rfl rfl ?_
    refine go_getI hc ho flX5_257 dX5_isLevel_8 ok_48 ?_
    refine go_bipush hc dX5_isLevel_11 cb_8 ?_
    refine go_icmp_gt (tgt := 20) hc dX5_isLevel_13 rfl (fun hh => ?_) (fun hh => ?_)
    · rw [if_pos hh] at h
      refine go_iconst hc dX5_isLevel_20 ci_0 ?_
      exact go_zret hc (oend_i h hE) hr rfl dX5_isLevel_21
    · rw [if_neg hh] at h
      refine go_iconst hc dX5_isLevel_16 ci_1 ?_
      refine go_goto (tgt := 21) hc dX5_isLevel_17 rfl ?_
      exact go_zret hc (oend_i h hE) hr rfl dX5_isLevel_21
def fX5_beginLevel (σ : OM) : Option OM :=
  obi (fX5_isLevel σ) (fun r1 σ2 =>
  if r1 = 0 then (
   some σ2)
  else (ogd (oin (mI σ2 48 9) 9) (
  ogd (oin (mI (sL σ2 53 ((mI σ2 48 9).toNatClampNeg) (0 : Int64)) 48 9) 9) (
  ogd (oin (mI (sL (sL σ2 53 ((mI σ2 48 9).toNatClampNeg) (0 : Int64)) 54 ((mI (sL σ2 53 ((mI σ2 48 9).toNatClampNeg) (0 : Int64)) 48 9).toNatClampNeg) ((-1) : Int64)) 48 9) 9) (
  some (sI (sL (sL σ2 53 ((mI σ2 48 9).toNatClampNeg) (0 : Int64)) 54 ((mI (sL σ2 53 ((mI σ2 48 9).toNatClampNeg) (0 : Int64)) 48 9).toNatClampNeg) ((-1) : Int64)) 55 ((mI (sL (sL σ2 53 ((mI σ2 48 9).toNatClampNeg) (0 : Int64)) 54 ((mI (sL σ2 53 ((mI σ2 48 9).toNatClampNeg) (0 : Int64)) 48 9).toNatClampNeg) ((-1) : Int64)) 48 9).toNatClampNeg) (vp_nar .boolean (0 : Int32))))))))
set_option maxRecDepth 100000 in
set_option maxHeartbeats 4000000 in
theorem rX5_beginLevel {N : Nat} {σ : OM} {σ0 : OM} (h : fX5_beginLevel σ = some σ0) (hN0 : 1 ≤ N) : oEv N MX5_beginLevel [.ref 48] σ (none) σ0 := by
  refine oEv_of (lv := [.ref 48]) (by decide +kernel) (fun g q hq => hq) (fun g => Nat.le_of_ble_eq_true rfl) ?_
  intro K hc ho hL hN1 hr hE hz
  have hN : 1 ≤ kN K := by rw [hN1]; exact hN0
  unfold fX5_beginLevel at h
  refine go_aload_n hc dX5_beginLevel_0 rfl rfl ?_
  obtain ⟨r1, σ2, hf3, h⟩ := obi_some h
  refine go_callVi hc ho cmX5_isLevel mlX5_278 dX5_beginLevel_1 ok_48 (As := []) (rest := []) (rX5_isLevel (N := 0) hf3 (Nat.le_refl _)) rfl (Nat.le_trans (Nat.le_of_ble_eq_true rfl) hN) rfl (Nat.le_of_ble_eq_true rfl) (Or.inl hz) ?_
  refine go_if_eq (tgt := 39) hc dX5_beginLevel_4 rfl (fun hh => ?_) (fun hh => ?_)
  · rw [if_pos hh] at h
    exact go_vret hc (oend_v h hE) hr dX5_beginLevel_39
  · rw [if_neg hh] at h
    refine go_aload_n hc dX5_beginLevel_7 rfl rfl ?_
    refine go_getC (b := 53) rfl hc ho flX5_27 dX5_beginLevel_8 ok_48 ?_
    refine go_aload_n hc dX5_beginLevel_11 rfl rfl ?_
    refine go_getI hc ho flX5_257 dX5_beginLevel_12 ok_48 ?_
    refine go_lconst hc dX5_beginLevel_15 cl_0 ?_
    obtain ⟨hg4, h⟩ := ogd_some h
    refine go_last hc dX5_beginLevel_16 ok_53 ol_53 hg4 rfl ?_
    refine go_aload_n hc dX5_beginLevel_17 rfl rfl ?_
    refine go_getC (b := 54) rfl hc ho flX5_30 dX5_beginLevel_18 ok_48 ?_
    refine go_aload_n hc dX5_beginLevel_21 rfl rfl ?_
    refine go_getI hc ho flX5_257 dX5_beginLevel_22 ok_48 ?_
    refine go_ldc2 hc ho klX5_281 dX5_beginLevel_25 ?_
    obtain ⟨hg5, h⟩ := ogd_some h
    refine go_last hc dX5_beginLevel_28 ok_54 ol_54 hg5 rfl ?_
    refine go_aload_n hc dX5_beginLevel_29 rfl rfl ?_
    refine go_getC (b := 55) rfl hc ho flX5_33 dX5_beginLevel_30 ok_48 ?_
    refine go_aload_n hc dX5_beginLevel_33 rfl rfl ?_
    refine go_getI hc ho flX5_257 dX5_beginLevel_34 ok_48 ?_
    refine go_iconst hc dX5_beginLevel_37 ci_0 ?_
    obtain ⟨hg6, h⟩ := ogd_some h
    refine go_zast hc dX5_beginLevel_38 ok_55 ol_55 hg6 rfl ?_
    exact go_vret hc (oend_v h hE) hr dX5_beginLevel_39
def fX5_turnNextFactor (σ : OM) : Option OM :=
  obi (fX5_isLevel σ) (fun r1 σ2 =>
  if r1 = 0 then (
   some σ2)
  else (ogd (oin (mI σ2 48 9) 9) (
  if (mI σ2 55 ((mI σ2 48 9).toNatClampNeg)) = 0 then (
   ogd (oin (mI σ2 48 9) 9) (
   some (sI σ2 55 ((mI σ2 48 9).toNatClampNeg) (vp_nar .boolean (1 : Int32)))))
  else (ogd (oin (mI σ2 48 9) 9) (
  some (sI σ2 55 ((mI σ2 48 9).toNatClampNeg) (vp_nar .boolean (0 : Int32))))))))
set_option maxRecDepth 100000 in
set_option maxHeartbeats 4000000 in
theorem rX5_turnNextFactor {N : Nat} {σ : OM} {σ0 : OM} (h : fX5_turnNextFactor σ = some σ0) (hN0 : 1 ≤ N) : oEv N MX5_turnNextFactor [.ref 48] σ (none) σ0 := by
  refine oEv_of (lv := [.ref 48]) (by decide +kernel) (fun g q hq => hq) (fun g => Nat.le_of_ble_eq_true rfl) ?_
  intro K hc ho hL hN1 hr hE hz
  have hN : 1 ≤ kN K := by rw [hN1]; exact hN0
  unfold fX5_turnNextFactor at h
  refine go_aload_n hc dX5_turnNextFactor_0 rfl rfl ?_
  obtain ⟨r1, σ2, hf3, h⟩ := obi_some h
  refine go_callVi hc ho cmX5_isLevel mlX5_278 dX5_turnNextFactor_1 ok_48 (As := []) (rest := []) (rX5_isLevel (N := 0) hf3 (Nat.le_refl _)) rfl (Nat.le_trans (Nat.le_of_ble_eq_true rfl) hN) rfl (Nat.le_of_ble_eq_true rfl) (Or.inl hz) ?_
  refine go_if_eq (tgt := 33) hc dX5_turnNextFactor_4 rfl (fun hh => ?_) (fun hh => ?_)
  · rw [if_pos hh] at h
    exact go_vret hc (oend_v h hE) hr dX5_turnNextFactor_33
  · rw [if_neg hh] at h
    refine go_aload_n hc dX5_turnNextFactor_7 rfl rfl ?_
    refine go_getC (b := 55) rfl hc ho flX5_33 dX5_turnNextFactor_8 ok_48 ?_
    refine go_aload_n hc dX5_turnNextFactor_11 rfl rfl ?_
    refine go_getI hc ho flX5_257 dX5_turnNextFactor_12 ok_48 ?_
    refine go_aload_n hc dX5_turnNextFactor_15 rfl rfl ?_
    refine go_getC (b := 55) rfl hc ho flX5_33 dX5_turnNextFactor_16 ok_48 ?_
    refine go_aload_n hc dX5_turnNextFactor_19 rfl rfl ?_
    refine go_getI hc ho flX5_257 dX5_turnNextFactor_20 ok_48 ?_
    obtain ⟨hg4, h⟩ := ogd_some h
    refine go_zald hc dX5_turnNextFactor_23 ok_55 ol_55 hg4 rfl ?_
    refine go_if_ne (tgt := 31) hc dX5_turnNextFactor_24 rfl (fun hh => ?_) (fun hh => ?_)
    · rw [if_neg hh] at h
      refine go_iconst hc dX5_turnNextFactor_31 ci_0 ?_
      obtain ⟨hg5, h⟩ := ogd_some h
      refine go_zast hc dX5_turnNextFactor_32 ok_55 ol_55 hg5 rfl ?_
      exact go_vret hc (oend_v h hE) hr dX5_turnNextFactor_33
    · rw [if_pos hh] at h
      refine go_iconst hc dX5_turnNextFactor_27 ci_1 ?_
      refine go_goto (tgt := 32) hc dX5_turnNextFactor_28 rfl ?_
      obtain ⟨hg6, h⟩ := ogd_some h
      refine go_zast hc dX5_turnNextFactor_32 ok_55 ol_55 hg6 rfl ?_
      exact go_vret hc (oend_v h hE) hr dX5_turnNextFactor_33
def fX5_readOpening_b63 (σ : OM) : Option (Int32 × OM) :=
  obi (fX5_fail (5 : Int32) (mI σ 43 9) σ) (fun r1 σ2 =>
  ogd (oisb r1) (some (r1, σ2)))
set_option maxRecDepth 100000 in
set_option maxHeartbeats 4000000 in
theorem rX5_readOpening_b63 {K : OK} (hc : kcc K = cX5_readOpening) (ho : kow K = RX5) (hL : knL K = 2) (hN : 2 ≤ kN K) (hr : (kme K).sig.returnType = (some .boolean)) {r0 : Int32} {σ0 : OM} (hE : oEnd K (some (.int r0)) σ0) (hz : kz K = 0) {σ : OM} (h : fX5_readOpening_b63 σ = some (r0, σ0)) : Go K 63 [.ref 48, .null] [] σ := by
  unfold fX5_readOpening_b63 at h
  refine go_aload_n hc dX5_readOpening_63 rfl rfl ?_
  refine go_iconst hc dX5_readOpening_64 ci_5 ?_
  refine go_aload_n hc dX5_readOpening_65 rfl rfl ?_
  refine go_getC (b := 43) rfl hc ho flX5_37 dX5_readOpening_66 ok_48 ?_
  refine go_getI hc ho flX5_84 dX5_readOpening_69 ok_43 ?_
  obtain ⟨r1, σ2, hf3, h⟩ := obi_some h
  refine go_callVi hc ho cmX5_fail mlX5_87 dX5_readOpening_72 ok_48 (As := [.int (5 : Int32), .int (mI σ 43 9)]) (rest := []) (rX5_fail (N := 0) hf3 (Nat.le_refl _)) rfl (Nat.le_trans (Nat.le_of_ble_eq_true rfl) hN) rfl (Nat.le_of_ble_eq_true rfl) (Or.inl hz) ?_
  obtain ⟨hg4, h⟩ := ogd_some h
  exact go_zret hc (oend_i h hE) hr (oisb_n hg4) dX5_readOpening_75
def fX5_readOpening_b34 (rc2 : Int32 → OM → Option (Int32 × OM)) (l1 : Int32) (σ : OM) : Option (Int32 × OM) :=
  if (mI σ 43 8) = (268 : Int32) then (
   obv (fX5_turnNextFactor σ) (fun σ8 =>
   obv (fX6_advance σ8) (fun σ11 =>
   rc2 (l1 + 1) σ11)))
  else (if (mI σ 48 9) < (8 : Int32) then (
   obv (fX5_beginLevel (sI σ 48 9 ((mI σ 48 9) + (1 : Int32)))) (fun σ2 =>
   obv (fX6_advance σ2) (fun σ5 =>
   rc2 (l1 + 1) σ5)))
  else (fX5_readOpening_b63 σ))
set_option maxRecDepth 100000 in
set_option maxHeartbeats 4000000 in
theorem rX5_readOpening_b34 {K : OK} (hc : kcc K = cX5_readOpening) (ho : kow K = RX5) (hL : knL K = 2) (hN : 2 ≤ kN K) (hr : (kme K).sig.returnType = (some .boolean)) {r0 : Int32} {σ0 : OM} (hE : oEnd K (some (.int r0)) σ0) (hz : kz K = 0) {rc2 : Int32 → OM → Option (Int32 × OM)} (hrc2 : ∀ (l1 : Int32) (σ : OM), rc2 l1 σ = some (r0, σ0) → Go K 2 [.ref 48, .int l1] [] σ) {l1 : Int32} {σ : OM} (h : fX5_readOpening_b34 rc2 l1 σ = some (r0, σ0)) : Go K 34 [.ref 48, .int l1] [] σ := by
  unfold fX5_readOpening_b34 at h
  refine go_aload_n hc dX5_readOpening_34 rfl rfl ?_
  refine go_getC (b := 43) rfl hc ho flX5_37 dX5_readOpening_35 ok_48 ?_
  refine go_getI hc ho flX5_94 dX5_readOpening_38 ok_43 ?_
  refine go_sipush hc dX5_readOpening_41 cs_268 ?_
  refine go_icmp_ne (tgt := 54) hc dX5_readOpening_44 rfl (fun hh => ?_) (fun hh => ?_)
  · rw [if_neg hh] at h
    refine go_aload_n hc dX5_readOpening_54 rfl rfl ?_
    refine go_getI hc ho flX5_257 dX5_readOpening_55 ok_48 ?_
    refine go_bipush hc dX5_readOpening_58 cb_8 ?_
    refine go_icmp_lt (tgt := 76) hc dX5_readOpening_60 rfl (fun hh => ?_) (fun hh => ?_)
    · rw [if_pos hh] at h
      refine go_aload_n hc dX5_readOpening_76 rfl rfl ?_
      refine go_dup hc dX5_readOpening_77 rfl ?_
      refine go_getI hc ho flX5_257 dX5_readOpening_78 ok_48 ?_
      refine go_iconst hc dX5_readOpening_81 ci_1 ?_
      refine go_iadd hc dX5_readOpening_82 ?_
      refine go_putI hc ho fpX5_257 dX5_readOpening_83 ok_48 (fun g => oni g _) (fun _ => rfl) ?_
      refine go_aload_n hc dX5_readOpening_86 rfl rfl ?_
      obtain ⟨σ2, hf3, h⟩ := obv_some h
      refine go_callVv hc ho cmX5_beginLevel mlX5_263 dX5_readOpening_87 ok_48 (As := []) (rest := []) (rX5_beginLevel (N := 1) hf3 (Nat.le_refl _)) rfl (Nat.le_trans (Nat.le_of_ble_eq_true rfl) hN) rfl (Nat.le_of_ble_eq_true rfl) (Or.inl hz) ?_
      refine go_aload_n hc dX5_readOpening_90 rfl rfl ?_
      refine go_getC (b := 43) rfl hc ho flX5_37 dX5_readOpening_91 ok_48 ?_
      obtain ⟨σ5, hf6, h⟩ := obv_some h
      refine go_callVv hc ho cmX6_advance mlX5_97 dX5_readOpening_94 ok_43 (As := []) (rest := []) (rX6_advance (N := 0) hf6 (Nat.le_refl _)) rfl (Nat.le_trans (Nat.le_of_ble_eq_true rfl) hN) rfl (Nat.le_of_ble_eq_true rfl) (Or.inl hz) ?_
      refine go_iinc hc (lv1 := [.ref 48, .int (l1 + 1)]) dX5_readOpening_97 rfl ci_1 hL (by decide) (fun _ _ e => by cases e; rfl) rfl ?_
      refine go_goto (tgt := 2) hc dX5_readOpening_100 rfl ?_
      exact hrc2 (l1 + 1) _ h
    · rw [if_neg hh] at h
      refine go_mask [true, false] (lv1 := [.ref 48, .null]) rfl ?_
      exact rX5_readOpening_b63 hc ho hL hN hr hE hz h
  · rw [if_pos hh] at h
    refine go_aload_n hc dX5_readOpening_47 rfl rfl ?_
    obtain ⟨σ8, hf9, h⟩ := obv_some h
    refine go_callVv hc ho cmX5_turnNextFactor mlX5_283 dX5_readOpening_48 ok_48 (As := []) (rest := []) (rX5_turnNextFactor (N := 1) hf9 (Nat.le_refl _)) rfl (Nat.le_trans (Nat.le_of_ble_eq_true rfl) hN) rfl (Nat.le_of_ble_eq_true rfl) (Or.inl hz) ?_
    refine go_goto (tgt := 90) hc dX5_readOpening_51 rfl ?_
    refine go_aload_n hc dX5_readOpening_90 rfl rfl ?_
    refine go_getC (b := 43) rfl hc ho flX5_37 dX5_readOpening_91 ok_48 ?_
    obtain ⟨σ11, hf12, h⟩ := obv_some h
    refine go_callVv hc ho cmX6_advance mlX5_97 dX5_readOpening_94 ok_43 (As := []) (rest := []) (rX6_advance (N := 0) hf12 (Nat.le_refl _)) rfl (Nat.le_trans (Nat.le_of_ble_eq_true rfl) hN) rfl (Nat.le_of_ble_eq_true rfl) (Or.inl hz) ?_
    refine go_iinc hc (lv1 := [.ref 48, .int (l1 + 1)]) dX5_readOpening_97 rfl ci_1 hL (by decide) (fun _ _ e => by cases e; rfl) rfl ?_
    refine go_goto (tgt := 2) hc dX5_readOpening_100 rfl ?_
    exact hrc2 (l1 + 1) _ h
def fX5_readOpening_b2 : Nat → Int32 → OM → Option (Int32 × OM)
  | 0, _, _ => none
  | n + 1, l1, σ =>
    if (900 : Int32) < l1 then (
     some ((1 : Int32), σ))
    else (if (mI σ 43 8) = (40 : Int32) then (
     fX5_readOpening_b34 (fX5_readOpening_b2 n) l1 σ)
    else (if (mI σ 43 8) = (268 : Int32) then (
     fX5_readOpening_b34 (fX5_readOpening_b2 n) l1 σ)
    else (some ((1 : Int32), σ))))
set_option maxRecDepth 100000 in
set_option maxHeartbeats 4000000 in
theorem rX5_readOpening_b2 {K : OK} (hc : kcc K = cX5_readOpening) (ho : kow K = RX5) (hL : knL K = 2) (hN : 2 ≤ kN K) (hr : (kme K).sig.returnType = (some .boolean)) {r0 : Int32} {σ0 : OM} (hE : oEnd K (some (.int r0)) σ0) (hz : kz K = 0) : ∀ (n : Nat) (l1 : Int32) (σ : OM), fX5_readOpening_b2 n l1 σ = some (r0, σ0) → Go K 2 [.ref 48, .int l1] [] σ := by
  intro n
  induction n with
  | zero =>
    intro l1 σ h
    cases h
  | succ n ih =>
    intro l1 σ h
    rw [fX5_readOpening_b2] at h
    refine go_iload_n hc dX5_readOpening_2 rfl rfl ?_
    refine go_sipush hc dX5_readOpening_3 cs_900 ?_
    refine go_icmp_gt (tgt := 103) hc dX5_readOpening_6 rfl (fun hh => ?_) (fun hh => ?_)
    · rw [if_pos hh] at h
      refine go_iconst hc dX5_readOpening_103 ci_1 ?_
      exact go_zret hc (oend_i h hE) hr rfl dX5_readOpening_104
    · rw [if_neg hh] at h
      refine go_aload_n hc dX5_readOpening_9 rfl rfl ?_
      refine go_getC (b := 43) rfl hc ho flX5_37 dX5_readOpening_10 ok_48 ?_
      refine go_getI hc ho flX5_94 dX5_readOpening_13 ok_43 ?_
      refine go_bipush hc dX5_readOpening_16 cb_40 ?_
      refine go_icmp_eq (tgt := 34) hc dX5_readOpening_18 rfl (fun hh => ?_) (fun hh => ?_)
      · rw [if_pos hh] at h
        exact rX5_readOpening_b34 hc ho hL hN hr hE hz ih h
      · rw [if_neg hh] at h
        refine go_aload_n hc dX5_readOpening_21 rfl rfl ?_
        refine go_getC (b := 43) rfl hc ho flX5_37 dX5_readOpening_22 ok_48 ?_
        refine go_getI hc ho flX5_94 dX5_readOpening_25 ok_43 ?_
        refine go_sipush hc dX5_readOpening_28 cs_268 ?_
        refine go_icmp_ne (tgt := 103) hc dX5_readOpening_31 rfl (fun hh => ?_) (fun hh => ?_)
        · rw [if_neg hh] at h
          refine go_iconst hc dX5_readOpening_103 ci_1 ?_
          exact go_zret hc (oend_i h hE) hr rfl dX5_readOpening_104
        · rw [if_pos hh] at h
          exact rX5_readOpening_b34 hc ho hL hN hr hE hz ih h
def fX5_readOpening (σ : OM) : Option (Int32 × OM) :=
  fX5_readOpening_b2 oF (0 : Int32) σ
set_option maxRecDepth 100000 in
set_option maxHeartbeats 4000000 in
theorem rX5_readOpening {N : Nat} {σ : OM} {r0 : Int32} {σ0 : OM} (h : fX5_readOpening σ = some (r0, σ0)) (hN0 : 2 ≤ N) : oEv N MX5_readOpening [.ref 48] σ (some (.int r0)) σ0 := by
  refine oEv_of (lv := [.ref 48, .null]) (by decide +kernel) (fun g q hq => hq) (fun g => Nat.le_of_ble_eq_true rfl) ?_
  intro K hc ho hL hN1 hr hE hz
  have hN : 2 ≤ kN K := by rw [hN1]; exact hN0
  unfold fX5_readOpening at h
  refine go_iconst hc dX5_readOpening_0 ci_0 ?_
  refine go_istore_n hc (lv1 := [.ref 48, .int (0 : Int32)]) dX5_readOpening_1 rfl hL (by decide) (fun _ _ e => by cases e; rfl) rfl ?_
  exact rX5_readOpening_b2 hc ho hL hN hr hE hz oF (0 : Int32) _ h
def fX5_takeName (x0 : Int32) (σ : OM) : Option (Int32 × OM) :=
  if (mI σ 43 8) = (1 : Int32) then (
   obi (fX5_findName σ) (fun r1 σ2 =>
   if r1 < 0 then (
    obi (fX5_fail (2 : Int32) (mI σ2 43 9) σ2) (fun r4 σ5 =>
    some (((-1) : Int32), σ5)))
   else (if (20 : Int32) ≤ r1 then (
    obi (fX5_fail (2 : Int32) (mI σ2 43 9) σ2) (fun r7 σ8 =>
    some (((-1) : Int32), σ8)))
   else (ogd (oin r1 20) (
   if (mI σ2 51 r1.toNatClampNeg) = x0 then (
    obv (fX6_advance σ2) (fun σ12 =>
    ogd (oin r1 20) (
    some ((mI σ12 52 r1.toNatClampNeg), σ12))))
   else (obi (fX5_fail (2 : Int32) (mI σ2 43 9) σ2) (fun r15 σ16 =>
   some (((-1) : Int32), σ16))))))))
  else (obi (fX5_fail (1 : Int32) (mI σ 43 9) σ) (fun r18 σ19 =>
  some (((-1) : Int32), σ19)))
set_option maxRecDepth 100000 in
set_option maxHeartbeats 4000000 in
theorem rX5_takeName {N : Nat} {x0 : Int32} {σ : OM} {r0 : Int32} {σ0 : OM} (h : fX5_takeName x0 σ = some (r0, σ0)) (hN0 : 1 ≤ N) : oEv N MX5_takeName [.ref 48, .int x0] σ (some (.int r0)) σ0 := by
  refine oEv_of (lv := [.ref 48, .int x0, .null]) (by decide +kernel) (fun g q hq => hq) (fun g => Nat.le_of_ble_eq_true rfl) ?_
  intro K hc ho hL hN1 hr hE hz
  have hN : 1 ≤ kN K := by rw [hN1]; exact hN0
  unfold fX5_takeName at h
  refine go_aload_n hc dX5_takeName_0 rfl rfl ?_
  refine go_getC (b := 43) rfl hc ho flX5_37 dX5_takeName_1 ok_48 ?_
  refine go_getI hc ho flX5_94 dX5_takeName_4 ok_43 ?_
  refine go_iconst hc dX5_takeName_7 ci_1 ?_
  refine go_icmp_eq (tgt := 26) hc dX5_takeName_8 rfl (fun hh => ?_) (fun hh => ?_)
  · rw [if_pos hh] at h
    refine go_aload_n hc dX5_takeName_26 rfl rfl ?_
    obtain ⟨r1, σ2, hf3, h⟩ := obi_some h
    refine go_callVi hc ho cmX5_findName mlX5_305 dX5_takeName_27 ok_48 (As := []) (rest := []) (rX5_findName (N := 0) hf3 (Nat.le_refl _)) rfl (Nat.le_trans (Nat.le_of_ble_eq_true rfl) hN) rfl (Nat.le_of_ble_eq_true rfl) (Or.inl hz) ?_
    refine go_istore_n hc (lv1 := [.ref 48, .int x0, .int r1]) dX5_takeName_30 rfl hL (by decide) (fun _ _ e => by cases e; rfl) rfl ?_
    refine go_iload_n hc dX5_takeName_31 rfl rfl ?_
    refine go_if_lt (tgt := 51) hc dX5_takeName_32 rfl (fun hh => ?_) (fun hh => ?_)
    · rw [if_pos hh] at h
      refine go_aload_n hc dX5_takeName_51 rfl rfl ?_
      refine go_iconst hc dX5_takeName_52 ci_2 ?_
      refine go_aload_n hc dX5_takeName_53 rfl rfl ?_
      refine go_getC (b := 43) rfl hc ho flX5_37 dX5_takeName_54 ok_48 ?_
      refine go_getI hc ho flX5_84 dX5_takeName_57 ok_43 ?_
      obtain ⟨r4, σ5, hf6, h⟩ := obi_some h
      refine go_callVi hc ho cmX5_fail mlX5_87 dX5_takeName_60 ok_48 (As := [.int (2 : Int32), .int (mI σ2 43 9)]) (rest := []) (rX5_fail (N := 0) hf6 (Nat.le_refl _)) rfl (Nat.le_trans (Nat.le_of_ble_eq_true rfl) hN) rfl (Nat.le_of_ble_eq_true rfl) (Or.inl hz) ?_
      refine go_pop hc dX5_takeName_63 rfl ?_
      refine go_iconst hc dX5_takeName_64 ci_m1 ?_
      exact go_iret hc (oend_i h hE) hr dX5_takeName_65
    · rw [if_neg hh] at h
      refine go_iload_n hc dX5_takeName_35 rfl rfl ?_
      refine go_bipush hc dX5_takeName_36 cb_20 ?_
      refine go_icmp_ge (tgt := 51) hc dX5_takeName_38 rfl (fun hh => ?_) (fun hh => ?_)
      · rw [if_pos hh] at h
        refine go_aload_n hc dX5_takeName_51 rfl rfl ?_
        refine go_iconst hc dX5_takeName_52 ci_2 ?_
        refine go_aload_n hc dX5_takeName_53 rfl rfl ?_
        refine go_getC (b := 43) rfl hc ho flX5_37 dX5_takeName_54 ok_48 ?_
        refine go_getI hc ho flX5_84 dX5_takeName_57 ok_43 ?_
        obtain ⟨r7, σ8, hf9, h⟩ := obi_some h
        refine go_callVi hc ho cmX5_fail mlX5_87 dX5_takeName_60 ok_48 (As := [.int (2 : Int32), .int (mI σ2 43 9)]) (rest := []) (rX5_fail (N := 0) hf9 (Nat.le_refl _)) rfl (Nat.le_trans (Nat.le_of_ble_eq_true rfl) hN) rfl (Nat.le_of_ble_eq_true rfl) (Or.inl hz) ?_
        refine go_pop hc dX5_takeName_63 rfl ?_
        refine go_iconst hc dX5_takeName_64 ci_m1 ?_
        exact go_iret hc (oend_i h hE) hr dX5_takeName_65
      · rw [if_neg hh] at h
        refine go_aload_n hc dX5_takeName_41 rfl rfl ?_
        refine go_getC (b := 51) rfl hc ho flX5_21 dX5_takeName_42 ok_48 ?_
        refine go_iload_n hc dX5_takeName_45 rfl rfl ?_
        obtain ⟨hg10, h⟩ := ogd_some h
        refine go_iald hc dX5_takeName_46 ok_51 ol_51 hg10 rfl ?_
        refine go_iload_n hc dX5_takeName_47 rfl rfl ?_
        refine go_icmp_eq (tgt := 66) hc dX5_takeName_48 rfl (fun hh => ?_) (fun hh => ?_)
        · rw [if_pos hh] at h
          refine go_aload_n hc dX5_takeName_66 rfl rfl ?_
          refine go_getC (b := 43) rfl hc ho flX5_37 dX5_takeName_67 ok_48 ?_
          obtain ⟨σ12, hf13, h⟩ := obv_some h
          refine go_callVv hc ho cmX6_advance mlX5_97 dX5_takeName_70 ok_43 (As := []) (rest := []) (rX6_advance (N := 0) hf13 (Nat.le_refl _)) rfl (Nat.le_trans (Nat.le_of_ble_eq_true rfl) hN) rfl (Nat.le_of_ble_eq_true rfl) (Or.inl hz) ?_
          refine go_aload_n hc dX5_takeName_73 rfl rfl ?_
          refine go_getC (b := 52) rfl hc ho flX5_24 dX5_takeName_74 ok_48 ?_
          refine go_iload_n hc dX5_takeName_77 rfl rfl ?_
          obtain ⟨hg14, h⟩ := ogd_some h
          refine go_iald hc dX5_takeName_78 ok_52 ol_52 hg14 rfl ?_
          exact go_iret hc (oend_i h hE) hr dX5_takeName_79
        · rw [if_neg hh] at h
          refine go_aload_n hc dX5_takeName_51 rfl rfl ?_
          refine go_iconst hc dX5_takeName_52 ci_2 ?_
          refine go_aload_n hc dX5_takeName_53 rfl rfl ?_
          refine go_getC (b := 43) rfl hc ho flX5_37 dX5_takeName_54 ok_48 ?_
          refine go_getI hc ho flX5_84 dX5_takeName_57 ok_43 ?_
          obtain ⟨r15, σ16, hf17, h⟩ := obi_some h
          refine go_callVi hc ho cmX5_fail mlX5_87 dX5_takeName_60 ok_48 (As := [.int (2 : Int32), .int (mI σ2 43 9)]) (rest := []) (rX5_fail (N := 0) hf17 (Nat.le_refl _)) rfl (Nat.le_trans (Nat.le_of_ble_eq_true rfl) hN) rfl (Nat.le_of_ble_eq_true rfl) (Or.inl hz) ?_
          refine go_pop hc dX5_takeName_63 rfl ?_
          refine go_iconst hc dX5_takeName_64 ci_m1 ?_
          exact go_iret hc (oend_i h hE) hr dX5_takeName_65
  · rw [if_neg hh] at h
    refine go_aload_n hc dX5_takeName_11 rfl rfl ?_
    refine go_iconst hc dX5_takeName_12 ci_1 ?_
    refine go_aload_n hc dX5_takeName_13 rfl rfl ?_
    refine go_getC (b := 43) rfl hc ho flX5_37 dX5_takeName_14 ok_48 ?_
    refine go_getI hc ho flX5_84 dX5_takeName_17 ok_43 ?_
    obtain ⟨r18, σ19, hf20, h⟩ := obi_some h
    refine go_callVi hc ho cmX5_fail mlX5_87 dX5_takeName_20 ok_48 (As := [.int (1 : Int32), .int (mI σ 43 9)]) (rest := []) (rX5_fail (N := 0) hf20 (Nat.le_refl _)) rfl (Nat.le_trans (Nat.le_of_ble_eq_true rfl) hN) rfl (Nat.le_of_ble_eq_true rfl) (Or.inl hz) ?_
    refine go_pop hc dX5_takeName_23 rfl ?_
    refine go_iconst hc dX5_takeName_24 ci_m1 ?_
    exact go_iret hc (oend_i h hE) hr dX5_takeName_25
def fX5_joinFactor (x0 : Int64) (σ : OM) : Option OM :=
  obi (fX5_isLevel σ) (fun r1 σ2 =>
  if r1 = 0 then (
   some σ2)
  else (ogd (oin (mI σ2 48 9) 9) (
  ogd (oin (mI σ2 48 9) 9) (
  if (mI σ2 55 ((mI σ2 48 9).toNatClampNeg)) = 0 then (
   ogd (oin (mI σ2 48 9) 9) (
   ogd (oin (mI (sL σ2 54 ((mI σ2 48 9).toNatClampNeg) ((mL σ2 54 ((mI σ2 48 9).toNatClampNeg)) &&& x0)) 48 9) 9) (
   some (sI (sL σ2 54 ((mI σ2 48 9).toNatClampNeg) ((mL σ2 54 ((mI σ2 48 9).toNatClampNeg)) &&& x0)) 55 ((mI (sL σ2 54 ((mI σ2 48 9).toNatClampNeg) ((mL σ2 54 ((mI σ2 48 9).toNatClampNeg)) &&& x0)) 48 9).toNatClampNeg) (vp_nar .boolean (0 : Int32))))))
  else (ogd (oin (mI σ2 48 9) 9) (
  ogd (oin (mI (sL σ2 54 ((mI σ2 48 9).toNatClampNeg) ((mL σ2 54 ((mI σ2 48 9).toNatClampNeg)) &&& (x0 ^^^ ((-1) : Int64)))) 48 9) 9) (
  some (sI (sL σ2 54 ((mI σ2 48 9).toNatClampNeg) ((mL σ2 54 ((mI σ2 48 9).toNatClampNeg)) &&& (x0 ^^^ ((-1) : Int64)))) 55 ((mI (sL σ2 54 ((mI σ2 48 9).toNatClampNeg) ((mL σ2 54 ((mI σ2 48 9).toNatClampNeg)) &&& (x0 ^^^ ((-1) : Int64)))) 48 9).toNatClampNeg) (vp_nar .boolean (0 : Int32))))))))))
set_option maxRecDepth 100000 in
set_option maxHeartbeats 4000000 in
theorem rX5_joinFactor {N : Nat} {x0 : Int64} {σ : OM} {σ0 : OM} (h : fX5_joinFactor x0 σ = some σ0) (hN0 : 1 ≤ N) : oEv N MX5_joinFactor [.ref 48, .long x0] σ (none) σ0 := by
  refine oEv_of (lv := [.ref 48, .long x0, .null]) (by decide +kernel) (fun g q hq => hq) (fun g => Nat.le_of_ble_eq_true rfl) ?_
  intro K hc ho hL hN1 hr hE hz
  have hN : 1 ≤ kN K := by rw [hN1]; exact hN0
  unfold fX5_joinFactor at h
  refine go_aload_n hc dX5_joinFactor_0 rfl rfl ?_
  obtain ⟨r1, σ2, hf3, h⟩ := obi_some h
  refine go_callVi hc ho cmX5_isLevel mlX5_278 dX5_joinFactor_1 ok_48 (As := []) (rest := []) (rX5_isLevel (N := 0) hf3 (Nat.le_refl _)) rfl (Nat.le_trans (Nat.le_of_ble_eq_true rfl) hN) rfl (Nat.le_of_ble_eq_true rfl) (Or.inl hz) ?_
  refine go_if_eq (tgt := 50) hc dX5_joinFactor_4 rfl (fun hh => ?_) (fun hh => ?_)
  · rw [if_pos hh] at h
    exact go_vret hc (oend_v h hE) hr dX5_joinFactor_50
  · rw [if_neg hh] at h
    refine go_aload_n hc dX5_joinFactor_7 rfl rfl ?_
    refine go_getC (b := 54) rfl hc ho flX5_30 dX5_joinFactor_8 ok_48 ?_
    refine go_aload_n hc dX5_joinFactor_11 rfl rfl ?_
    refine go_getI hc ho flX5_257 dX5_joinFactor_12 ok_48 ?_
    refine go_dup2_11 hc dX5_joinFactor_15 rfl rfl ?_
    obtain ⟨hg4, h⟩ := ogd_some h
    refine go_lald hc dX5_joinFactor_16 ok_54 ol_54 hg4 rfl ?_
    refine go_aload_n hc dX5_joinFactor_17 rfl rfl ?_
    refine go_getC (b := 55) rfl hc ho flX5_33 dX5_joinFactor_18 ok_48 ?_
    refine go_aload_n hc dX5_joinFactor_21 rfl rfl ?_
    refine go_getI hc ho flX5_257 dX5_joinFactor_22 ok_48 ?_
    obtain ⟨hg5, h⟩ := ogd_some h
    refine go_zald hc dX5_joinFactor_25 ok_55 ol_55 hg5 rfl ?_
    refine go_if_eq (tgt := 37) hc dX5_joinFactor_26 rfl (fun hh => ?_) (fun hh => ?_)
    · rw [if_pos hh] at h
      refine go_lload_n hc dX5_joinFactor_37 rfl rfl ?_
      refine go_land hc dX5_joinFactor_38 ?_
      obtain ⟨hg6, h⟩ := ogd_some h
      refine go_last hc dX5_joinFactor_39 ok_54 ol_54 hg6 rfl ?_
      refine go_aload_n hc dX5_joinFactor_40 rfl rfl ?_
      refine go_getC (b := 55) rfl hc ho flX5_33 dX5_joinFactor_41 ok_48 ?_
      refine go_aload_n hc dX5_joinFactor_44 rfl rfl ?_
      refine go_getI hc ho flX5_257 dX5_joinFactor_45 ok_48 ?_
      refine go_iconst hc dX5_joinFactor_48 ci_0 ?_
      obtain ⟨hg7, h⟩ := ogd_some h
      refine go_zast hc dX5_joinFactor_49 ok_55 ol_55 hg7 rfl ?_
      exact go_vret hc (oend_v h hE) hr dX5_joinFactor_50
    · rw [if_neg hh] at h
      refine go_lload_n hc dX5_joinFactor_29 rfl rfl ?_
      refine go_ldc2 hc ho klX5_281 dX5_joinFactor_30 ?_
      refine go_lxor hc dX5_joinFactor_33 ?_
      refine go_goto (tgt := 38) hc dX5_joinFactor_34 rfl ?_
      refine go_land hc dX5_joinFactor_38 ?_
      obtain ⟨hg8, h⟩ := ogd_some h
      refine go_last hc dX5_joinFactor_39 ok_54 ol_54 hg8 rfl ?_
      refine go_aload_n hc dX5_joinFactor_40 rfl rfl ?_
      refine go_getC (b := 55) rfl hc ho flX5_33 dX5_joinFactor_41 ok_48 ?_
      refine go_aload_n hc dX5_joinFactor_44 rfl rfl ?_
      refine go_getI hc ho flX5_257 dX5_joinFactor_45 ok_48 ?_
      refine go_iconst hc dX5_joinFactor_48 ci_0 ?_
      obtain ⟨hg9, h⟩ := ogd_some h
      refine go_zast hc dX5_joinFactor_49 ok_55 ol_55 hg9 rfl ?_
      exact go_vret hc (oend_v h hE) hr dX5_joinFactor_50
def fX5_readFactInFormula (σ : OM) : Option (Int32 × OM) :=
  obi (fX5_takeName (1 : Int32) σ) (fun r1 σ2 =>
  if r1 < 0 then (
   some ((0 : Int32), σ2))
  else (if r1 < (6 : Int32) then (
   if (mI (sI σ2 48 13 ((mI σ2 48 13) + (1 : Int32))) 48 13) ≤ (12 : Int32) then (
    ogd (oin r1 6) (
    obv (fX5_joinFactor (oho r1.toNatClampNeg) (sI σ2 48 13 ((mI σ2 48 13) + (1 : Int32)))) (fun σ6 =>
    some ((1 : Int32), σ6))))
   else (obi (fX5_fail (5 : Int32) (mI σ 43 9) (sI σ2 48 13 ((mI σ2 48 13) + (1 : Int32)))) (fun r8 σ9 =>
   ogd (oisb r8) (some (r8, σ9)))))
  else (some ((0 : Int32), σ2))))
set_option maxRecDepth 100000 in
set_option maxHeartbeats 4000000 in
theorem rX5_readFactInFormula {N : Nat} {σ : OM} {r0 : Int32} {σ0 : OM} (h : fX5_readFactInFormula σ = some (r0, σ0)) (hN0 : 2 ≤ N) : oEv N MX5_readFactInFormula [.ref 48] σ (some (.int r0)) σ0 := by
  refine oEv_of (lv := [.ref 48, .null, .null]) (by decide +kernel) (fun g q hq => hq) (fun g => Nat.le_of_ble_eq_true rfl) ?_
  intro K hc ho hL hN1 hr hE hz
  have hN : 2 ≤ kN K := by rw [hN1]; exact hN0
  unfold fX5_readFactInFormula at h
  refine go_aload_n hc dX5_readFactInFormula_0 rfl rfl ?_
  refine go_getC (b := 43) rfl hc ho flX5_37 dX5_readFactInFormula_1 ok_48 ?_
  refine go_getI hc ho flX5_84 dX5_readFactInFormula_4 ok_43 ?_
  refine go_istore_n hc (lv1 := [.ref 48, .int (mI σ 43 9), .null]) dX5_readFactInFormula_7 rfl hL (by decide) (fun _ _ e => by cases e; rfl) rfl ?_
  refine go_aload_n hc dX5_readFactInFormula_8 rfl rfl ?_
  refine go_iconst hc dX5_readFactInFormula_9 ci_1 ?_
  obtain ⟨r1, σ2, hf3, h⟩ := obi_some h
  refine go_callVi hc ho cmX5_takeName mlX5_189 dX5_readFactInFormula_10 ok_48 (As := [.int (1 : Int32)]) (rest := []) (rX5_takeName (N := 1) hf3 (Nat.le_refl _)) rfl (Nat.le_trans (Nat.le_of_ble_eq_true rfl) hN) rfl (Nat.le_of_ble_eq_true rfl) (Or.inl hz) ?_
  refine go_istore_n hc (lv1 := [.ref 48, .int (mI σ 43 9), .int r1]) dX5_readFactInFormula_13 rfl hL (by decide) (fun _ _ e => by cases e; rfl) rfl ?_
  refine go_iload_n hc dX5_readFactInFormula_14 rfl rfl ?_
  refine go_if_lt (tgt := 24) hc dX5_readFactInFormula_15 rfl (fun hh => ?_) (fun hh => ?_)
  · rw [if_pos hh] at h
    refine go_iconst hc dX5_readFactInFormula_24 ci_0 ?_
    exact go_zret hc (oend_i h hE) hr rfl dX5_readFactInFormula_25
  · rw [if_neg hh] at h
    refine go_iload_n hc dX5_readFactInFormula_18 rfl rfl ?_
    refine go_bipush hc dX5_readFactInFormula_19 cb_6 ?_
    refine go_icmp_lt (tgt := 26) hc dX5_readFactInFormula_21 rfl (fun hh => ?_) (fun hh => ?_)
    · rw [if_pos hh] at h
      refine go_aload_n hc dX5_readFactInFormula_26 rfl rfl ?_
      refine go_dup hc dX5_readFactInFormula_27 rfl ?_
      refine go_getI hc ho flX5_260 dX5_readFactInFormula_28 ok_48 ?_
      refine go_iconst hc dX5_readFactInFormula_31 ci_1 ?_
      refine go_iadd hc dX5_readFactInFormula_32 ?_
      refine go_putI hc ho fpX5_260 dX5_readFactInFormula_33 ok_48 (fun g => oni g _) (fun _ => rfl) ?_
      refine go_aload_n hc dX5_readFactInFormula_36 rfl rfl ?_
      refine go_getI hc ho flX5_260 dX5_readFactInFormula_37 ok_48 ?_
      refine go_bipush hc dX5_readFactInFormula_40 cb_12 ?_
      refine go_icmp_le (tgt := 52) hc dX5_readFactInFormula_42 rfl (fun hh => ?_) (fun hh => ?_)
      · rw [if_pos hh] at h
        refine go_aload_n hc dX5_readFactInFormula_52 rfl rfl ?_
        refine go_ho hc ho fsX5_286 dX5_readFactInFormula_53 ?_
        refine go_iload_n hc dX5_readFactInFormula_56 rfl rfl ?_
        obtain ⟨hg4, h⟩ := ogd_some h
        refine go_hoa hc dX5_readFactInFormula_57 hg4 ?_
        obtain ⟨σ6, hf7, h⟩ := obv_some h
        refine go_callVv hc ho cmX5_joinFactor mlX5_289 dX5_readFactInFormula_58 ok_48 (As := [.long (oho r1.toNatClampNeg)]) (rest := []) (rX5_joinFactor (N := 1) hf7 (Nat.le_refl _)) rfl (Nat.le_trans (Nat.le_of_ble_eq_true rfl) hN) rfl (Nat.le_of_ble_eq_true rfl) (Or.inl hz) ?_
        refine go_iconst hc dX5_readFactInFormula_61 ci_1 ?_
        exact go_zret hc (oend_i h hE) hr rfl dX5_readFactInFormula_62
      · rw [if_neg hh] at h
        refine go_aload_n hc dX5_readFactInFormula_45 rfl rfl ?_
        refine go_iconst hc dX5_readFactInFormula_46 ci_5 ?_
        refine go_iload_n hc dX5_readFactInFormula_47 rfl rfl ?_
        obtain ⟨r8, σ9, hf10, h⟩ := obi_some h
        refine go_callVi hc ho cmX5_fail mlX5_87 dX5_readFactInFormula_48 ok_48 (As := [.int (5 : Int32), .int (mI σ 43 9)]) (rest := []) (rX5_fail (N := 0) hf10 (Nat.le_refl _)) rfl (Nat.le_trans (Nat.le_of_ble_eq_true rfl) hN) rfl (Nat.le_of_ble_eq_true rfl) (Or.inl hz) ?_
        obtain ⟨hg11, h⟩ := ogd_some h
        exact go_zret hc (oend_i h hE) hr (oisb_n hg11) dX5_readFactInFormula_51
    · rw [if_neg hh] at h
      refine go_iconst hc dX5_readFactInFormula_24 ci_0 ?_
      exact go_zret hc (oend_i h hE) hr rfl dX5_readFactInFormula_25
def fX5_soAtLevel (σ : OM) : Option (Int64 × OM) :=
  obi (fX5_isLevel σ) (fun r1 σ2 =>
  if r1 = 0 then (
   some ((0 : Int64), σ2))
  else (ogd (oin (mI σ2 48 9) 9) (
  ogd (oin (mI σ2 48 9) 9) (
  some (((mL σ2 53 ((mI σ2 48 9).toNatClampNeg)) ||| (mL σ2 54 ((mI σ2 48 9).toNatClampNeg))), σ2)))))
set_option maxRecDepth 100000 in
set_option maxHeartbeats 4000000 in
theorem rX5_soAtLevel {N : Nat} {σ : OM} {r0 : Int64} {σ0 : OM} (h : fX5_soAtLevel σ = some (r0, σ0)) (hN0 : 1 ≤ N) : oEv N MX5_soAtLevel [.ref 48] σ (some (.long r0)) σ0 := by
  refine oEv_of (lv := [.ref 48]) (by decide +kernel) (fun g q hq => hq) (fun g => Nat.le_of_ble_eq_true rfl) ?_
  intro K hc ho hL hN1 hr hE hz
  have hN : 1 ≤ kN K := by rw [hN1]; exact hN0
  unfold fX5_soAtLevel at h
  refine go_aload_n hc dX5_soAtLevel_0 rfl rfl ?_
  obtain ⟨r1, σ2, hf3, h⟩ := obi_some h
  refine go_callVi hc ho cmX5_isLevel mlX5_278 dX5_soAtLevel_1 ok_48 (As := []) (rest := []) (rX5_isLevel (N := 0) hf3 (Nat.le_refl _)) rfl (Nat.le_trans (Nat.le_of_ble_eq_true rfl) hN) rfl (Nat.le_of_ble_eq_true rfl) (Or.inl hz) ?_
  refine go_if_eq (tgt := 29) hc dX5_soAtLevel_4 rfl (fun hh => ?_) (fun hh => ?_)
  · rw [if_pos hh] at h
    refine go_lconst hc dX5_soAtLevel_29 cl_0 ?_
    exact go_lret hc (oend_l h hE) hr dX5_soAtLevel_30
  · rw [if_neg hh] at h
    refine go_aload_n hc dX5_soAtLevel_7 rfl rfl ?_
    refine go_getC (b := 53) rfl hc ho flX5_27 dX5_soAtLevel_8 ok_48 ?_
    refine go_aload_n hc dX5_soAtLevel_11 rfl rfl ?_
    refine go_getI hc ho flX5_257 dX5_soAtLevel_12 ok_48 ?_
    obtain ⟨hg4, h⟩ := ogd_some h
    refine go_lald hc dX5_soAtLevel_15 ok_53 ol_53 hg4 rfl ?_
    refine go_aload_n hc dX5_soAtLevel_16 rfl rfl ?_
    refine go_getC (b := 54) rfl hc ho flX5_30 dX5_soAtLevel_17 ok_48 ?_
    refine go_aload_n hc dX5_soAtLevel_20 rfl rfl ?_
    refine go_getI hc ho flX5_257 dX5_soAtLevel_21 ok_48 ?_
    obtain ⟨hg5, h⟩ := ogd_some h
    refine go_lald hc dX5_soAtLevel_24 ok_54 ol_54 hg5 rfl ?_
    refine go_lor hc dX5_soAtLevel_25 ?_
    refine go_goto (tgt := 30) hc dX5_soAtLevel_26 rfl ?_
    exact go_lret hc (oend_l h hE) hr dX5_soAtLevel_30
def fX5_beginTerm (σ : OM) : Option OM :=
  obi (fX5_isLevel σ) (fun r1 σ2 =>
  if r1 = 0 then (
   some σ2)
  else (ogd (oin (mI σ2 48 9) 9) (
  ogd (oin (mI σ2 48 9) 9) (
  ogd (oin (mI σ2 48 9) 9) (
  ogd (oin (mI (sL σ2 53 ((mI σ2 48 9).toNatClampNeg) ((mL σ2 53 ((mI σ2 48 9).toNatClampNeg)) ||| (mL σ2 54 ((mI σ2 48 9).toNatClampNeg)))) 48 9) 9) (
  some (sL (sL σ2 53 ((mI σ2 48 9).toNatClampNeg) ((mL σ2 53 ((mI σ2 48 9).toNatClampNeg)) ||| (mL σ2 54 ((mI σ2 48 9).toNatClampNeg)))) 54 ((mI (sL σ2 53 ((mI σ2 48 9).toNatClampNeg) ((mL σ2 53 ((mI σ2 48 9).toNatClampNeg)) ||| (mL σ2 54 ((mI σ2 48 9).toNatClampNeg)))) 48 9).toNatClampNeg) ((-1) : Int64))))))))
set_option maxRecDepth 100000 in
set_option maxHeartbeats 4000000 in
theorem rX5_beginTerm {N : Nat} {σ : OM} {σ0 : OM} (h : fX5_beginTerm σ = some σ0) (hN0 : 1 ≤ N) : oEv N MX5_beginTerm [.ref 48] σ (none) σ0 := by
  refine oEv_of (lv := [.ref 48]) (by decide +kernel) (fun g q hq => hq) (fun g => Nat.le_of_ble_eq_true rfl) ?_
  intro K hc ho hL hN1 hr hE hz
  have hN : 1 ≤ kN K := by rw [hN1]; exact hN0
  unfold fX5_beginTerm at h
  refine go_aload_n hc dX5_beginTerm_0 rfl rfl ?_
  obtain ⟨r1, σ2, hf3, h⟩ := obi_some h
  refine go_callVi hc ho cmX5_isLevel mlX5_278 dX5_beginTerm_1 ok_48 (As := []) (rest := []) (rX5_isLevel (N := 0) hf3 (Nat.le_refl _)) rfl (Nat.le_trans (Nat.le_of_ble_eq_true rfl) hN) rfl (Nat.le_of_ble_eq_true rfl) (Or.inl hz) ?_
  refine go_if_eq (tgt := 40) hc dX5_beginTerm_4 rfl (fun hh => ?_) (fun hh => ?_)
  · rw [if_pos hh] at h
    exact go_vret hc (oend_v h hE) hr dX5_beginTerm_40
  · rw [if_neg hh] at h
    refine go_aload_n hc dX5_beginTerm_7 rfl rfl ?_
    refine go_getC (b := 53) rfl hc ho flX5_27 dX5_beginTerm_8 ok_48 ?_
    refine go_aload_n hc dX5_beginTerm_11 rfl rfl ?_
    refine go_getI hc ho flX5_257 dX5_beginTerm_12 ok_48 ?_
    refine go_dup2_11 hc dX5_beginTerm_15 rfl rfl ?_
    obtain ⟨hg4, h⟩ := ogd_some h
    refine go_lald hc dX5_beginTerm_16 ok_53 ol_53 hg4 rfl ?_
    refine go_aload_n hc dX5_beginTerm_17 rfl rfl ?_
    refine go_getC (b := 54) rfl hc ho flX5_30 dX5_beginTerm_18 ok_48 ?_
    refine go_aload_n hc dX5_beginTerm_21 rfl rfl ?_
    refine go_getI hc ho flX5_257 dX5_beginTerm_22 ok_48 ?_
    obtain ⟨hg5, h⟩ := ogd_some h
    refine go_lald hc dX5_beginTerm_25 ok_54 ol_54 hg5 rfl ?_
    refine go_lor hc dX5_beginTerm_26 ?_
    obtain ⟨hg6, h⟩ := ogd_some h
    refine go_last hc dX5_beginTerm_27 ok_53 ol_53 hg6 rfl ?_
    refine go_aload_n hc dX5_beginTerm_28 rfl rfl ?_
    refine go_getC (b := 54) rfl hc ho flX5_30 dX5_beginTerm_29 ok_48 ?_
    refine go_aload_n hc dX5_beginTerm_32 rfl rfl ?_
    refine go_getI hc ho flX5_257 dX5_beginTerm_33 ok_48 ?_
    refine go_ldc2 hc ho klX5_281 dX5_beginTerm_36 ?_
    obtain ⟨hg7, h⟩ := ogd_some h
    refine go_last hc dX5_beginTerm_39 ok_54 ol_54 hg7 rfl ?_
    exact go_vret hc (oend_v h hE) hr dX5_beginTerm_40
def fX5_readClosing_b60 (σ : OM) : Option (Int32 × OM) :=
  if (mI σ 43 8) = (270 : Int32) then (
   obv (fX5_beginTerm σ) (fun σ8 =>
   obv (fX6_advance σ8) (fun σ11 =>
   some ((1 : Int32), σ11))))
  else (if (mI σ 43 8) = (269 : Int32) then (
   obv (fX6_advance σ) (fun σ2 =>
   some ((1 : Int32), σ2)))
  else (if (mI σ 48 9) ≤ 0 then (
   some ((0 : Int32), σ))
  else (obi (fX5_fail (1 : Int32) (mI σ 43 9) σ) (fun r4 σ5 =>
  if r4 = 0 then (
   some ((0 : Int32), σ5))
  else (some ((1 : Int32), σ5))))))
set_option maxRecDepth 100000 in
set_option maxHeartbeats 4000000 in
theorem rX5_readClosing_b60 {K : OK} (hc : kcc K = cX5_readClosing) (ho : kow K = RX5) (hL : knL K = 4) (hN : 2 ≤ kN K) (hr : (kme K).sig.returnType = (some .boolean)) {r0 : Int32} {σ0 : OM} (hE : oEnd K (some (.int r0)) σ0) (hz : kz K = 0) {σ : OM} (h : fX5_readClosing_b60 σ = some (r0, σ0)) : Go K 60 [.ref 48, .null, .null, .null] [] σ := by
  unfold fX5_readClosing_b60 at h
  refine go_aload_n hc dX5_readClosing_60 rfl rfl ?_
  refine go_getC (b := 43) rfl hc ho flX5_37 dX5_readClosing_61 ok_48 ?_
  refine go_getI hc ho flX5_94 dX5_readClosing_64 ok_43 ?_
  refine go_sipush hc dX5_readClosing_67 cs_270 ?_
  refine go_icmp_ne (tgt := 80) hc dX5_readClosing_70 rfl (fun hh => ?_) (fun hh => ?_)
  · rw [if_neg hh] at h
    refine go_aload_n hc dX5_readClosing_80 rfl rfl ?_
    refine go_getC (b := 43) rfl hc ho flX5_37 dX5_readClosing_81 ok_48 ?_
    refine go_getI hc ho flX5_94 dX5_readClosing_84 ok_43 ?_
    refine go_sipush hc dX5_readClosing_87 cs_269 ?_
    refine go_icmp_eq (tgt := 121) hc dX5_readClosing_90 rfl (fun hh => ?_) (fun hh => ?_)
    · rw [if_pos hh] at h
      refine go_aload_n hc dX5_readClosing_121 rfl rfl ?_
      refine go_getC (b := 43) rfl hc ho flX5_37 dX5_readClosing_122 ok_48 ?_
      obtain ⟨σ2, hf3, h⟩ := obv_some h
      refine go_callVv hc ho cmX6_advance mlX5_97 dX5_readClosing_125 ok_43 (As := []) (rest := []) (rX6_advance (N := 0) hf3 (Nat.le_refl _)) rfl (Nat.le_trans (Nat.le_of_ble_eq_true rfl) hN) rfl (Nat.le_of_ble_eq_true rfl) (Or.inl hz) ?_
      refine go_iconst hc dX5_readClosing_128 ci_1 ?_
      exact go_zret hc (oend_i h hE) hr rfl dX5_readClosing_129
    · rw [if_neg hh] at h
      refine go_aload_n hc dX5_readClosing_93 rfl rfl ?_
      refine go_getI hc ho flX5_257 dX5_readClosing_94 ok_48 ?_
      refine go_if_le (tgt := 119) hc dX5_readClosing_97 rfl (fun hh => ?_) (fun hh => ?_)
      · rw [if_pos hh] at h
        refine go_iconst hc dX5_readClosing_119 ci_0 ?_
        exact go_zret hc (oend_i h hE) hr rfl dX5_readClosing_120
      · rw [if_neg hh] at h
        refine go_aload_n hc dX5_readClosing_100 rfl rfl ?_
        refine go_iconst hc dX5_readClosing_101 ci_1 ?_
        refine go_aload_n hc dX5_readClosing_102 rfl rfl ?_
        refine go_getC (b := 43) rfl hc ho flX5_37 dX5_readClosing_103 ok_48 ?_
        refine go_getI hc ho flX5_84 dX5_readClosing_106 ok_43 ?_
        obtain ⟨r4, σ5, hf6, h⟩ := obi_some h
        refine go_callVi hc ho cmX5_fail mlX5_87 dX5_readClosing_109 ok_48 (As := [.int (1 : Int32), .int (mI σ 43 9)]) (rest := []) (rX5_fail (N := 0) hf6 (Nat.le_refl _)) rfl (Nat.le_trans (Nat.le_of_ble_eq_true rfl) hN) rfl (Nat.le_of_ble_eq_true rfl) (Or.inl hz) ?_
        refine go_if_eq (tgt := 119) hc dX5_readClosing_112 rfl (fun hh => ?_) (fun hh => ?_)
        · rw [if_pos hh] at h
          refine go_iconst hc dX5_readClosing_119 ci_0 ?_
          exact go_zret hc (oend_i h hE) hr rfl dX5_readClosing_120
        · rw [if_neg hh] at h
          refine go_iconst hc dX5_readClosing_115 ci_1 ?_
          refine go_goto (tgt := 120) hc dX5_readClosing_116 rfl ?_
          exact go_zret hc (oend_i h hE) hr rfl dX5_readClosing_120
  · rw [if_pos hh] at h
    refine go_aload_n hc dX5_readClosing_73 rfl rfl ?_
    obtain ⟨σ8, hf9, h⟩ := obv_some h
    refine go_callVv hc ho cmX5_beginTerm mlX5_292 dX5_readClosing_74 ok_48 (As := []) (rest := []) (rX5_beginTerm (N := 1) hf9 (Nat.le_refl _)) rfl (Nat.le_trans (Nat.le_of_ble_eq_true rfl) hN) rfl (Nat.le_of_ble_eq_true rfl) (Or.inl hz) ?_
    refine go_goto (tgt := 121) hc dX5_readClosing_77 rfl ?_
    refine go_aload_n hc dX5_readClosing_121 rfl rfl ?_
    refine go_getC (b := 43) rfl hc ho flX5_37 dX5_readClosing_122 ok_48 ?_
    obtain ⟨σ11, hf12, h⟩ := obv_some h
    refine go_callVv hc ho cmX6_advance mlX5_97 dX5_readClosing_125 ok_43 (As := []) (rest := []) (rX6_advance (N := 0) hf12 (Nat.le_refl _)) rfl (Nat.le_trans (Nat.le_of_ble_eq_true rfl) hN) rfl (Nat.le_of_ble_eq_true rfl) (Or.inl hz) ?_
    refine go_iconst hc dX5_readClosing_128 ci_1 ?_
    exact go_zret hc (oend_i h hE) hr rfl dX5_readClosing_129
def fX5_readClosing_b2 : Nat → Int32 → OM → Option (Int32 × OM)
  | 0, _, _ => none
  | n + 1, l1, σ =>
    if (8 : Int32) ≤ l1 then (
     fX5_readClosing_b60 σ)
    else (if (mI σ 48 9) ≤ 0 then (
     fX5_readClosing_b60 σ)
    else (if (mI σ 43 8) = (41 : Int32) then (
     obi (fX5_soAtLevel σ) (fun r1 σ2 =>
     obv (fX5_joinFactor r1 (sI σ2 48 9 ((mI σ2 48 9) - (1 : Int32)))) (fun σ5 =>
     obv (fX6_advance σ5) (fun σ8 =>
     fX5_readClosing_b2 n (l1 + 1) σ8))))
    else (fX5_readClosing_b60 σ)))
set_option maxRecDepth 100000 in
set_option maxHeartbeats 4000000 in
theorem rX5_readClosing_b2 {K : OK} (hc : kcc K = cX5_readClosing) (ho : kow K = RX5) (hL : knL K = 4) (hN : 2 ≤ kN K) (hr : (kme K).sig.returnType = (some .boolean)) {r0 : Int32} {σ0 : OM} (hE : oEnd K (some (.int r0)) σ0) (hz : kz K = 0) : ∀ (n : Nat) (l1 : Int32) (σ : OM), fX5_readClosing_b2 n l1 σ = some (r0, σ0) → Go K 2 [.ref 48, .int l1, .null, .null] [] σ := by
  intro n
  induction n with
  | zero =>
    intro l1 σ h
    cases h
  | succ n ih =>
    intro l1 σ h
    rw [fX5_readClosing_b2] at h
    refine go_iload_n hc dX5_readClosing_2 rfl rfl ?_
    refine go_bipush hc dX5_readClosing_3 cb_8 ?_
    refine go_icmp_ge (tgt := 60) hc dX5_readClosing_5 rfl (fun hh => ?_) (fun hh => ?_)
    · rw [if_pos hh] at h
      refine go_mask [true, false, false, false] (lv1 := [.ref 48, .null, .null, .null]) rfl ?_
      exact rX5_readClosing_b60 hc ho hL hN hr hE hz h
    · rw [if_neg hh] at h
      refine go_aload_n hc dX5_readClosing_8 rfl rfl ?_
      refine go_getI hc ho flX5_257 dX5_readClosing_9 ok_48 ?_
      refine go_if_le (tgt := 60) hc dX5_readClosing_12 rfl (fun hh => ?_) (fun hh => ?_)
      · rw [if_pos hh] at h
        refine go_mask [true, false, false, false] (lv1 := [.ref 48, .null, .null, .null]) rfl ?_
        exact rX5_readClosing_b60 hc ho hL hN hr hE hz h
      · rw [if_neg hh] at h
        refine go_aload_n hc dX5_readClosing_15 rfl rfl ?_
        refine go_getC (b := 43) rfl hc ho flX5_37 dX5_readClosing_16 ok_48 ?_
        refine go_getI hc ho flX5_94 dX5_readClosing_19 ok_43 ?_
        refine go_bipush hc dX5_readClosing_22 cb_41 ?_
        refine go_icmp_ne (tgt := 60) hc dX5_readClosing_24 rfl (fun hh => ?_) (fun hh => ?_)
        · rw [if_neg hh] at h
          refine go_mask [true, false, false, false] (lv1 := [.ref 48, .null, .null, .null]) rfl ?_
          exact rX5_readClosing_b60 hc ho hL hN hr hE hz h
        · rw [if_pos hh] at h
          refine go_aload_n hc dX5_readClosing_27 rfl rfl ?_
          obtain ⟨r1, σ2, hf3, h⟩ := obi_some h
          refine go_callVl hc ho cmX5_soAtLevel mlX5_275 dX5_readClosing_28 ok_48 (As := []) (rest := []) (rX5_soAtLevel (N := 1) hf3 (Nat.le_refl _)) rfl (Nat.le_trans (Nat.le_of_ble_eq_true rfl) hN) rfl (Nat.le_of_ble_eq_true rfl) (Or.inl hz) ?_
          refine go_lstore_n hc (lv1 := [.ref 48, .int l1, .long r1, .null]) dX5_readClosing_31 rfl hL (by decide) (fun _ _ e => by cases e; rfl) rfl ?_
          refine go_aload_n hc dX5_readClosing_32 rfl rfl ?_
          refine go_dup hc dX5_readClosing_33 rfl ?_
          refine go_getI hc ho flX5_257 dX5_readClosing_34 ok_48 ?_
          refine go_iconst hc dX5_readClosing_37 ci_1 ?_
          refine go_isub hc dX5_readClosing_38 ?_
          refine go_putI hc ho fpX5_257 dX5_readClosing_39 ok_48 (fun g => oni g _) (fun _ => rfl) ?_
          refine go_aload_n hc dX5_readClosing_42 rfl rfl ?_
          refine go_lload_n hc dX5_readClosing_43 rfl rfl ?_
          obtain ⟨σ5, hf6, h⟩ := obv_some h
          refine go_callVv hc ho cmX5_joinFactor mlX5_289 dX5_readClosing_44 ok_48 (As := [.long r1]) (rest := []) (rX5_joinFactor (N := 1) hf6 (Nat.le_refl _)) rfl (Nat.le_trans (Nat.le_of_ble_eq_true rfl) hN) rfl (Nat.le_of_ble_eq_true rfl) (Or.inl hz) ?_
          refine go_aload_n hc dX5_readClosing_47 rfl rfl ?_
          refine go_getC (b := 43) rfl hc ho flX5_37 dX5_readClosing_48 ok_48 ?_
          obtain ⟨σ8, hf9, h⟩ := obv_some h
          refine go_callVv hc ho cmX6_advance mlX5_97 dX5_readClosing_51 ok_43 (As := []) (rest := []) (rX6_advance (N := 0) hf9 (Nat.le_refl _)) rfl (Nat.le_trans (Nat.le_of_ble_eq_true rfl) hN) rfl (Nat.le_of_ble_eq_true rfl) (Or.inl hz) ?_
          refine go_iinc hc (lv1 := [.ref 48, .int (l1 + 1), .long r1, .null]) dX5_readClosing_54 rfl ci_1 hL (by decide) (fun _ _ e => by cases e; rfl) rfl ?_
          refine go_goto (tgt := 2) hc dX5_readClosing_57 rfl ?_
          refine go_mask [true, true, false, false] (lv1 := [.ref 48, .int (l1 + 1), .null, .null]) rfl ?_
          exact ih (l1 + 1) _ h
def fX5_readClosing (σ : OM) : Option (Int32 × OM) :=
  fX5_readClosing_b2 oF (0 : Int32) σ
set_option maxRecDepth 100000 in
set_option maxHeartbeats 4000000 in
theorem rX5_readClosing {N : Nat} {σ : OM} {r0 : Int32} {σ0 : OM} (h : fX5_readClosing σ = some (r0, σ0)) (hN0 : 2 ≤ N) : oEv N MX5_readClosing [.ref 48] σ (some (.int r0)) σ0 := by
  refine oEv_of (lv := [.ref 48, .null, .null, .null]) (by decide +kernel) (fun g q hq => hq) (fun g => Nat.le_of_ble_eq_true rfl) ?_
  intro K hc ho hL hN1 hr hE hz
  have hN : 2 ≤ kN K := by rw [hN1]; exact hN0
  unfold fX5_readClosing at h
  refine go_iconst hc dX5_readClosing_0 ci_0 ?_
  refine go_istore_n hc (lv1 := [.ref 48, .int (0 : Int32), .null, .null]) dX5_readClosing_1 rfl hL (by decide) (fun _ _ e => by cases e; rfl) rfl ?_
  exact rX5_readClosing_b2 hc ho hL hN hr hE hz oF (0 : Int32) _ h
def fX5_formula_b18 : Nat → Int32 → Int32 → OM → Option (Int64 × OM)
  | 0, _, _, _ => none
  | n + 1, l1, l2, σ =>
    if (900 : Int32) < l2 then (
     obi (fX5_soAtLevel σ) (fun r1 σ2 =>
     some (r1, σ2)))
    else (if l1 = 0 then (
     obi (fX5_soAtLevel σ) (fun r4 σ5 =>
     some (r4, σ5)))
    else (obi (fX5_readOpening σ) (fun r7 σ8 =>
    if r7 = 0 then (
     fX5_formula_b18 n (0 : Int32) (l2 + 1) σ8)
    else (obi (fX5_readFactInFormula σ8) (fun r10 σ11 =>
    if r10 = 0 then (
     fX5_formula_b18 n (0 : Int32) (l2 + 1) σ11)
    else (obi (fX5_readClosing σ11) (fun r13 σ14 =>
    if r13 = 0 then (
     fX5_formula_b18 n (0 : Int32) (l2 + 1) σ14)
    else (fX5_formula_b18 n (1 : Int32) (l2 + 1) σ14))))))))
set_option maxRecDepth 100000 in
set_option maxHeartbeats 4000000 in
theorem rX5_formula_b18 {K : OK} (hc : kcc K = cX5_formula) (ho : kow K = RX5) (hL : knL K = 3) (hN : 3 ≤ kN K) (hr : (kme K).sig.returnType = (some .long)) {r0 : Int64} {σ0 : OM} (hE : oEnd K (some (.long r0)) σ0) (hz : kz K = 0) : ∀ (n : Nat) (l1 : Int32) (l2 : Int32) (σ : OM), fX5_formula_b18 n l1 l2 σ = some (r0, σ0) → Go K 18 [.ref 48, .int l1, .int l2] [] σ := by
  intro n
  induction n with
  | zero =>
    intro l1 l2 σ h
    cases h
  | succ n ih =>
    intro l1 l2 σ h
    rw [fX5_formula_b18] at h
    refine go_iload_n hc dX5_formula_18 rfl rfl ?_
    refine go_sipush hc dX5_formula_19 cs_900 ?_
    refine go_icmp_gt (tgt := 62) hc dX5_formula_22 rfl (fun hh => ?_) (fun hh => ?_)
    · rw [if_pos hh] at h
      refine go_aload_n hc dX5_formula_62 rfl rfl ?_
      obtain ⟨r1, σ2, hf3, h⟩ := obi_some h
      refine go_callVl hc ho cmX5_soAtLevel mlX5_275 dX5_formula_63 ok_48 (As := []) (rest := []) (rX5_soAtLevel (N := 1) hf3 (Nat.le_refl _)) rfl (Nat.le_trans (Nat.le_of_ble_eq_true rfl) hN) rfl (Nat.le_of_ble_eq_true rfl) (Or.inl hz) ?_
      exact go_lret hc (oend_l h hE) hr dX5_formula_66
    · rw [if_neg hh] at h
      refine go_iload_n hc dX5_formula_25 rfl rfl ?_
      refine go_if_eq (tgt := 62) hc dX5_formula_26 rfl (fun hh => ?_) (fun hh => ?_)
      · rw [if_pos hh] at h
        refine go_aload_n hc dX5_formula_62 rfl rfl ?_
        obtain ⟨r4, σ5, hf6, h⟩ := obi_some h
        refine go_callVl hc ho cmX5_soAtLevel mlX5_275 dX5_formula_63 ok_48 (As := []) (rest := []) (rX5_soAtLevel (N := 1) hf6 (Nat.le_refl _)) rfl (Nat.le_trans (Nat.le_of_ble_eq_true rfl) hN) rfl (Nat.le_of_ble_eq_true rfl) (Or.inl hz) ?_
        exact go_lret hc (oend_l h hE) hr dX5_formula_66
      · rw [if_neg hh] at h
        refine go_aload_n hc dX5_formula_29 rfl rfl ?_
        obtain ⟨r7, σ8, hf9, h⟩ := obi_some h
        refine go_callVi hc ho cmX5_readOpening mlX5_266 dX5_formula_30 ok_48 (As := []) (rest := []) (rX5_readOpening (N := 2) hf9 (Nat.le_refl _)) rfl (Nat.le_trans (Nat.le_of_ble_eq_true rfl) hN) rfl (Nat.le_of_ble_eq_true rfl) (Or.inl hz) ?_
        refine go_if_eq (tgt := 54) hc dX5_formula_33 rfl (fun hh => ?_) (fun hh => ?_)
        · rw [if_pos hh] at h
          refine go_iconst hc dX5_formula_54 ci_0 ?_
          refine go_istore_n hc (lv1 := [.ref 48, .int (0 : Int32), .int l2]) dX5_formula_55 rfl hL (by decide) (fun _ _ e => by cases e; rfl) rfl ?_
          refine go_iinc hc (lv1 := [.ref 48, .int (0 : Int32), .int (l2 + 1)]) dX5_formula_56 rfl ci_1 hL (by decide) (fun _ _ e => by cases e; rfl) rfl ?_
          refine go_goto (tgt := 18) hc dX5_formula_59 rfl ?_
          exact ih (0 : Int32) (l2 + 1) _ h
        · rw [if_neg hh] at h
          refine go_aload_n hc dX5_formula_36 rfl rfl ?_
          obtain ⟨r10, σ11, hf12, h⟩ := obi_some h
          refine go_callVi hc ho cmX5_readFactInFormula mlX5_269 dX5_formula_37 ok_48 (As := []) (rest := []) (rX5_readFactInFormula (N := 2) hf12 (Nat.le_refl _)) rfl (Nat.le_trans (Nat.le_of_ble_eq_true rfl) hN) rfl (Nat.le_of_ble_eq_true rfl) (Or.inl hz) ?_
          refine go_if_eq (tgt := 54) hc dX5_formula_40 rfl (fun hh => ?_) (fun hh => ?_)
          · rw [if_pos hh] at h
            refine go_iconst hc dX5_formula_54 ci_0 ?_
            refine go_istore_n hc (lv1 := [.ref 48, .int (0 : Int32), .int l2]) dX5_formula_55 rfl hL (by decide) (fun _ _ e => by cases e; rfl) rfl ?_
            refine go_iinc hc (lv1 := [.ref 48, .int (0 : Int32), .int (l2 + 1)]) dX5_formula_56 rfl ci_1 hL (by decide) (fun _ _ e => by cases e; rfl) rfl ?_
            refine go_goto (tgt := 18) hc dX5_formula_59 rfl ?_
            exact ih (0 : Int32) (l2 + 1) _ h
          · rw [if_neg hh] at h
            refine go_aload_n hc dX5_formula_43 rfl rfl ?_
            obtain ⟨r13, σ14, hf15, h⟩ := obi_some h
            refine go_callVi hc ho cmX5_readClosing mlX5_272 dX5_formula_44 ok_48 (As := []) (rest := []) (rX5_readClosing (N := 2) hf15 (Nat.le_refl _)) rfl (Nat.le_trans (Nat.le_of_ble_eq_true rfl) hN) rfl (Nat.le_of_ble_eq_true rfl) (Or.inl hz) ?_
            refine go_if_eq (tgt := 54) hc dX5_formula_47 rfl (fun hh => ?_) (fun hh => ?_)
            · rw [if_pos hh] at h
              refine go_iconst hc dX5_formula_54 ci_0 ?_
              refine go_istore_n hc (lv1 := [.ref 48, .int (0 : Int32), .int l2]) dX5_formula_55 rfl hL (by decide) (fun _ _ e => by cases e; rfl) rfl ?_
              refine go_iinc hc (lv1 := [.ref 48, .int (0 : Int32), .int (l2 + 1)]) dX5_formula_56 rfl ci_1 hL (by decide) (fun _ _ e => by cases e; rfl) rfl ?_
              refine go_goto (tgt := 18) hc dX5_formula_59 rfl ?_
              exact ih (0 : Int32) (l2 + 1) _ h
            · rw [if_neg hh] at h
              refine go_iconst hc dX5_formula_50 ci_1 ?_
              refine go_goto (tgt := 55) hc dX5_formula_51 rfl ?_
              refine go_istore_n hc (lv1 := [.ref 48, .int (1 : Int32), .int l2]) dX5_formula_55 rfl hL (by decide) (fun _ _ e => by cases e; rfl) rfl ?_
              refine go_iinc hc (lv1 := [.ref 48, .int (1 : Int32), .int (l2 + 1)]) dX5_formula_56 rfl ci_1 hL (by decide) (fun _ _ e => by cases e; rfl) rfl ?_
              refine go_goto (tgt := 18) hc dX5_formula_59 rfl ?_
              exact ih (1 : Int32) (l2 + 1) _ h
def fX5_formula (σ : OM) : Option (Int64 × OM) :=
  obv (fX5_beginLevel (sI (sI σ 48 9 (0 : Int32)) 48 13 (0 : Int32))) (fun σ2 =>
  fX5_formula_b18 oF (1 : Int32) (0 : Int32) σ2)
set_option maxRecDepth 100000 in
set_option maxHeartbeats 4000000 in
theorem rX5_formula {N : Nat} {σ : OM} {r0 : Int64} {σ0 : OM} (h : fX5_formula σ = some (r0, σ0)) (hN0 : 3 ≤ N) : oEv N MX5_formula [.ref 48] σ (some (.long r0)) σ0 := by
  refine oEv_of (lv := [.ref 48, .null, .null]) (by decide +kernel) (fun g q hq => hq) (fun g => Nat.le_of_ble_eq_true rfl) ?_
  intro K hc ho hL hN1 hr hE hz
  have hN : 3 ≤ kN K := by rw [hN1]; exact hN0
  unfold fX5_formula at h
  refine go_aload_n hc dX5_formula_0 rfl rfl ?_
  refine go_iconst hc dX5_formula_1 ci_0 ?_
  refine go_putI hc ho fpX5_257 dX5_formula_2 ok_48 (fun g => oni g _) (fun _ => rfl) ?_
  refine go_aload_n hc dX5_formula_5 rfl rfl ?_
  refine go_iconst hc dX5_formula_6 ci_0 ?_
  refine go_putI hc ho fpX5_260 dX5_formula_7 ok_48 (fun g => oni g _) (fun _ => rfl) ?_
  refine go_aload_n hc dX5_formula_10 rfl rfl ?_
  obtain ⟨σ2, hf3, h⟩ := obv_some h
  refine go_callVv hc ho cmX5_beginLevel mlX5_263 dX5_formula_11 ok_48 (As := []) (rest := []) (rX5_beginLevel (N := 1) hf3 (Nat.le_refl _)) rfl (Nat.le_trans (Nat.le_of_ble_eq_true rfl) hN) rfl (Nat.le_of_ble_eq_true rfl) (Or.inl hz) ?_
  refine go_iconst hc dX5_formula_14 ci_1 ?_
  refine go_istore_n hc (lv1 := [.ref 48, .int (1 : Int32), .null]) dX5_formula_15 rfl hL (by decide) (fun _ _ e => by cases e; rfl) rfl ?_
  refine go_iconst hc dX5_formula_16 ci_0 ?_
  refine go_istore_n hc (lv1 := [.ref 48, .int (1 : Int32), .int (0 : Int32)]) dX5_formula_17 rfl hL (by decide) (fun _ _ e => by cases e; rfl) rfl ?_
  exact rX5_formula_b18 hc ho hL hN hr hE hz oF (1 : Int32) (0 : Int32) _ h
def fX9_bitOf (x0 : Int64) (x1 : Int32) (σ : OM) : Option (Int32 × OM) :=
  some ((((x0).toUInt64 >>> (x1.toInt64.toUInt64 &&& Int64.toUInt64 63)).toInt64 &&& (1 : Int64)).toInt32, σ)
set_option maxRecDepth 100000 in
set_option maxHeartbeats 4000000 in
theorem rX9_bitOf {N : Nat} {x0 : Int64} {x1 : Int32} {σ : OM} {r0 : Int32} {σ0 : OM} (h : fX9_bitOf x0 x1 σ = some (r0, σ0)) (hN0 : 0 ≤ N) : oEv N MX9_bitOf [.long x0, .int x1] σ (some (.int r0)) σ0 := by
  refine oEv_of (lv := [.long x0, .null, .int x1]) (by decide +kernel) (fun g q hq => hq) (fun g => Nat.le_of_ble_eq_true rfl) ?_
  intro K hc ho hL hN1 hr hE hz
  have hN : 0 ≤ kN K := by rw [hN1]; exact hN0
  unfold fX9_bitOf at h
  refine go_lload_n hc dX9_bitOf_0 rfl rfl ?_
  refine go_iload_n hc dX9_bitOf_1 rfl rfl ?_
  refine go_lushr hc dX9_bitOf_2 ?_
  refine go_lconst hc dX9_bitOf_3 cl_1 ?_
  refine go_land hc dX9_bitOf_4 ?_
  refine go_l2i hc dX9_bitOf_5 ?_
  exact go_iret hc (oend_i h hE) hr dX9_bitOf_6
def fX2_stands (w : Nat) (σ : OM) : Option (Int32 × OM) :=
  if (mI σ (w + 1) 4) = 0 then (
   if (lg_cmp (mL σ (w + 1) 3) (0 : Int64)) = 0 then (
    some ((0 : Int32), σ))
   else (some ((1 : Int32), σ)))
  else (obi (fX9_bitOf (mL σ (w + 1) 3) (mI σ (w + 1) 5) σ) (fun r1 σ2 =>
  if r1 = (1 : Int32) then (
   some ((1 : Int32), σ2))
  else (some ((0 : Int32), σ2))))
set_option maxRecDepth 100000 in
set_option maxHeartbeats 4000000 in
theorem rX2_stands {N : Nat} {w : Nat} {σ : OM} {r0 : Int32} {σ0 : OM} (hw : okd w = 8) (h : fX2_stands w σ = some (r0, σ0)) (hN0 : 1 ≤ N) : oEv N MX2_stands [.ref (w + 1)] σ (some (.int r0)) σ0 := by
  refine oEv_of (lv := [.ref (w + 1)]) (by decide +kernel) (fun g q hq => hq) (fun g => Nat.le_of_ble_eq_true rfl) ?_
  intro K hc ho hL hN1 hr hE hz
  have hN : 1 ≤ kN K := by rw [hN1]; exact hN0
  unfold fX2_stands at h
  refine go_aload_n hc dX2_stands_0 rfl rfl ?_
  refine go_getI hc ho flX2_35 dX2_stands_1 (ow_k1 hw) ?_
  refine go_if_eq (tgt := 30) hc dX2_stands_4 rfl (fun hh => ?_) (fun hh => ?_)
  · rw [if_pos hh] at h
    refine go_aload_n hc dX2_stands_30 rfl rfl ?_
    refine go_getL hc ho flX2_31 dX2_stands_31 (ow_k1 hw) ?_
    refine go_lconst hc dX2_stands_34 cl_0 ?_
    refine go_lcmp hc dX2_stands_35 ?_
    refine go_if_eq (tgt := 43) hc dX2_stands_36 rfl (fun hh => ?_) (fun hh => ?_)
    · rw [if_pos hh] at h
      refine go_iconst hc dX2_stands_43 ci_0 ?_
      exact go_zret hc (oend_i h hE) hr rfl dX2_stands_44
    · rw [if_neg hh] at h
      refine go_iconst hc dX2_stands_39 ci_1 ?_
      refine go_goto (tgt := 44) hc dX2_stands_40 rfl ?_
      exact go_zret hc (oend_i h hE) hr rfl dX2_stands_44
  · rw [if_neg hh] at h
    refine go_aload_n hc dX2_stands_7 rfl rfl ?_
    refine go_getL hc ho flX2_31 dX2_stands_8 (ow_k1 hw) ?_
    refine go_aload_n hc dX2_stands_11 rfl rfl ?_
    refine go_getI hc ho flX2_39 dX2_stands_12 (ow_k1 hw) ?_
    obtain ⟨r1, σ2, hf3, h⟩ := obi_some h
    refine go_callSNi hc ho cmX9_bitOf mnX2_55 dX2_stands_15 (As := [.long (mL σ (w + 1) 3), .int (mI σ (w + 1) 5)]) (rest := []) (rX9_bitOf (N := 0) hf3 (Nat.le_refl _)) rfl (Nat.le_trans (Nat.le_of_ble_eq_true rfl) hN) rfl (Nat.le_of_ble_eq_true rfl) (Or.inl hz) ?_
    refine go_iconst hc dX2_stands_18 ci_1 ?_
    refine go_icmp_ne (tgt := 26) hc dX2_stands_19 rfl (fun hh => ?_) (fun hh => ?_)
    · rw [if_neg hh] at h
      refine go_iconst hc dX2_stands_26 ci_0 ?_
      refine go_goto (tgt := 44) hc dX2_stands_27 rfl ?_
      exact go_zret hc (oend_i h hE) hr rfl dX2_stands_44
    · rw [if_pos hh] at h
      refine go_iconst hc dX2_stands_22 ci_1 ?_
      refine go_goto (tgt := 44) hc dX2_stands_23 rfl ?_
      exact go_zret hc (oend_i h hE) hr rfl dX2_stands_44
