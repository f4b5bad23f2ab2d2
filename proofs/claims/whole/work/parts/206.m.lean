def fX10_isHouse (x0 : Int32) (σ : OM) : Option (Int32 × OM) :=
  if (mI σ 81 14) = 0 then (
   some ((0 : Int32), σ))
  else (obi (fX10_in x0 (0 : Int32) ((mI σ 84 3) - (1 : Int32)) σ) (fun r1 σ2 =>
  if r1 = 0 then (
   some ((0 : Int32), σ2))
  else (some ((1 : Int32), σ2))))
set_option maxRecDepth 100000 in
set_option maxHeartbeats 4000000 in
theorem rX10_isHouse {N : Nat} {x0 : Int32} {σ : OM} {r0 : Int32} {σ0 : OM} (h : fX10_isHouse x0 σ = some (r0, σ0)) (hN0 : 1 ≤ N) : oEv N MX10_isHouse [.ref 81, .int x0] σ (some (.int r0)) σ0 := by
  refine oEv_of (lv := [.ref 81, .int x0]) (by decide +kernel) (fun g q hq => hq) (fun g => Nat.le_of_ble_eq_true rfl) ?_
  intro K hc ho hL hN1 hr hE hz
  have hN : 1 ≤ kN K := by rw [hN1]; exact hN0
  unfold fX10_isHouse at h
  refine go_aload_n hc dX10_isHouse_0 rfl rfl ?_
  refine go_getI hc ho flX10_212 dX10_isHouse_1 ok_81 ?_
  refine go_if_eq (tgt := 27) hc dX10_isHouse_4 rfl (fun hh => ?_) (fun hh => ?_)
  · rw [if_pos hh] at h
    refine go_iconst hc dX10_isHouse_27 ci_0 ?_
    exact go_zret hc (oend_i h hE) hr rfl dX10_isHouse_28
  · rw [if_neg hh] at h
    refine go_iload_n hc dX10_isHouse_7 rfl rfl ?_
    refine go_iconst hc dX10_isHouse_8 ci_0 ?_
    refine go_aload_n hc dX10_isHouse_9 rfl rfl ?_
    refine go_getC (b := 84) rfl hc ho flX10_20 dX10_isHouse_10 ok_81 ?_
    refine go_iconst hc dX10_isHouse_13 ci_3 ?_
    refine go_iald hc dX10_isHouse_14 ok_84 ol_84 (by decide +kernel) cn_3 ?_
    refine go_iconst hc dX10_isHouse_15 ci_1 ?_
    refine go_isub hc dX10_isHouse_16 ?_
    obtain ⟨r1, σ2, hf3, h⟩ := obi_some h
    refine go_callSi hc ho cmX10_in mlX10_156 dX10_isHouse_17 (As := [.int x0, .int (0 : Int32), .int ((mI σ 84 3) - (1 : Int32))]) (rest := []) (rX10_in (N := 0) hf3 (Nat.le_refl _)) rfl (Nat.le_trans (Nat.le_of_ble_eq_true rfl) hN) rfl (Nat.le_of_ble_eq_true rfl) (Or.inl hz) ?_
    refine go_if_eq (tgt := 27) hc dX10_isHouse_20 rfl (fun hh => ?_) (fun hh => ?_)
    · rw [if_pos hh] at h
      refine go_iconst hc dX10_isHouse_27 ci_0 ?_
      exact go_zret hc (oend_i h hE) hr rfl dX10_isHouse_28
    · rw [if_neg hh] at h
      refine go_iconst hc dX10_isHouse_23 ci_1 ?_
      refine go_goto (tgt := 28) hc dX10_isHouse_24 rfl ?_
      exact go_zret hc (oend_i h hE) hr rfl dX10_isHouse_28
def fX10_lies_b107 (l3 : Int32) (l4 : Int32) (σ : OM) : Option (Int32 × OM) :=
  if l4 = 0 then (
   some ((0 : Int32), σ))
  else (if l3 ≤ l4 then (
   some ((2 : Int32), σ))
  else (some ((1 : Int32), σ)))
set_option maxRecDepth 100000 in
set_option maxHeartbeats 4000000 in
theorem rX10_lies_b107 {K : OK} (hc : kcc K = cX10_lies) (ho : kow K = RX10) (hL : knL K = 6) (hN : 4 ≤ kN K) (hr : (kme K).sig.returnType = (some .int)) {r0 : Int32} {σ0 : OM} (hE : oEnd K (some (.int r0)) σ0) (hz : kz K = 0) {l3 : Int32} {l4 : Int32} {σ : OM} (h : fX10_lies_b107 l3 l4 σ = some (r0, σ0)) : Go K 107 [.null, .null, .null, .int l3, .int l4, .null] [] σ := by
  unfold fX10_lies_b107 at h
  refine go_iload hc dX10_lies_107 rfl ?_
  refine go_if_ne (tgt := 116) hc dX10_lies_109 rfl (fun hh => ?_) (fun hh => ?_)
  · rw [if_neg hh] at h
    refine go_iload hc dX10_lies_116 rfl ?_
    refine go_iload_n hc dX10_lies_118 rfl rfl ?_
    refine go_icmp_ge (tgt := 126) hc dX10_lies_119 rfl (fun hh => ?_) (fun hh => ?_)
    · rw [if_pos hh] at h
      refine go_iconst hc dX10_lies_126 ci_2 ?_
      exact go_iret hc (oend_i h hE) hr dX10_lies_127
    · rw [if_neg hh] at h
      refine go_iconst hc dX10_lies_122 ci_1 ?_
      refine go_goto (tgt := 127) hc dX10_lies_123 rfl ?_
      exact go_iret hc (oend_i h hE) hr dX10_lies_127
  · rw [if_pos hh] at h
    refine go_iconst hc dX10_lies_112 ci_0 ?_
    refine go_goto (tgt := 127) hc dX10_lies_113 rfl ?_
    exact go_iret hc (oend_i h hE) hr dX10_lies_127
def fX10_lies_b40 : Nat → Int32 → Int32 → Int32 → Int32 → Int32 → OM → Option (Int32 × OM)
  | 0, _, _, _, _, _, _ => none
  | n + 1, l1, l2, l3, l4, l5, σ =>
    if ((1 : Int32) <<< ((mI σ 84 3) &&& 31)) ≤ l5 then (
     fX10_lies_b107 l3 l4 σ)
    else (obi (fX10_ones l5.toInt64 σ) (fun r1 σ2 =>
    obi (fX10_ones l2.toInt64 σ2) (fun r4 σ5 =>
    if r1 = r4 then (
     obi (fX10_canLie l5 σ5) (fun r7 σ8 =>
     if r7 = 0 then (
      fX10_lies_b40 n l1 l2 l3 l4 (l5 + 1) σ8)
     else (obi (fX10_hasBit l5 l1 σ8) (fun r10 σ11 =>
     if r10 = 0 then (
      fX10_lies_b40 n l1 l2 (l3 + 1) (l4 + (0 : Int32)) (l5 + 1) σ11)
     else (fX10_lies_b40 n l1 l2 (l3 + 1) (l4 + (1 : Int32)) (l5 + 1) σ11)))))
    else (fX10_lies_b40 n l1 l2 l3 l4 (l5 + 1) σ5))))
set_option maxRecDepth 100000 in
set_option maxHeartbeats 4000000 in
theorem rX10_lies_b40 {K : OK} (hc : kcc K = cX10_lies) (ho : kow K = RX10) (hL : knL K = 6) (hN : 4 ≤ kN K) (hr : (kme K).sig.returnType = (some .int)) {r0 : Int32} {σ0 : OM} (hE : oEnd K (some (.int r0)) σ0) (hz : kz K = 0) : ∀ (n : Nat) (l1 : Int32) (l2 : Int32) (l3 : Int32) (l4 : Int32) (l5 : Int32) (σ : OM), fX10_lies_b40 n l1 l2 l3 l4 l5 σ = some (r0, σ0) → Go K 40 [.ref 81, .int l1, .int l2, .int l3, .int l4, .int l5] [] σ := by
  intro n
  induction n with
  | zero =>
    intro l1 l2 l3 l4 l5 σ h
    cases h
  | succ n ih =>
    intro l1 l2 l3 l4 l5 σ h
    rw [fX10_lies_b40] at h
    refine go_iload hc dX10_lies_40 rfl ?_
    refine go_iconst hc dX10_lies_42 ci_1 ?_
    refine go_aload_n hc dX10_lies_43 rfl rfl ?_
    refine go_getC (b := 84) rfl hc ho flX10_20 dX10_lies_44 ok_81 ?_
    refine go_iconst hc dX10_lies_47 ci_3 ?_
    refine go_iald hc dX10_lies_48 ok_84 ol_84 (by decide +kernel) cn_3 ?_
    refine go_ishl hc dX10_lies_49 ?_
    refine go_icmp_ge (tgt := 107) hc dX10_lies_50 rfl (fun hh => ?_) (fun hh => ?_)
    · rw [if_pos hh] at h
      refine go_mask [false, false, false, true, true, false] (lv1 := [.null, .null, .null, .int l3, .int l4, .null]) rfl ?_
      exact rX10_lies_b107 hc ho hL hN hr hE hz h
    · rw [if_neg hh] at h
      refine go_iload hc dX10_lies_53 rfl ?_
      refine go_i2l hc dX10_lies_55 ?_
      obtain ⟨r1, σ2, hf3, h⟩ := obi_some h
      refine go_callSi hc ho cmX10_ones mlX10_291 dX10_lies_56 (As := [.long l5.toInt64]) (rest := []) (rX10_ones (N := 0) hf3 (Nat.le_refl _)) rfl (Nat.le_trans (Nat.le_of_ble_eq_true rfl) hN) rfl (Nat.le_of_ble_eq_true rfl) (Or.inl hz) ?_
      refine go_iload_n hc dX10_lies_59 rfl rfl ?_
      refine go_i2l hc dX10_lies_60 ?_
      obtain ⟨r4, σ5, hf6, h⟩ := obi_some h
      refine go_callSi hc ho cmX10_ones mlX10_291 dX10_lies_61 (As := [.long l2.toInt64]) (rest := [.int r1]) (rX10_ones (N := 0) hf6 (Nat.le_refl _)) rfl (Nat.le_trans (Nat.le_of_ble_eq_true rfl) hN) rfl (Nat.le_of_ble_eq_true rfl) (Or.inl hz) ?_
      refine go_icmp_ne (tgt := 101) hc dX10_lies_64 rfl (fun hh => ?_) (fun hh => ?_)
      · rw [if_neg hh] at h
        refine go_iinc hc (lv1 := [.ref 81, .int l1, .int l2, .int l3, .int l4, .int (l5 + 1)]) dX10_lies_101 rfl ci_1 hL (by decide) (fun _ _ e => by cases e; rfl) rfl ?_
        refine go_goto (tgt := 40) hc dX10_lies_104 rfl ?_
        exact ih l1 l2 l3 l4 (l5 + 1) _ h
      · rw [if_pos hh] at h
        refine go_aload_n hc dX10_lies_67 rfl rfl ?_
        refine go_iload hc dX10_lies_68 rfl ?_
        obtain ⟨r7, σ8, hf9, h⟩ := obi_some h
        refine go_callVi hc ho cmX10_canLie mlX10_317 dX10_lies_70 ok_81 (As := [.int l5]) (rest := []) (rX10_canLie (N := 2) hf9 (Nat.le_refl _)) rfl (Nat.le_trans (Nat.le_of_ble_eq_true rfl) hN) rfl (Nat.le_of_ble_eq_true rfl) (Or.inl hz) ?_
        refine go_if_ne (tgt := 79) hc dX10_lies_73 rfl (fun hh => ?_) (fun hh => ?_)
        · rw [if_neg hh] at h
          refine go_iinc hc (lv1 := [.ref 81, .int l1, .int l2, .int (l3 + 1), .int l4, .int l5]) dX10_lies_79 rfl ci_1 hL (by decide) (fun _ _ e => by cases e; rfl) rfl ?_
          refine go_iload hc dX10_lies_82 rfl ?_
          refine go_iload hc dX10_lies_84 rfl ?_
          refine go_iload_n hc dX10_lies_86 rfl rfl ?_
          obtain ⟨r10, σ11, hf12, h⟩ := obi_some h
          refine go_callSi hc ho cmX10_hasBit mlX10_270 dX10_lies_87 (As := [.int l5, .int l1]) (rest := [.int l4]) (rX10_hasBit (N := 0) hf12 (Nat.le_refl _)) rfl (Nat.le_trans (Nat.le_of_ble_eq_true rfl) hN) rfl (Nat.le_of_ble_eq_true rfl) (Or.inl hz) ?_
          refine go_if_eq (tgt := 97) hc dX10_lies_90 rfl (fun hh => ?_) (fun hh => ?_)
          · rw [if_pos hh] at h
            refine go_iconst hc dX10_lies_97 ci_0 ?_
            refine go_iadd hc dX10_lies_98 ?_
            refine go_istore hc (lv1 := [.ref 81, .int l1, .int l2, .int (l3 + 1), .int (l4 + (0 : Int32)), .int l5]) dX10_lies_99 hL (by decide) (fun _ _ e => by cases e; rfl) rfl ?_
            refine go_iinc hc (lv1 := [.ref 81, .int l1, .int l2, .int (l3 + 1), .int (l4 + (0 : Int32)), .int (l5 + 1)]) dX10_lies_101 rfl ci_1 hL (by decide) (fun _ _ e => by cases e; rfl) rfl ?_
            refine go_goto (tgt := 40) hc dX10_lies_104 rfl ?_
            exact ih l1 l2 (l3 + 1) (l4 + (0 : Int32)) (l5 + 1) _ h
          · rw [if_neg hh] at h
            refine go_iconst hc dX10_lies_93 ci_1 ?_
            refine go_goto (tgt := 98) hc dX10_lies_94 rfl ?_
            refine go_iadd hc dX10_lies_98 ?_
            refine go_istore hc (lv1 := [.ref 81, .int l1, .int l2, .int (l3 + 1), .int (l4 + (1 : Int32)), .int l5]) dX10_lies_99 hL (by decide) (fun _ _ e => by cases e; rfl) rfl ?_
            refine go_iinc hc (lv1 := [.ref 81, .int l1, .int l2, .int (l3 + 1), .int (l4 + (1 : Int32)), .int (l5 + 1)]) dX10_lies_101 rfl ci_1 hL (by decide) (fun _ _ e => by cases e; rfl) rfl ?_
            refine go_goto (tgt := 40) hc dX10_lies_104 rfl ?_
            exact ih l1 l2 (l3 + 1) (l4 + (1 : Int32)) (l5 + 1) _ h
        · rw [if_pos hh] at h
          refine go_goto (tgt := 101) hc dX10_lies_76 rfl ?_
          refine go_iinc hc (lv1 := [.ref 81, .int l1, .int l2, .int l3, .int l4, .int (l5 + 1)]) dX10_lies_101 rfl ci_1 hL (by decide) (fun _ _ e => by cases e; rfl) rfl ?_
          refine go_goto (tgt := 40) hc dX10_lies_104 rfl ?_
          exact ih l1 l2 l3 l4 (l5 + 1) _ h
def fX10_lies (x0 : Int32) (σ : OM) : Option (Int32 × OM) :=
  obv (fX10_good σ) (fun σ2 =>
  obi (fX10_isHouse x0 σ2) (fun r4 σ5 =>
  if r4 = 0 then (
   obi (fX10_no (1 : Int32) σ5) (fun r10 σ11 =>
   some (r10, σ11)))
  else (obi (fX10_liarsOf σ5) (fun r7 σ8 =>
  if r7 = ((-2) : Int32) then (
   some (((-2) : Int32), σ8))
  else (fX10_lies_b40 oF x0 r7 (0 : Int32) (0 : Int32) (0 : Int32) σ8)))))
set_option maxRecDepth 100000 in
set_option maxHeartbeats 4000000 in
theorem rX10_lies {N : Nat} {x0 : Int32} {σ : OM} {r0 : Int32} {σ0 : OM} (h : fX10_lies x0 σ = some (r0, σ0)) (hN0 : 4 ≤ N) : oEv N MX10_lies [.ref 81, .int x0] σ (some (.int r0)) σ0 := by
  refine oEv_of (lv := [.ref 81, .int x0, .null, .null, .null, .null]) (by decide +kernel) (fun g q hq => hq) (fun g => Nat.le_of_ble_eq_true rfl) ?_
  intro K hc ho hL hN1 hr hE hz
  have hN : 4 ≤ kN K := by rw [hN1]; exact hN0
  unfold fX10_lies at h
  refine go_aload_n hc dX10_lies_0 rfl rfl ?_
  obtain ⟨σ2, hf3, h⟩ := obv_some h
  refine go_callVv hc ho cmX10_good mlX10_199 dX10_lies_1 ok_81 (As := []) (rest := []) (rX10_good (N := 0) hf3 (Nat.le_refl _)) rfl (Nat.le_trans (Nat.le_of_ble_eq_true rfl) hN) rfl (Nat.le_of_ble_eq_true rfl) (Or.inl hz) ?_
  refine go_aload_n hc dX10_lies_4 rfl rfl ?_
  refine go_iload_n hc dX10_lies_5 rfl rfl ?_
  obtain ⟨r4, σ5, hf6, h⟩ := obi_some h
  refine go_callVi hc ho cmX10_isHouse mlX10_323 dX10_lies_6 ok_81 (As := [.int x0]) (rest := []) (rX10_isHouse (N := 1) hf6 (Nat.le_refl _)) rfl (Nat.le_trans (Nat.le_of_ble_eq_true rfl) hN) rfl (Nat.le_of_ble_eq_true rfl) (Or.inl hz) ?_
  refine go_if_ne (tgt := 18) hc dX10_lies_9 rfl (fun hh => ?_) (fun hh => ?_)
  · rw [if_neg hh] at h
    refine go_aload_n hc dX10_lies_18 rfl rfl ?_
    obtain ⟨r7, σ8, hf9, h⟩ := obi_some h
    refine go_callVi hc ho cmX10_liarsOf mlX10_320 dX10_lies_19 ok_81 (As := []) (rest := []) (rX10_liarsOf (N := 3) hf9 (Nat.le_refl _)) rfl (Nat.le_trans (Nat.le_of_ble_eq_true rfl) hN) rfl (Nat.le_of_ble_eq_true rfl) (Or.inl hz) ?_
    refine go_istore_n hc (lv1 := [.ref 81, .int x0, .int r7, .null, .null, .null]) dX10_lies_22 rfl hL (by decide) (fun _ _ e => by cases e; rfl) rfl ?_
    refine go_iload_n hc dX10_lies_23 rfl rfl ?_
    refine go_bipush hc dX10_lies_24 cb_m2 ?_
    refine go_icmp_ne (tgt := 32) hc dX10_lies_26 rfl (fun hh => ?_) (fun hh => ?_)
    · rw [if_neg hh] at h
      refine go_iconst hc dX10_lies_32 ci_0 ?_
      refine go_istore_n hc (lv1 := [.ref 81, .int x0, .int r7, .int (0 : Int32), .null, .null]) dX10_lies_33 rfl hL (by decide) (fun _ _ e => by cases e; rfl) rfl ?_
      refine go_iconst hc dX10_lies_34 ci_0 ?_
      refine go_istore hc (lv1 := [.ref 81, .int x0, .int r7, .int (0 : Int32), .int (0 : Int32), .null]) dX10_lies_35 hL (by decide) (fun _ _ e => by cases e; rfl) rfl ?_
      refine go_iconst hc dX10_lies_37 ci_0 ?_
      refine go_istore hc (lv1 := [.ref 81, .int x0, .int r7, .int (0 : Int32), .int (0 : Int32), .int (0 : Int32)]) dX10_lies_38 hL (by decide) (fun _ _ e => by cases e; rfl) rfl ?_
      exact rX10_lies_b40 hc ho hL hN hr hE hz oF x0 r7 (0 : Int32) (0 : Int32) (0 : Int32) _ h
    · rw [if_pos hh] at h
      refine go_bipush hc dX10_lies_29 cb_m2 ?_
      exact go_iret hc (oend_i h hE) hr dX10_lies_31
  · rw [if_pos hh] at h
    refine go_aload_n hc dX10_lies_12 rfl rfl ?_
    refine go_iconst hc dX10_lies_13 ci_1 ?_
    obtain ⟨r10, σ11, hf12, h⟩ := obi_some h
    refine go_callVi hc ho cmX10_no mlX10_202 dX10_lies_14 ok_81 (As := [.int (1 : Int32)]) (rest := []) (rX10_no (N := 0) hf12 (Nat.le_refl _)) rfl (Nat.le_trans (Nat.le_of_ble_eq_true rfl) hN) rfl (Nat.le_of_ble_eq_true rfl) (Or.inl hz) ?_
    exact go_iret hc (oend_i h hE) hr dX10_lies_17
def fX10_kinOf_b16 (rc6 : Int32 → Int32 → OM → Option (Int32 × OM)) : Nat → Int32 → Int32 → Int32 → OM → Option (Int32 × OM)
  | 0, _, _, _, _ => none
  | n + 1, l2, l3, l4, σ =>
    if (mI σ 84 3) ≤ l4 then (
     rc6 l2 l3 σ)
    else (obi (fX10_hasBit l3 l4 σ) (fun r1 σ2 =>
    if r1 = 0 then (
     fX10_kinOf_b16 rc6 n l2 l3 (l4 + 1) σ2)
    else (ogd (oin ((62 : Int32) + l4) 68) (
    fX10_kinOf_b16 rc6 n (l2 ||| (mI σ2 88 (((62 : Int32) + l4).toNatClampNeg))) l3 (l4 + 1) σ2))))
set_option maxRecDepth 100000 in
set_option maxHeartbeats 4000000 in
theorem rX10_kinOf_b16 {K : OK} (hc : kcc K = cX10_kinOf) (ho : kow K = RX10) (hL : knL K = 5) (hN : 1 ≤ kN K) (hr : (kme K).sig.returnType = (some .int)) {r0 : Int32} {σ0 : OM} (hE : oEnd K (some (.int r0)) σ0) (hz : kz K = 0) {rc6 : Int32 → Int32 → OM → Option (Int32 × OM)} (hrc6 : ∀ (l2 : Int32) (l3 : Int32) (σ : OM), rc6 l2 l3 σ = some (r0, σ0) → Go K 6 [.ref 81, .null, .int l2, .int l3, .null] [] σ) : ∀ (n : Nat) (l2 : Int32) (l3 : Int32) (l4 : Int32) (σ : OM), fX10_kinOf_b16 rc6 n l2 l3 l4 σ = some (r0, σ0) → Go K 16 [.ref 81, .null, .int l2, .int l3, .int l4] [] σ := by
  intro n
  induction n with
  | zero =>
    intro l2 l3 l4 σ h
    cases h
  | succ n ih =>
    intro l2 l3 l4 σ h
    rw [fX10_kinOf_b16] at h
    refine go_iload hc dX10_kinOf_16 rfl ?_
    refine go_aload_n hc dX10_kinOf_18 rfl rfl ?_
    refine go_getC (b := 84) rfl hc ho flX10_20 dX10_kinOf_19 ok_81 ?_
    refine go_iconst hc dX10_kinOf_22 ci_3 ?_
    refine go_iald hc dX10_kinOf_23 ok_84 ol_84 (by decide +kernel) cn_3 ?_
    refine go_icmp_ge (tgt := 55) hc dX10_kinOf_24 rfl (fun hh => ?_) (fun hh => ?_)
    · rw [if_pos hh] at h
      refine go_goto (tgt := 6) hc dX10_kinOf_55 rfl ?_
      refine go_mask [true, false, true, true, false] (lv1 := [.ref 81, .null, .int l2, .int l3, .null]) rfl ?_
      exact hrc6 l2 l3 _ h
    · rw [if_neg hh] at h
      refine go_iload_n hc dX10_kinOf_27 rfl rfl ?_
      refine go_iload hc dX10_kinOf_28 rfl ?_
      obtain ⟨r1, σ2, hf3, h⟩ := obi_some h
      refine go_callSi hc ho cmX10_hasBit mlX10_270 dX10_kinOf_30 (As := [.int l3, .int l4]) (rest := []) (rX10_hasBit (N := 0) hf3 (Nat.le_refl _)) rfl (Nat.le_trans (Nat.le_of_ble_eq_true rfl) hN) rfl (Nat.le_of_ble_eq_true rfl) (Or.inl hz) ?_
      refine go_if_eq (tgt := 49) hc dX10_kinOf_33 rfl (fun hh => ?_) (fun hh => ?_)
      · rw [if_pos hh] at h
        refine go_iinc hc (lv1 := [.ref 81, .null, .int l2, .int l3, .int (l4 + 1)]) dX10_kinOf_49 rfl ci_1 hL (by decide) (fun _ _ e => by cases e; rfl) rfl ?_
        refine go_goto (tgt := 16) hc dX10_kinOf_52 rfl ?_
        exact ih l2 l3 (l4 + 1) _ h
      · rw [if_neg hh] at h
        refine go_iload_n hc dX10_kinOf_36 rfl rfl ?_
        refine go_aload_n hc dX10_kinOf_37 rfl rfl ?_
        refine go_getC (b := 88) rfl hc ho flX10_33 dX10_kinOf_38 ok_81 ?_
        refine go_bipush hc dX10_kinOf_41 cb_62 ?_
        refine go_iload hc dX10_kinOf_43 rfl ?_
        refine go_iadd hc dX10_kinOf_45 ?_
        obtain ⟨hg4, h⟩ := ogd_some h
        refine go_iald hc dX10_kinOf_46 ok_88 ol_88 hg4 rfl ?_
        refine go_ior hc dX10_kinOf_47 ?_
        refine go_istore_n hc (lv1 := [.ref 81, .null, .int (l2 ||| (mI σ2 88 (((62 : Int32) + l4).toNatClampNeg))), .int l3, .int l4]) dX10_kinOf_48 rfl hL (by decide) (fun _ _ e => by cases e; rfl) rfl ?_
        refine go_iinc hc (lv1 := [.ref 81, .null, .int (l2 ||| (mI σ2 88 (((62 : Int32) + l4).toNatClampNeg))), .int l3, .int (l4 + 1)]) dX10_kinOf_49 rfl ci_1 hL (by decide) (fun _ _ e => by cases e; rfl) rfl ?_
        refine go_goto (tgt := 16) hc dX10_kinOf_52 rfl ?_
        exact ih (l2 ||| (mI σ2 88 (((62 : Int32) + l4).toNatClampNeg))) l3 (l4 + 1) _ h
def fX10_kinOf_b6 : Nat → Int32 → Int32 → OM → Option (Int32 × OM)
  | 0, _, _, _ => none
  | n + 1, l2, l3, σ =>
    if l3 = l2 then (
     some (l2, σ))
    else (fX10_kinOf_b16 (fX10_kinOf_b6 n) oF l2 l2 (0 : Int32) σ)
set_option maxRecDepth 100000 in
set_option maxHeartbeats 4000000 in
theorem rX10_kinOf_b6 {K : OK} (hc : kcc K = cX10_kinOf) (ho : kow K = RX10) (hL : knL K = 5) (hN : 1 ≤ kN K) (hr : (kme K).sig.returnType = (some .int)) {r0 : Int32} {σ0 : OM} (hE : oEnd K (some (.int r0)) σ0) (hz : kz K = 0) : ∀ (n : Nat) (l2 : Int32) (l3 : Int32) (σ : OM), fX10_kinOf_b6 n l2 l3 σ = some (r0, σ0) → Go K 6 [.ref 81, .null, .int l2, .int l3, .null] [] σ := by
  intro n
  induction n with
  | zero =>
    intro l2 l3 σ h
    cases h
  | succ n ih =>
    intro l2 l3 σ h
    rw [fX10_kinOf_b6] at h
    refine go_iload_n hc dX10_kinOf_6 rfl rfl ?_
    refine go_iload_n hc dX10_kinOf_7 rfl rfl ?_
    refine go_icmp_eq (tgt := 58) hc dX10_kinOf_8 rfl (fun hh => ?_) (fun hh => ?_)
    · rw [if_pos hh] at h
      refine go_iload_n hc dX10_kinOf_58 rfl rfl ?_
      exact go_iret hc (oend_i h hE) hr dX10_kinOf_59
    · rw [if_neg hh] at h
      refine go_iload_n hc dX10_kinOf_11 rfl rfl ?_
      refine go_istore_n hc (lv1 := [.ref 81, .null, .int l2, .int l2, .null]) dX10_kinOf_12 rfl hL (by decide) (fun _ _ e => by cases e; rfl) rfl ?_
      refine go_iconst hc dX10_kinOf_13 ci_0 ?_
      refine go_istore hc (lv1 := [.ref 81, .null, .int l2, .int l2, .int (0 : Int32)]) dX10_kinOf_14 hL (by decide) (fun _ _ e => by cases e; rfl) rfl ?_
      exact rX10_kinOf_b16 hc ho hL hN hr hE hz ih oF l2 l2 (0 : Int32) _ h
def fX10_kinOf (x0 : Int32) (σ : OM) : Option (Int32 × OM) :=
  fX10_kinOf_b6 oF ((1 : Int32) <<< (x0 &&& 31)) (0 : Int32) σ
set_option maxRecDepth 100000 in
set_option maxHeartbeats 4000000 in
theorem rX10_kinOf {N : Nat} {x0 : Int32} {σ : OM} {r0 : Int32} {σ0 : OM} (h : fX10_kinOf x0 σ = some (r0, σ0)) (hN0 : 1 ≤ N) : oEv N MX10_kinOf [.ref 81, .int x0] σ (some (.int r0)) σ0 := by
  refine oEv_of (lv := [.ref 81, .int x0, .null, .null, .null]) (by decide +kernel) (fun g q hq => hq) (fun g => Nat.le_of_ble_eq_true rfl) ?_
  intro K hc ho hL hN1 hr hE hz
  have hN : 1 ≤ kN K := by rw [hN1]; exact hN0
  unfold fX10_kinOf at h
  refine go_iconst hc dX10_kinOf_0 ci_1 ?_
  refine go_iload_n hc dX10_kinOf_1 rfl rfl ?_
  refine go_ishl hc dX10_kinOf_2 ?_
  refine go_istore_n hc (lv1 := [.ref 81, .int x0, .int ((1 : Int32) <<< (x0 &&& 31)), .null, .null]) dX10_kinOf_3 rfl hL (by decide) (fun _ _ e => by cases e; rfl) rfl ?_
  refine go_iconst hc dX10_kinOf_4 ci_0 ?_
  refine go_istore_n hc (lv1 := [.ref 81, .int x0, .int ((1 : Int32) <<< (x0 &&& 31)), .int (0 : Int32), .null]) dX10_kinOf_5 rfl hL (by decide) (fun _ _ e => by cases e; rfl) rfl ?_
  refine go_mask [true, false, true, true, false] (lv1 := [.ref 81, .null, .int ((1 : Int32) <<< (x0 &&& 31)), .int (0 : Int32), .null]) rfl ?_
  exact rX10_kinOf_b6 hc ho hL hN hr hE hz oF ((1 : Int32) <<< (x0 &&& 31)) (0 : Int32) _ h
def fX10_kin (x0 : Int32) (σ : OM) : Option (Int32 × OM) :=
  obv (fX10_good σ) (fun σ2 =>
  obi (fX10_isHouse x0 σ2) (fun r4 σ5 =>
  if r4 = 0 then (
   obi (fX10_no (1 : Int32) σ5) (fun r7 σ8 =>
   some (r7, σ8)))
  else (obi (fX10_kinOf x0 σ5) (fun r10 σ11 =>
  some (r10, σ11)))))
set_option maxRecDepth 100000 in
set_option maxHeartbeats 4000000 in
theorem rX10_kin {N : Nat} {x0 : Int32} {σ : OM} {r0 : Int32} {σ0 : OM} (h : fX10_kin x0 σ = some (r0, σ0)) (hN0 : 2 ≤ N) : oEv N MX10_kin [.ref 81, .int x0] σ (some (.int r0)) σ0 := by
  refine oEv_of (lv := [.ref 81, .int x0]) (by decide +kernel) (fun g q hq => hq) (fun g => Nat.le_of_ble_eq_true rfl) ?_
  intro K hc ho hL hN1 hr hE hz
  have hN : 2 ≤ kN K := by rw [hN1]; exact hN0
  unfold fX10_kin at h
  refine go_aload_n hc dX10_kin_0 rfl rfl ?_
  obtain ⟨σ2, hf3, h⟩ := obv_some h
  refine go_callVv hc ho cmX10_good mlX10_199 dX10_kin_1 ok_81 (As := []) (rest := []) (rX10_good (N := 0) hf3 (Nat.le_refl _)) rfl (Nat.le_trans (Nat.le_of_ble_eq_true rfl) hN) rfl (Nat.le_of_ble_eq_true rfl) (Or.inl hz) ?_
  refine go_aload_n hc dX10_kin_4 rfl rfl ?_
  refine go_iload_n hc dX10_kin_5 rfl rfl ?_
  obtain ⟨r4, σ5, hf6, h⟩ := obi_some h
  refine go_callVi hc ho cmX10_isHouse mlX10_323 dX10_kin_6 ok_81 (As := [.int x0]) (rest := []) (rX10_isHouse (N := 1) hf6 (Nat.le_refl _)) rfl (Nat.le_trans (Nat.le_of_ble_eq_true rfl) hN) rfl (Nat.le_of_ble_eq_true rfl) (Or.inl hz) ?_
  refine go_if_eq (tgt := 20) hc dX10_kin_9 rfl (fun hh => ?_) (fun hh => ?_)
  · rw [if_pos hh] at h
    refine go_aload_n hc dX10_kin_20 rfl rfl ?_
    refine go_iconst hc dX10_kin_21 ci_1 ?_
    obtain ⟨r7, σ8, hf9, h⟩ := obi_some h
    refine go_callVi hc ho cmX10_no mlX10_202 dX10_kin_22 ok_81 (As := [.int (1 : Int32)]) (rest := []) (rX10_no (N := 0) hf9 (Nat.le_refl _)) rfl (Nat.le_trans (Nat.le_of_ble_eq_true rfl) hN) rfl (Nat.le_of_ble_eq_true rfl) (Or.inl hz) ?_
    exact go_iret hc (oend_i h hE) hr dX10_kin_25
  · rw [if_neg hh] at h
    refine go_aload_n hc dX10_kin_12 rfl rfl ?_
    refine go_iload_n hc dX10_kin_13 rfl rfl ?_
    obtain ⟨r10, σ11, hf12, h⟩ := obi_some h
    refine go_callVi hc ho cmX10_kinOf mlX10_333 dX10_kin_14 ok_81 (As := [.int x0]) (rest := []) (rX10_kinOf (N := 1) hf12 (Nat.le_refl _)) rfl (Nat.le_trans (Nat.le_of_ble_eq_true rfl) hN) rfl (Nat.le_of_ble_eq_true rfl) (Or.inl hz) ?_
    refine go_goto (tgt := 25) hc dX10_kin_17 rfl ?_
    exact go_iret hc (oend_i h hE) hr dX10_kin_25
def fX10_turnedOf (σ : OM) : Option (Int32 × OM) :=
  obi (fX10_liarsOf σ) (fun r1 σ2 =>
  if r1 = ((-2) : Int32) then (
   some ((0 : Int32), σ2))
  else (some (r1, σ2)))
set_option maxRecDepth 100000 in
set_option maxHeartbeats 4000000 in
theorem rX10_turnedOf {N : Nat} {σ : OM} {r0 : Int32} {σ0 : OM} (h : fX10_turnedOf σ = some (r0, σ0)) (hN0 : 4 ≤ N) : oEv N MX10_turnedOf [.ref 81] σ (some (.int r0)) σ0 := by
  refine oEv_of (lv := [.ref 81, .null]) (by decide +kernel) (fun g q hq => hq) (fun g => Nat.le_of_ble_eq_true rfl) ?_
  intro K hc ho hL hN1 hr hE hz
  have hN : 4 ≤ kN K := by rw [hN1]; exact hN0
  unfold fX10_turnedOf at h
  refine go_aload_n hc dX10_turnedOf_0 rfl rfl ?_
  obtain ⟨r1, σ2, hf3, h⟩ := obi_some h
  refine go_callVi hc ho cmX10_liarsOf mlX10_320 dX10_turnedOf_1 ok_81 (As := []) (rest := []) (rX10_liarsOf (N := 3) hf3 (Nat.le_refl _)) rfl (Nat.le_trans (Nat.le_of_ble_eq_true rfl) hN) rfl (Nat.le_of_ble_eq_true rfl) (Or.inl hz) ?_
  refine go_istore_n hc (lv1 := [.ref 81, .int r1]) dX10_turnedOf_4 rfl hL (by decide) (fun _ _ e => by cases e; rfl) rfl ?_
  refine go_iload_n hc dX10_turnedOf_5 rfl rfl ?_
  refine go_bipush hc dX10_turnedOf_6 cb_m2 ?_
  refine go_icmp_ne (tgt := 15) hc dX10_turnedOf_8 rfl (fun hh => ?_) (fun hh => ?_)
  · rw [if_neg hh] at h
    refine go_iload_n hc dX10_turnedOf_15 rfl rfl ?_
    exact go_iret hc (oend_i h hE) hr dX10_turnedOf_16
  · rw [if_pos hh] at h
    refine go_iconst hc dX10_turnedOf_11 ci_0 ?_
    refine go_goto (tgt := 16) hc dX10_turnedOf_12 rfl ?_
    exact go_iret hc (oend_i h hE) hr dX10_turnedOf_16
def fX10_knownSet (x0 : Int32) (σ : OM) : Option (Int64 × OM) :=
  obi (fX10_turnedOf σ) (fun r1 σ2 =>
  obi (fX10_leftBy x0 r1 (mI σ2 88 1) σ2) (fun r4 σ5 =>
  some (r4, σ5)))
set_option maxRecDepth 100000 in
set_option maxHeartbeats 4000000 in
theorem rX10_knownSet {N : Nat} {x0 : Int32} {σ : OM} {r0 : Int64} {σ0 : OM} (h : fX10_knownSet x0 σ = some (r0, σ0)) (hN0 : 5 ≤ N) : oEv N MX10_knownSet [.ref 81, .int x0] σ (some (.long r0)) σ0 := by
  refine oEv_of (lv := [.ref 81, .int x0]) (by decide +kernel) (fun g q hq => hq) (fun g => Nat.le_of_ble_eq_true rfl) ?_
  intro K hc ho hL hN1 hr hE hz
  have hN : 5 ≤ kN K := by rw [hN1]; exact hN0
  unfold fX10_knownSet at h
  refine go_aload_n hc dX10_knownSet_0 rfl rfl ?_
  refine go_iload_n hc dX10_knownSet_1 rfl rfl ?_
  refine go_aload_n hc dX10_knownSet_2 rfl rfl ?_
  obtain ⟨r1, σ2, hf3, h⟩ := obi_some h
  refine go_callVi hc ho cmX10_turnedOf mlX10_326 dX10_knownSet_3 ok_81 (As := []) (rest := [.int x0, .ref 81]) (rX10_turnedOf (N := 4) hf3 (Nat.le_refl _)) rfl (Nat.le_trans (Nat.le_of_ble_eq_true rfl) hN) rfl (Nat.le_of_ble_eq_true rfl) (Or.inl hz) ?_
  refine go_aload_n hc dX10_knownSet_6 rfl rfl ?_
  refine go_getC (b := 88) rfl hc ho flX10_33 dX10_knownSet_7 ok_81 ?_
  refine go_iconst hc dX10_knownSet_10 ci_1 ?_
  refine go_iald hc dX10_knownSet_11 ok_88 ol_88 (by decide +kernel) cn_1 ?_
  obtain ⟨r4, σ5, hf6, h⟩ := obi_some h
  refine go_callVl hc ho cmX10_leftBy mlX10_313 dX10_knownSet_12 ok_81 (As := [.int x0, .int r1, .int (mI σ2 88 1)]) (rest := []) (rX10_leftBy (N := 1) hf6 (Nat.le_refl _)) rfl (Nat.le_trans (Nat.le_of_ble_eq_true rfl) hN) rfl (Nat.le_of_ble_eq_true rfl) (Or.inl hz) ?_
  exact go_lret hc (oend_l h hE) hr dX10_knownSet_15
def fX10_left (x0 : Int32) (σ : OM) : Option (Int32 × OM) :=
  obv (fX10_good σ) (fun σ2 =>
  obi (fX10_isHouse x0 σ2) (fun r4 σ5 =>
  if r4 = 0 then (
   obi (fX10_no (1 : Int32) σ5) (fun r7 σ8 =>
   some (r7, σ8)))
  else (obi (fX10_kinOf x0 σ5) (fun r10 σ11 =>
  obi (fX10_knownSet r10 σ11) (fun r13 σ14 =>
  obi (fX10_ones r13 σ14) (fun r16 σ17 =>
  some (r16, σ17)))))))
set_option maxRecDepth 100000 in
set_option maxHeartbeats 4000000 in
theorem rX10_left {N : Nat} {x0 : Int32} {σ : OM} {r0 : Int32} {σ0 : OM} (h : fX10_left x0 σ = some (r0, σ0)) (hN0 : 6 ≤ N) : oEv N MX10_left [.ref 81, .int x0] σ (some (.int r0)) σ0 := by
  refine oEv_of (lv := [.ref 81, .int x0]) (by decide +kernel) (fun g q hq => hq) (fun g => Nat.le_of_ble_eq_true rfl) ?_
  intro K hc ho hL hN1 hr hE hz
  have hN : 6 ≤ kN K := by rw [hN1]; exact hN0
  unfold fX10_left at h
  refine go_aload_n hc dX10_left_0 rfl rfl ?_
  obtain ⟨σ2, hf3, h⟩ := obv_some h
  refine go_callVv hc ho cmX10_good mlX10_199 dX10_left_1 ok_81 (As := []) (rest := []) (rX10_good (N := 0) hf3 (Nat.le_refl _)) rfl (Nat.le_trans (Nat.le_of_ble_eq_true rfl) hN) rfl (Nat.le_of_ble_eq_true rfl) (Or.inl hz) ?_
  refine go_aload_n hc dX10_left_4 rfl rfl ?_
  refine go_iload_n hc dX10_left_5 rfl rfl ?_
  obtain ⟨r4, σ5, hf6, h⟩ := obi_some h
  refine go_callVi hc ho cmX10_isHouse mlX10_323 dX10_left_6 ok_81 (As := [.int x0]) (rest := []) (rX10_isHouse (N := 1) hf6 (Nat.le_refl _)) rfl (Nat.le_trans (Nat.le_of_ble_eq_true rfl) hN) rfl (Nat.le_of_ble_eq_true rfl) (Or.inl hz) ?_
  refine go_if_eq (tgt := 27) hc dX10_left_9 rfl (fun hh => ?_) (fun hh => ?_)
  · rw [if_pos hh] at h
    refine go_aload_n hc dX10_left_27 rfl rfl ?_
    refine go_iconst hc dX10_left_28 ci_1 ?_
    obtain ⟨r7, σ8, hf9, h⟩ := obi_some h
    refine go_callVi hc ho cmX10_no mlX10_202 dX10_left_29 ok_81 (As := [.int (1 : Int32)]) (rest := []) (rX10_no (N := 0) hf9 (Nat.le_refl _)) rfl (Nat.le_trans (Nat.le_of_ble_eq_true rfl) hN) rfl (Nat.le_of_ble_eq_true rfl) (Or.inl hz) ?_
    exact go_iret hc (oend_i h hE) hr dX10_left_32
  · rw [if_neg hh] at h
    refine go_aload_n hc dX10_left_12 rfl rfl ?_
    refine go_aload_n hc dX10_left_13 rfl rfl ?_
    refine go_iload_n hc dX10_left_14 rfl rfl ?_
    obtain ⟨r10, σ11, hf12, h⟩ := obi_some h
    refine go_callVi hc ho cmX10_kinOf mlX10_333 dX10_left_15 ok_81 (As := [.int x0]) (rest := [.ref 81]) (rX10_kinOf (N := 1) hf12 (Nat.le_refl _)) rfl (Nat.le_trans (Nat.le_of_ble_eq_true rfl) hN) rfl (Nat.le_of_ble_eq_true rfl) (Or.inl hz) ?_
    obtain ⟨r13, σ14, hf15, h⟩ := obi_some h
    refine go_callVl hc ho cmX10_knownSet mlX10_336 dX10_left_18 ok_81 (As := [.int r10]) (rest := []) (rX10_knownSet (N := 5) hf15 (Nat.le_refl _)) rfl (Nat.le_trans (Nat.le_of_ble_eq_true rfl) hN) rfl (Nat.le_of_ble_eq_true rfl) (Or.inl hz) ?_
    obtain ⟨r16, σ17, hf18, h⟩ := obi_some h
    refine go_callSi hc ho cmX10_ones mlX10_291 dX10_left_21 (As := [.long r13]) (rest := []) (rX10_ones (N := 0) hf18 (Nat.le_refl _)) rfl (Nat.le_trans (Nat.le_of_ble_eq_true rfl) hN) rfl (Nat.le_of_ble_eq_true rfl) (Or.inl hz) ?_
    refine go_goto (tgt := 32) hc dX10_left_24 rfl ?_
    exact go_iret hc (oend_i h hE) hr dX10_left_32
def fX10_answerBy (x0 : Int64) (x1 : Int64) (σ : OM) : Option (Int32 × OM) :=
  if (lg_cmp x0 (0 : Int64)) = 0 then (
   some (((-2) : Int32), σ))
  else (if (lg_cmp (x0 &&& (x1 ^^^ ((-1) : Int64))) (0 : Int64)) = 0 then (
   some ((1 : Int32), σ))
  else (if (lg_cmp (x0 &&& x1) (0 : Int64)) = 0 then (
   some ((0 : Int32), σ))
  else (some (((-2) : Int32), σ))))
set_option maxRecDepth 100000 in
set_option maxHeartbeats 4000000 in
theorem rX10_answerBy {N : Nat} {x0 : Int64} {x1 : Int64} {σ : OM} {r0 : Int32} {σ0 : OM} (h : fX10_answerBy x0 x1 σ = some (r0, σ0)) (hN0 : 0 ≤ N) : oEv N MX10_answerBy [.long x0, .long x1] σ (some (.int r0)) σ0 := by
  refine oEv_of (lv := [.long x0, .null, .long x1, .null]) (by decide +kernel) (fun g q hq => hq) (fun g => Nat.le_of_ble_eq_true rfl) ?_
  intro K hc ho hL hN1 hr hE hz
  have hN : 0 ≤ kN K := by rw [hN1]; exact hN0
  unfold fX10_answerBy at h
  refine go_lload_n hc dX10_answerBy_0 rfl rfl ?_
  refine go_lconst hc dX10_answerBy_1 cl_0 ?_
  refine go_lcmp hc dX10_answerBy_2 ?_
  refine go_if_ne (tgt := 9) hc dX10_answerBy_3 rfl (fun hh => ?_) (fun hh => ?_)
  · rw [if_neg hh] at h
    refine go_lload_n hc dX10_answerBy_9 rfl rfl ?_
    refine go_lload_n hc dX10_answerBy_10 rfl rfl ?_
    refine go_ldc2 hc ho klX10_181 dX10_answerBy_11 ?_
    refine go_lxor hc dX10_answerBy_14 ?_
    refine go_land hc dX10_answerBy_15 ?_
    refine go_lconst hc dX10_answerBy_16 cl_0 ?_
    refine go_lcmp hc dX10_answerBy_17 ?_
    refine go_if_ne (tgt := 25) hc dX10_answerBy_18 rfl (fun hh => ?_) (fun hh => ?_)
    · rw [if_neg hh] at h
      refine go_lload_n hc dX10_answerBy_25 rfl rfl ?_
      refine go_lload_n hc dX10_answerBy_26 rfl rfl ?_
      refine go_land hc dX10_answerBy_27 ?_
      refine go_lconst hc dX10_answerBy_28 cl_0 ?_
      refine go_lcmp hc dX10_answerBy_29 ?_
      refine go_if_ne (tgt := 37) hc dX10_answerBy_30 rfl (fun hh => ?_) (fun hh => ?_)
      · rw [if_neg hh] at h
        refine go_bipush hc dX10_answerBy_37 cb_m2 ?_
        exact go_iret hc (oend_i h hE) hr dX10_answerBy_39
      · rw [if_pos hh] at h
        refine go_iconst hc dX10_answerBy_33 ci_0 ?_
        refine go_goto (tgt := 39) hc dX10_answerBy_34 rfl ?_
        exact go_iret hc (oend_i h hE) hr dX10_answerBy_39
    · rw [if_pos hh] at h
      refine go_iconst hc dX10_answerBy_21 ci_1 ?_
      refine go_goto (tgt := 39) hc dX10_answerBy_22 rfl ?_
      exact go_iret hc (oend_i h hE) hr dX10_answerBy_39
  · rw [if_pos hh] at h
    refine go_bipush hc dX10_answerBy_6 cb_m2 ?_
    exact go_iret hc (oend_i h hE) hr dX10_answerBy_8
def fX10_known (x0 : Int32) (x1 : Int32) (σ : OM) : Option (Int32 × OM) :=
  obv (fX10_good σ) (fun σ2 =>
  obi (fX10_isHouse x0 σ2) (fun r4 σ5 =>
  if r4 = 0 then (
   obi (fX10_no (1 : Int32) σ5) (fun r7 σ8 =>
   some (r7, σ8)))
  else (obi (fX10_isQuestion x1 σ5) (fun r10 σ11 =>
  if r10 = 0 then (
   obi (fX10_no (1 : Int32) σ11) (fun r13 σ14 =>
   some (r13, σ14)))
  else (obi (fX10_kinOf x0 σ11) (fun r16 σ17 =>
  obi (fX10_knownSet r16 σ17) (fun r19 σ20 =>
  ogd (oin x1 9) (
  obi (fX10_answerBy r19 (mL σ20 86 x1.toNatClampNeg) σ20) (fun r23 σ24 =>
  some (r23, σ24))))))))))
set_option maxRecDepth 100000 in
set_option maxHeartbeats 4000000 in
theorem rX10_known {N : Nat} {x0 : Int32} {x1 : Int32} {σ : OM} {r0 : Int32} {σ0 : OM} (h : fX10_known x0 x1 σ = some (r0, σ0)) (hN0 : 6 ≤ N) : oEv N MX10_known [.ref 81, .int x0, .int x1] σ (some (.int r0)) σ0 := by
  refine oEv_of (lv := [.ref 81, .int x0, .int x1]) (by decide +kernel) (fun g q hq => hq) (fun g => Nat.le_of_ble_eq_true rfl) ?_
  intro K hc ho hL hN1 hr hE hz
  have hN : 6 ≤ kN K := by rw [hN1]; exact hN0
  unfold fX10_known at h
  refine go_aload_n hc dX10_known_0 rfl rfl ?_
  obtain ⟨σ2, hf3, h⟩ := obv_some h
  refine go_callVv hc ho cmX10_good mlX10_199 dX10_known_1 ok_81 (As := []) (rest := []) (rX10_good (N := 0) hf3 (Nat.le_refl _)) rfl (Nat.le_trans (Nat.le_of_ble_eq_true rfl) hN) rfl (Nat.le_of_ble_eq_true rfl) (Or.inl hz) ?_
  refine go_aload_n hc dX10_known_4 rfl rfl ?_
  refine go_iload_n hc dX10_known_5 rfl rfl ?_
  obtain ⟨r4, σ5, hf6, h⟩ := obi_some h
  refine go_callVi hc ho cmX10_isHouse mlX10_323 dX10_known_6 ok_81 (As := [.int x0]) (rest := []) (rX10_isHouse (N := 1) hf6 (Nat.le_refl _)) rfl (Nat.le_trans (Nat.le_of_ble_eq_true rfl) hN) rfl (Nat.le_of_ble_eq_true rfl) (Or.inl hz) ?_
  refine go_if_eq (tgt := 41) hc dX10_known_9 rfl (fun hh => ?_) (fun hh => ?_)
  · rw [if_pos hh] at h
    refine go_aload_n hc dX10_known_41 rfl rfl ?_
    refine go_iconst hc dX10_known_42 ci_1 ?_
    obtain ⟨r7, σ8, hf9, h⟩ := obi_some h
    refine go_callVi hc ho cmX10_no mlX10_202 dX10_known_43 ok_81 (As := [.int (1 : Int32)]) (rest := []) (rX10_no (N := 0) hf9 (Nat.le_refl _)) rfl (Nat.le_trans (Nat.le_of_ble_eq_true rfl) hN) rfl (Nat.le_of_ble_eq_true rfl) (Or.inl hz) ?_
    exact go_iret hc (oend_i h hE) hr dX10_known_46
  · rw [if_neg hh] at h
    refine go_aload_n hc dX10_known_12 rfl rfl ?_
    refine go_iload_n hc dX10_known_13 rfl rfl ?_
    obtain ⟨r10, σ11, hf12, h⟩ := obi_some h
    refine go_callVi hc ho cmX10_isQuestion mlX10_298 dX10_known_14 ok_81 (As := [.int x1]) (rest := []) (rX10_isQuestion (N := 1) hf12 (Nat.le_refl _)) rfl (Nat.le_trans (Nat.le_of_ble_eq_true rfl) hN) rfl (Nat.le_of_ble_eq_true rfl) (Or.inl hz) ?_
    refine go_if_eq (tgt := 41) hc dX10_known_17 rfl (fun hh => ?_) (fun hh => ?_)
    · rw [if_pos hh] at h
      refine go_aload_n hc dX10_known_41 rfl rfl ?_
      refine go_iconst hc dX10_known_42 ci_1 ?_
      obtain ⟨r13, σ14, hf15, h⟩ := obi_some h
      refine go_callVi hc ho cmX10_no mlX10_202 dX10_known_43 ok_81 (As := [.int (1 : Int32)]) (rest := []) (rX10_no (N := 0) hf15 (Nat.le_refl _)) rfl (Nat.le_trans (Nat.le_of_ble_eq_true rfl) hN) rfl (Nat.le_of_ble_eq_true rfl) (Or.inl hz) ?_
      exact go_iret hc (oend_i h hE) hr dX10_known_46
    · rw [if_neg hh] at h
      refine go_aload_n hc dX10_known_20 rfl rfl ?_
      refine go_aload_n hc dX10_known_21 rfl rfl ?_
      refine go_iload_n hc dX10_known_22 rfl rfl ?_
      obtain ⟨r16, σ17, hf18, h⟩ := obi_some h
      refine go_callVi hc ho cmX10_kinOf mlX10_333 dX10_known_23 ok_81 (As := [.int x0]) (rest := [.ref 81]) (rX10_kinOf (N := 1) hf18 (Nat.le_refl _)) rfl (Nat.le_trans (Nat.le_of_ble_eq_true rfl) hN) rfl (Nat.le_of_ble_eq_true rfl) (Or.inl hz) ?_
      obtain ⟨r19, σ20, hf21, h⟩ := obi_some h
      refine go_callVl hc ho cmX10_knownSet mlX10_336 dX10_known_26 ok_81 (As := [.int r16]) (rest := []) (rX10_knownSet (N := 5) hf21 (Nat.le_refl _)) rfl (Nat.le_trans (Nat.le_of_ble_eq_true rfl) hN) rfl (Nat.le_of_ble_eq_true rfl) (Or.inl hz) ?_
      refine go_aload_n hc dX10_known_29 rfl rfl ?_
      refine go_getC (b := 86) rfl hc ho flX10_26 dX10_known_30 ok_81 ?_
      refine go_iload_n hc dX10_known_33 rfl rfl ?_
      obtain ⟨hg22, h⟩ := ogd_some h
      refine go_lald hc dX10_known_34 ok_86 ol_86 hg22 rfl ?_
      obtain ⟨r23, σ24, hf25, h⟩ := obi_some h
      refine go_callSi hc ho cmX10_answerBy mlX10_329 dX10_known_35 (As := [.long r19, .long (mL σ20 86 x1.toNatClampNeg)]) (rest := []) (rX10_answerBy (N := 0) hf25 (Nat.le_refl _)) rfl (Nat.le_trans (Nat.le_of_ble_eq_true rfl) hN) rfl (Nat.le_of_ble_eq_true rfl) (Or.inl hz) ?_
      refine go_goto (tgt := 46) hc dX10_known_38 rfl ?_
      exact go_iret hc (oend_i h hE) hr dX10_known_46
def fX10_fact (x0 : Int32) (x1 : Int32) (σ : OM) : Option (Int32 × OM) :=
  obv (fX10_good σ) (fun σ2 =>
  obi (fX10_isHouse x0 σ2) (fun r4 σ5 =>
  if r4 = 0 then (
   obi (fX10_no (1 : Int32) σ5) (fun r7 σ8 =>
   some (r7, σ8)))
  else (obi (fX10_in x1 (0 : Int32) ((mI σ5 84 1) - (1 : Int32)) σ5) (fun r10 σ11 =>
  if r10 = 0 then (
   obi (fX10_no (1 : Int32) σ11) (fun r13 σ14 =>
   some (r13, σ14)))
  else (obi (fX10_kinOf x0 σ11) (fun r16 σ17 =>
  obi (fX10_knownSet r16 σ17) (fun r19 σ20 =>
  obi (fX10_worldsOf x1 σ20) (fun r22 σ23 =>
  obi (fX10_answerBy r19 r22 σ23) (fun r25 σ26 =>
  some (r25, σ26))))))))))
set_option maxRecDepth 100000 in
set_option maxHeartbeats 4000000 in
theorem rX10_fact {N : Nat} {x0 : Int32} {x1 : Int32} {σ : OM} {r0 : Int32} {σ0 : OM} (h : fX10_fact x0 x1 σ = some (r0, σ0)) (hN0 : 6 ≤ N) : oEv N MX10_fact [.ref 81, .int x0, .int x1] σ (some (.int r0)) σ0 := by
  refine oEv_of (lv := [.ref 81, .int x0, .int x1]) (by decide +kernel) (fun g q hq => hq) (fun g => Nat.le_of_ble_eq_true rfl) ?_
  intro K hc ho hL hN1 hr hE hz
  have hN : 6 ≤ kN K := by rw [hN1]; exact hN0
  unfold fX10_fact at h
  refine go_aload_n hc dX10_fact_0 rfl rfl ?_
  obtain ⟨σ2, hf3, h⟩ := obv_some h
  refine go_callVv hc ho cmX10_good mlX10_199 dX10_fact_1 ok_81 (As := []) (rest := []) (rX10_good (N := 0) hf3 (Nat.le_refl _)) rfl (Nat.le_trans (Nat.le_of_ble_eq_true rfl) hN) rfl (Nat.le_of_ble_eq_true rfl) (Or.inl hz) ?_
  refine go_aload_n hc dX10_fact_4 rfl rfl ?_
  refine go_iload_n hc dX10_fact_5 rfl rfl ?_
  obtain ⟨r4, σ5, hf6, h⟩ := obi_some h
  refine go_callVi hc ho cmX10_isHouse mlX10_323 dX10_fact_6 ok_81 (As := [.int x0]) (rest := []) (rX10_isHouse (N := 1) hf6 (Nat.le_refl _)) rfl (Nat.le_trans (Nat.le_of_ble_eq_true rfl) hN) rfl (Nat.le_of_ble_eq_true rfl) (Or.inl hz) ?_
  refine go_if_eq (tgt := 47) hc dX10_fact_9 rfl (fun hh => ?_) (fun hh => ?_)
  · rw [if_pos hh] at h
    refine go_aload_n hc dX10_fact_47 rfl rfl ?_
    refine go_iconst hc dX10_fact_48 ci_1 ?_
    obtain ⟨r7, σ8, hf9, h⟩ := obi_some h
    refine go_callVi hc ho cmX10_no mlX10_202 dX10_fact_49 ok_81 (As := [.int (1 : Int32)]) (rest := []) (rX10_no (N := 0) hf9 (Nat.le_refl _)) rfl (Nat.le_trans (Nat.le_of_ble_eq_true rfl) hN) rfl (Nat.le_of_ble_eq_true rfl) (Or.inl hz) ?_
    exact go_iret hc (oend_i h hE) hr dX10_fact_52
  · rw [if_neg hh] at h
    refine go_iload_n hc dX10_fact_12 rfl rfl ?_
    refine go_iconst hc dX10_fact_13 ci_0 ?_
    refine go_aload_n hc dX10_fact_14 rfl rfl ?_
    refine go_getC (b := 84) rfl hc ho flX10_20 dX10_fact_15 ok_81 ?_
    refine go_iconst hc dX10_fact_18 ci_1 ?_
    refine go_iald hc dX10_fact_19 ok_84 ol_84 (by decide +kernel) cn_1 ?_
    refine go_iconst hc dX10_fact_20 ci_1 ?_
    refine go_isub hc dX10_fact_21 ?_
    obtain ⟨r10, σ11, hf12, h⟩ := obi_some h
    refine go_callSi hc ho cmX10_in mlX10_156 dX10_fact_22 (As := [.int x1, .int (0 : Int32), .int ((mI σ5 84 1) - (1 : Int32))]) (rest := []) (rX10_in (N := 0) hf12 (Nat.le_refl _)) rfl (Nat.le_trans (Nat.le_of_ble_eq_true rfl) hN) rfl (Nat.le_of_ble_eq_true rfl) (Or.inl hz) ?_
    refine go_if_eq (tgt := 47) hc dX10_fact_25 rfl (fun hh => ?_) (fun hh => ?_)
    · rw [if_pos hh] at h
      refine go_aload_n hc dX10_fact_47 rfl rfl ?_
      refine go_iconst hc dX10_fact_48 ci_1 ?_
      obtain ⟨r13, σ14, hf15, h⟩ := obi_some h
      refine go_callVi hc ho cmX10_no mlX10_202 dX10_fact_49 ok_81 (As := [.int (1 : Int32)]) (rest := []) (rX10_no (N := 0) hf15 (Nat.le_refl _)) rfl (Nat.le_trans (Nat.le_of_ble_eq_true rfl) hN) rfl (Nat.le_of_ble_eq_true rfl) (Or.inl hz) ?_
      exact go_iret hc (oend_i h hE) hr dX10_fact_52
    · rw [if_neg hh] at h
      refine go_aload_n hc dX10_fact_28 rfl rfl ?_
      refine go_aload_n hc dX10_fact_29 rfl rfl ?_
      refine go_iload_n hc dX10_fact_30 rfl rfl ?_
      obtain ⟨r16, σ17, hf18, h⟩ := obi_some h
      refine go_callVi hc ho cmX10_kinOf mlX10_333 dX10_fact_31 ok_81 (As := [.int x0]) (rest := [.ref 81]) (rX10_kinOf (N := 1) hf18 (Nat.le_refl _)) rfl (Nat.le_trans (Nat.le_of_ble_eq_true rfl) hN) rfl (Nat.le_of_ble_eq_true rfl) (Or.inl hz) ?_
      obtain ⟨r19, σ20, hf21, h⟩ := obi_some h
      refine go_callVl hc ho cmX10_knownSet mlX10_336 dX10_fact_34 ok_81 (As := [.int r16]) (rest := []) (rX10_knownSet (N := 5) hf21 (Nat.le_refl _)) rfl (Nat.le_trans (Nat.le_of_ble_eq_true rfl) hN) rfl (Nat.le_of_ble_eq_true rfl) (Or.inl hz) ?_
      refine go_iload_n hc dX10_fact_37 rfl rfl ?_
      obtain ⟨r22, σ23, hf24, h⟩ := obi_some h
      refine go_callSl hc ho cmX10_worldsOf mlX10_195 dX10_fact_38 (As := [.int x1]) (rest := [.long r19]) (rX10_worldsOf (N := 0) hf24 (Nat.le_refl _)) rfl (Nat.le_trans (Nat.le_of_ble_eq_true rfl) hN) rfl (Nat.le_of_ble_eq_true rfl) (Or.inl hz) ?_
      obtain ⟨r25, σ26, hf27, h⟩ := obi_some h
      refine go_callSi hc ho cmX10_answerBy mlX10_329 dX10_fact_41 (As := [.long r19, .long r22]) (rest := []) (rX10_answerBy (N := 0) hf27 (Nat.le_refl _)) rfl (Nat.le_trans (Nat.le_of_ble_eq_true rfl) hN) rfl (Nat.le_of_ble_eq_true rfl) (Or.inl hz) ?_
      refine go_goto (tgt := 52) hc dX10_fact_44 rfl ?_
      exact go_iret hc (oend_i h hE) hr dX10_fact_52
def fX10_knownByAll (x0 : Int32) (σ : OM) : Option (Int32 × OM) :=
  obv (fX10_good σ) (fun σ2 =>
  obi (fX10_isQuestion x0 σ2) (fun r4 σ5 =>
  if r4 = 0 then (
   obi (fX10_no (1 : Int32) σ5) (fun r7 σ8 =>
   some (r7, σ8)))
  else (obi (fX10_knownSet (63 : Int32) σ5) (fun r10 σ11 =>
  ogd (oin x0 9) (
  obi (fX10_answerBy r10 (mL σ11 86 x0.toNatClampNeg) σ11) (fun r14 σ15 =>
  some (r14, σ15)))))))
set_option maxRecDepth 100000 in
set_option maxHeartbeats 4000000 in
theorem rX10_knownByAll {N : Nat} {x0 : Int32} {σ : OM} {r0 : Int32} {σ0 : OM} (h : fX10_knownByAll x0 σ = some (r0, σ0)) (hN0 : 6 ≤ N) : oEv N MX10_knownByAll [.ref 81, .int x0] σ (some (.int r0)) σ0 := by
  refine oEv_of (lv := [.ref 81, .int x0]) (by decide +kernel) (fun g q hq => hq) (fun g => Nat.le_of_ble_eq_true rfl) ?_
  intro K hc ho hL hN1 hr hE hz
  have hN : 6 ≤ kN K := by rw [hN1]; exact hN0
  unfold fX10_knownByAll at h
  refine go_aload_n hc dX10_knownByAll_0 rfl rfl ?_
  obtain ⟨σ2, hf3, h⟩ := obv_some h
  refine go_callVv hc ho cmX10_good mlX10_199 dX10_knownByAll_1 ok_81 (As := []) (rest := []) (rX10_good (N := 0) hf3 (Nat.le_refl _)) rfl (Nat.le_trans (Nat.le_of_ble_eq_true rfl) hN) rfl (Nat.le_of_ble_eq_true rfl) (Or.inl hz) ?_
  refine go_aload_n hc dX10_knownByAll_4 rfl rfl ?_
  refine go_iload_n hc dX10_knownByAll_5 rfl rfl ?_
  obtain ⟨r4, σ5, hf6, h⟩ := obi_some h
  refine go_callVi hc ho cmX10_isQuestion mlX10_298 dX10_knownByAll_6 ok_81 (As := [.int x0]) (rest := []) (rX10_isQuestion (N := 1) hf6 (Nat.le_refl _)) rfl (Nat.le_trans (Nat.le_of_ble_eq_true rfl) hN) rfl (Nat.le_of_ble_eq_true rfl) (Or.inl hz) ?_
  refine go_if_eq (tgt := 30) hc dX10_knownByAll_9 rfl (fun hh => ?_) (fun hh => ?_)
  · rw [if_pos hh] at h
    refine go_aload_n hc dX10_knownByAll_30 rfl rfl ?_
    refine go_iconst hc dX10_knownByAll_31 ci_1 ?_
    obtain ⟨r7, σ8, hf9, h⟩ := obi_some h
    refine go_callVi hc ho cmX10_no mlX10_202 dX10_knownByAll_32 ok_81 (As := [.int (1 : Int32)]) (rest := []) (rX10_no (N := 0) hf9 (Nat.le_refl _)) rfl (Nat.le_trans (Nat.le_of_ble_eq_true rfl) hN) rfl (Nat.le_of_ble_eq_true rfl) (Or.inl hz) ?_
    exact go_iret hc (oend_i h hE) hr dX10_knownByAll_35
  · rw [if_neg hh] at h
    refine go_aload_n hc dX10_knownByAll_12 rfl rfl ?_
    refine go_bipush hc dX10_knownByAll_13 cb_63 ?_
    obtain ⟨r10, σ11, hf12, h⟩ := obi_some h
    refine go_callVl hc ho cmX10_knownSet mlX10_336 dX10_knownByAll_15 ok_81 (As := [.int (63 : Int32)]) (rest := []) (rX10_knownSet (N := 5) hf12 (Nat.le_refl _)) rfl (Nat.le_trans (Nat.le_of_ble_eq_true rfl) hN) rfl (Nat.le_of_ble_eq_true rfl) (Or.inl hz) ?_
    refine go_aload_n hc dX10_knownByAll_18 rfl rfl ?_
    refine go_getC (b := 86) rfl hc ho flX10_26 dX10_knownByAll_19 ok_81 ?_
    refine go_iload_n hc dX10_knownByAll_22 rfl rfl ?_
    obtain ⟨hg13, h⟩ := ogd_some h
    refine go_lald hc dX10_knownByAll_23 ok_86 ol_86 hg13 rfl ?_
    obtain ⟨r14, σ15, hf16, h⟩ := obi_some h
    refine go_callSi hc ho cmX10_answerBy mlX10_329 dX10_knownByAll_24 (As := [.long r10, .long (mL σ11 86 x0.toNatClampNeg)]) (rest := []) (rX10_answerBy (N := 0) hf16 (Nat.le_refl _)) rfl (Nat.le_trans (Nat.le_of_ble_eq_true rfl) hN) rfl (Nat.le_of_ble_eq_true rfl) (Or.inl hz) ?_
    refine go_goto (tgt := 35) hc dX10_knownByAll_27 rfl ?_
    exact go_iret hc (oend_i h hE) hr dX10_knownByAll_35
def fX10_knownOf_b5 : Nat → Int64 → Int32 → Int32 → OM → Option (Int32 × OM)
  | 0, _, _, _, _ => none
  | n + 1, l1, l3, l4, σ =>
    if (mI σ 84 5) ≤ l4 then (
     some (l3, σ))
    else (ogd (oin l4 9) (
    obi (fX10_answerBy l1 (mL σ 86 l4.toNatClampNeg) σ) (fun r2 σ3 =>
    if r2 = ((-2) : Int32) then (
     fX10_knownOf_b5 n l1 (l3 ||| (0 : Int32)) (l4 + 1) σ3)
    else (fX10_knownOf_b5 n l1 (l3 ||| ((1 : Int32) <<< (l4 &&& 31))) (l4 + 1) σ3))))
set_option maxRecDepth 100000 in
set_option maxHeartbeats 4000000 in
theorem rX10_knownOf_b5 {K : OK} (hc : kcc K = cX10_knownOf) (ho : kow K = RX10) (hL : knL K = 5) (hN : 1 ≤ kN K) (hr : (kme K).sig.returnType = (some .int)) {r0 : Int32} {σ0 : OM} (hE : oEnd K (some (.int r0)) σ0) (hz : kz K = 0) : ∀ (n : Nat) (l1 : Int64) (l3 : Int32) (l4 : Int32) (σ : OM), fX10_knownOf_b5 n l1 l3 l4 σ = some (r0, σ0) → Go K 5 [.ref 81, .long l1, .null, .int l3, .int l4] [] σ := by
  intro n
  induction n with
  | zero =>
    intro l1 l3 l4 σ h
    cases h
  | succ n ih =>
    intro l1 l3 l4 σ h
    rw [fX10_knownOf_b5] at h
    refine go_iload hc dX10_knownOf_5 rfl ?_
    refine go_aload_n hc dX10_knownOf_7 rfl rfl ?_
    refine go_getC (b := 84) rfl hc ho flX10_20 dX10_knownOf_8 ok_81 ?_
    refine go_iconst hc dX10_knownOf_11 ci_5 ?_
    refine go_iald hc dX10_knownOf_12 ok_84 ol_84 (by decide +kernel) cn_5 ?_
    refine go_icmp_ge (tgt := 49) hc dX10_knownOf_13 rfl (fun hh => ?_) (fun hh => ?_)
    · rw [if_pos hh] at h
      refine go_iload_n hc dX10_knownOf_49 rfl rfl ?_
      exact go_iret hc (oend_i h hE) hr dX10_knownOf_50
    · rw [if_neg hh] at h
      refine go_iload_n hc dX10_knownOf_16 rfl rfl ?_
      refine go_lload_n hc dX10_knownOf_17 rfl rfl ?_
      refine go_aload_n hc dX10_knownOf_18 rfl rfl ?_
      refine go_getC (b := 86) rfl hc ho flX10_26 dX10_knownOf_19 ok_81 ?_
      refine go_iload hc dX10_knownOf_22 rfl ?_
      obtain ⟨hg1, h⟩ := ogd_some h
      refine go_lald hc dX10_knownOf_24 ok_86 ol_86 hg1 rfl ?_
      obtain ⟨r2, σ3, hf4, h⟩ := obi_some h
      refine go_callSi hc ho cmX10_answerBy mlX10_329 dX10_knownOf_25 (As := [.long l1, .long (mL σ 86 l4.toNatClampNeg)]) (rest := [.int l3]) (rX10_answerBy (N := 0) hf4 (Nat.le_refl _)) rfl (Nat.le_trans (Nat.le_of_ble_eq_true rfl) hN) rfl (Nat.le_of_ble_eq_true rfl) (Or.inl hz) ?_
      refine go_bipush hc dX10_knownOf_28 cb_m2 ?_
      refine go_icmp_eq (tgt := 40) hc dX10_knownOf_30 rfl (fun hh => ?_) (fun hh => ?_)
      · rw [if_pos hh] at h
        refine go_iconst hc dX10_knownOf_40 ci_0 ?_
        refine go_ior hc dX10_knownOf_41 ?_
        refine go_istore_n hc (lv1 := [.ref 81, .long l1, .null, .int (l3 ||| (0 : Int32)), .int l4]) dX10_knownOf_42 rfl hL (by decide) (fun _ _ e => by cases e; rfl) rfl ?_
        refine go_iinc hc (lv1 := [.ref 81, .long l1, .null, .int (l3 ||| (0 : Int32)), .int (l4 + 1)]) dX10_knownOf_43 rfl ci_1 hL (by decide) (fun _ _ e => by cases e; rfl) rfl ?_
        refine go_goto (tgt := 5) hc dX10_knownOf_46 rfl ?_
        exact ih l1 (l3 ||| (0 : Int32)) (l4 + 1) _ h
      · rw [if_neg hh] at h
        refine go_iconst hc dX10_knownOf_33 ci_1 ?_
        refine go_iload hc dX10_knownOf_34 rfl ?_
        refine go_ishl hc dX10_knownOf_36 ?_
        refine go_goto (tgt := 41) hc dX10_knownOf_37 rfl ?_
        refine go_ior hc dX10_knownOf_41 ?_
        refine go_istore_n hc (lv1 := [.ref 81, .long l1, .null, .int (l3 ||| ((1 : Int32) <<< (l4 &&& 31))), .int l4]) dX10_knownOf_42 rfl hL (by decide) (fun _ _ e => by cases e; rfl) rfl ?_
        refine go_iinc hc (lv1 := [.ref 81, .long l1, .null, .int (l3 ||| ((1 : Int32) <<< (l4 &&& 31))), .int (l4 + 1)]) dX10_knownOf_43 rfl ci_1 hL (by decide) (fun _ _ e => by cases e; rfl) rfl ?_
        refine go_goto (tgt := 5) hc dX10_knownOf_46 rfl ?_
        exact ih l1 (l3 ||| ((1 : Int32) <<< (l4 &&& 31))) (l4 + 1) _ h
def fX10_knownOf (x0 : Int64) (σ : OM) : Option (Int32 × OM) :=
  fX10_knownOf_b5 oF x0 (0 : Int32) (0 : Int32) σ
set_option maxRecDepth 100000 in
set_option maxHeartbeats 4000000 in
theorem rX10_knownOf {N : Nat} {x0 : Int64} {σ : OM} {r0 : Int32} {σ0 : OM} (h : fX10_knownOf x0 σ = some (r0, σ0)) (hN0 : 1 ≤ N) : oEv N MX10_knownOf [.ref 81, .long x0] σ (some (.int r0)) σ0 := by
  refine oEv_of (lv := [.ref 81, .long x0, .null, .null, .null]) (by decide +kernel) (fun g q hq => hq) (fun g => Nat.le_of_ble_eq_true rfl) ?_
  intro K hc ho hL hN1 hr hE hz
  have hN : 1 ≤ kN K := by rw [hN1]; exact hN0
  unfold fX10_knownOf at h
  refine go_iconst hc dX10_knownOf_0 ci_0 ?_
  refine go_istore_n hc (lv1 := [.ref 81, .long x0, .null, .int (0 : Int32), .null]) dX10_knownOf_1 rfl hL (by decide) (fun _ _ e => by cases e; rfl) rfl ?_
  refine go_iconst hc dX10_knownOf_2 ci_0 ?_
  refine go_istore hc (lv1 := [.ref 81, .long x0, .null, .int (0 : Int32), .int (0 : Int32)]) dX10_knownOf_3 hL (by decide) (fun _ _ e => by cases e; rfl) rfl ?_
  exact rX10_knownOf_b5 hc ho hL hN hr hE hz oF x0 (0 : Int32) (0 : Int32) _ h
def fX10_onlyTogether_b30 : Nat → Int32 → Int32 → OM → Option (Int32 × OM)
  | 0, _, _, _ => none
  | n + 1, l1, l2, σ =>
    if (mI σ 84 3) ≤ l2 then (
     some (l1, σ))
    else (obi (fX10_kinOf l2 σ) (fun r1 σ2 =>
    obi (fX10_knownSet r1 σ2) (fun r4 σ5 =>
    obi (fX10_knownOf r4 σ5) (fun r7 σ8 =>
    fX10_onlyTogether_b30 n (l1 &&& (r7 ^^^ ((-1) : Int32))) (l2 + 1) σ8))))
set_option maxRecDepth 100000 in
set_option maxHeartbeats 4000000 in
theorem rX10_onlyTogether_b30 {K : OK} (hc : kcc K = cX10_onlyTogether) (ho : kow K = RX10) (hL : knL K = 3) (hN : 6 ≤ kN K) (hr : (kme K).sig.returnType = (some .int)) {r0 : Int32} {σ0 : OM} (hE : oEnd K (some (.int r0)) σ0) (hz : kz K = 0) : ∀ (n : Nat) (l1 : Int32) (l2 : Int32) (σ : OM), fX10_onlyTogether_b30 n l1 l2 σ = some (r0, σ0) → Go K 30 [.ref 81, .int l1, .int l2] [] σ := by
  intro n
  induction n with
  | zero =>
    intro l1 l2 σ h
    cases h
  | succ n ih =>
    intro l1 l2 σ h
    rw [fX10_onlyTogether_b30] at h
    refine go_iload_n hc dX10_onlyTogether_30 rfl rfl ?_
    refine go_aload_n hc dX10_onlyTogether_31 rfl rfl ?_
    refine go_getC (b := 84) rfl hc ho flX10_20 dX10_onlyTogether_32 ok_81 ?_
    refine go_iconst hc dX10_onlyTogether_35 ci_3 ?_
    refine go_iald hc dX10_onlyTogether_36 ok_84 ol_84 (by decide +kernel) cn_3 ?_
    refine go_icmp_ge (tgt := 64) hc dX10_onlyTogether_37 rfl (fun hh => ?_) (fun hh => ?_)
    · rw [if_pos hh] at h
      refine go_iload_n hc dX10_onlyTogether_64 rfl rfl ?_
      exact go_iret hc (oend_i h hE) hr dX10_onlyTogether_65
    · rw [if_neg hh] at h
      refine go_iload_n hc dX10_onlyTogether_40 rfl rfl ?_
      refine go_aload_n hc dX10_onlyTogether_41 rfl rfl ?_
      refine go_aload_n hc dX10_onlyTogether_42 rfl rfl ?_
      refine go_aload_n hc dX10_onlyTogether_43 rfl rfl ?_
      refine go_iload_n hc dX10_onlyTogether_44 rfl rfl ?_
      obtain ⟨r1, σ2, hf3, h⟩ := obi_some h
      refine go_callVi hc ho cmX10_kinOf mlX10_333 dX10_onlyTogether_45 ok_81 (As := [.int l2]) (rest := [.ref 81, .ref 81, .int l1]) (rX10_kinOf (N := 1) hf3 (Nat.le_refl _)) rfl (Nat.le_trans (Nat.le_of_ble_eq_true rfl) hN) rfl (Nat.le_of_ble_eq_true rfl) (Or.inl hz) ?_
      obtain ⟨r4, σ5, hf6, h⟩ := obi_some h
      refine go_callVl hc ho cmX10_knownSet mlX10_336 dX10_onlyTogether_48 ok_81 (As := [.int r1]) (rest := [.ref 81, .int l1]) (rX10_knownSet (N := 5) hf6 (Nat.le_refl _)) rfl (Nat.le_trans (Nat.le_of_ble_eq_true rfl) hN) rfl (Nat.le_of_ble_eq_true rfl) (Or.inl hz) ?_
      obtain ⟨r7, σ8, hf9, h⟩ := obi_some h
      refine go_callVi hc ho cmX10_knownOf mlX10_339 dX10_onlyTogether_51 ok_81 (As := [.long r4]) (rest := [.int l1]) (rX10_knownOf (N := 1) hf9 (Nat.le_refl _)) rfl (Nat.le_trans (Nat.le_of_ble_eq_true rfl) hN) rfl (Nat.le_of_ble_eq_true rfl) (Or.inl hz) ?_
      refine go_iconst hc dX10_onlyTogether_54 ci_m1 ?_
      refine go_ixor hc dX10_onlyTogether_55 ?_
      refine go_iand hc dX10_onlyTogether_56 ?_
      refine go_istore_n hc (lv1 := [.ref 81, .int (l1 &&& (r7 ^^^ ((-1) : Int32))), .int l2]) dX10_onlyTogether_57 rfl hL (by decide) (fun _ _ e => by cases e; rfl) rfl ?_
      refine go_iinc hc (lv1 := [.ref 81, .int (l1 &&& (r7 ^^^ ((-1) : Int32))), .int (l2 + 1)]) dX10_onlyTogether_58 rfl ci_1 hL (by decide) (fun _ _ e => by cases e; rfl) rfl ?_
      refine go_goto (tgt := 30) hc dX10_onlyTogether_61 rfl ?_
      exact ih (l1 &&& (r7 ^^^ ((-1) : Int32))) (l2 + 1) _ h
def fX10_onlyTogether (σ : OM) : Option (Int32 × OM) :=
  obv (fX10_good σ) (fun σ2 =>
  if (mI σ2 81 14) = 0 then (
   obi (fX10_no (1 : Int32) σ2) (fun r10 σ11 =>
   some (r10, σ11)))
  else (obi (fX10_knownSet (63 : Int32) σ2) (fun r4 σ5 =>
  obi (fX10_knownOf r4 σ5) (fun r7 σ8 =>
  fX10_onlyTogether_b30 oF r7 (0 : Int32) σ8))))
set_option maxRecDepth 100000 in
set_option maxHeartbeats 4000000 in
theorem rX10_onlyTogether {N : Nat} {σ : OM} {r0 : Int32} {σ0 : OM} (h : fX10_onlyTogether σ = some (r0, σ0)) (hN0 : 6 ≤ N) : oEv N MX10_onlyTogether [.ref 81] σ (some (.int r0)) σ0 := by
  refine oEv_of (lv := [.ref 81, .null, .null]) (by decide +kernel) (fun g q hq => hq) (fun g => Nat.le_of_ble_eq_true rfl) ?_
  intro K hc ho hL hN1 hr hE hz
  have hN : 6 ≤ kN K := by rw [hN1]; exact hN0
  unfold fX10_onlyTogether at h
  refine go_aload_n hc dX10_onlyTogether_0 rfl rfl ?_
  obtain ⟨σ2, hf3, h⟩ := obv_some h
  refine go_callVv hc ho cmX10_good mlX10_199 dX10_onlyTogether_1 ok_81 (As := []) (rest := []) (rX10_good (N := 0) hf3 (Nat.le_refl _)) rfl (Nat.le_trans (Nat.le_of_ble_eq_true rfl) hN) rfl (Nat.le_of_ble_eq_true rfl) (Or.inl hz) ?_
  refine go_aload_n hc dX10_onlyTogether_4 rfl rfl ?_
  refine go_getI hc ho flX10_212 dX10_onlyTogether_5 ok_81 ?_
  refine go_if_ne (tgt := 17) hc dX10_onlyTogether_8 rfl (fun hh => ?_) (fun hh => ?_)
  · rw [if_neg hh] at h
    refine go_aload_n hc dX10_onlyTogether_17 rfl rfl ?_
    refine go_aload_n hc dX10_onlyTogether_18 rfl rfl ?_
    refine go_bipush hc dX10_onlyTogether_19 cb_63 ?_
    obtain ⟨r4, σ5, hf6, h⟩ := obi_some h
    refine go_callVl hc ho cmX10_knownSet mlX10_336 dX10_onlyTogether_21 ok_81 (As := [.int (63 : Int32)]) (rest := [.ref 81]) (rX10_knownSet (N := 5) hf6 (Nat.le_refl _)) rfl (Nat.le_trans (Nat.le_of_ble_eq_true rfl) hN) rfl (Nat.le_of_ble_eq_true rfl) (Or.inl hz) ?_
    obtain ⟨r7, σ8, hf9, h⟩ := obi_some h
    refine go_callVi hc ho cmX10_knownOf mlX10_339 dX10_onlyTogether_24 ok_81 (As := [.long r4]) (rest := []) (rX10_knownOf (N := 1) hf9 (Nat.le_refl _)) rfl (Nat.le_trans (Nat.le_of_ble_eq_true rfl) hN) rfl (Nat.le_of_ble_eq_true rfl) (Or.inl hz) ?_
    refine go_istore_n hc (lv1 := [.ref 81, .int r7, .null]) dX10_onlyTogether_27 rfl hL (by decide) (fun _ _ e => by cases e; rfl) rfl ?_
    refine go_iconst hc dX10_onlyTogether_28 ci_0 ?_
    refine go_istore_n hc (lv1 := [.ref 81, .int r7, .int (0 : Int32)]) dX10_onlyTogether_29 rfl hL (by decide) (fun _ _ e => by cases e; rfl) rfl ?_
    exact rX10_onlyTogether_b30 hc ho hL hN hr hE hz oF r7 (0 : Int32) _ h
  · rw [if_pos hh] at h
    refine go_aload_n hc dX10_onlyTogether_11 rfl rfl ?_
    refine go_iconst hc dX10_onlyTogether_12 ci_1 ?_
    obtain ⟨r10, σ11, hf12, h⟩ := obi_some h
    refine go_callVi hc ho cmX10_no mlX10_202 dX10_onlyTogether_13 ok_81 (As := [.int (1 : Int32)]) (rest := []) (rX10_no (N := 0) hf12 (Nat.le_refl _)) rfl (Nat.le_trans (Nat.le_of_ble_eq_true rfl) hN) rfl (Nat.le_of_ble_eq_true rfl) (Or.inl hz) ?_
    exact go_iret hc (oend_i h hE) hr dX10_onlyTogether_16
def fX10_bestWedding_b39 (rc24 : Int32 → Int32 → Int32 → OM → Option (Int32 × OM)) : Nat → Int32 → Int32 → Int32 → Int32 → OM → Option (Int32 × OM)
  | 0, _, _, _, _, _ => none
  | n + 1, l1, l2, l3, l4, σ =>
    if (mI σ 84 3) ≤ l4 then (
     rc24 l1 l2 (l3 + 1) σ)
    else (obi (fX10_kinOf l3 σ) (fun r1 σ2 =>
    obi (fX10_hasBit r1 l4 σ2) (fun r4 σ5 =>
    if r4 = 0 then (
     obi (fX10_kinOf l3 σ5) (fun r7 σ8 =>
     obi (fX10_kinOf l4 σ8) (fun r10 σ11 =>
     obi (fX10_knownSet (r7 ||| r10) σ11) (fun r13 σ14 =>
     obi (fX10_knownOf r13 σ14) (fun r16 σ17 =>
     obi (fX10_kinOf l3 σ17) (fun r19 σ20 =>
     obi (fX10_knownSet r19 σ20) (fun r22 σ23 =>
     obi (fX10_knownOf r22 σ23) (fun r25 σ26 =>
     obi (fX10_kinOf l4 σ26) (fun r28 σ29 =>
     obi (fX10_knownSet r28 σ29) (fun r31 σ32 =>
     obi (fX10_knownOf r31 σ32) (fun r34 σ35 =>
     obi (fX10_ones (((r16 &&& (r25 ^^^ ((-1) : Int32))) &&& (r34 ^^^ ((-1) : Int32))).toInt64) σ35) (fun r37 σ38 =>
     if l2 < r37 then (
      fX10_bestWedding_b39 rc24 n (((10 : Int32) * l3) + l4) r37 l3 (l4 + 1) σ38)
     else (fX10_bestWedding_b39 rc24 n l1 l2 l3 (l4 + 1) σ38)))))))))))))
    else (fX10_bestWedding_b39 rc24 n l1 l2 l3 (l4 + 1) σ5))))
set_option maxRecDepth 100000 in
set_option maxHeartbeats 4000000 in
theorem rX10_bestWedding_b39 {K : OK} (hc : kcc K = cX10_bestWedding) (ho : kow K = RX10) (hL : knL K = 6) (hN : 6 ≤ kN K) (hr : (kme K).sig.returnType = (some .int)) {r0 : Int32} {σ0 : OM} (hE : oEnd K (some (.int r0)) σ0) (hz : kz K = 0) {rc24 : Int32 → Int32 → Int32 → OM → Option (Int32 × OM)} (hrc24 : ∀ (l1 : Int32) (l2 : Int32) (l3 : Int32) (σ : OM), rc24 l1 l2 l3 σ = some (r0, σ0) → Go K 24 [.ref 81, .int l1, .int l2, .int l3, .null, .null] [] σ) : ∀ (n : Nat) (l1 : Int32) (l2 : Int32) (l3 : Int32) (l4 : Int32) (σ : OM), fX10_bestWedding_b39 rc24 n l1 l2 l3 l4 σ = some (r0, σ0) → Go K 39 [.ref 81, .int l1, .int l2, .int l3, .int l4, .null] [] σ := by
  intro n
  induction n with
  | zero =>
    intro l1 l2 l3 l4 σ h
    cases h
  | succ n ih =>
    intro l1 l2 l3 l4 σ h
    rw [fX10_bestWedding_b39] at h
    refine go_iload hc dX10_bestWedding_39 rfl ?_
    refine go_aload_n hc dX10_bestWedding_41 rfl rfl ?_
    refine go_getC (b := 84) rfl hc ho flX10_20 dX10_bestWedding_42 ok_81 ?_
    refine go_iconst hc dX10_bestWedding_45 ci_3 ?_
    refine go_iald hc dX10_bestWedding_46 ok_84 ol_84 (by decide +kernel) cn_3 ?_
    refine go_icmp_ge (tgt := 151) hc dX10_bestWedding_47 rfl (fun hh => ?_) (fun hh => ?_)
    · rw [if_pos hh] at h
      refine go_iinc hc (lv1 := [.ref 81, .int l1, .int l2, .int (l3 + 1), .int l4, .null]) dX10_bestWedding_151 rfl ci_1 hL (by decide) (fun _ _ e => by cases e; rfl) rfl ?_
      refine go_goto (tgt := 24) hc dX10_bestWedding_154 rfl ?_
      refine go_mask [true, true, true, true, false, false] (lv1 := [.ref 81, .int l1, .int l2, .int (l3 + 1), .null, .null]) rfl ?_
      exact hrc24 l1 l2 (l3 + 1) _ h
    · rw [if_neg hh] at h
      refine go_aload_n hc dX10_bestWedding_50 rfl rfl ?_
      refine go_iload_n hc dX10_bestWedding_51 rfl rfl ?_
      obtain ⟨r1, σ2, hf3, h⟩ := obi_some h
      refine go_callVi hc ho cmX10_kinOf mlX10_333 dX10_bestWedding_52 ok_81 (As := [.int l3]) (rest := []) (rX10_kinOf (N := 1) hf3 (Nat.le_refl _)) rfl (Nat.le_trans (Nat.le_of_ble_eq_true rfl) hN) rfl (Nat.le_of_ble_eq_true rfl) (Or.inl hz) ?_
      refine go_iload hc dX10_bestWedding_55 rfl ?_
      obtain ⟨r4, σ5, hf6, h⟩ := obi_some h
      refine go_callSi hc ho cmX10_hasBit mlX10_270 dX10_bestWedding_57 (As := [.int r1, .int l4]) (rest := []) (rX10_hasBit (N := 0) hf6 (Nat.le_refl _)) rfl (Nat.le_trans (Nat.le_of_ble_eq_true rfl) hN) rfl (Nat.le_of_ble_eq_true rfl) (Or.inl hz) ?_
      refine go_if_eq (tgt := 66) hc dX10_bestWedding_60 rfl (fun hh => ?_) (fun hh => ?_)
      · rw [if_pos hh] at h
        refine go_aload_n hc dX10_bestWedding_66 rfl rfl ?_
        refine go_aload_n hc dX10_bestWedding_67 rfl rfl ?_
        refine go_aload_n hc dX10_bestWedding_68 rfl rfl ?_
        refine go_iload_n hc dX10_bestWedding_69 rfl rfl ?_
        obtain ⟨r7, σ8, hf9, h⟩ := obi_some h
        refine go_callVi hc ho cmX10_kinOf mlX10_333 dX10_bestWedding_70 ok_81 (As := [.int l3]) (rest := [.ref 81, .ref 81]) (rX10_kinOf (N := 1) hf9 (Nat.le_refl _)) rfl (Nat.le_trans (Nat.le_of_ble_eq_true rfl) hN) rfl (Nat.le_of_ble_eq_true rfl) (Or.inl hz) ?_
        refine go_aload_n hc dX10_bestWedding_73 rfl rfl ?_
        refine go_iload hc dX10_bestWedding_74 rfl ?_
        obtain ⟨r10, σ11, hf12, h⟩ := obi_some h
        refine go_callVi hc ho cmX10_kinOf mlX10_333 dX10_bestWedding_76 ok_81 (As := [.int l4]) (rest := [.int r7, .ref 81, .ref 81]) (rX10_kinOf (N := 1) hf12 (Nat.le_refl _)) rfl (Nat.le_trans (Nat.le_of_ble_eq_true rfl) hN) rfl (Nat.le_of_ble_eq_true rfl) (Or.inl hz) ?_
        refine go_ior hc dX10_bestWedding_79 ?_
        obtain ⟨r13, σ14, hf15, h⟩ := obi_some h
        refine go_callVl hc ho cmX10_knownSet mlX10_336 dX10_bestWedding_80 ok_81 (As := [.int (r7 ||| r10)]) (rest := [.ref 81]) (rX10_knownSet (N := 5) hf15 (Nat.le_refl _)) rfl (Nat.le_trans (Nat.le_of_ble_eq_true rfl) hN) rfl (Nat.le_of_ble_eq_true rfl) (Or.inl hz) ?_
        obtain ⟨r16, σ17, hf18, h⟩ := obi_some h
        refine go_callVi hc ho cmX10_knownOf mlX10_339 dX10_bestWedding_83 ok_81 (As := [.long r13]) (rest := []) (rX10_knownOf (N := 1) hf18 (Nat.le_refl _)) rfl (Nat.le_trans (Nat.le_of_ble_eq_true rfl) hN) rfl (Nat.le_of_ble_eq_true rfl) (Or.inl hz) ?_
        refine go_aload_n hc dX10_bestWedding_86 rfl rfl ?_
        refine go_aload_n hc dX10_bestWedding_87 rfl rfl ?_
        refine go_aload_n hc dX10_bestWedding_88 rfl rfl ?_
        refine go_iload_n hc dX10_bestWedding_89 rfl rfl ?_
        obtain ⟨r19, σ20, hf21, h⟩ := obi_some h
        refine go_callVi hc ho cmX10_kinOf mlX10_333 dX10_bestWedding_90 ok_81 (As := [.int l3]) (rest := [.ref 81, .ref 81, .int r16]) (rX10_kinOf (N := 1) hf21 (Nat.le_refl _)) rfl (Nat.le_trans (Nat.le_of_ble_eq_true rfl) hN) rfl (Nat.le_of_ble_eq_true rfl) (Or.inl hz) ?_
        obtain ⟨r22, σ23, hf24, h⟩ := obi_some h
        refine go_callVl hc ho cmX10_knownSet mlX10_336 dX10_bestWedding_93 ok_81 (As := [.int r19]) (rest := [.ref 81, .int r16]) (rX10_knownSet (N := 5) hf24 (Nat.le_refl _)) rfl (Nat.le_trans (Nat.le_of_ble_eq_true rfl) hN) rfl (Nat.le_of_ble_eq_true rfl) (Or.inl hz) ?_
        obtain ⟨r25, σ26, hf27, h⟩ := obi_some h
        refine go_callVi hc ho cmX10_knownOf mlX10_339 dX10_bestWedding_96 ok_81 (As := [.long r22]) (rest := [.int r16]) (rX10_knownOf (N := 1) hf27 (Nat.le_refl _)) rfl (Nat.le_trans (Nat.le_of_ble_eq_true rfl) hN) rfl (Nat.le_of_ble_eq_true rfl) (Or.inl hz) ?_
        refine go_iconst hc dX10_bestWedding_99 ci_m1 ?_
        refine go_ixor hc dX10_bestWedding_100 ?_
        refine go_iand hc dX10_bestWedding_101 ?_
        refine go_aload_n hc dX10_bestWedding_102 rfl rfl ?_
        refine go_aload_n hc dX10_bestWedding_103 rfl rfl ?_
        refine go_aload_n hc dX10_bestWedding_104 rfl rfl ?_
        refine go_iload hc dX10_bestWedding_105 rfl ?_
        obtain ⟨r28, σ29, hf30, h⟩ := obi_some h
        refine go_callVi hc ho cmX10_kinOf mlX10_333 dX10_bestWedding_107 ok_81 (As := [.int l4]) (rest := [.ref 81, .ref 81, .int (r16 &&& (r25 ^^^ ((-1) : Int32)))]) (rX10_kinOf (N := 1) hf30 (Nat.le_refl _)) rfl (Nat.le_trans (Nat.le_of_ble_eq_true rfl) hN) rfl (Nat.le_of_ble_eq_true rfl) (Or.inl hz) ?_
        obtain ⟨r31, σ32, hf33, h⟩ := obi_some h
        refine go_callVl hc ho cmX10_knownSet mlX10_336 dX10_bestWedding_110 ok_81 (As := [.int r28]) (rest := [.ref 81, .int (r16 &&& (r25 ^^^ ((-1) : Int32)))]) (rX10_knownSet (N := 5) hf33 (Nat.le_refl _)) rfl (Nat.le_trans (Nat.le_of_ble_eq_true rfl) hN) rfl (Nat.le_of_ble_eq_true rfl) (Or.inl hz) ?_
        obtain ⟨r34, σ35, hf36, h⟩ := obi_some h
        refine go_callVi hc ho cmX10_knownOf mlX10_339 dX10_bestWedding_113 ok_81 (As := [.long r31]) (rest := [.int (r16 &&& (r25 ^^^ ((-1) : Int32)))]) (rX10_knownOf (N := 1) hf36 (Nat.le_refl _)) rfl (Nat.le_trans (Nat.le_of_ble_eq_true rfl) hN) rfl (Nat.le_of_ble_eq_true rfl) (Or.inl hz) ?_
        refine go_iconst hc dX10_bestWedding_116 ci_m1 ?_
        refine go_ixor hc dX10_bestWedding_117 ?_
        refine go_iand hc dX10_bestWedding_118 ?_
        refine go_i2l hc dX10_bestWedding_119 ?_
        obtain ⟨r37, σ38, hf39, h⟩ := obi_some h
        refine go_callSi hc ho cmX10_ones mlX10_291 dX10_bestWedding_120 (As := [.long (((r16 &&& (r25 ^^^ ((-1) : Int32))) &&& (r34 ^^^ ((-1) : Int32))).toInt64)]) (rest := []) (rX10_ones (N := 0) hf39 (Nat.le_refl _)) rfl (Nat.le_trans (Nat.le_of_ble_eq_true rfl) hN) rfl (Nat.le_of_ble_eq_true rfl) (Or.inl hz) ?_
        refine go_istore hc (lv1 := [.ref 81, .int l1, .int l2, .int l3, .int l4, .int r37]) dX10_bestWedding_123 hL (by decide) (fun _ _ e => by cases e; rfl) rfl ?_
        refine go_iload hc dX10_bestWedding_125 rfl ?_
        refine go_iload_n hc dX10_bestWedding_127 rfl rfl ?_
        refine go_icmp_gt (tgt := 134) hc dX10_bestWedding_128 rfl (fun hh => ?_) (fun hh => ?_)
        · rw [if_pos hh] at h
          refine go_bipush hc dX10_bestWedding_134 cb_10 ?_
          refine go_iload_n hc dX10_bestWedding_136 rfl rfl ?_
          refine go_imul hc dX10_bestWedding_137 ?_
          refine go_iload hc dX10_bestWedding_138 rfl ?_
          refine go_iadd hc dX10_bestWedding_140 ?_
          refine go_istore_n hc (lv1 := [.ref 81, .int (((10 : Int32) * l3) + l4), .int l2, .int l3, .int l4, .int r37]) dX10_bestWedding_141 rfl hL (by decide) (fun _ _ e => by cases e; rfl) rfl ?_
          refine go_iload hc dX10_bestWedding_142 rfl ?_
          refine go_istore_n hc (lv1 := [.ref 81, .int (((10 : Int32) * l3) + l4), .int r37, .int l3, .int l4, .int r37]) dX10_bestWedding_144 rfl hL (by decide) (fun _ _ e => by cases e; rfl) rfl ?_
          refine go_iinc hc (lv1 := [.ref 81, .int (((10 : Int32) * l3) + l4), .int r37, .int l3, .int (l4 + 1), .int r37]) dX10_bestWedding_145 rfl ci_1 hL (by decide) (fun _ _ e => by cases e; rfl) rfl ?_
          refine go_goto (tgt := 39) hc dX10_bestWedding_148 rfl ?_
          refine go_mask [true, true, true, true, true, false] (lv1 := [.ref 81, .int (((10 : Int32) * l3) + l4), .int r37, .int l3, .int (l4 + 1), .null]) rfl ?_
          exact ih (((10 : Int32) * l3) + l4) r37 l3 (l4 + 1) _ h
        · rw [if_neg hh] at h
          refine go_goto (tgt := 145) hc dX10_bestWedding_131 rfl ?_
          refine go_iinc hc (lv1 := [.ref 81, .int l1, .int l2, .int l3, .int (l4 + 1), .int r37]) dX10_bestWedding_145 rfl ci_1 hL (by decide) (fun _ _ e => by cases e; rfl) rfl ?_
          refine go_goto (tgt := 39) hc dX10_bestWedding_148 rfl ?_
          refine go_mask [true, true, true, true, true, false] (lv1 := [.ref 81, .int l1, .int l2, .int l3, .int (l4 + 1), .null]) rfl ?_
          exact ih l1 l2 l3 (l4 + 1) _ h
      · rw [if_neg hh] at h
        refine go_goto (tgt := 145) hc dX10_bestWedding_63 rfl ?_
        refine go_iinc hc (lv1 := [.ref 81, .int l1, .int l2, .int l3, .int (l4 + 1), .null]) dX10_bestWedding_145 rfl ci_1 hL (by decide) (fun _ _ e => by cases e; rfl) rfl ?_
        refine go_goto (tgt := 39) hc dX10_bestWedding_148 rfl ?_
        exact ih l1 l2 l3 (l4 + 1) _ h
def fX10_bestWedding_b24 : Nat → Int32 → Int32 → Int32 → OM → Option (Int32 × OM)
  | 0, _, _, _, _ => none
  | n + 1, l1, l2, l3, σ =>
    if (mI σ 84 3) ≤ l3 then (
     some (l1, σ))
    else (fX10_bestWedding_b39 (fX10_bestWedding_b24 n) oF l1 l2 l3 (l3 + (1 : Int32)) σ)
set_option maxRecDepth 100000 in
set_option maxHeartbeats 4000000 in
theorem rX10_bestWedding_b24 {K : OK} (hc : kcc K = cX10_bestWedding) (ho : kow K = RX10) (hL : knL K = 6) (hN : 6 ≤ kN K) (hr : (kme K).sig.returnType = (some .int)) {r0 : Int32} {σ0 : OM} (hE : oEnd K (some (.int r0)) σ0) (hz : kz K = 0) : ∀ (n : Nat) (l1 : Int32) (l2 : Int32) (l3 : Int32) (σ : OM), fX10_bestWedding_b24 n l1 l2 l3 σ = some (r0, σ0) → Go K 24 [.ref 81, .int l1, .int l2, .int l3, .null, .null] [] σ := by
  intro n
  induction n with
  | zero =>
    intro l1 l2 l3 σ h
    cases h
  | succ n ih =>
    intro l1 l2 l3 σ h
    rw [fX10_bestWedding_b24] at h
    refine go_iload_n hc dX10_bestWedding_24 rfl rfl ?_
    refine go_aload_n hc dX10_bestWedding_25 rfl rfl ?_
    refine go_getC (b := 84) rfl hc ho flX10_20 dX10_bestWedding_26 ok_81 ?_
    refine go_iconst hc dX10_bestWedding_29 ci_3 ?_
    refine go_iald hc dX10_bestWedding_30 ok_84 ol_84 (by decide +kernel) cn_3 ?_
    refine go_icmp_ge (tgt := 157) hc dX10_bestWedding_31 rfl (fun hh => ?_) (fun hh => ?_)
    · rw [if_pos hh] at h
      refine go_iload_n hc dX10_bestWedding_157 rfl rfl ?_
      exact go_iret hc (oend_i h hE) hr dX10_bestWedding_158
    · rw [if_neg hh] at h
      refine go_iload_n hc dX10_bestWedding_34 rfl rfl ?_
      refine go_iconst hc dX10_bestWedding_35 ci_1 ?_
      refine go_iadd hc dX10_bestWedding_36 ?_
      refine go_istore hc (lv1 := [.ref 81, .int l1, .int l2, .int l3, .int (l3 + (1 : Int32)), .null]) dX10_bestWedding_37 hL (by decide) (fun _ _ e => by cases e; rfl) rfl ?_
      exact rX10_bestWedding_b39 hc ho hL hN hr hE hz ih oF l1 l2 l3 (l3 + (1 : Int32)) _ h
def fX10_bestWedding (σ : OM) : Option (Int32 × OM) :=
  obv (fX10_good σ) (fun σ2 =>
  if (mI σ2 81 14) = 0 then (
   obi (fX10_no (1 : Int32) σ2) (fun r4 σ5 =>
   some (r4, σ5)))
  else (fX10_bestWedding_b24 oF ((-2) : Int32) ((-1) : Int32) (0 : Int32) σ2))
set_option maxRecDepth 100000 in
set_option maxHeartbeats 4000000 in
theorem rX10_bestWedding {N : Nat} {σ : OM} {r0 : Int32} {σ0 : OM} (h : fX10_bestWedding σ = some (r0, σ0)) (hN0 : 6 ≤ N) : oEv N MX10_bestWedding [.ref 81] σ (some (.int r0)) σ0 := by
  refine oEv_of (lv := [.ref 81, .null, .null, .null, .null, .null]) (by decide +kernel) (fun g q hq => hq) (fun g => Nat.le_of_ble_eq_true rfl) ?_
  intro K hc ho hL hN1 hr hE hz
  have hN : 6 ≤ kN K := by rw [hN1]; exact hN0
  unfold fX10_bestWedding at h
  refine go_aload_n hc dX10_bestWedding_0 rfl rfl ?_
  obtain ⟨σ2, hf3, h⟩ := obv_some h
  refine go_callVv hc ho cmX10_good mlX10_199 dX10_bestWedding_1 ok_81 (As := []) (rest := []) (rX10_good (N := 0) hf3 (Nat.le_refl _)) rfl (Nat.le_trans (Nat.le_of_ble_eq_true rfl) hN) rfl (Nat.le_of_ble_eq_true rfl) (Or.inl hz) ?_
  refine go_aload_n hc dX10_bestWedding_4 rfl rfl ?_
  refine go_getI hc ho flX10_212 dX10_bestWedding_5 ok_81 ?_
  refine go_if_ne (tgt := 17) hc dX10_bestWedding_8 rfl (fun hh => ?_) (fun hh => ?_)
  · rw [if_neg hh] at h
    refine go_bipush hc dX10_bestWedding_17 cb_m2 ?_
    refine go_istore_n hc (lv1 := [.ref 81, .int ((-2) : Int32), .null, .null, .null, .null]) dX10_bestWedding_19 rfl hL (by decide) (fun _ _ e => by cases e; rfl) rfl ?_
    refine go_iconst hc dX10_bestWedding_20 ci_m1 ?_
    refine go_istore_n hc (lv1 := [.ref 81, .int ((-2) : Int32), .int ((-1) : Int32), .null, .null, .null]) dX10_bestWedding_21 rfl hL (by decide) (fun _ _ e => by cases e; rfl) rfl ?_
    refine go_iconst hc dX10_bestWedding_22 ci_0 ?_
    refine go_istore_n hc (lv1 := [.ref 81, .int ((-2) : Int32), .int ((-1) : Int32), .int (0 : Int32), .null, .null]) dX10_bestWedding_23 rfl hL (by decide) (fun _ _ e => by cases e; rfl) rfl ?_
    exact rX10_bestWedding_b24 hc ho hL hN hr hE hz oF ((-2) : Int32) ((-1) : Int32) (0 : Int32) _ h
  · rw [if_pos hh] at h
    refine go_aload_n hc dX10_bestWedding_11 rfl rfl ?_
    refine go_iconst hc dX10_bestWedding_12 ci_1 ?_
    obtain ⟨r4, σ5, hf6, h⟩ := obi_some h
    refine go_callVi hc ho cmX10_no mlX10_202 dX10_bestWedding_13 ok_81 (As := [.int (1 : Int32)]) (rest := []) (rX10_no (N := 0) hf6 (Nat.le_refl _)) rfl (Nat.le_trans (Nat.le_of_ble_eq_true rfl) hN) rfl (Nat.le_of_ble_eq_true rfl) (Or.inl hz) ?_
    exact go_iret hc (oend_i h hE) hr dX10_bestWedding_16
def fX10_likeliest_b35 : Nat → Int64 → Int32 → Int32 → OM → Option (Int32 × OM)
  | 0, _, _, _, _ => none
  | n + 1, l2, l4, l5, σ =>
    if ((1 : Int32) <<< ((mI σ 84 1) &&& 31)) ≤ l5 then (
     some (l4, σ))
    else (if (lg_cmp ((l2 >>> (l5.toInt64 &&& 63)) &&& (1 : Int64)) (1 : Int64)) = 0 then (
     if l4 < 0 then (
      fX10_likeliest_b35 n l2 l5 (l5 + 1) σ)
     else (obi (fX10_oddsOf l5 σ) (fun r1 σ2 =>
     obi (fX10_oddsOf l4 σ2) (fun r4 σ5 =>
     if r1 ≤ r4 then (
      fX10_likeliest_b35 n l2 l4 (l5 + 1) σ5)
     else (fX10_likeliest_b35 n l2 l5 (l5 + 1) σ5)))))
    else (fX10_likeliest_b35 n l2 l4 (l5 + 1) σ))
set_option maxRecDepth 100000 in
set_option maxHeartbeats 4000000 in
theorem rX10_likeliest_b35 {K : OK} (hc : kcc K = cX10_likeliest) (ho : kow K = RX10) (hL : knL K = 6) (hN : 6 ≤ kN K) (hr : (kme K).sig.returnType = (some .int)) {r0 : Int32} {σ0 : OM} (hE : oEnd K (some (.int r0)) σ0) (hz : kz K = 0) : ∀ (n : Nat) (l2 : Int64) (l4 : Int32) (l5 : Int32) (σ : OM), fX10_likeliest_b35 n l2 l4 l5 σ = some (r0, σ0) → Go K 35 [.ref 81, .null, .long l2, .null, .int l4, .int l5] [] σ := by
  intro n
  induction n with
  | zero =>
    intro l2 l4 l5 σ h
    cases h
  | succ n ih =>
    intro l2 l4 l5 σ h
    rw [fX10_likeliest_b35] at h
    refine go_iload hc dX10_likeliest_35 rfl ?_
    refine go_iconst hc dX10_likeliest_37 ci_1 ?_
    refine go_aload_n hc dX10_likeliest_38 rfl rfl ?_
    refine go_getC (b := 84) rfl hc ho flX10_20 dX10_likeliest_39 ok_81 ?_
    refine go_iconst hc dX10_likeliest_42 ci_1 ?_
    refine go_iald hc dX10_likeliest_43 ok_84 ol_84 (by decide +kernel) cn_1 ?_
    refine go_ishl hc dX10_likeliest_44 ?_
    refine go_icmp_ge (tgt := 89) hc dX10_likeliest_45 rfl (fun hh => ?_) (fun hh => ?_)
    · rw [if_pos hh] at h
      refine go_iload hc dX10_likeliest_89 rfl ?_
      exact go_iret hc (oend_i h hE) hr dX10_likeliest_91
    · rw [if_neg hh] at h
      refine go_lload_n hc dX10_likeliest_48 rfl rfl ?_
      refine go_iload hc dX10_likeliest_49 rfl ?_
      refine go_lshr hc dX10_likeliest_51 ?_
      refine go_lconst hc dX10_likeliest_52 cl_1 ?_
      refine go_land hc dX10_likeliest_53 ?_
      refine go_lconst hc dX10_likeliest_54 cl_1 ?_
      refine go_lcmp hc dX10_likeliest_55 ?_
      refine go_if_ne (tgt := 83) hc dX10_likeliest_56 rfl (fun hh => ?_) (fun hh => ?_)
      · rw [if_neg hh] at h
        refine go_iinc hc (lv1 := [.ref 81, .null, .long l2, .null, .int l4, .int (l5 + 1)]) dX10_likeliest_83 rfl ci_1 hL (by decide) (fun _ _ e => by cases e; rfl) rfl ?_
        refine go_goto (tgt := 35) hc dX10_likeliest_86 rfl ?_
        exact ih l2 l4 (l5 + 1) _ h
      · rw [if_pos hh] at h
        refine go_iload hc dX10_likeliest_59 rfl ?_
        refine go_if_lt (tgt := 79) hc dX10_likeliest_61 rfl (fun hh => ?_) (fun hh => ?_)
        · rw [if_pos hh] at h
          refine go_iload hc dX10_likeliest_79 rfl ?_
          refine go_istore hc (lv1 := [.ref 81, .null, .long l2, .null, .int l5, .int l5]) dX10_likeliest_81 hL (by decide) (fun _ _ e => by cases e; rfl) rfl ?_
          refine go_iinc hc (lv1 := [.ref 81, .null, .long l2, .null, .int l5, .int (l5 + 1)]) dX10_likeliest_83 rfl ci_1 hL (by decide) (fun _ _ e => by cases e; rfl) rfl ?_
          refine go_goto (tgt := 35) hc dX10_likeliest_86 rfl ?_
          exact ih l2 l5 (l5 + 1) _ h
        · rw [if_neg hh] at h
          refine go_aload_n hc dX10_likeliest_64 rfl rfl ?_
          refine go_iload hc dX10_likeliest_65 rfl ?_
          obtain ⟨r1, σ2, hf3, h⟩ := obi_some h
          refine go_callVi hc ho cmX10_oddsOf mlX10_295 dX10_likeliest_67 ok_81 (As := [.int l5]) (rest := []) (rX10_oddsOf (N := 1) hf3 (Nat.le_refl _)) rfl (Nat.le_trans (Nat.le_of_ble_eq_true rfl) hN) rfl (Nat.le_of_ble_eq_true rfl) (Or.inl hz) ?_
          refine go_aload_n hc dX10_likeliest_70 rfl rfl ?_
          refine go_iload hc dX10_likeliest_71 rfl ?_
          obtain ⟨r4, σ5, hf6, h⟩ := obi_some h
          refine go_callVi hc ho cmX10_oddsOf mlX10_295 dX10_likeliest_73 ok_81 (As := [.int l4]) (rest := [.int r1]) (rX10_oddsOf (N := 1) hf6 (Nat.le_refl _)) rfl (Nat.le_trans (Nat.le_of_ble_eq_true rfl) hN) rfl (Nat.le_of_ble_eq_true rfl) (Or.inl hz) ?_
          refine go_icmp_le (tgt := 83) hc dX10_likeliest_76 rfl (fun hh => ?_) (fun hh => ?_)
          · rw [if_pos hh] at h
            refine go_iinc hc (lv1 := [.ref 81, .null, .long l2, .null, .int l4, .int (l5 + 1)]) dX10_likeliest_83 rfl ci_1 hL (by decide) (fun _ _ e => by cases e; rfl) rfl ?_
            refine go_goto (tgt := 35) hc dX10_likeliest_86 rfl ?_
            exact ih l2 l4 (l5 + 1) _ h
          · rw [if_neg hh] at h
            refine go_iload hc dX10_likeliest_79 rfl ?_
            refine go_istore hc (lv1 := [.ref 81, .null, .long l2, .null, .int l5, .int l5]) dX10_likeliest_81 hL (by decide) (fun _ _ e => by cases e; rfl) rfl ?_
            refine go_iinc hc (lv1 := [.ref 81, .null, .long l2, .null, .int l5, .int (l5 + 1)]) dX10_likeliest_83 rfl ci_1 hL (by decide) (fun _ _ e => by cases e; rfl) rfl ?_
            refine go_goto (tgt := 35) hc dX10_likeliest_86 rfl ?_
            exact ih l2 l5 (l5 + 1) _ h
def fX10_likeliest (x0 : Int32) (σ : OM) : Option (Int32 × OM) :=
  obv (fX10_good σ) (fun σ2 =>
  obi (fX10_isHouse x0 σ2) (fun r4 σ5 =>
  if r4 = 0 then (
   obi (fX10_no (1 : Int32) σ5) (fun r13 σ14 =>
   some (r13, σ14)))
  else (obi (fX10_kinOf x0 σ5) (fun r7 σ8 =>
  obi (fX10_knownSet r7 σ8) (fun r10 σ11 =>
  fX10_likeliest_b35 oF r10 ((-2) : Int32) (0 : Int32) σ11)))))
set_option maxRecDepth 100000 in
set_option maxHeartbeats 4000000 in
theorem rX10_likeliest {N : Nat} {x0 : Int32} {σ : OM} {r0 : Int32} {σ0 : OM} (h : fX10_likeliest x0 σ = some (r0, σ0)) (hN0 : 6 ≤ N) : oEv N MX10_likeliest [.ref 81, .int x0] σ (some (.int r0)) σ0 := by
  refine oEv_of (lv := [.ref 81, .int x0, .null, .null, .null, .null]) (by decide +kernel) (fun g q hq => hq) (fun g => Nat.le_of_ble_eq_true rfl) ?_
  intro K hc ho hL hN1 hr hE hz
  have hN : 6 ≤ kN K := by rw [hN1]; exact hN0
  unfold fX10_likeliest at h
  refine go_aload_n hc dX10_likeliest_0 rfl rfl ?_
  obtain ⟨σ2, hf3, h⟩ := obv_some h
  refine go_callVv hc ho cmX10_good mlX10_199 dX10_likeliest_1 ok_81 (As := []) (rest := []) (rX10_good (N := 0) hf3 (Nat.le_refl _)) rfl (Nat.le_trans (Nat.le_of_ble_eq_true rfl) hN) rfl (Nat.le_of_ble_eq_true rfl) (Or.inl hz) ?_
  refine go_aload_n hc dX10_likeliest_4 rfl rfl ?_
  refine go_iload_n hc dX10_likeliest_5 rfl rfl ?_
  obtain ⟨r4, σ5, hf6, h⟩ := obi_some h
  refine go_callVi hc ho cmX10_isHouse mlX10_323 dX10_likeliest_6 ok_81 (As := [.int x0]) (rest := []) (rX10_isHouse (N := 1) hf6 (Nat.le_refl _)) rfl (Nat.le_trans (Nat.le_of_ble_eq_true rfl) hN) rfl (Nat.le_of_ble_eq_true rfl) (Or.inl hz) ?_
  refine go_if_ne (tgt := 18) hc dX10_likeliest_9 rfl (fun hh => ?_) (fun hh => ?_)
  · rw [if_neg hh] at h
    refine go_aload_n hc dX10_likeliest_18 rfl rfl ?_
    refine go_aload_n hc dX10_likeliest_19 rfl rfl ?_
    refine go_iload_n hc dX10_likeliest_20 rfl rfl ?_
    obtain ⟨r7, σ8, hf9, h⟩ := obi_some h
    refine go_callVi hc ho cmX10_kinOf mlX10_333 dX10_likeliest_21 ok_81 (As := [.int x0]) (rest := [.ref 81]) (rX10_kinOf (N := 1) hf9 (Nat.le_refl _)) rfl (Nat.le_trans (Nat.le_of_ble_eq_true rfl) hN) rfl (Nat.le_of_ble_eq_true rfl) (Or.inl hz) ?_
    obtain ⟨r10, σ11, hf12, h⟩ := obi_some h
    refine go_callVl hc ho cmX10_knownSet mlX10_336 dX10_likeliest_24 ok_81 (As := [.int r7]) (rest := []) (rX10_knownSet (N := 5) hf12 (Nat.le_refl _)) rfl (Nat.le_trans (Nat.le_of_ble_eq_true rfl) hN) rfl (Nat.le_of_ble_eq_true rfl) (Or.inl hz) ?_
    refine go_lstore_n hc (lv1 := [.ref 81, .int x0, .long r10, .null, .null, .null]) dX10_likeliest_27 rfl hL (by decide) (fun _ _ e => by cases e; rfl) rfl ?_
    refine go_bipush hc dX10_likeliest_28 cb_m2 ?_
    refine go_istore hc (lv1 := [.ref 81, .int x0, .long r10, .null, .int ((-2) : Int32), .null]) dX10_likeliest_30 hL (by decide) (fun _ _ e => by cases e; rfl) rfl ?_
    refine go_iconst hc dX10_likeliest_32 ci_0 ?_
    refine go_istore hc (lv1 := [.ref 81, .int x0, .long r10, .null, .int ((-2) : Int32), .int (0 : Int32)]) dX10_likeliest_33 hL (by decide) (fun _ _ e => by cases e; rfl) rfl ?_
    refine go_mask [true, false, true, false, true, true] (lv1 := [.ref 81, .null, .long r10, .null, .int ((-2) : Int32), .int (0 : Int32)]) rfl ?_
    exact rX10_likeliest_b35 hc ho hL hN hr hE hz oF r10 ((-2) : Int32) (0 : Int32) _ h
  · rw [if_pos hh] at h
    refine go_aload_n hc dX10_likeliest_12 rfl rfl ?_
    refine go_iconst hc dX10_likeliest_13 ci_1 ?_
    obtain ⟨r13, σ14, hf15, h⟩ := obi_some h
    refine go_callVi hc ho cmX10_no mlX10_202 dX10_likeliest_14 ok_81 (As := [.int (1 : Int32)]) (rest := []) (rX10_no (N := 0) hf15 (Nat.le_refl _)) rfl (Nat.le_trans (Nat.le_of_ble_eq_true rfl) hN) rfl (Nat.le_of_ble_eq_true rfl) (Or.inl hz) ?_
    exact go_iret hc (oend_i h hE) hr dX10_likeliest_17
def fX10_chanceOf (x0 : Int32) (x1 : Int32) (x2 : Int32) (σ : OM) : Option (Int64 × OM) :=
  obv (fX10_good σ) (fun σ2 =>
  obi (fX10_isHouse x0 σ2) (fun r4 σ5 =>
  if r4 = 0 then (
   obi (fX10_no (1 : Int32) σ5) (fun r7 σ8 =>
   some (r7.toInt64, σ8)))
  else (obi (fX10_isQuestion x1 σ5) (fun r10 σ11 =>
  if r10 = 0 then (
   obi (fX10_no (1 : Int32) σ11) (fun r32 σ33 =>
   some (r32.toInt64, σ33)))
  else (obi (fX10_kinOf x0 σ11) (fun r13 σ14 =>
  obi (fX10_knownSet r13 σ14) (fun r16 σ17 =>
  if (lg_cmp r16 (0 : Int64)) = 0 then (
   obi (fX10_no (6 : Int32) σ17) (fun r29 σ30 =>
   some (r29.toInt64, σ30)))
  else (ogd (oin x1 9) (
  obi (fX10_weight (r16 &&& (mL σ17 86 x1.toNatClampNeg)) σ17) (fun r20 σ21 =>
  obi (fX10_weight r16 σ21) (fun r23 σ24 =>
  obi (fX10_lowest r20 r23 x2 σ24) (fun r26 σ27 =>
  some (r26, σ27)))))))))))))
set_option maxRecDepth 100000 in
set_option maxHeartbeats 4000000 in
theorem rX10_chanceOf {N : Nat} {x0 : Int32} {x1 : Int32} {x2 : Int32} {σ : OM} {r0 : Int64} {σ0 : OM} (h : fX10_chanceOf x0 x1 x2 σ = some (r0, σ0)) (hN0 : 6 ≤ N) : oEv N MX10_chanceOf [.ref 81, .int x0, .int x1, .int x2] σ (some (.long r0)) σ0 := by
  refine oEv_of (lv := [.ref 81, .int x0, .int x1, .int x2, .null, .null]) (by decide +kernel) (fun g q hq => hq) (fun g => Nat.le_of_ble_eq_true rfl) ?_
  intro K hc ho hL hN1 hr hE hz
  have hN : 6 ≤ kN K := by rw [hN1]; exact hN0
  unfold fX10_chanceOf at h
  refine go_aload_n hc dX10_chanceOf_0 rfl rfl ?_
  obtain ⟨σ2, hf3, h⟩ := obv_some h
  refine go_callVv hc ho cmX10_good mlX10_199 dX10_chanceOf_1 ok_81 (As := []) (rest := []) (rX10_good (N := 0) hf3 (Nat.le_refl _)) rfl (Nat.le_trans (Nat.le_of_ble_eq_true rfl) hN) rfl (Nat.le_of_ble_eq_true rfl) (Or.inl hz) ?_
  refine go_aload_n hc dX10_chanceOf_4 rfl rfl ?_
  refine go_iload_n hc dX10_chanceOf_5 rfl rfl ?_
  obtain ⟨r4, σ5, hf6, h⟩ := obi_some h
  refine go_callVi hc ho cmX10_isHouse mlX10_323 dX10_chanceOf_6 ok_81 (As := [.int x0]) (rest := []) (rX10_isHouse (N := 1) hf6 (Nat.le_refl _)) rfl (Nat.le_trans (Nat.le_of_ble_eq_true rfl) hN) rfl (Nat.le_of_ble_eq_true rfl) (Or.inl hz) ?_
  refine go_if_eq (tgt := 20) hc dX10_chanceOf_9 rfl (fun hh => ?_) (fun hh => ?_)
  · rw [if_pos hh] at h
    refine go_aload_n hc dX10_chanceOf_20 rfl rfl ?_
    refine go_iconst hc dX10_chanceOf_21 ci_1 ?_
    obtain ⟨r7, σ8, hf9, h⟩ := obi_some h
    refine go_callVi hc ho cmX10_no mlX10_202 dX10_chanceOf_22 ok_81 (As := [.int (1 : Int32)]) (rest := []) (rX10_no (N := 0) hf9 (Nat.le_refl _)) rfl (Nat.le_trans (Nat.le_of_ble_eq_true rfl) hN) rfl (Nat.le_of_ble_eq_true rfl) (Or.inl hz) ?_
    refine go_i2l hc dX10_chanceOf_25 ?_
    exact go_lret hc (oend_l h hE) hr dX10_chanceOf_26
  · rw [if_neg hh] at h
    refine go_aload_n hc dX10_chanceOf_12 rfl rfl ?_
    refine go_iload_n hc dX10_chanceOf_13 rfl rfl ?_
    obtain ⟨r10, σ11, hf12, h⟩ := obi_some h
    refine go_callVi hc ho cmX10_isQuestion mlX10_298 dX10_chanceOf_14 ok_81 (As := [.int x1]) (rest := []) (rX10_isQuestion (N := 1) hf12 (Nat.le_refl _)) rfl (Nat.le_trans (Nat.le_of_ble_eq_true rfl) hN) rfl (Nat.le_of_ble_eq_true rfl) (Or.inl hz) ?_
    refine go_if_ne (tgt := 27) hc dX10_chanceOf_17 rfl (fun hh => ?_) (fun hh => ?_)
    · rw [if_neg hh] at h
      refine go_aload_n hc dX10_chanceOf_27 rfl rfl ?_
      refine go_aload_n hc dX10_chanceOf_28 rfl rfl ?_
      refine go_iload_n hc dX10_chanceOf_29 rfl rfl ?_
      obtain ⟨r13, σ14, hf15, h⟩ := obi_some h
      refine go_callVi hc ho cmX10_kinOf mlX10_333 dX10_chanceOf_30 ok_81 (As := [.int x0]) (rest := [.ref 81]) (rX10_kinOf (N := 1) hf15 (Nat.le_refl _)) rfl (Nat.le_trans (Nat.le_of_ble_eq_true rfl) hN) rfl (Nat.le_of_ble_eq_true rfl) (Or.inl hz) ?_
      obtain ⟨r16, σ17, hf18, h⟩ := obi_some h
      refine go_callVl hc ho cmX10_knownSet mlX10_336 dX10_chanceOf_33 ok_81 (As := [.int r13]) (rest := []) (rX10_knownSet (N := 5) hf18 (Nat.le_refl _)) rfl (Nat.le_trans (Nat.le_of_ble_eq_true rfl) hN) rfl (Nat.le_of_ble_eq_true rfl) (Or.inl hz) ?_
      refine go_lstore hc (lv1 := [.ref 81, .int x0, .int x1, .int x2, .long r16, .null]) dX10_chanceOf_36 hL (by decide) (fun _ _ e => by cases e; rfl) rfl ?_
      refine go_lload hc dX10_chanceOf_38 rfl ?_
      refine go_lconst hc dX10_chanceOf_40 cl_0 ?_
      refine go_lcmp hc dX10_chanceOf_41 ?_
      refine go_if_ne (tgt := 55) hc dX10_chanceOf_42 rfl (fun hh => ?_) (fun hh => ?_)
      · rw [if_neg hh] at h
        refine go_aload_n hc dX10_chanceOf_55 rfl rfl ?_
        refine go_lload hc dX10_chanceOf_56 rfl ?_
        refine go_aload_n hc dX10_chanceOf_58 rfl rfl ?_
        refine go_getC (b := 86) rfl hc ho flX10_26 dX10_chanceOf_59 ok_81 ?_
        refine go_iload_n hc dX10_chanceOf_62 rfl rfl ?_
        obtain ⟨hg19, h⟩ := ogd_some h
        refine go_lald hc dX10_chanceOf_63 ok_86 ol_86 hg19 rfl ?_
        refine go_land hc dX10_chanceOf_64 ?_
        obtain ⟨r20, σ21, hf22, h⟩ := obi_some h
        refine go_callVl hc ho cmX10_weight mlX10_301 dX10_chanceOf_65 ok_81 (As := [.long (r16 &&& (mL σ17 86 x1.toNatClampNeg))]) (rest := []) (rX10_weight (N := 2) hf22 (Nat.le_refl _)) rfl (Nat.le_trans (Nat.le_of_ble_eq_true rfl) hN) rfl (Nat.le_of_ble_eq_true rfl) (Or.inl hz) ?_
        refine go_aload_n hc dX10_chanceOf_68 rfl rfl ?_
        refine go_lload hc dX10_chanceOf_69 rfl ?_
        obtain ⟨r23, σ24, hf25, h⟩ := obi_some h
        refine go_callVl hc ho cmX10_weight mlX10_301 dX10_chanceOf_71 ok_81 (As := [.long r16]) (rest := [.long r20]) (rX10_weight (N := 2) hf25 (Nat.le_refl _)) rfl (Nat.le_trans (Nat.le_of_ble_eq_true rfl) hN) rfl (Nat.le_of_ble_eq_true rfl) (Or.inl hz) ?_
        refine go_iload_n hc dX10_chanceOf_74 rfl rfl ?_
        obtain ⟨r26, σ27, hf28, h⟩ := obi_some h
        refine go_callSl hc ho cmX10_lowest mlX10_305 dX10_chanceOf_75 (As := [.long r20, .long r23, .int x2]) (rest := []) (rX10_lowest (N := 0) hf28 (Nat.le_refl _)) rfl (Nat.le_trans (Nat.le_of_ble_eq_true rfl) hN) rfl (Nat.le_of_ble_eq_true rfl) (Or.inl hz) ?_
        exact go_lret hc (oend_l h hE) hr dX10_chanceOf_78
      · rw [if_pos hh] at h
        refine go_aload_n hc dX10_chanceOf_45 rfl rfl ?_
        refine go_bipush hc dX10_chanceOf_46 cb_6 ?_
        obtain ⟨r29, σ30, hf31, h⟩ := obi_some h
        refine go_callVi hc ho cmX10_no mlX10_202 dX10_chanceOf_48 ok_81 (As := [.int (6 : Int32)]) (rest := []) (rX10_no (N := 0) hf31 (Nat.le_refl _)) rfl (Nat.le_trans (Nat.le_of_ble_eq_true rfl) hN) rfl (Nat.le_of_ble_eq_true rfl) (Or.inl hz) ?_
        refine go_i2l hc dX10_chanceOf_51 ?_
        refine go_goto (tgt := 78) hc dX10_chanceOf_52 rfl ?_
        exact go_lret hc (oend_l h hE) hr dX10_chanceOf_78
    · rw [if_pos hh] at h
      refine go_aload_n hc dX10_chanceOf_20 rfl rfl ?_
      refine go_iconst hc dX10_chanceOf_21 ci_1 ?_
      obtain ⟨r32, σ33, hf34, h⟩ := obi_some h
      refine go_callVi hc ho cmX10_no mlX10_202 dX10_chanceOf_22 ok_81 (As := [.int (1 : Int32)]) (rest := []) (rX10_no (N := 0) hf34 (Nat.le_refl _)) rfl (Nat.le_trans (Nat.le_of_ble_eq_true rfl) hN) rfl (Nat.le_of_ble_eq_true rfl) (Or.inl hz) ?_
      refine go_i2l hc dX10_chanceOf_25 ?_
      exact go_lret hc (oend_l h hE) hr dX10_chanceOf_26
def fX10_wouldKnow_b58 (k0 : Int64) (k1 : Int64) (σ : OM) : Option (Int32 × OM) :=
  if (lg_cmp (k0 &&& k1) (0 : Int64)) = 0 then (
   some (((-2) : Int32), σ))
  else (obi (fX10_knownOf (k0 &&& k1) σ) (fun r1 σ2 =>
  some (r1, σ2)))
set_option maxRecDepth 100000 in
set_option maxHeartbeats 4000000 in
theorem rX10_wouldKnow_b58 {K : OK} (hc : kcc K = cX10_wouldKnow) (ho : kow K = RX10) (hL : knL K = 6) (hN : 6 ≤ kN K) (hr : (kme K).sig.returnType = (some .int)) {r0 : Int32} {σ0 : OM} (hE : oEnd K (some (.int r0)) σ0) (hz : kz K = 0) {k0 : Int64} {k1 : Int64} {σ : OM} (h : fX10_wouldKnow_b58 k0 k1 σ = some (r0, σ0)) : Go K 58 [.ref 81, .null, .null, .null, .null, .null] [.long k1, .long k0] σ := by
  unfold fX10_wouldKnow_b58 at h
  refine go_land hc dX10_wouldKnow_58 ?_
  refine go_lstore hc (lv1 := [.ref 81, .null, .null, .null, .long (k0 &&& k1), .null]) dX10_wouldKnow_59 hL (by decide) (fun _ _ e => by cases e; rfl) rfl ?_
  refine go_lload hc dX10_wouldKnow_61 rfl ?_
  refine go_lconst hc dX10_wouldKnow_63 cl_0 ?_
  refine go_lcmp hc dX10_wouldKnow_64 ?_
  refine go_if_ne (tgt := 73) hc dX10_wouldKnow_65 rfl (fun hh => ?_) (fun hh => ?_)
  · rw [if_neg hh] at h
    refine go_aload_n hc dX10_wouldKnow_73 rfl rfl ?_
    refine go_lload hc dX10_wouldKnow_74 rfl ?_
    obtain ⟨r1, σ2, hf3, h⟩ := obi_some h
    refine go_callVi hc ho cmX10_knownOf mlX10_339 dX10_wouldKnow_76 ok_81 (As := [.long (k0 &&& k1)]) (rest := []) (rX10_knownOf (N := 1) hf3 (Nat.le_refl _)) rfl (Nat.le_trans (Nat.le_of_ble_eq_true rfl) hN) rfl (Nat.le_of_ble_eq_true rfl) (Or.inl hz) ?_
    exact go_iret hc (oend_i h hE) hr dX10_wouldKnow_79
  · rw [if_pos hh] at h
    refine go_bipush hc dX10_wouldKnow_68 cb_m2 ?_
    refine go_goto (tgt := 79) hc dX10_wouldKnow_70 rfl ?_
    exact go_iret hc (oend_i h hE) hr dX10_wouldKnow_79
def fX10_wouldKnow (x0 : Int32) (x1 : Int32) (x2 : Int32) (σ : OM) : Option (Int32 × OM) :=
  obv (fX10_good σ) (fun σ2 =>
  obi (fX10_isHouse x0 σ2) (fun r4 σ5 =>
  if r4 = 0 then (
   obi (fX10_no (1 : Int32) σ5) (fun r7 σ8 =>
   some (r7, σ8)))
  else (obi (fX10_isQuestion x1 σ5) (fun r10 σ11 =>
  if r10 = 0 then (
   obi (fX10_no (1 : Int32) σ11) (fun r21 σ22 =>
   some (r21, σ22)))
  else (obi (fX10_kinOf x0 σ11) (fun r13 σ14 =>
  obi (fX10_knownSet r13 σ14) (fun r16 σ17 =>
  if x2 = 0 then (
   ogd (oin x1 9) (
   fX10_wouldKnow_b58 r16 ((mL σ17 86 x1.toNatClampNeg) ^^^ ((-1) : Int64)) σ17))
  else (ogd (oin x1 9) (
  fX10_wouldKnow_b58 r16 (mL σ17 86 x1.toNatClampNeg) σ17)))))))))
set_option maxRecDepth 100000 in
set_option maxHeartbeats 4000000 in
theorem rX10_wouldKnow {N : Nat} {x0 : Int32} {x1 : Int32} {x2 : Int32} {σ : OM} {r0 : Int32} {σ0 : OM} (h : fX10_wouldKnow x0 x1 x2 σ = some (r0, σ0)) (hN0 : 6 ≤ N) : oEv N MX10_wouldKnow [.ref 81, .int x0, .int x1, .int x2] σ (some (.int r0)) σ0 := by
  refine oEv_of (lv := [.ref 81, .int x0, .int x1, .int x2, .null, .null]) (by decide +kernel) (fun g q hq => hq) (fun g => Nat.le_of_ble_eq_true rfl) ?_
  intro K hc ho hL hN1 hr hE hz
  have hN : 6 ≤ kN K := by rw [hN1]; exact hN0
  unfold fX10_wouldKnow at h
  refine go_aload_n hc dX10_wouldKnow_0 rfl rfl ?_
  obtain ⟨σ2, hf3, h⟩ := obv_some h
  refine go_callVv hc ho cmX10_good mlX10_199 dX10_wouldKnow_1 ok_81 (As := []) (rest := []) (rX10_good (N := 0) hf3 (Nat.le_refl _)) rfl (Nat.le_trans (Nat.le_of_ble_eq_true rfl) hN) rfl (Nat.le_of_ble_eq_true rfl) (Or.inl hz) ?_
  refine go_aload_n hc dX10_wouldKnow_4 rfl rfl ?_
  refine go_iload_n hc dX10_wouldKnow_5 rfl rfl ?_
  obtain ⟨r4, σ5, hf6, h⟩ := obi_some h
  refine go_callVi hc ho cmX10_isHouse mlX10_323 dX10_wouldKnow_6 ok_81 (As := [.int x0]) (rest := []) (rX10_isHouse (N := 1) hf6 (Nat.le_refl _)) rfl (Nat.le_trans (Nat.le_of_ble_eq_true rfl) hN) rfl (Nat.le_of_ble_eq_true rfl) (Or.inl hz) ?_
  refine go_if_eq (tgt := 20) hc dX10_wouldKnow_9 rfl (fun hh => ?_) (fun hh => ?_)
  · rw [if_pos hh] at h
    refine go_aload_n hc dX10_wouldKnow_20 rfl rfl ?_
    refine go_iconst hc dX10_wouldKnow_21 ci_1 ?_
    obtain ⟨r7, σ8, hf9, h⟩ := obi_some h
    refine go_callVi hc ho cmX10_no mlX10_202 dX10_wouldKnow_22 ok_81 (As := [.int (1 : Int32)]) (rest := []) (rX10_no (N := 0) hf9 (Nat.le_refl _)) rfl (Nat.le_trans (Nat.le_of_ble_eq_true rfl) hN) rfl (Nat.le_of_ble_eq_true rfl) (Or.inl hz) ?_
    exact go_iret hc (oend_i h hE) hr dX10_wouldKnow_25
  · rw [if_neg hh] at h
    refine go_aload_n hc dX10_wouldKnow_12 rfl rfl ?_
    refine go_iload_n hc dX10_wouldKnow_13 rfl rfl ?_
    obtain ⟨r10, σ11, hf12, h⟩ := obi_some h
    refine go_callVi hc ho cmX10_isQuestion mlX10_298 dX10_wouldKnow_14 ok_81 (As := [.int x1]) (rest := []) (rX10_isQuestion (N := 1) hf12 (Nat.le_refl _)) rfl (Nat.le_trans (Nat.le_of_ble_eq_true rfl) hN) rfl (Nat.le_of_ble_eq_true rfl) (Or.inl hz) ?_
    refine go_if_ne (tgt := 26) hc dX10_wouldKnow_17 rfl (fun hh => ?_) (fun hh => ?_)
    · rw [if_neg hh] at h
      refine go_aload_n hc dX10_wouldKnow_26 rfl rfl ?_
      refine go_aload_n hc dX10_wouldKnow_27 rfl rfl ?_
      refine go_iload_n hc dX10_wouldKnow_28 rfl rfl ?_
      obtain ⟨r13, σ14, hf15, h⟩ := obi_some h
      refine go_callVi hc ho cmX10_kinOf mlX10_333 dX10_wouldKnow_29 ok_81 (As := [.int x0]) (rest := [.ref 81]) (rX10_kinOf (N := 1) hf15 (Nat.le_refl _)) rfl (Nat.le_trans (Nat.le_of_ble_eq_true rfl) hN) rfl (Nat.le_of_ble_eq_true rfl) (Or.inl hz) ?_
      obtain ⟨r16, σ17, hf18, h⟩ := obi_some h
      refine go_callVl hc ho cmX10_knownSet mlX10_336 dX10_wouldKnow_32 ok_81 (As := [.int r13]) (rest := []) (rX10_knownSet (N := 5) hf18 (Nat.le_refl _)) rfl (Nat.le_trans (Nat.le_of_ble_eq_true rfl) hN) rfl (Nat.le_of_ble_eq_true rfl) (Or.inl hz) ?_
      refine go_iload_n hc dX10_wouldKnow_35 rfl rfl ?_
      refine go_if_eq (tgt := 48) hc dX10_wouldKnow_36 rfl (fun hh => ?_) (fun hh => ?_)
      · rw [if_pos hh] at h
        refine go_aload_n hc dX10_wouldKnow_48 rfl rfl ?_
        refine go_getC (b := 86) rfl hc ho flX10_26 dX10_wouldKnow_49 ok_81 ?_
        refine go_iload_n hc dX10_wouldKnow_52 rfl rfl ?_
        obtain ⟨hg19, h⟩ := ogd_some h
        refine go_lald hc dX10_wouldKnow_53 ok_86 ol_86 hg19 rfl ?_
        refine go_ldc2 hc ho klX10_181 dX10_wouldKnow_54 ?_
        refine go_lxor hc dX10_wouldKnow_57 ?_
        refine go_mask [true, false, false, false, false, false] (lv1 := [.ref 81, .null, .null, .null, .null, .null]) rfl ?_
        exact rX10_wouldKnow_b58 hc ho hL hN hr hE hz h
      · rw [if_neg hh] at h
        refine go_aload_n hc dX10_wouldKnow_39 rfl rfl ?_
        refine go_getC (b := 86) rfl hc ho flX10_26 dX10_wouldKnow_40 ok_81 ?_
        refine go_iload_n hc dX10_wouldKnow_43 rfl rfl ?_
        obtain ⟨hg20, h⟩ := ogd_some h
        refine go_lald hc dX10_wouldKnow_44 ok_86 ol_86 hg20 rfl ?_
        refine go_goto (tgt := 58) hc dX10_wouldKnow_45 rfl ?_
        refine go_mask [true, false, false, false, false, false] (lv1 := [.ref 81, .null, .null, .null, .null, .null]) rfl ?_
        exact rX10_wouldKnow_b58 hc ho hL hN hr hE hz h
    · rw [if_pos hh] at h
      refine go_aload_n hc dX10_wouldKnow_20 rfl rfl ?_
      refine go_iconst hc dX10_wouldKnow_21 ci_1 ?_
      obtain ⟨r21, σ22, hf23, h⟩ := obi_some h
      refine go_callVi hc ho cmX10_no mlX10_202 dX10_wouldKnow_22 ok_81 (As := [.int (1 : Int32)]) (rest := []) (rX10_no (N := 0) hf23 (Nat.le_refl _)) rfl (Nat.le_trans (Nat.le_of_ble_eq_true rfl) hN) rfl (Nat.le_of_ble_eq_true rfl) (Or.inl hz) ?_
      exact go_iret hc (oend_i h hE) hr dX10_wouldKnow_25
def fX10_needless_b164 (rc52 : Int32 → Int32 → Int32 → Int32 → Int32 → OM → Option (Int32 × OM)) (l2 : Int32) (l3 : Int32) (l4 : Int32) (l5 : Int32) (l6 : Int32) (l7 : Int64) (σ : OM) : Option (Int32 × OM) :=
  obi (fX10_ones l7 σ) (fun r1 σ2 =>
  if r1 = l4 then (
   rc52 l2 l3 l4 (l5 ||| ((1 : Int32) <<< (l6 &&& 31))) (l6 + 1) σ2)
  else (rc52 l2 l3 l4 (l5 ||| (0 : Int32)) (l6 + 1) σ2))
set_option maxRecDepth 100000 in
set_option maxHeartbeats 4000000 in
theorem rX10_needless_b164 {K : OK} (hc : kcc K = cX10_needless) (ho : kow K = RX10) (hL : knL K = 10) (hN : 5 ≤ kN K) (hr : (kme K).sig.returnType = (some .int)) {r0 : Int32} {σ0 : OM} (hE : oEnd K (some (.int r0)) σ0) (hz : kz K = 0) {rc52 : Int32 → Int32 → Int32 → Int32 → Int32 → OM → Option (Int32 × OM)} (hrc52 : ∀ (l2 : Int32) (l3 : Int32) (l4 : Int32) (l5 : Int32) (l6 : Int32) (σ : OM), rc52 l2 l3 l4 l5 l6 σ = some (r0, σ0) → Go K 52 [.ref 81, .null, .int l2, .int l3, .int l4, .int l5, .int l6, .null, .null, .null] [] σ) {l2 : Int32} {l3 : Int32} {l4 : Int32} {l5 : Int32} {l6 : Int32} {l7 : Int64} {σ : OM} (h : fX10_needless_b164 rc52 l2 l3 l4 l5 l6 l7 σ = some (r0, σ0)) : Go K 164 [.ref 81, .null, .int l2, .int l3, .int l4, .int l5, .int l6, .long l7, .null, .null] [] σ := by
  unfold fX10_needless_b164 at h
  refine go_iload hc dX10_needless_164 rfl ?_
  refine go_lload hc dX10_needless_166 rfl ?_
  obtain ⟨r1, σ2, hf3, h⟩ := obi_some h
  refine go_callSi hc ho cmX10_ones mlX10_291 dX10_needless_168 (As := [.long l7]) (rest := [.int l5]) (rX10_ones (N := 0) hf3 (Nat.le_refl _)) rfl (Nat.le_trans (Nat.le_of_ble_eq_true rfl) hN) rfl (Nat.le_of_ble_eq_true rfl) (Or.inl hz) ?_
  refine go_iload hc dX10_needless_171 rfl ?_
  refine go_icmp_ne (tgt := 183) hc dX10_needless_173 rfl (fun hh => ?_) (fun hh => ?_)
  · rw [if_neg hh] at h
    refine go_iconst hc dX10_needless_183 ci_0 ?_
    refine go_ior hc dX10_needless_184 ?_
    refine go_istore hc (lv1 := [.ref 81, .null, .int l2, .int l3, .int l4, .int (l5 ||| (0 : Int32)), .int l6, .long l7, .null, .null]) dX10_needless_185 hL (by decide) (fun _ _ e => by cases e; rfl) rfl ?_
    refine go_iinc hc (lv1 := [.ref 81, .null, .int l2, .int l3, .int l4, .int (l5 ||| (0 : Int32)), .int (l6 + 1), .long l7, .null, .null]) dX10_needless_187 rfl ci_1 hL (by decide) (fun _ _ e => by cases e; rfl) rfl ?_
    refine go_goto (tgt := 52) hc dX10_needless_190 rfl ?_
    refine go_mask [true, false, true, true, true, true, true, false, false, false] (lv1 := [.ref 81, .null, .int l2, .int l3, .int l4, .int (l5 ||| (0 : Int32)), .int (l6 + 1), .null, .null, .null]) rfl ?_
    exact hrc52 l2 l3 l4 (l5 ||| (0 : Int32)) (l6 + 1) _ h
  · rw [if_pos hh] at h
    refine go_iconst hc dX10_needless_176 ci_1 ?_
    refine go_iload hc dX10_needless_177 rfl ?_
    refine go_ishl hc dX10_needless_179 ?_
    refine go_goto (tgt := 184) hc dX10_needless_180 rfl ?_
    refine go_ior hc dX10_needless_184 ?_
    refine go_istore hc (lv1 := [.ref 81, .null, .int l2, .int l3, .int l4, .int (l5 ||| ((1 : Int32) <<< (l6 &&& 31))), .int l6, .long l7, .null, .null]) dX10_needless_185 hL (by decide) (fun _ _ e => by cases e; rfl) rfl ?_
    refine go_iinc hc (lv1 := [.ref 81, .null, .int l2, .int l3, .int l4, .int (l5 ||| ((1 : Int32) <<< (l6 &&& 31))), .int (l6 + 1), .long l7, .null, .null]) dX10_needless_187 rfl ci_1 hL (by decide) (fun _ _ e => by cases e; rfl) rfl ?_
    refine go_goto (tgt := 52) hc dX10_needless_190 rfl ?_
    refine go_mask [true, false, true, true, true, true, true, false, false, false] (lv1 := [.ref 81, .null, .int l2, .int l3, .int l4, .int (l5 ||| ((1 : Int32) <<< (l6 &&& 31))), .int (l6 + 1), .null, .null, .null]) rfl ?_
    exact hrc52 l2 l3 l4 (l5 ||| ((1 : Int32) <<< (l6 &&& 31))) (l6 + 1) _ h
def fX10_needless_b96 (rc52 : Int32 → Int32 → Int32 → Int32 → Int32 → OM → Option (Int32 × OM)) : Nat → Int32 → Int32 → Int32 → Int32 → Int32 → Int64 → Int32 → OM → Option (Int32 × OM)
  | 0, _, _, _, _, _, _, _, _ => none
  | n + 1, l2, l3, l4, l5, l6, l7, l9, σ =>
    if (mI σ 88 1) ≤ l9 then (
     fX10_needless_b164 rc52 l2 l3 l4 l5 l6 l7 σ)
    else (if l9 = l6 then (
     fX10_needless_b96 rc52 n l2 l3 l4 l5 l6 l7 (l9 + 1) σ)
    else (ogd (oin ((2 : Int32) + ((3 : Int32) * l9)) 68) (
    obi (fX10_hasBit l2 (mI σ 88 (((2 : Int32) + ((3 : Int32) * l9)).toNatClampNeg)) σ) (fun r2 σ3 =>
    if r2 = 0 then (
     fX10_needless_b96 rc52 n l2 l3 l4 l5 l6 l7 (l9 + 1) σ3)
    else (ogd (oin ((2 : Int32) + ((3 : Int32) * l9)) 68) (
    obi (fX10_hasBit l3 (mI σ3 88 (((2 : Int32) + ((3 : Int32) * l9)).toNatClampNeg)) σ3) (fun r6 σ7 =>
    obi (fX10_answerSet l9 r6 σ7) (fun r9 σ10 =>
    fX10_needless_b96 rc52 n l2 l3 l4 l5 l6 (l7 &&& r9) (l9 + 1) σ10))))))))
set_option maxRecDepth 100000 in
set_option maxHeartbeats 4000000 in
theorem rX10_needless_b96 {K : OK} (hc : kcc K = cX10_needless) (ho : kow K = RX10) (hL : knL K = 10) (hN : 5 ≤ kN K) (hr : (kme K).sig.returnType = (some .int)) {r0 : Int32} {σ0 : OM} (hE : oEnd K (some (.int r0)) σ0) (hz : kz K = 0) {rc52 : Int32 → Int32 → Int32 → Int32 → Int32 → OM → Option (Int32 × OM)} (hrc52 : ∀ (l2 : Int32) (l3 : Int32) (l4 : Int32) (l5 : Int32) (l6 : Int32) (σ : OM), rc52 l2 l3 l4 l5 l6 σ = some (r0, σ0) → Go K 52 [.ref 81, .null, .int l2, .int l3, .int l4, .int l5, .int l6, .null, .null, .null] [] σ) : ∀ (n : Nat) (l2 : Int32) (l3 : Int32) (l4 : Int32) (l5 : Int32) (l6 : Int32) (l7 : Int64) (l9 : Int32) (σ : OM), fX10_needless_b96 rc52 n l2 l3 l4 l5 l6 l7 l9 σ = some (r0, σ0) → Go K 96 [.ref 81, .null, .int l2, .int l3, .int l4, .int l5, .int l6, .long l7, .null, .int l9] [] σ := by
  intro n
  induction n with
  | zero =>
    intro l2 l3 l4 l5 l6 l7 l9 σ h
    cases h
  | succ n ih =>
    intro l2 l3 l4 l5 l6 l7 l9 σ h
    rw [fX10_needless_b96] at h
    refine go_iload hc dX10_needless_96 rfl ?_
    refine go_aload_n hc dX10_needless_98 rfl rfl ?_
    refine go_getC (b := 88) rfl hc ho flX10_33 dX10_needless_99 ok_81 ?_
    refine go_iconst hc dX10_needless_102 ci_1 ?_
    refine go_iald hc dX10_needless_103 ok_88 ol_88 (by decide +kernel) cn_1 ?_
    refine go_icmp_ge (tgt := 164) hc dX10_needless_104 rfl (fun hh => ?_) (fun hh => ?_)
    · rw [if_pos hh] at h
      refine go_mask [true, false, true, true, true, true, true, true, false, false] (lv1 := [.ref 81, .null, .int l2, .int l3, .int l4, .int l5, .int l6, .long l7, .null, .null]) rfl ?_
      exact rX10_needless_b164 hc ho hL hN hr hE hz hrc52 h
    · rw [if_neg hh] at h
      refine go_iload hc dX10_needless_107 rfl ?_
      refine go_iload hc dX10_needless_109 rfl ?_
      refine go_icmp_eq (tgt := 158) hc dX10_needless_111 rfl (fun hh => ?_) (fun hh => ?_)
      · rw [if_pos hh] at h
        refine go_iinc hc (lv1 := [.ref 81, .null, .int l2, .int l3, .int l4, .int l5, .int l6, .long l7, .null, .int (l9 + 1)]) dX10_needless_158 rfl ci_1 hL (by decide) (fun _ _ e => by cases e; rfl) rfl ?_
        refine go_goto (tgt := 96) hc dX10_needless_161 rfl ?_
        exact ih l2 l3 l4 l5 l6 l7 (l9 + 1) _ h
      · rw [if_neg hh] at h
        refine go_iload_n hc dX10_needless_114 rfl rfl ?_
        refine go_aload_n hc dX10_needless_115 rfl rfl ?_
        refine go_getC (b := 88) rfl hc ho flX10_33 dX10_needless_116 ok_81 ?_
        refine go_iconst hc dX10_needless_119 ci_2 ?_
        refine go_iconst hc dX10_needless_120 ci_3 ?_
        refine go_iload hc dX10_needless_121 rfl ?_
        refine go_imul hc dX10_needless_123 ?_
        refine go_iadd hc dX10_needless_124 ?_
        obtain ⟨hg1, h⟩ := ogd_some h
        refine go_iald hc dX10_needless_125 ok_88 ol_88 hg1 rfl ?_
        obtain ⟨r2, σ3, hf4, h⟩ := obi_some h
        refine go_callSi hc ho cmX10_hasBit mlX10_270 dX10_needless_126 (As := [.int l2, .int (mI σ 88 (((2 : Int32) + ((3 : Int32) * l9)).toNatClampNeg))]) (rest := []) (rX10_hasBit (N := 0) hf4 (Nat.le_refl _)) rfl (Nat.le_trans (Nat.le_of_ble_eq_true rfl) hN) rfl (Nat.le_of_ble_eq_true rfl) (Or.inl hz) ?_
        refine go_if_eq (tgt := 158) hc dX10_needless_129 rfl (fun hh => ?_) (fun hh => ?_)
        · rw [if_pos hh] at h
          refine go_iinc hc (lv1 := [.ref 81, .null, .int l2, .int l3, .int l4, .int l5, .int l6, .long l7, .null, .int (l9 + 1)]) dX10_needless_158 rfl ci_1 hL (by decide) (fun _ _ e => by cases e; rfl) rfl ?_
          refine go_goto (tgt := 96) hc dX10_needless_161 rfl ?_
          exact ih l2 l3 l4 l5 l6 l7 (l9 + 1) _ h
        · rw [if_neg hh] at h
          refine go_lload hc dX10_needless_132 rfl ?_
          refine go_aload_n hc dX10_needless_134 rfl rfl ?_
          refine go_iload hc dX10_needless_135 rfl ?_
          refine go_iload_n hc dX10_needless_137 rfl rfl ?_
          refine go_aload_n hc dX10_needless_138 rfl rfl ?_
          refine go_getC (b := 88) rfl hc ho flX10_33 dX10_needless_139 ok_81 ?_
          refine go_iconst hc dX10_needless_142 ci_2 ?_
          refine go_iconst hc dX10_needless_143 ci_3 ?_
          refine go_iload hc dX10_needless_144 rfl ?_
          refine go_imul hc dX10_needless_146 ?_
          refine go_iadd hc dX10_needless_147 ?_
          obtain ⟨hg5, h⟩ := ogd_some h
          refine go_iald hc dX10_needless_148 ok_88 ol_88 hg5 rfl ?_
          obtain ⟨r6, σ7, hf8, h⟩ := obi_some h
          refine go_callSi hc ho cmX10_hasBit mlX10_270 dX10_needless_149 (As := [.int l3, .int (mI σ3 88 (((2 : Int32) + ((3 : Int32) * l9)).toNatClampNeg))]) (rest := [.int l9, .ref 81, .long l7]) (rX10_hasBit (N := 0) hf8 (Nat.le_refl _)) rfl (Nat.le_trans (Nat.le_of_ble_eq_true rfl) hN) rfl (Nat.le_of_ble_eq_true rfl) (Or.inl hz) ?_
          obtain ⟨r9, σ10, hf11, h⟩ := obi_some h
          refine go_callVl hc ho cmX10_answerSet mlX10_309 dX10_needless_152 ok_81 (As := [.int l9, .int r6]) (rest := [.long l7]) (rX10_answerSet (N := 0) hf11 (Nat.le_refl _)) rfl (Nat.le_trans (Nat.le_of_ble_eq_true rfl) hN) rfl (Nat.le_of_ble_eq_true rfl) (Or.inl hz) ?_
          refine go_land hc dX10_needless_155 ?_
          refine go_lstore hc (lv1 := [.ref 81, .null, .int l2, .int l3, .int l4, .int l5, .int l6, .long (l7 &&& r9), .null, .int l9]) dX10_needless_156 hL (by decide) (fun _ _ e => by cases e; rfl) rfl ?_
          refine go_iinc hc (lv1 := [.ref 81, .null, .int l2, .int l3, .int l4, .int l5, .int l6, .long (l7 &&& r9), .null, .int (l9 + 1)]) dX10_needless_158 rfl ci_1 hL (by decide) (fun _ _ e => by cases e; rfl) rfl ?_
          refine go_goto (tgt := 96) hc dX10_needless_161 rfl ?_
          exact ih l2 l3 l4 l5 l6 (l7 &&& r9) (l9 + 1) _ h
def fX10_needless_b52 : Nat → Int32 → Int32 → Int32 → Int32 → Int32 → OM → Option (Int32 × OM)
  | 0, _, _, _, _, _, _ => none
  | n + 1, l2, l3, l4, l5, l6, σ =>
    if (mI σ 88 1) ≤ l6 then (
     some (l5, σ))
    else (ogd (oin ((2 : Int32) + ((3 : Int32) * l6)) 68) (
    obi (fX10_hasBit l2 (mI σ 88 (((2 : Int32) + ((3 : Int32) * l6)).toNatClampNeg)) σ) (fun r2 σ3 =>
    if r2 = 0 then (
     fX10_needless_b52 n l2 l3 l4 l5 (l6 + 1) σ3)
    else (fX10_needless_b96 (fX10_needless_b52 n) oF l2 l3 l4 l5 l6 (mL σ3 86 8) (0 : Int32) σ3))))
set_option maxRecDepth 100000 in
set_option maxHeartbeats 4000000 in
theorem rX10_needless_b52 {K : OK} (hc : kcc K = cX10_needless) (ho : kow K = RX10) (hL : knL K = 10) (hN : 5 ≤ kN K) (hr : (kme K).sig.returnType = (some .int)) {r0 : Int32} {σ0 : OM} (hE : oEnd K (some (.int r0)) σ0) (hz : kz K = 0) : ∀ (n : Nat) (l2 : Int32) (l3 : Int32) (l4 : Int32) (l5 : Int32) (l6 : Int32) (σ : OM), fX10_needless_b52 n l2 l3 l4 l5 l6 σ = some (r0, σ0) → Go K 52 [.ref 81, .null, .int l2, .int l3, .int l4, .int l5, .int l6, .null, .null, .null] [] σ := by
  intro n
  induction n with
  | zero =>
    intro l2 l3 l4 l5 l6 σ h
    cases h
  | succ n ih =>
    intro l2 l3 l4 l5 l6 σ h
    rw [fX10_needless_b52] at h
    refine go_iload hc dX10_needless_52 rfl ?_
    refine go_aload_n hc dX10_needless_54 rfl rfl ?_
    refine go_getC (b := 88) rfl hc ho flX10_33 dX10_needless_55 ok_81 ?_
    refine go_iconst hc dX10_needless_58 ci_1 ?_
    refine go_iald hc dX10_needless_59 ok_88 ol_88 (by decide +kernel) cn_1 ?_
    refine go_icmp_ge (tgt := 193) hc dX10_needless_60 rfl (fun hh => ?_) (fun hh => ?_)
    · rw [if_pos hh] at h
      refine go_iload hc dX10_needless_193 rfl ?_
      exact go_iret hc (oend_i h hE) hr dX10_needless_195
    · rw [if_neg hh] at h
      refine go_iload_n hc dX10_needless_63 rfl rfl ?_
      refine go_aload_n hc dX10_needless_64 rfl rfl ?_
      refine go_getC (b := 88) rfl hc ho flX10_33 dX10_needless_65 ok_81 ?_
      refine go_iconst hc dX10_needless_68 ci_2 ?_
      refine go_iconst hc dX10_needless_69 ci_3 ?_
      refine go_iload hc dX10_needless_70 rfl ?_
      refine go_imul hc dX10_needless_72 ?_
      refine go_iadd hc dX10_needless_73 ?_
      obtain ⟨hg1, h⟩ := ogd_some h
      refine go_iald hc dX10_needless_74 ok_88 ol_88 hg1 rfl ?_
      obtain ⟨r2, σ3, hf4, h⟩ := obi_some h
      refine go_callSi hc ho cmX10_hasBit mlX10_270 dX10_needless_75 (As := [.int l2, .int (mI σ 88 (((2 : Int32) + ((3 : Int32) * l6)).toNatClampNeg))]) (rest := []) (rX10_hasBit (N := 0) hf4 (Nat.le_refl _)) rfl (Nat.le_trans (Nat.le_of_ble_eq_true rfl) hN) rfl (Nat.le_of_ble_eq_true rfl) (Or.inl hz) ?_
      refine go_if_ne (tgt := 84) hc dX10_needless_78 rfl (fun hh => ?_) (fun hh => ?_)
      · rw [if_neg hh] at h
        refine go_aload_n hc dX10_needless_84 rfl rfl ?_
        refine go_getC (b := 86) rfl hc ho flX10_26 dX10_needless_85 ok_81 ?_
        refine go_bipush hc dX10_needless_88 cb_8 ?_
        refine go_lald hc dX10_needless_90 ok_86 ol_86 (by decide +kernel) cn_8 ?_
        refine go_lstore hc (lv1 := [.ref 81, .null, .int l2, .int l3, .int l4, .int l5, .int l6, .long (mL σ3 86 8), .null, .null]) dX10_needless_91 hL (by decide) (fun _ _ e => by cases e; rfl) rfl ?_
        refine go_iconst hc dX10_needless_93 ci_0 ?_
        refine go_istore hc (lv1 := [.ref 81, .null, .int l2, .int l3, .int l4, .int l5, .int l6, .long (mL σ3 86 8), .null, .int (0 : Int32)]) dX10_needless_94 hL (by decide) (fun _ _ e => by cases e; rfl) rfl ?_
        exact rX10_needless_b96 hc ho hL hN hr hE hz ih oF l2 l3 l4 l5 l6 (mL σ3 86 8) (0 : Int32) _ h
      · rw [if_pos hh] at h
        refine go_goto (tgt := 187) hc dX10_needless_81 rfl ?_
        refine go_iinc hc (lv1 := [.ref 81, .null, .int l2, .int l3, .int l4, .int l5, .int (l6 + 1), .null, .null, .null]) dX10_needless_187 rfl ci_1 hL (by decide) (fun _ _ e => by cases e; rfl) rfl ?_
        refine go_goto (tgt := 52) hc dX10_needless_190 rfl ?_
        exact ih l2 l3 l4 l5 (l6 + 1) _ h
def fX10_needless (x0 : Int32) (σ : OM) : Option (Int32 × OM) :=
  obv (fX10_good σ) (fun σ2 =>
  obi (fX10_isHouse x0 σ2) (fun r4 σ5 =>
  if r4 = 0 then (
   obi (fX10_no (1 : Int32) σ5) (fun r19 σ20 =>
   some (r19, σ20)))
  else (obi (fX10_kinOf x0 σ5) (fun r7 σ8 =>
  obi (fX10_turnedOf σ8) (fun r10 σ11 =>
  obi (fX10_leftBy r7 r10 (mI σ11 88 1) σ11) (fun r13 σ14 =>
  obi (fX10_ones r13 σ14) (fun r16 σ17 =>
  fX10_needless_b52 oF r7 r10 r16 (0 : Int32) (0 : Int32) σ17)))))))
set_option maxRecDepth 100000 in
set_option maxHeartbeats 4000000 in
theorem rX10_needless {N : Nat} {x0 : Int32} {σ : OM} {r0 : Int32} {σ0 : OM} (h : fX10_needless x0 σ = some (r0, σ0)) (hN0 : 5 ≤ N) : oEv N MX10_needless [.ref 81, .int x0] σ (some (.int r0)) σ0 := by
  refine oEv_of (lv := [.ref 81, .int x0, .null, .null, .null, .null, .null, .null, .null, .null]) (by decide +kernel) (fun g q hq => hq) (fun g => Nat.le_of_ble_eq_true rfl) ?_
  intro K hc ho hL hN1 hr hE hz
  have hN : 5 ≤ kN K := by rw [hN1]; exact hN0
  unfold fX10_needless at h
  refine go_aload_n hc dX10_needless_0 rfl rfl ?_
  obtain ⟨σ2, hf3, h⟩ := obv_some h
  refine go_callVv hc ho cmX10_good mlX10_199 dX10_needless_1 ok_81 (As := []) (rest := []) (rX10_good (N := 0) hf3 (Nat.le_refl _)) rfl (Nat.le_trans (Nat.le_of_ble_eq_true rfl) hN) rfl (Nat.le_of_ble_eq_true rfl) (Or.inl hz) ?_
  refine go_aload_n hc dX10_needless_4 rfl rfl ?_
  refine go_iload_n hc dX10_needless_5 rfl rfl ?_
  obtain ⟨r4, σ5, hf6, h⟩ := obi_some h
  refine go_callVi hc ho cmX10_isHouse mlX10_323 dX10_needless_6 ok_81 (As := [.int x0]) (rest := []) (rX10_isHouse (N := 1) hf6 (Nat.le_refl _)) rfl (Nat.le_trans (Nat.le_of_ble_eq_true rfl) hN) rfl (Nat.le_of_ble_eq_true rfl) (Or.inl hz) ?_
  refine go_if_ne (tgt := 18) hc dX10_needless_9 rfl (fun hh => ?_) (fun hh => ?_)
  · rw [if_neg hh] at h
    refine go_aload_n hc dX10_needless_18 rfl rfl ?_
    refine go_iload_n hc dX10_needless_19 rfl rfl ?_
    obtain ⟨r7, σ8, hf9, h⟩ := obi_some h
    refine go_callVi hc ho cmX10_kinOf mlX10_333 dX10_needless_20 ok_81 (As := [.int x0]) (rest := []) (rX10_kinOf (N := 1) hf9 (Nat.le_refl _)) rfl (Nat.le_trans (Nat.le_of_ble_eq_true rfl) hN) rfl (Nat.le_of_ble_eq_true rfl) (Or.inl hz) ?_
    refine go_istore_n hc (lv1 := [.ref 81, .int x0, .int r7, .null, .null, .null, .null, .null, .null, .null]) dX10_needless_23 rfl hL (by decide) (fun _ _ e => by cases e; rfl) rfl ?_
    refine go_aload_n hc dX10_needless_24 rfl rfl ?_
    obtain ⟨r10, σ11, hf12, h⟩ := obi_some h
    refine go_callVi hc ho cmX10_turnedOf mlX10_326 dX10_needless_25 ok_81 (As := []) (rest := []) (rX10_turnedOf (N := 4) hf12 (Nat.le_refl _)) rfl (Nat.le_trans (Nat.le_of_ble_eq_true rfl) hN) rfl (Nat.le_of_ble_eq_true rfl) (Or.inl hz) ?_
    refine go_istore_n hc (lv1 := [.ref 81, .int x0, .int r7, .int r10, .null, .null, .null, .null, .null, .null]) dX10_needless_28 rfl hL (by decide) (fun _ _ e => by cases e; rfl) rfl ?_
    refine go_aload_n hc dX10_needless_29 rfl rfl ?_
    refine go_iload_n hc dX10_needless_30 rfl rfl ?_
    refine go_iload_n hc dX10_needless_31 rfl rfl ?_
    refine go_aload_n hc dX10_needless_32 rfl rfl ?_
    refine go_getC (b := 88) rfl hc ho flX10_33 dX10_needless_33 ok_81 ?_
    refine go_iconst hc dX10_needless_36 ci_1 ?_
    refine go_iald hc dX10_needless_37 ok_88 ol_88 (by decide +kernel) cn_1 ?_
    obtain ⟨r13, σ14, hf15, h⟩ := obi_some h
    refine go_callVl hc ho cmX10_leftBy mlX10_313 dX10_needless_38 ok_81 (As := [.int r7, .int r10, .int (mI σ11 88 1)]) (rest := []) (rX10_leftBy (N := 1) hf15 (Nat.le_refl _)) rfl (Nat.le_trans (Nat.le_of_ble_eq_true rfl) hN) rfl (Nat.le_of_ble_eq_true rfl) (Or.inl hz) ?_
    obtain ⟨r16, σ17, hf18, h⟩ := obi_some h
    refine go_callSi hc ho cmX10_ones mlX10_291 dX10_needless_41 (As := [.long r13]) (rest := []) (rX10_ones (N := 0) hf18 (Nat.le_refl _)) rfl (Nat.le_trans (Nat.le_of_ble_eq_true rfl) hN) rfl (Nat.le_of_ble_eq_true rfl) (Or.inl hz) ?_
    refine go_istore hc (lv1 := [.ref 81, .int x0, .int r7, .int r10, .int r16, .null, .null, .null, .null, .null]) dX10_needless_44 hL (by decide) (fun _ _ e => by cases e; rfl) rfl ?_
    refine go_iconst hc dX10_needless_46 ci_0 ?_
    refine go_istore hc (lv1 := [.ref 81, .int x0, .int r7, .int r10, .int r16, .int (0 : Int32), .null, .null, .null, .null]) dX10_needless_47 hL (by decide) (fun _ _ e => by cases e; rfl) rfl ?_
    refine go_iconst hc dX10_needless_49 ci_0 ?_
    refine go_istore hc (lv1 := [.ref 81, .int x0, .int r7, .int r10, .int r16, .int (0 : Int32), .int (0 : Int32), .null, .null, .null]) dX10_needless_50 hL (by decide) (fun _ _ e => by cases e; rfl) rfl ?_
    refine go_mask [true, false, true, true, true, true, true, false, false, false] (lv1 := [.ref 81, .null, .int r7, .int r10, .int r16, .int (0 : Int32), .int (0 : Int32), .null, .null, .null]) rfl ?_
    exact rX10_needless_b52 hc ho hL hN hr hE hz oF r7 r10 r16 (0 : Int32) (0 : Int32) _ h
  · rw [if_pos hh] at h
    refine go_aload_n hc dX10_needless_12 rfl rfl ?_
    refine go_iconst hc dX10_needless_13 ci_1 ?_
    obtain ⟨r19, σ20, hf21, h⟩ := obi_some h
    refine go_callVi hc ho cmX10_no mlX10_202 dX10_needless_14 ok_81 (As := [.int (1 : Int32)]) (rest := []) (rX10_no (N := 0) hf21 (Nat.le_refl _)) rfl (Nat.le_trans (Nat.le_of_ble_eq_true rfl) hN) rfl (Nat.le_of_ble_eq_true rfl) (Or.inl hz) ?_
    exact go_iret hc (oend_i h hE) hr dX10_needless_17
def fX10_isAnswer (x0 : Int32) (σ : OM) : Option (Int32 × OM) :=
  if (mI σ 81 14) = 0 then (
   some ((0 : Int32), σ))
  else (obi (fX10_in x0 (0 : Int32) ((mI σ 88 1) - (1 : Int32)) σ) (fun r1 σ2 =>
  if r1 = 0 then (
   some ((0 : Int32), σ2))
  else (some ((1 : Int32), σ2))))
set_option maxRecDepth 100000 in
set_option maxHeartbeats 4000000 in
theorem rX10_isAnswer {N : Nat} {x0 : Int32} {σ : OM} {r0 : Int32} {σ0 : OM} (h : fX10_isAnswer x0 σ = some (r0, σ0)) (hN0 : 1 ≤ N) : oEv N MX10_isAnswer [.ref 81, .int x0] σ (some (.int r0)) σ0 := by
  refine oEv_of (lv := [.ref 81, .int x0]) (by decide +kernel) (fun g q hq => hq) (fun g => Nat.le_of_ble_eq_true rfl) ?_
  intro K hc ho hL hN1 hr hE hz
  have hN : 1 ≤ kN K := by rw [hN1]; exact hN0
  unfold fX10_isAnswer at h
  refine go_aload_n hc dX10_isAnswer_0 rfl rfl ?_
  refine go_getI hc ho flX10_212 dX10_isAnswer_1 ok_81 ?_
  refine go_if_eq (tgt := 27) hc dX10_isAnswer_4 rfl (fun hh => ?_) (fun hh => ?_)
  · rw [if_pos hh] at h
    refine go_iconst hc dX10_isAnswer_27 ci_0 ?_
    exact go_zret hc (oend_i h hE) hr rfl dX10_isAnswer_28
  · rw [if_neg hh] at h
    refine go_iload_n hc dX10_isAnswer_7 rfl rfl ?_
    refine go_iconst hc dX10_isAnswer_8 ci_0 ?_
    refine go_aload_n hc dX10_isAnswer_9 rfl rfl ?_
    refine go_getC (b := 88) rfl hc ho flX10_33 dX10_isAnswer_10 ok_81 ?_
    refine go_iconst hc dX10_isAnswer_13 ci_1 ?_
    refine go_iald hc dX10_isAnswer_14 ok_88 ol_88 (by decide +kernel) cn_1 ?_
    refine go_iconst hc dX10_isAnswer_15 ci_1 ?_
    refine go_isub hc dX10_isAnswer_16 ?_
    obtain ⟨r1, σ2, hf3, h⟩ := obi_some h
    refine go_callSi hc ho cmX10_in mlX10_156 dX10_isAnswer_17 (As := [.int x0, .int (0 : Int32), .int ((mI σ 88 1) - (1 : Int32))]) (rest := []) (rX10_in (N := 0) hf3 (Nat.le_refl _)) rfl (Nat.le_trans (Nat.le_of_ble_eq_true rfl) hN) rfl (Nat.le_of_ble_eq_true rfl) (Or.inl hz) ?_
    refine go_if_eq (tgt := 27) hc dX10_isAnswer_20 rfl (fun hh => ?_) (fun hh => ?_)
    · rw [if_pos hh] at h
      refine go_iconst hc dX10_isAnswer_27 ci_0 ?_
      exact go_zret hc (oend_i h hE) hr rfl dX10_isAnswer_28
    · rw [if_neg hh] at h
      refine go_iconst hc dX10_isAnswer_23 ci_1 ?_
      refine go_goto (tgt := 28) hc dX10_isAnswer_24 rfl ?_
      exact go_zret hc (oend_i h hE) hr rfl dX10_isAnswer_28
def fX10_takesOf (x0 : Int32) (σ : OM) : Option (Int32 × OM) :=
  obi (fX10_turnedOf σ) (fun r1 σ2 =>
  obi (fX10_leftBy (63 : Int32) r1 x0 σ2) (fun r4 σ5 =>
  obi (fX10_ones r4 σ5) (fun r7 σ8 =>
  obi (fX10_leftBy (63 : Int32) r1 (x0 + (1 : Int32)) σ8) (fun r10 σ11 =>
  obi (fX10_ones r10 σ11) (fun r13 σ14 =>
  some ((r7 - r13), σ14))))))
set_option maxRecDepth 100000 in
set_option maxHeartbeats 4000000 in
theorem rX10_takesOf {N : Nat} {x0 : Int32} {σ : OM} {r0 : Int32} {σ0 : OM} (h : fX10_takesOf x0 σ = some (r0, σ0)) (hN0 : 5 ≤ N) : oEv N MX10_takesOf [.ref 81, .int x0] σ (some (.int r0)) σ0 := by
  refine oEv_of (lv := [.ref 81, .int x0, .null]) (by decide +kernel) (fun g q hq => hq) (fun g => Nat.le_of_ble_eq_true rfl) ?_
  intro K hc ho hL hN1 hr hE hz
  have hN : 5 ≤ kN K := by rw [hN1]; exact hN0
  unfold fX10_takesOf at h
  refine go_aload_n hc dX10_takesOf_0 rfl rfl ?_
  obtain ⟨r1, σ2, hf3, h⟩ := obi_some h
  refine go_callVi hc ho cmX10_turnedOf mlX10_326 dX10_takesOf_1 ok_81 (As := []) (rest := []) (rX10_turnedOf (N := 4) hf3 (Nat.le_refl _)) rfl (Nat.le_trans (Nat.le_of_ble_eq_true rfl) hN) rfl (Nat.le_of_ble_eq_true rfl) (Or.inl hz) ?_
  refine go_istore_n hc (lv1 := [.ref 81, .int x0, .int r1]) dX10_takesOf_4 rfl hL (by decide) (fun _ _ e => by cases e; rfl) rfl ?_
  refine go_aload_n hc dX10_takesOf_5 rfl rfl ?_
  refine go_bipush hc dX10_takesOf_6 cb_63 ?_
  refine go_iload_n hc dX10_takesOf_8 rfl rfl ?_
  refine go_iload_n hc dX10_takesOf_9 rfl rfl ?_
  obtain ⟨r4, σ5, hf6, h⟩ := obi_some h
  refine go_callVl hc ho cmX10_leftBy mlX10_313 dX10_takesOf_10 ok_81 (As := [.int (63 : Int32), .int r1, .int x0]) (rest := []) (rX10_leftBy (N := 1) hf6 (Nat.le_refl _)) rfl (Nat.le_trans (Nat.le_of_ble_eq_true rfl) hN) rfl (Nat.le_of_ble_eq_true rfl) (Or.inl hz) ?_
  obtain ⟨r7, σ8, hf9, h⟩ := obi_some h
  refine go_callSi hc ho cmX10_ones mlX10_291 dX10_takesOf_13 (As := [.long r4]) (rest := []) (rX10_ones (N := 0) hf9 (Nat.le_refl _)) rfl (Nat.le_trans (Nat.le_of_ble_eq_true rfl) hN) rfl (Nat.le_of_ble_eq_true rfl) (Or.inl hz) ?_
  refine go_aload_n hc dX10_takesOf_16 rfl rfl ?_
  refine go_bipush hc dX10_takesOf_17 cb_63 ?_
  refine go_iload_n hc dX10_takesOf_19 rfl rfl ?_
  refine go_iload_n hc dX10_takesOf_20 rfl rfl ?_
  refine go_iconst hc dX10_takesOf_21 ci_1 ?_
  refine go_iadd hc dX10_takesOf_22 ?_
  obtain ⟨r10, σ11, hf12, h⟩ := obi_some h
  refine go_callVl hc ho cmX10_leftBy mlX10_313 dX10_takesOf_23 ok_81 (As := [.int (63 : Int32), .int r1, .int (x0 + (1 : Int32))]) (rest := [.int r7]) (rX10_leftBy (N := 1) hf12 (Nat.le_refl _)) rfl (Nat.le_trans (Nat.le_of_ble_eq_true rfl) hN) rfl (Nat.le_of_ble_eq_true rfl) (Or.inl hz) ?_
  obtain ⟨r13, σ14, hf15, h⟩ := obi_some h
  refine go_callSi hc ho cmX10_ones mlX10_291 dX10_takesOf_26 (As := [.long r10]) (rest := [.int r7]) (rX10_ones (N := 0) hf15 (Nat.le_refl _)) rfl (Nat.le_trans (Nat.le_of_ble_eq_true rfl) hN) rfl (Nat.le_of_ble_eq_true rfl) (Or.inl hz) ?_
  refine go_isub hc dX10_takesOf_29 ?_
  exact go_iret hc (oend_i h hE) hr dX10_takesOf_30
def fX10_doClash (x0 : Int32) (x1 : Int32) (σ : OM) : Option (Int32 × OM) :=
  obi (fX10_answerSet x0 (0 : Int32) σ) (fun r1 σ2 =>
  obi (fX10_answerSet x1 (0 : Int32) σ2) (fun r4 σ5 =>
  if (lg_cmp ((r1 &&& r4) &&& (mL σ5 86 8)) (0 : Int64)) = 0 then (
   some ((1 : Int32), σ5))
  else (some ((0 : Int32), σ5))))
set_option maxRecDepth 100000 in
set_option maxHeartbeats 4000000 in
theorem rX10_doClash {N : Nat} {x0 : Int32} {x1 : Int32} {σ : OM} {r0 : Int32} {σ0 : OM} (h : fX10_doClash x0 x1 σ = some (r0, σ0)) (hN0 : 1 ≤ N) : oEv N MX10_doClash [.ref 81, .int x0, .int x1] σ (some (.int r0)) σ0 := by
  refine oEv_of (lv := [.ref 81, .int x0, .int x1]) (by decide +kernel) (fun g q hq => hq) (fun g => Nat.le_of_ble_eq_true rfl) ?_
  intro K hc ho hL hN1 hr hE hz
  have hN : 1 ≤ kN K := by rw [hN1]; exact hN0
  unfold fX10_doClash at h
  refine go_aload_n hc dX10_doClash_0 rfl rfl ?_
  refine go_iload_n hc dX10_doClash_1 rfl rfl ?_
  refine go_iconst hc dX10_doClash_2 ci_0 ?_
  obtain ⟨r1, σ2, hf3, h⟩ := obi_some h
  refine go_callVl hc ho cmX10_answerSet mlX10_309 dX10_doClash_3 ok_81 (As := [.int x0, .int (0 : Int32)]) (rest := []) (rX10_answerSet (N := 0) hf3 (Nat.le_refl _)) rfl (Nat.le_trans (Nat.le_of_ble_eq_true rfl) hN) rfl (Nat.le_of_ble_eq_true rfl) (Or.inl hz) ?_
  refine go_aload_n hc dX10_doClash_6 rfl rfl ?_
  refine go_iload_n hc dX10_doClash_7 rfl rfl ?_
  refine go_iconst hc dX10_doClash_8 ci_0 ?_
  obtain ⟨r4, σ5, hf6, h⟩ := obi_some h
  refine go_callVl hc ho cmX10_answerSet mlX10_309 dX10_doClash_9 ok_81 (As := [.int x1, .int (0 : Int32)]) (rest := [.long r1]) (rX10_answerSet (N := 0) hf6 (Nat.le_refl _)) rfl (Nat.le_trans (Nat.le_of_ble_eq_true rfl) hN) rfl (Nat.le_of_ble_eq_true rfl) (Or.inl hz) ?_
  refine go_land hc dX10_doClash_12 ?_
  refine go_aload_n hc dX10_doClash_13 rfl rfl ?_
  refine go_getC (b := 86) rfl hc ho flX10_26 dX10_doClash_14 ok_81 ?_
  refine go_bipush hc dX10_doClash_17 cb_8 ?_
  refine go_lald hc dX10_doClash_19 ok_86 ol_86 (by decide +kernel) cn_8 ?_
  refine go_land hc dX10_doClash_20 ?_
  refine go_lconst hc dX10_doClash_21 cl_0 ?_
  refine go_lcmp hc dX10_doClash_22 ?_
  refine go_if_ne (tgt := 30) hc dX10_doClash_23 rfl (fun hh => ?_) (fun hh => ?_)
  · rw [if_neg hh] at h
    refine go_iconst hc dX10_doClash_30 ci_0 ?_
    exact go_zret hc (oend_i h hE) hr rfl dX10_doClash_31
  · rw [if_pos hh] at h
    refine go_iconst hc dX10_doClash_26 ci_1 ?_
    refine go_goto (tgt := 31) hc dX10_doClash_27 rfl ?_
    exact go_zret hc (oend_i h hE) hr rfl dX10_doClash_31
def fX10_told_b69 : Nat → Int32 → Int32 → Int32 → OM → Option (Int32 × OM)
  | 0, _, _, _, _ => none
  | n + 1, l1, l3, l4, σ =>
    if (mI σ 88 1) ≤ l4 then (
     some (l3, σ))
    else (if l4 = l1 then (
     fX10_told_b69 n l1 (l3 + (0 : Int32)) (l4 + 1) σ)
    else (obi (fX10_doClash l4 l1 σ) (fun r1 σ2 =>
    if r1 = 0 then (
     fX10_told_b69 n l1 (l3 + (0 : Int32)) (l4 + 1) σ2)
    else (fX10_told_b69 n l1 (l3 + (1 : Int32)) (l4 + 1) σ2))))
set_option maxRecDepth 100000 in
set_option maxHeartbeats 4000000 in
theorem rX10_told_b69 {K : OK} (hc : kcc K = cX10_told) (ho : kow K = RX10) (hL : knL K = 5) (hN : 6 ≤ kN K) (hr : (kme K).sig.returnType = (some .int)) {r0 : Int32} {σ0 : OM} (hE : oEnd K (some (.int r0)) σ0) (hz : kz K = 0) : ∀ (n : Nat) (l1 : Int32) (l3 : Int32) (l4 : Int32) (σ : OM), fX10_told_b69 n l1 l3 l4 σ = some (r0, σ0) → Go K 69 [.ref 81, .int l1, .null, .int l3, .int l4] [] σ := by
  intro n
  induction n with
  | zero =>
    intro l1 l3 l4 σ h
    cases h
  | succ n ih =>
    intro l1 l3 l4 σ h
    rw [fX10_told_b69] at h
    refine go_iload hc dX10_told_69 rfl ?_
    refine go_aload_n hc dX10_told_71 rfl rfl ?_
    refine go_getC (b := 88) rfl hc ho flX10_33 dX10_told_72 ok_81 ?_
    refine go_iconst hc dX10_told_75 ci_1 ?_
    refine go_iald hc dX10_told_76 ok_88 ol_88 (by decide +kernel) cn_1 ?_
    refine go_icmp_ge (tgt := 110) hc dX10_told_77 rfl (fun hh => ?_) (fun hh => ?_)
    · rw [if_pos hh] at h
      refine go_iload_n hc dX10_told_110 rfl rfl ?_
      exact go_iret hc (oend_i h hE) hr dX10_told_111
    · rw [if_neg hh] at h
      refine go_iload_n hc dX10_told_80 rfl rfl ?_
      refine go_iload hc dX10_told_81 rfl ?_
      refine go_iload_n hc dX10_told_83 rfl rfl ?_
      refine go_icmp_eq (tgt := 101) hc dX10_told_84 rfl (fun hh => ?_) (fun hh => ?_)
      · rw [if_pos hh] at h
        refine go_iconst hc dX10_told_101 ci_0 ?_
        refine go_iadd hc dX10_told_102 ?_
        refine go_istore_n hc (lv1 := [.ref 81, .int l1, .null, .int (l3 + (0 : Int32)), .int l4]) dX10_told_103 rfl hL (by decide) (fun _ _ e => by cases e; rfl) rfl ?_
        refine go_iinc hc (lv1 := [.ref 81, .int l1, .null, .int (l3 + (0 : Int32)), .int (l4 + 1)]) dX10_told_104 rfl ci_1 hL (by decide) (fun _ _ e => by cases e; rfl) rfl ?_
        refine go_goto (tgt := 69) hc dX10_told_107 rfl ?_
        exact ih l1 (l3 + (0 : Int32)) (l4 + 1) _ h
      · rw [if_neg hh] at h
        refine go_aload_n hc dX10_told_87 rfl rfl ?_
        refine go_iload hc dX10_told_88 rfl ?_
        refine go_iload_n hc dX10_told_90 rfl rfl ?_
        obtain ⟨r1, σ2, hf3, h⟩ := obi_some h
        refine go_callVi hc ho cmX10_doClash mlX10_348 dX10_told_91 ok_81 (As := [.int l4, .int l1]) (rest := [.int l3]) (rX10_doClash (N := 1) hf3 (Nat.le_refl _)) rfl (Nat.le_trans (Nat.le_of_ble_eq_true rfl) hN) rfl (Nat.le_of_ble_eq_true rfl) (Or.inl hz) ?_
        refine go_if_eq (tgt := 101) hc dX10_told_94 rfl (fun hh => ?_) (fun hh => ?_)
        · rw [if_pos hh] at h
          refine go_iconst hc dX10_told_101 ci_0 ?_
          refine go_iadd hc dX10_told_102 ?_
          refine go_istore_n hc (lv1 := [.ref 81, .int l1, .null, .int (l3 + (0 : Int32)), .int l4]) dX10_told_103 rfl hL (by decide) (fun _ _ e => by cases e; rfl) rfl ?_
          refine go_iinc hc (lv1 := [.ref 81, .int l1, .null, .int (l3 + (0 : Int32)), .int (l4 + 1)]) dX10_told_104 rfl ci_1 hL (by decide) (fun _ _ e => by cases e; rfl) rfl ?_
          refine go_goto (tgt := 69) hc dX10_told_107 rfl ?_
          exact ih l1 (l3 + (0 : Int32)) (l4 + 1) _ h
        · rw [if_neg hh] at h
          refine go_iconst hc dX10_told_97 ci_1 ?_
          refine go_goto (tgt := 102) hc dX10_told_98 rfl ?_
          refine go_iadd hc dX10_told_102 ?_
          refine go_istore_n hc (lv1 := [.ref 81, .int l1, .null, .int (l3 + (1 : Int32)), .int l4]) dX10_told_103 rfl hL (by decide) (fun _ _ e => by cases e; rfl) rfl ?_
          refine go_iinc hc (lv1 := [.ref 81, .int l1, .null, .int (l3 + (1 : Int32)), .int (l4 + 1)]) dX10_told_104 rfl ci_1 hL (by decide) (fun _ _ e => by cases e; rfl) rfl ?_
          refine go_goto (tgt := 69) hc dX10_told_107 rfl ?_
          exact ih l1 (l3 + (1 : Int32)) (l4 + 1) _ h
def fX10_told (x0 : Int32) (x1 : Int32) (σ : OM) : Option (Int32 × OM) :=
  obv (fX10_good σ) (fun σ2 =>
  obi (fX10_isAnswer x0 σ2) (fun r4 σ5 =>
  if r4 = 0 then (
   obi (fX10_no (1 : Int32) σ5) (fun r7 σ8 =>
   some (r7, σ8)))
  else (obi (fX10_in x1 (0 : Int32) (4 : Int32) σ5) (fun r10 σ11 =>
  if r10 = 0 then (
   obi (fX10_no (1 : Int32) σ11) (fun r17 σ18 =>
   some (r17, σ18)))
  else (if (3 : Int32) ≤ x1 then (
   if x1 = (3 : Int32) then (
    obi (fX10_takesOf x0 σ11) (fun r13 σ14 =>
    if r13 = 0 then (
     some ((1 : Int32), σ14))
    else (some ((0 : Int32), σ14))))
   else (fX10_told_b69 oF x0 (0 : Int32) (0 : Int32) σ11))
  else (ogd (oin (((2 : Int32) + ((3 : Int32) * x0)) + x1) 68) (
  some ((mI σ11 88 ((((2 : Int32) + ((3 : Int32) * x0)) + x1).toNatClampNeg)), σ11))))))))
set_option maxRecDepth 100000 in
set_option maxHeartbeats 4000000 in
theorem rX10_told {N : Nat} {x0 : Int32} {x1 : Int32} {σ : OM} {r0 : Int32} {σ0 : OM} (h : fX10_told x0 x1 σ = some (r0, σ0)) (hN0 : 6 ≤ N) : oEv N MX10_told [.ref 81, .int x0, .int x1] σ (some (.int r0)) σ0 := by
  refine oEv_of (lv := [.ref 81, .int x0, .int x1, .null, .null]) (by decide +kernel) (fun g q hq => hq) (fun g => Nat.le_of_ble_eq_true rfl) ?_
  intro K hc ho hL hN1 hr hE hz
  have hN : 6 ≤ kN K := by rw [hN1]; exact hN0
  unfold fX10_told at h
  refine go_aload_n hc dX10_told_0 rfl rfl ?_
  obtain ⟨σ2, hf3, h⟩ := obv_some h
  refine go_callVv hc ho cmX10_good mlX10_199 dX10_told_1 ok_81 (As := []) (rest := []) (rX10_good (N := 0) hf3 (Nat.le_refl _)) rfl (Nat.le_trans (Nat.le_of_ble_eq_true rfl) hN) rfl (Nat.le_of_ble_eq_true rfl) (Or.inl hz) ?_
  refine go_aload_n hc dX10_told_4 rfl rfl ?_
  refine go_iload_n hc dX10_told_5 rfl rfl ?_
  obtain ⟨r4, σ5, hf6, h⟩ := obi_some h
  refine go_callVi hc ho cmX10_isAnswer mlX10_342 dX10_told_6 ok_81 (As := [.int x0]) (rest := []) (rX10_isAnswer (N := 1) hf6 (Nat.le_refl _)) rfl (Nat.le_trans (Nat.le_of_ble_eq_true rfl) hN) rfl (Nat.le_of_ble_eq_true rfl) (Or.inl hz) ?_
  refine go_if_eq (tgt := 21) hc dX10_told_9 rfl (fun hh => ?_) (fun hh => ?_)
  · rw [if_pos hh] at h
    refine go_aload_n hc dX10_told_21 rfl rfl ?_
    refine go_iconst hc dX10_told_22 ci_1 ?_
    obtain ⟨r7, σ8, hf9, h⟩ := obi_some h
    refine go_callVi hc ho cmX10_no mlX10_202 dX10_told_23 ok_81 (As := [.int (1 : Int32)]) (rest := []) (rX10_no (N := 0) hf9 (Nat.le_refl _)) rfl (Nat.le_trans (Nat.le_of_ble_eq_true rfl) hN) rfl (Nat.le_of_ble_eq_true rfl) (Or.inl hz) ?_
    exact go_iret hc (oend_i h hE) hr dX10_told_26
  · rw [if_neg hh] at h
    refine go_iload_n hc dX10_told_12 rfl rfl ?_
    refine go_iconst hc dX10_told_13 ci_0 ?_
    refine go_iconst hc dX10_told_14 ci_4 ?_
    obtain ⟨r10, σ11, hf12, h⟩ := obi_some h
    refine go_callSi hc ho cmX10_in mlX10_156 dX10_told_15 (As := [.int x1, .int (0 : Int32), .int (4 : Int32)]) (rest := []) (rX10_in (N := 0) hf12 (Nat.le_refl _)) rfl (Nat.le_trans (Nat.le_of_ble_eq_true rfl) hN) rfl (Nat.le_of_ble_eq_true rfl) (Or.inl hz) ?_
    refine go_if_ne (tgt := 27) hc dX10_told_18 rfl (fun hh => ?_) (fun hh => ?_)
    · rw [if_neg hh] at h
      refine go_iload_n hc dX10_told_27 rfl rfl ?_
      refine go_iconst hc dX10_told_28 ci_3 ?_
      refine go_icmp_ge (tgt := 45) hc dX10_told_29 rfl (fun hh => ?_) (fun hh => ?_)
      · rw [if_pos hh] at h
        refine go_iload_n hc dX10_told_45 rfl rfl ?_
        refine go_iconst hc dX10_told_46 ci_3 ?_
        refine go_icmp_ne (tgt := 64) hc dX10_told_47 rfl (fun hh => ?_) (fun hh => ?_)
        · rw [if_neg hh] at h
          refine go_iconst hc dX10_told_64 ci_0 ?_
          refine go_istore_n hc (lv1 := [.ref 81, .int x0, .int x1, .int (0 : Int32), .null]) dX10_told_65 rfl hL (by decide) (fun _ _ e => by cases e; rfl) rfl ?_
          refine go_iconst hc dX10_told_66 ci_0 ?_
          refine go_istore hc (lv1 := [.ref 81, .int x0, .int x1, .int (0 : Int32), .int (0 : Int32)]) dX10_told_67 hL (by decide) (fun _ _ e => by cases e; rfl) rfl ?_
          refine go_mask [true, true, false, true, true] (lv1 := [.ref 81, .int x0, .null, .int (0 : Int32), .int (0 : Int32)]) rfl ?_
          exact rX10_told_b69 hc ho hL hN hr hE hz oF x0 (0 : Int32) (0 : Int32) _ h
        · rw [if_pos hh] at h
          refine go_aload_n hc dX10_told_50 rfl rfl ?_
          refine go_iload_n hc dX10_told_51 rfl rfl ?_
          obtain ⟨r13, σ14, hf15, h⟩ := obi_some h
          refine go_callVi hc ho cmX10_takesOf mlX10_345 dX10_told_52 ok_81 (As := [.int x0]) (rest := []) (rX10_takesOf (N := 5) hf15 (Nat.le_refl _)) rfl (Nat.le_trans (Nat.le_of_ble_eq_true rfl) hN) rfl (Nat.le_of_ble_eq_true rfl) (Or.inl hz) ?_
          refine go_if_ne (tgt := 62) hc dX10_told_55 rfl (fun hh => ?_) (fun hh => ?_)
          · rw [if_neg hh] at h
            refine go_iconst hc dX10_told_62 ci_0 ?_
            exact go_iret hc (oend_i h hE) hr dX10_told_63
          · rw [if_pos hh] at h
            refine go_iconst hc dX10_told_58 ci_1 ?_
            refine go_goto (tgt := 63) hc dX10_told_59 rfl ?_
            exact go_iret hc (oend_i h hE) hr dX10_told_63
      · rw [if_neg hh] at h
        refine go_aload_n hc dX10_told_32 rfl rfl ?_
        refine go_getC (b := 88) rfl hc ho flX10_33 dX10_told_33 ok_81 ?_
        refine go_iconst hc dX10_told_36 ci_2 ?_
        refine go_iconst hc dX10_told_37 ci_3 ?_
        refine go_iload_n hc dX10_told_38 rfl rfl ?_
        refine go_imul hc dX10_told_39 ?_
        refine go_iadd hc dX10_told_40 ?_
        refine go_iload_n hc dX10_told_41 rfl rfl ?_
        refine go_iadd hc dX10_told_42 ?_
        obtain ⟨hg16, h⟩ := ogd_some h
        refine go_iald hc dX10_told_43 ok_88 ol_88 hg16 rfl ?_
        exact go_iret hc (oend_i h hE) hr dX10_told_44
    · rw [if_pos hh] at h
      refine go_aload_n hc dX10_told_21 rfl rfl ?_
      refine go_iconst hc dX10_told_22 ci_1 ?_
      obtain ⟨r17, σ18, hf19, h⟩ := obi_some h
      refine go_callVi hc ho cmX10_no mlX10_202 dX10_told_23 ok_81 (As := [.int (1 : Int32)]) (rest := []) (rX10_no (N := 0) hf19 (Nat.le_refl _)) rfl (Nat.le_trans (Nat.le_of_ble_eq_true rfl) hN) rfl (Nat.le_of_ble_eq_true rfl) (Or.inl hz) ?_
      exact go_iret hc (oend_i h hE) hr dX10_told_26
def fX10_clashes_b33 (rc21 : Int32 → Int32 → OM → Option (Int32 × OM)) : Nat → Int32 → Int32 → Int32 → OM → Option (Int32 × OM)
  | 0, _, _, _, _ => none
  | n + 1, l1, l2, l3, σ =>
    if l2 ≤ l3 then (
     rc21 l1 (l2 + 1) σ)
    else (obi (fX10_doClash l2 l3 σ) (fun r1 σ2 =>
    if r1 = 0 then (
     fX10_clashes_b33 rc21 n (l1 + (0 : Int32)) l2 (l3 + 1) σ2)
    else (fX10_clashes_b33 rc21 n (l1 + (1 : Int32)) l2 (l3 + 1) σ2)))
set_option maxRecDepth 100000 in
set_option maxHeartbeats 4000000 in
theorem rX10_clashes_b33 {K : OK} (hc : kcc K = cX10_clashes) (ho : kow K = RX10) (hL : knL K = 4) (hN : 2 ≤ kN K) (hr : (kme K).sig.returnType = (some .int)) {r0 : Int32} {σ0 : OM} (hE : oEnd K (some (.int r0)) σ0) (hz : kz K = 0) {rc21 : Int32 → Int32 → OM → Option (Int32 × OM)} (hrc21 : ∀ (l1 : Int32) (l2 : Int32) (σ : OM), rc21 l1 l2 σ = some (r0, σ0) → Go K 21 [.ref 81, .int l1, .int l2, .null] [] σ) : ∀ (n : Nat) (l1 : Int32) (l2 : Int32) (l3 : Int32) (σ : OM), fX10_clashes_b33 rc21 n l1 l2 l3 σ = some (r0, σ0) → Go K 33 [.ref 81, .int l1, .int l2, .int l3] [] σ := by
  intro n
  induction n with
  | zero =>
    intro l1 l2 l3 σ h
    cases h
  | succ n ih =>
    intro l1 l2 l3 σ h
    rw [fX10_clashes_b33] at h
    refine go_iload_n hc dX10_clashes_33 rfl rfl ?_
    refine go_iload_n hc dX10_clashes_34 rfl rfl ?_
    refine go_icmp_ge (tgt := 61) hc dX10_clashes_35 rfl (fun hh => ?_) (fun hh => ?_)
    · rw [if_pos hh] at h
      refine go_iinc hc (lv1 := [.ref 81, .int l1, .int (l2 + 1), .int l3]) dX10_clashes_61 rfl ci_1 hL (by decide) (fun _ _ e => by cases e; rfl) rfl ?_
      refine go_goto (tgt := 21) hc dX10_clashes_64 rfl ?_
      refine go_mask [true, true, true, false] (lv1 := [.ref 81, .int l1, .int (l2 + 1), .null]) rfl ?_
      exact hrc21 l1 (l2 + 1) _ h
    · rw [if_neg hh] at h
      refine go_iload_n hc dX10_clashes_38 rfl rfl ?_
      refine go_aload_n hc dX10_clashes_39 rfl rfl ?_
      refine go_iload_n hc dX10_clashes_40 rfl rfl ?_
      refine go_iload_n hc dX10_clashes_41 rfl rfl ?_
      obtain ⟨r1, σ2, hf3, h⟩ := obi_some h
      refine go_callVi hc ho cmX10_doClash mlX10_348 dX10_clashes_42 ok_81 (As := [.int l2, .int l3]) (rest := [.int l1]) (rX10_doClash (N := 1) hf3 (Nat.le_refl _)) rfl (Nat.le_trans (Nat.le_of_ble_eq_true rfl) hN) rfl (Nat.le_of_ble_eq_true rfl) (Or.inl hz) ?_
      refine go_if_eq (tgt := 52) hc dX10_clashes_45 rfl (fun hh => ?_) (fun hh => ?_)
      · rw [if_pos hh] at h
        refine go_iconst hc dX10_clashes_52 ci_0 ?_
        refine go_iadd hc dX10_clashes_53 ?_
        refine go_istore_n hc (lv1 := [.ref 81, .int (l1 + (0 : Int32)), .int l2, .int l3]) dX10_clashes_54 rfl hL (by decide) (fun _ _ e => by cases e; rfl) rfl ?_
        refine go_iinc hc (lv1 := [.ref 81, .int (l1 + (0 : Int32)), .int l2, .int (l3 + 1)]) dX10_clashes_55 rfl ci_1 hL (by decide) (fun _ _ e => by cases e; rfl) rfl ?_
        refine go_goto (tgt := 33) hc dX10_clashes_58 rfl ?_
        exact ih (l1 + (0 : Int32)) l2 (l3 + 1) _ h
      · rw [if_neg hh] at h
        refine go_iconst hc dX10_clashes_48 ci_1 ?_
        refine go_goto (tgt := 53) hc dX10_clashes_49 rfl ?_
        refine go_iadd hc dX10_clashes_53 ?_
        refine go_istore_n hc (lv1 := [.ref 81, .int (l1 + (1 : Int32)), .int l2, .int l3]) dX10_clashes_54 rfl hL (by decide) (fun _ _ e => by cases e; rfl) rfl ?_
        refine go_iinc hc (lv1 := [.ref 81, .int (l1 + (1 : Int32)), .int l2, .int (l3 + 1)]) dX10_clashes_55 rfl ci_1 hL (by decide) (fun _ _ e => by cases e; rfl) rfl ?_
        refine go_goto (tgt := 33) hc dX10_clashes_58 rfl ?_
        exact ih (l1 + (1 : Int32)) l2 (l3 + 1) _ h
def fX10_clashes_b21 : Nat → Int32 → Int32 → OM → Option (Int32 × OM)
  | 0, _, _, _ => none
  | n + 1, l1, l2, σ =>
    if (mI σ 88 1) ≤ l2 then (
     some (l1, σ))
    else (fX10_clashes_b33 (fX10_clashes_b21 n) oF l1 l2 (0 : Int32) σ)
set_option maxRecDepth 100000 in
set_option maxHeartbeats 4000000 in
theorem rX10_clashes_b21 {K : OK} (hc : kcc K = cX10_clashes) (ho : kow K = RX10) (hL : knL K = 4) (hN : 2 ≤ kN K) (hr : (kme K).sig.returnType = (some .int)) {r0 : Int32} {σ0 : OM} (hE : oEnd K (some (.int r0)) σ0) (hz : kz K = 0) : ∀ (n : Nat) (l1 : Int32) (l2 : Int32) (σ : OM), fX10_clashes_b21 n l1 l2 σ = some (r0, σ0) → Go K 21 [.ref 81, .int l1, .int l2, .null] [] σ := by
  intro n
  induction n with
  | zero =>
    intro l1 l2 σ h
    cases h
  | succ n ih =>
    intro l1 l2 σ h
    rw [fX10_clashes_b21] at h
    refine go_iload_n hc dX10_clashes_21 rfl rfl ?_
    refine go_aload_n hc dX10_clashes_22 rfl rfl ?_
    refine go_getC (b := 88) rfl hc ho flX10_33 dX10_clashes_23 ok_81 ?_
    refine go_iconst hc dX10_clashes_26 ci_1 ?_
    refine go_iald hc dX10_clashes_27 ok_88 ol_88 (by decide +kernel) cn_1 ?_
    refine go_icmp_ge (tgt := 67) hc dX10_clashes_28 rfl (fun hh => ?_) (fun hh => ?_)
    · rw [if_pos hh] at h
      refine go_iload_n hc dX10_clashes_67 rfl rfl ?_
      exact go_iret hc (oend_i h hE) hr dX10_clashes_68
    · rw [if_neg hh] at h
      refine go_iconst hc dX10_clashes_31 ci_0 ?_
      refine go_istore_n hc (lv1 := [.ref 81, .int l1, .int l2, .int (0 : Int32)]) dX10_clashes_32 rfl hL (by decide) (fun _ _ e => by cases e; rfl) rfl ?_
      exact rX10_clashes_b33 hc ho hL hN hr hE hz ih oF l1 l2 (0 : Int32) _ h
def fX10_clashes (σ : OM) : Option (Int32 × OM) :=
  obv (fX10_good σ) (fun σ2 =>
  if (mI σ2 81 14) = 0 then (
   obi (fX10_no (1 : Int32) σ2) (fun r4 σ5 =>
   some (r4, σ5)))
  else (fX10_clashes_b21 oF (0 : Int32) (0 : Int32) σ2))
set_option maxRecDepth 100000 in
set_option maxHeartbeats 4000000 in
theorem rX10_clashes {N : Nat} {σ : OM} {r0 : Int32} {σ0 : OM} (h : fX10_clashes σ = some (r0, σ0)) (hN0 : 2 ≤ N) : oEv N MX10_clashes [.ref 81] σ (some (.int r0)) σ0 := by
  refine oEv_of (lv := [.ref 81, .null, .null, .null]) (by decide +kernel) (fun g q hq => hq) (fun g => Nat.le_of_ble_eq_true rfl) ?_
  intro K hc ho hL hN1 hr hE hz
  have hN : 2 ≤ kN K := by rw [hN1]; exact hN0
  unfold fX10_clashes at h
  refine go_aload_n hc dX10_clashes_0 rfl rfl ?_
  obtain ⟨σ2, hf3, h⟩ := obv_some h
  refine go_callVv hc ho cmX10_good mlX10_199 dX10_clashes_1 ok_81 (As := []) (rest := []) (rX10_good (N := 0) hf3 (Nat.le_refl _)) rfl (Nat.le_trans (Nat.le_of_ble_eq_true rfl) hN) rfl (Nat.le_of_ble_eq_true rfl) (Or.inl hz) ?_
  refine go_aload_n hc dX10_clashes_4 rfl rfl ?_
  refine go_getI hc ho flX10_212 dX10_clashes_5 ok_81 ?_
  refine go_if_ne (tgt := 17) hc dX10_clashes_8 rfl (fun hh => ?_) (fun hh => ?_)
  · rw [if_neg hh] at h
    refine go_iconst hc dX10_clashes_17 ci_0 ?_
    refine go_istore_n hc (lv1 := [.ref 81, .int (0 : Int32), .null, .null]) dX10_clashes_18 rfl hL (by decide) (fun _ _ e => by cases e; rfl) rfl ?_
    refine go_iconst hc dX10_clashes_19 ci_0 ?_
    refine go_istore_n hc (lv1 := [.ref 81, .int (0 : Int32), .int (0 : Int32), .null]) dX10_clashes_20 rfl hL (by decide) (fun _ _ e => by cases e; rfl) rfl ?_
    exact rX10_clashes_b21 hc ho hL hN hr hE hz oF (0 : Int32) (0 : Int32) _ h
  · rw [if_pos hh] at h
    refine go_aload_n hc dX10_clashes_11 rfl rfl ?_
    refine go_iconst hc dX10_clashes_12 ci_1 ?_
    obtain ⟨r4, σ5, hf6, h⟩ := obi_some h
    refine go_callVi hc ho cmX10_no mlX10_202 dX10_clashes_13 ok_81 (As := [.int (1 : Int32)]) (rest := []) (rX10_no (N := 0) hf6 (Nat.le_refl _)) rfl (Nat.le_trans (Nat.le_of_ble_eq_true rfl) hN) rfl (Nat.le_of_ble_eq_true rfl) (Or.inl hz) ?_
    exact go_iret hc (oend_i h hE) hr dX10_clashes_16
def fX10_takes (x0 : Int32) (σ : OM) : Option (Int32 × OM) :=
  obv (fX10_good σ) (fun σ2 =>
  obi (fX10_isAnswer x0 σ2) (fun r4 σ5 =>
  if r4 = 0 then (
   obi (fX10_no (1 : Int32) σ5) (fun r7 σ8 =>
   some (r7, σ8)))
  else (obi (fX10_takesOf x0 σ5) (fun r10 σ11 =>
  some (r10, σ11)))))
set_option maxRecDepth 100000 in
set_option maxHeartbeats 4000000 in
theorem rX10_takes {N : Nat} {x0 : Int32} {σ : OM} {r0 : Int32} {σ0 : OM} (h : fX10_takes x0 σ = some (r0, σ0)) (hN0 : 6 ≤ N) : oEv N MX10_takes [.ref 81, .int x0] σ (some (.int r0)) σ0 := by
  refine oEv_of (lv := [.ref 81, .int x0]) (by decide +kernel) (fun g q hq => hq) (fun g => Nat.le_of_ble_eq_true rfl) ?_
  intro K hc ho hL hN1 hr hE hz
  have hN : 6 ≤ kN K := by rw [hN1]; exact hN0
  unfold fX10_takes at h
  refine go_aload_n hc dX10_takes_0 rfl rfl ?_
  obtain ⟨σ2, hf3, h⟩ := obv_some h
  refine go_callVv hc ho cmX10_good mlX10_199 dX10_takes_1 ok_81 (As := []) (rest := []) (rX10_good (N := 0) hf3 (Nat.le_refl _)) rfl (Nat.le_trans (Nat.le_of_ble_eq_true rfl) hN) rfl (Nat.le_of_ble_eq_true rfl) (Or.inl hz) ?_
  refine go_aload_n hc dX10_takes_4 rfl rfl ?_
  refine go_iload_n hc dX10_takes_5 rfl rfl ?_
  obtain ⟨r4, σ5, hf6, h⟩ := obi_some h
  refine go_callVi hc ho cmX10_isAnswer mlX10_342 dX10_takes_6 ok_81 (As := [.int x0]) (rest := []) (rX10_isAnswer (N := 1) hf6 (Nat.le_refl _)) rfl (Nat.le_trans (Nat.le_of_ble_eq_true rfl) hN) rfl (Nat.le_of_ble_eq_true rfl) (Or.inl hz) ?_
  refine go_if_eq (tgt := 20) hc dX10_takes_9 rfl (fun hh => ?_) (fun hh => ?_)
  · rw [if_pos hh] at h
    refine go_aload_n hc dX10_takes_20 rfl rfl ?_
    refine go_iconst hc dX10_takes_21 ci_1 ?_
    obtain ⟨r7, σ8, hf9, h⟩ := obi_some h
    refine go_callVi hc ho cmX10_no mlX10_202 dX10_takes_22 ok_81 (As := [.int (1 : Int32)]) (rest := []) (rX10_no (N := 0) hf9 (Nat.le_refl _)) rfl (Nat.le_trans (Nat.le_of_ble_eq_true rfl) hN) rfl (Nat.le_of_ble_eq_true rfl) (Or.inl hz) ?_
    exact go_iret hc (oend_i h hE) hr dX10_takes_25
  · rw [if_neg hh] at h
    refine go_aload_n hc dX10_takes_12 rfl rfl ?_
    refine go_iload_n hc dX10_takes_13 rfl rfl ?_
    obtain ⟨r10, σ11, hf12, h⟩ := obi_some h
    refine go_callVi hc ho cmX10_takesOf mlX10_345 dX10_takes_14 ok_81 (As := [.int x0]) (rest := []) (rX10_takesOf (N := 5) hf12 (Nat.le_refl _)) rfl (Nat.le_trans (Nat.le_of_ble_eq_true rfl) hN) rfl (Nat.le_of_ble_eq_true rfl) (Or.inl hz) ?_
    refine go_goto (tgt := 25) hc dX10_takes_17 rfl ?_
    exact go_iret hc (oend_i h hE) hr dX10_takes_25
def fX10_graves_b22 : Nat → Int32 → Int32 → Int32 → OM → Option (Int32 × OM)
  | 0, _, _, _, _ => none
  | n + 1, l1, l2, l3, σ =>
    if (mI σ 88 1) ≤ l3 then (
     some (l2, σ))
    else (ogd (oin ((2 : Int32) + ((3 : Int32) * l3)) 68) (
    if (mI σ 88 (((2 : Int32) + ((3 : Int32) * l3)).toNatClampNeg)) = l1 then (
     ogd (oin (((2 : Int32) + ((3 : Int32) * l3)) + (2 : Int32)) 68) (
     if (mI σ 88 ((((2 : Int32) + ((3 : Int32) * l3)) + (2 : Int32)).toNatClampNeg)) = (1 : Int32) then (
      fX10_graves_b22 n l1 (l2 + (1 : Int32)) (l3 + 1) σ)
     else (fX10_graves_b22 n l1 (l2 + (0 : Int32)) (l3 + 1) σ)))
    else (fX10_graves_b22 n l1 (l2 + (0 : Int32)) (l3 + 1) σ)))
set_option maxRecDepth 100000 in
set_option maxHeartbeats 4000000 in
theorem rX10_graves_b22 {K : OK} (hc : kcc K = cX10_graves) (ho : kow K = RX10) (hL : knL K = 4) (hN : 2 ≤ kN K) (hr : (kme K).sig.returnType = (some .int)) {r0 : Int32} {σ0 : OM} (hE : oEnd K (some (.int r0)) σ0) (hz : kz K = 0) : ∀ (n : Nat) (l1 : Int32) (l2 : Int32) (l3 : Int32) (σ : OM), fX10_graves_b22 n l1 l2 l3 σ = some (r0, σ0) → Go K 22 [.ref 81, .int l1, .int l2, .int l3] [] σ := by
  intro n
  induction n with
  | zero =>
    intro l1 l2 l3 σ h
    cases h
  | succ n ih =>
    intro l1 l2 l3 σ h
    rw [fX10_graves_b22] at h
    refine go_iload_n hc dX10_graves_22 rfl rfl ?_
    refine go_aload_n hc dX10_graves_23 rfl rfl ?_
    refine go_getC (b := 88) rfl hc ho flX10_33 dX10_graves_24 ok_81 ?_
    refine go_iconst hc dX10_graves_27 ci_1 ?_
    refine go_iald hc dX10_graves_28 ok_88 ol_88 (by decide +kernel) cn_1 ?_
    refine go_icmp_ge (tgt := 76) hc dX10_graves_29 rfl (fun hh => ?_) (fun hh => ?_)
    · rw [if_pos hh] at h
      refine go_iload_n hc dX10_graves_76 rfl rfl ?_
      exact go_iret hc (oend_i h hE) hr dX10_graves_77
    · rw [if_neg hh] at h
      refine go_iload_n hc dX10_graves_32 rfl rfl ?_
      refine go_aload_n hc dX10_graves_33 rfl rfl ?_
      refine go_getC (b := 88) rfl hc ho flX10_33 dX10_graves_34 ok_81 ?_
      refine go_iconst hc dX10_graves_37 ci_2 ?_
      refine go_iconst hc dX10_graves_38 ci_3 ?_
      refine go_iload_n hc dX10_graves_39 rfl rfl ?_
      refine go_imul hc dX10_graves_40 ?_
      refine go_iadd hc dX10_graves_41 ?_
      obtain ⟨hg1, h⟩ := ogd_some h
      refine go_iald hc dX10_graves_42 ok_88 ol_88 hg1 rfl ?_
      refine go_iload_n hc dX10_graves_43 rfl rfl ?_
      refine go_icmp_ne (tgt := 67) hc dX10_graves_44 rfl (fun hh => ?_) (fun hh => ?_)
      · rw [if_neg hh] at h
        refine go_iconst hc dX10_graves_67 ci_0 ?_
        refine go_iadd hc dX10_graves_68 ?_
        refine go_istore_n hc (lv1 := [.ref 81, .int l1, .int (l2 + (0 : Int32)), .int l3]) dX10_graves_69 rfl hL (by decide) (fun _ _ e => by cases e; rfl) rfl ?_
        refine go_iinc hc (lv1 := [.ref 81, .int l1, .int (l2 + (0 : Int32)), .int (l3 + 1)]) dX10_graves_70 rfl ci_1 hL (by decide) (fun _ _ e => by cases e; rfl) rfl ?_
        refine go_goto (tgt := 22) hc dX10_graves_73 rfl ?_
        exact ih l1 (l2 + (0 : Int32)) (l3 + 1) _ h
      · rw [if_pos hh] at h
        refine go_aload_n hc dX10_graves_47 rfl rfl ?_
        refine go_getC (b := 88) rfl hc ho flX10_33 dX10_graves_48 ok_81 ?_
        refine go_iconst hc dX10_graves_51 ci_2 ?_
        refine go_iconst hc dX10_graves_52 ci_3 ?_
        refine go_iload_n hc dX10_graves_53 rfl rfl ?_
        refine go_imul hc dX10_graves_54 ?_
        refine go_iadd hc dX10_graves_55 ?_
        refine go_iconst hc dX10_graves_56 ci_2 ?_
        refine go_iadd hc dX10_graves_57 ?_
        obtain ⟨hg2, h⟩ := ogd_some h
        refine go_iald hc dX10_graves_58 ok_88 ol_88 hg2 rfl ?_
        refine go_iconst hc dX10_graves_59 ci_1 ?_
        refine go_icmp_ne (tgt := 67) hc dX10_graves_60 rfl (fun hh => ?_) (fun hh => ?_)
        · rw [if_neg hh] at h
          refine go_iconst hc dX10_graves_67 ci_0 ?_
          refine go_iadd hc dX10_graves_68 ?_
          refine go_istore_n hc (lv1 := [.ref 81, .int l1, .int (l2 + (0 : Int32)), .int l3]) dX10_graves_69 rfl hL (by decide) (fun _ _ e => by cases e; rfl) rfl ?_
          refine go_iinc hc (lv1 := [.ref 81, .int l1, .int (l2 + (0 : Int32)), .int (l3 + 1)]) dX10_graves_70 rfl ci_1 hL (by decide) (fun _ _ e => by cases e; rfl) rfl ?_
          refine go_goto (tgt := 22) hc dX10_graves_73 rfl ?_
          exact ih l1 (l2 + (0 : Int32)) (l3 + 1) _ h
        · rw [if_pos hh] at h
          refine go_iconst hc dX10_graves_63 ci_1 ?_
          refine go_goto (tgt := 68) hc dX10_graves_64 rfl ?_
          refine go_iadd hc dX10_graves_68 ?_
          refine go_istore_n hc (lv1 := [.ref 81, .int l1, .int (l2 + (1 : Int32)), .int l3]) dX10_graves_69 rfl hL (by decide) (fun _ _ e => by cases e; rfl) rfl ?_
          refine go_iinc hc (lv1 := [.ref 81, .int l1, .int (l2 + (1 : Int32)), .int (l3 + 1)]) dX10_graves_70 rfl ci_1 hL (by decide) (fun _ _ e => by cases e; rfl) rfl ?_
          refine go_goto (tgt := 22) hc dX10_graves_73 rfl ?_
          exact ih l1 (l2 + (1 : Int32)) (l3 + 1) _ h
def fX10_graves (x0 : Int32) (σ : OM) : Option (Int32 × OM) :=
  obv (fX10_good σ) (fun σ2 =>
  obi (fX10_isHouse x0 σ2) (fun r4 σ5 =>
  if r4 = 0 then (
   obi (fX10_no (1 : Int32) σ5) (fun r7 σ8 =>
   some (r7, σ8)))
  else (fX10_graves_b22 oF x0 (0 : Int32) (0 : Int32) σ5)))
set_option maxRecDepth 100000 in
set_option maxHeartbeats 4000000 in
theorem rX10_graves {N : Nat} {x0 : Int32} {σ : OM} {r0 : Int32} {σ0 : OM} (h : fX10_graves x0 σ = some (r0, σ0)) (hN0 : 2 ≤ N) : oEv N MX10_graves [.ref 81, .int x0] σ (some (.int r0)) σ0 := by
  refine oEv_of (lv := [.ref 81, .int x0, .null, .null]) (by decide +kernel) (fun g q hq => hq) (fun g => Nat.le_of_ble_eq_true rfl) ?_
  intro K hc ho hL hN1 hr hE hz
  have hN : 2 ≤ kN K := by rw [hN1]; exact hN0
  unfold fX10_graves at h
  refine go_aload_n hc dX10_graves_0 rfl rfl ?_
  obtain ⟨σ2, hf3, h⟩ := obv_some h
  refine go_callVv hc ho cmX10_good mlX10_199 dX10_graves_1 ok_81 (As := []) (rest := []) (rX10_good (N := 0) hf3 (Nat.le_refl _)) rfl (Nat.le_trans (Nat.le_of_ble_eq_true rfl) hN) rfl (Nat.le_of_ble_eq_true rfl) (Or.inl hz) ?_
  refine go_aload_n hc dX10_graves_4 rfl rfl ?_
  refine go_iload_n hc dX10_graves_5 rfl rfl ?_
  obtain ⟨r4, σ5, hf6, h⟩ := obi_some h
  refine go_callVi hc ho cmX10_isHouse mlX10_323 dX10_graves_6 ok_81 (As := [.int x0]) (rest := []) (rX10_isHouse (N := 1) hf6 (Nat.le_refl _)) rfl (Nat.le_trans (Nat.le_of_ble_eq_true rfl) hN) rfl (Nat.le_of_ble_eq_true rfl) (Or.inl hz) ?_
  refine go_if_ne (tgt := 18) hc dX10_graves_9 rfl (fun hh => ?_) (fun hh => ?_)
  · rw [if_neg hh] at h
    refine go_iconst hc dX10_graves_18 ci_0 ?_
    refine go_istore_n hc (lv1 := [.ref 81, .int x0, .int (0 : Int32), .null]) dX10_graves_19 rfl hL (by decide) (fun _ _ e => by cases e; rfl) rfl ?_
    refine go_iconst hc dX10_graves_20 ci_0 ?_
    refine go_istore_n hc (lv1 := [.ref 81, .int x0, .int (0 : Int32), .int (0 : Int32)]) dX10_graves_21 rfl hL (by decide) (fun _ _ e => by cases e; rfl) rfl ?_
    exact rX10_graves_b22 hc ho hL hN hr hE hz oF x0 (0 : Int32) (0 : Int32) _ h
  · rw [if_pos hh] at h
    refine go_aload_n hc dX10_graves_12 rfl rfl ?_
    refine go_iconst hc dX10_graves_13 ci_1 ?_
    obtain ⟨r7, σ8, hf9, h⟩ := obi_some h
    refine go_callVi hc ho cmX10_no mlX10_202 dX10_graves_14 ok_81 (As := [.int (1 : Int32)]) (rest := []) (rX10_no (N := 0) hf9 (Nat.le_refl _)) rfl (Nat.le_trans (Nat.le_of_ble_eq_true rfl) hN) rfl (Nat.le_of_ble_eq_true rfl) (Or.inl hz) ?_
    exact go_iret hc (oend_i h hE) hr dX10_graves_17
def fX10_isStone (x0 : Int32) (σ : OM) : Option (Int32 × OM) :=
  if (mI σ 81 14) = 0 then (
   some ((0 : Int32), σ))
  else (obi (fX10_in x0 (0 : Int32) ((mI σ 84 7) - (1 : Int32)) σ) (fun r1 σ2 =>
  if r1 = 0 then (
   some ((0 : Int32), σ2))
  else (some ((1 : Int32), σ2))))
set_option maxRecDepth 100000 in
set_option maxHeartbeats 4000000 in
theorem rX10_isStone {N : Nat} {x0 : Int32} {σ : OM} {r0 : Int32} {σ0 : OM} (h : fX10_isStone x0 σ = some (r0, σ0)) (hN0 : 1 ≤ N) : oEv N MX10_isStone [.ref 81, .int x0] σ (some (.int r0)) σ0 := by
  refine oEv_of (lv := [.ref 81, .int x0]) (by decide +kernel) (fun g q hq => hq) (fun g => Nat.le_of_ble_eq_true rfl) ?_
  intro K hc ho hL hN1 hr hE hz
  have hN : 1 ≤ kN K := by rw [hN1]; exact hN0
  unfold fX10_isStone at h
  refine go_aload_n hc dX10_isStone_0 rfl rfl ?_
  refine go_getI hc ho flX10_212 dX10_isStone_1 ok_81 ?_
  refine go_if_eq (tgt := 28) hc dX10_isStone_4 rfl (fun hh => ?_) (fun hh => ?_)
  · rw [if_pos hh] at h
    refine go_iconst hc dX10_isStone_28 ci_0 ?_
    exact go_zret hc (oend_i h hE) hr rfl dX10_isStone_29
  · rw [if_neg hh] at h
    refine go_iload_n hc dX10_isStone_7 rfl rfl ?_
    refine go_iconst hc dX10_isStone_8 ci_0 ?_
    refine go_aload_n hc dX10_isStone_9 rfl rfl ?_
    refine go_getC (b := 84) rfl hc ho flX10_20 dX10_isStone_10 ok_81 ?_
    refine go_bipush hc dX10_isStone_13 cb_7 ?_
    refine go_iald hc dX10_isStone_15 ok_84 ol_84 (by decide +kernel) cn_7 ?_
    refine go_iconst hc dX10_isStone_16 ci_1 ?_
    refine go_isub hc dX10_isStone_17 ?_
    obtain ⟨r1, σ2, hf3, h⟩ := obi_some h
    refine go_callSi hc ho cmX10_in mlX10_156 dX10_isStone_18 (As := [.int x0, .int (0 : Int32), .int ((mI σ 84 7) - (1 : Int32))]) (rest := []) (rX10_in (N := 0) hf3 (Nat.le_refl _)) rfl (Nat.le_trans (Nat.le_of_ble_eq_true rfl) hN) rfl (Nat.le_of_ble_eq_true rfl) (Or.inl hz) ?_
    refine go_if_eq (tgt := 28) hc dX10_isStone_21 rfl (fun hh => ?_) (fun hh => ?_)
    · rw [if_pos hh] at h
      refine go_iconst hc dX10_isStone_28 ci_0 ?_
      exact go_zret hc (oend_i h hE) hr rfl dX10_isStone_29
    · rw [if_neg hh] at h
      refine go_iconst hc dX10_isStone_24 ci_1 ?_
      refine go_goto (tgt := 29) hc dX10_isStone_25 rfl ?_
      exact go_zret hc (oend_i h hE) hr rfl dX10_isStone_29
def fX10_couldOf_b108 (l2 : Int64) (l6 : Int32) (σ : OM) : Option (Int32 × OM) :=
  if (lg_cmp l2 (0 : Int64)) = 0 then (
   some ((0 : Int32), σ))
  else (some (l6, σ))
set_option maxRecDepth 100000 in
set_option maxHeartbeats 4000000 in
theorem rX10_couldOf_b108 {K : OK} (hc : kcc K = cX10_couldOf) (ho : kow K = RX10) (hL : knL K = 10) (hN : 0 ≤ kN K) (hr : (kme K).sig.returnType = (some .int)) {r0 : Int32} {σ0 : OM} (hE : oEnd K (some (.int r0)) σ0) (hz : kz K = 0) {l2 : Int64} {l6 : Int32} {σ : OM} (h : fX10_couldOf_b108 l2 l6 σ = some (r0, σ0)) : Go K 108 [.null, .null, .long l2, .null, .null, .null, .int l6, .null, .null, .null] [] σ := by
  unfold fX10_couldOf_b108 at h
  refine go_lload_n hc dX10_couldOf_108 rfl rfl ?_
  refine go_lconst hc dX10_couldOf_109 cl_0 ?_
  refine go_lcmp hc dX10_couldOf_110 ?_
  refine go_if_ne (tgt := 118) hc dX10_couldOf_111 rfl (fun hh => ?_) (fun hh => ?_)
  · rw [if_neg hh] at h
    refine go_iload hc dX10_couldOf_118 rfl ?_
    exact go_iret hc (oend_i h hE) hr dX10_couldOf_120
  · rw [if_pos hh] at h
    refine go_iconst hc dX10_couldOf_114 ci_0 ?_
    refine go_goto (tgt := 120) hc dX10_couldOf_115 rfl ?_
    exact go_iret hc (oend_i h hE) hr dX10_couldOf_120
def fX10_couldOf_b64 (rc26 : Int64 → Int32 → Int32 → Int32 → Int32 → OM → Option (Int32 × OM)) (l2 : Int64) (l4 : Int32) (l5 : Int32) (l6 : Int32) (l7 : Int32) (k0 : Int64) (k1 : Int64) (σ : OM) : Option (Int32 × OM) :=
  if l4 = 0 then (
   if (lg_cmp (k0 &&& k1) (0 : Int64)) = 0 then (
    rc26 l2 l4 l5 (l6 ||| (0 : Int32)) (l7 + 1) σ)
   else (rc26 l2 l4 l5 (l6 ||| ((1 : Int32) <<< (l7 &&& 31))) (l7 + 1) σ))
  else (if (lg_cmp (k0 &&& k1) l2) = 0 then (
   rc26 l2 l4 l5 (l6 ||| ((1 : Int32) <<< (l7 &&& 31))) (l7 + 1) σ)
  else (rc26 l2 l4 l5 (l6 ||| (0 : Int32)) (l7 + 1) σ))
set_option maxRecDepth 100000 in
set_option maxHeartbeats 4000000 in
theorem rX10_couldOf_b64 {K : OK} (hc : kcc K = cX10_couldOf) (ho : kow K = RX10) (hL : knL K = 10) (hN : 0 ≤ kN K) (hr : (kme K).sig.returnType = (some .int)) {r0 : Int32} {σ0 : OM} (hE : oEnd K (some (.int r0)) σ0) (hz : kz K = 0) {rc26 : Int64 → Int32 → Int32 → Int32 → Int32 → OM → Option (Int32 × OM)} (hrc26 : ∀ (l2 : Int64) (l4 : Int32) (l5 : Int32) (l6 : Int32) (l7 : Int32) (σ : OM), rc26 l2 l4 l5 l6 l7 σ = some (r0, σ0) → Go K 26 [.ref 81, .null, .long l2, .null, .int l4, .int l5, .int l6, .int l7, .null, .null] [] σ) {l2 : Int64} {l4 : Int32} {l5 : Int32} {l6 : Int32} {l7 : Int32} {k0 : Int64} {k1 : Int64} {σ : OM} (h : fX10_couldOf_b64 rc26 l2 l4 l5 l6 l7 k0 k1 σ = some (r0, σ0)) : Go K 64 [.ref 81, .null, .long l2, .null, .int l4, .int l5, .int l6, .int l7, .null, .null] [.long k1, .long k0] σ := by
  unfold fX10_couldOf_b64 at h
  refine go_land hc dX10_couldOf_64 ?_
  refine go_lstore hc (lv1 := [.ref 81, .null, .long l2, .null, .int l4, .int l5, .int l6, .int l7, .long (k0 &&& k1), .null]) dX10_couldOf_65 hL (by decide) (fun _ _ e => by cases e; rfl) rfl ?_
  refine go_iload hc dX10_couldOf_67 rfl ?_
  refine go_iload hc dX10_couldOf_69 rfl ?_
  refine go_if_eq (tgt := 84) hc dX10_couldOf_71 rfl (fun hh => ?_) (fun hh => ?_)
  · rw [if_pos hh] at h
    refine go_lload hc dX10_couldOf_84 rfl ?_
    refine go_lconst hc dX10_couldOf_86 cl_0 ?_
    refine go_lcmp hc dX10_couldOf_87 ?_
    refine go_if_eq (tgt := 98) hc dX10_couldOf_88 rfl (fun hh => ?_) (fun hh => ?_)
    · rw [if_pos hh] at h
      refine go_iconst hc dX10_couldOf_98 ci_0 ?_
      refine go_ior hc dX10_couldOf_99 ?_
      refine go_istore hc (lv1 := [.ref 81, .null, .long l2, .null, .int l4, .int l5, .int (l6 ||| (0 : Int32)), .int l7, .long (k0 &&& k1), .null]) dX10_couldOf_100 hL (by decide) (fun _ _ e => by cases e; rfl) rfl ?_
      refine go_iinc hc (lv1 := [.ref 81, .null, .long l2, .null, .int l4, .int l5, .int (l6 ||| (0 : Int32)), .int (l7 + 1), .long (k0 &&& k1), .null]) dX10_couldOf_102 rfl ci_1 hL (by decide) (fun _ _ e => by cases e; rfl) rfl ?_
      refine go_goto (tgt := 26) hc dX10_couldOf_105 rfl ?_
      refine go_mask [true, false, true, false, true, true, true, true, false, false] (lv1 := [.ref 81, .null, .long l2, .null, .int l4, .int l5, .int (l6 ||| (0 : Int32)), .int (l7 + 1), .null, .null]) rfl ?_
      exact hrc26 l2 l4 l5 (l6 ||| (0 : Int32)) (l7 + 1) _ h
    · rw [if_neg hh] at h
      refine go_iconst hc dX10_couldOf_91 ci_1 ?_
      refine go_iload hc dX10_couldOf_92 rfl ?_
      refine go_ishl hc dX10_couldOf_94 ?_
      refine go_goto (tgt := 99) hc dX10_couldOf_95 rfl ?_
      refine go_ior hc dX10_couldOf_99 ?_
      refine go_istore hc (lv1 := [.ref 81, .null, .long l2, .null, .int l4, .int l5, .int (l6 ||| ((1 : Int32) <<< (l7 &&& 31))), .int l7, .long (k0 &&& k1), .null]) dX10_couldOf_100 hL (by decide) (fun _ _ e => by cases e; rfl) rfl ?_
      refine go_iinc hc (lv1 := [.ref 81, .null, .long l2, .null, .int l4, .int l5, .int (l6 ||| ((1 : Int32) <<< (l7 &&& 31))), .int (l7 + 1), .long (k0 &&& k1), .null]) dX10_couldOf_102 rfl ci_1 hL (by decide) (fun _ _ e => by cases e; rfl) rfl ?_
      refine go_goto (tgt := 26) hc dX10_couldOf_105 rfl ?_
      refine go_mask [true, false, true, false, true, true, true, true, false, false] (lv1 := [.ref 81, .null, .long l2, .null, .int l4, .int l5, .int (l6 ||| ((1 : Int32) <<< (l7 &&& 31))), .int (l7 + 1), .null, .null]) rfl ?_
      exact hrc26 l2 l4 l5 (l6 ||| ((1 : Int32) <<< (l7 &&& 31))) (l7 + 1) _ h
  · rw [if_neg hh] at h
    refine go_lload hc dX10_couldOf_74 rfl ?_
    refine go_lload_n hc dX10_couldOf_76 rfl rfl ?_
    refine go_lcmp hc dX10_couldOf_77 ?_
    refine go_if_ne (tgt := 98) hc dX10_couldOf_78 rfl (fun hh => ?_) (fun hh => ?_)
    · rw [if_neg hh] at h
      refine go_iconst hc dX10_couldOf_98 ci_0 ?_
      refine go_ior hc dX10_couldOf_99 ?_
      refine go_istore hc (lv1 := [.ref 81, .null, .long l2, .null, .int l4, .int l5, .int (l6 ||| (0 : Int32)), .int l7, .long (k0 &&& k1), .null]) dX10_couldOf_100 hL (by decide) (fun _ _ e => by cases e; rfl) rfl ?_
      refine go_iinc hc (lv1 := [.ref 81, .null, .long l2, .null, .int l4, .int l5, .int (l6 ||| (0 : Int32)), .int (l7 + 1), .long (k0 &&& k1), .null]) dX10_couldOf_102 rfl ci_1 hL (by decide) (fun _ _ e => by cases e; rfl) rfl ?_
      refine go_goto (tgt := 26) hc dX10_couldOf_105 rfl ?_
      refine go_mask [true, false, true, false, true, true, true, true, false, false] (lv1 := [.ref 81, .null, .long l2, .null, .int l4, .int l5, .int (l6 ||| (0 : Int32)), .int (l7 + 1), .null, .null]) rfl ?_
      exact hrc26 l2 l4 l5 (l6 ||| (0 : Int32)) (l7 + 1) _ h
    · rw [if_pos hh] at h
      refine go_goto (tgt := 91) hc dX10_couldOf_81 rfl ?_
      refine go_iconst hc dX10_couldOf_91 ci_1 ?_
      refine go_iload hc dX10_couldOf_92 rfl ?_
      refine go_ishl hc dX10_couldOf_94 ?_
      refine go_goto (tgt := 99) hc dX10_couldOf_95 rfl ?_
      refine go_ior hc dX10_couldOf_99 ?_
      refine go_istore hc (lv1 := [.ref 81, .null, .long l2, .null, .int l4, .int l5, .int (l6 ||| ((1 : Int32) <<< (l7 &&& 31))), .int l7, .long (k0 &&& k1), .null]) dX10_couldOf_100 hL (by decide) (fun _ _ e => by cases e; rfl) rfl ?_
      refine go_iinc hc (lv1 := [.ref 81, .null, .long l2, .null, .int l4, .int l5, .int (l6 ||| ((1 : Int32) <<< (l7 &&& 31))), .int (l7 + 1), .long (k0 &&& k1), .null]) dX10_couldOf_102 rfl ci_1 hL (by decide) (fun _ _ e => by cases e; rfl) rfl ?_
      refine go_goto (tgt := 26) hc dX10_couldOf_105 rfl ?_
      refine go_mask [true, false, true, false, true, true, true, true, false, false] (lv1 := [.ref 81, .null, .long l2, .null, .int l4, .int l5, .int (l6 ||| ((1 : Int32) <<< (l7 &&& 31))), .int (l7 + 1), .null, .null]) rfl ?_
      exact hrc26 l2 l4 l5 (l6 ||| ((1 : Int32) <<< (l7 &&& 31))) (l7 + 1) _ h
def fX10_couldOf_b26 : Nat → Int64 → Int32 → Int32 → Int32 → Int32 → OM → Option (Int32 × OM)
  | 0, _, _, _, _, _, _ => none
  | n + 1, l2, l4, l5, l6, l7, σ =>
    if (mI σ 84 5) ≤ l7 then (
     fX10_couldOf_b108 l2 l6 σ)
    else (if l5 = 0 then (
     ogd (oin l7 9) (
     fX10_couldOf_b64 (fX10_couldOf_b26 n) l2 l4 l5 l6 l7 l2 ((mL σ 86 l7.toNatClampNeg) ^^^ ((-1) : Int64)) σ))
    else (ogd (oin l7 9) (
    fX10_couldOf_b64 (fX10_couldOf_b26 n) l2 l4 l5 l6 l7 l2 (mL σ 86 l7.toNatClampNeg) σ)))
set_option maxRecDepth 100000 in
set_option maxHeartbeats 4000000 in
theorem rX10_couldOf_b26 {K : OK} (hc : kcc K = cX10_couldOf) (ho : kow K = RX10) (hL : knL K = 10) (hN : 0 ≤ kN K) (hr : (kme K).sig.returnType = (some .int)) {r0 : Int32} {σ0 : OM} (hE : oEnd K (some (.int r0)) σ0) (hz : kz K = 0) : ∀ (n : Nat) (l2 : Int64) (l4 : Int32) (l5 : Int32) (l6 : Int32) (l7 : Int32) (σ : OM), fX10_couldOf_b26 n l2 l4 l5 l6 l7 σ = some (r0, σ0) → Go K 26 [.ref 81, .null, .long l2, .null, .int l4, .int l5, .int l6, .int l7, .null, .null] [] σ := by
  intro n
  induction n with
  | zero =>
    intro l2 l4 l5 l6 l7 σ h
    cases h
  | succ n ih =>
    intro l2 l4 l5 l6 l7 σ h
    rw [fX10_couldOf_b26] at h
    refine go_iload hc dX10_couldOf_26 rfl ?_
    refine go_aload_n hc dX10_couldOf_28 rfl rfl ?_
    refine go_getC (b := 84) rfl hc ho flX10_20 dX10_couldOf_29 ok_81 ?_
    refine go_iconst hc dX10_couldOf_32 ci_5 ?_
    refine go_iald hc dX10_couldOf_33 ok_84 ol_84 (by decide +kernel) cn_5 ?_
    refine go_icmp_ge (tgt := 108) hc dX10_couldOf_34 rfl (fun hh => ?_) (fun hh => ?_)
    · rw [if_pos hh] at h
      refine go_mask [false, false, true, false, false, false, true, false, false, false] (lv1 := [.null, .null, .long l2, .null, .null, .null, .int l6, .null, .null, .null]) rfl ?_
      exact rX10_couldOf_b108 hc ho hL hN hr hE hz h
    · rw [if_neg hh] at h
      refine go_lload_n hc dX10_couldOf_37 rfl rfl ?_
      refine go_iload hc dX10_couldOf_38 rfl ?_
      refine go_if_eq (tgt := 53) hc dX10_couldOf_40 rfl (fun hh => ?_) (fun hh => ?_)
      · rw [if_pos hh] at h
        refine go_aload_n hc dX10_couldOf_53 rfl rfl ?_
        refine go_getC (b := 86) rfl hc ho flX10_26 dX10_couldOf_54 ok_81 ?_
        refine go_iload hc dX10_couldOf_57 rfl ?_
        obtain ⟨hg1, h⟩ := ogd_some h
        refine go_lald hc dX10_couldOf_59 ok_86 ol_86 hg1 rfl ?_
        refine go_ldc2 hc ho klX10_181 dX10_couldOf_60 ?_
        refine go_lxor hc dX10_couldOf_63 ?_
        exact rX10_couldOf_b64 hc ho hL hN hr hE hz ih h
      · rw [if_neg hh] at h
        refine go_aload_n hc dX10_couldOf_43 rfl rfl ?_
        refine go_getC (b := 86) rfl hc ho flX10_26 dX10_couldOf_44 ok_81 ?_
        refine go_iload hc dX10_couldOf_47 rfl ?_
        obtain ⟨hg2, h⟩ := ogd_some h
        refine go_lald hc dX10_couldOf_49 ok_86 ol_86 hg2 rfl ?_
        refine go_goto (tgt := 64) hc dX10_couldOf_50 rfl ?_
        exact rX10_couldOf_b64 hc ho hL hN hr hE hz ih h
def fX10_couldOf (x0 : Int32) (x1 : Int64) (x2 : Int32) (σ : OM) : Option (Int32 × OM) :=
  ogd (oin ((89 : Int32) + x0) 279) (
  if (mI σ 84 (((89 : Int32) + x0).toNatClampNeg)) = (1 : Int32) then (
   fX10_couldOf_b26 oF x1 x2 (1 : Int32) (0 : Int32) (0 : Int32) σ)
  else (fX10_couldOf_b26 oF x1 x2 (0 : Int32) (0 : Int32) (0 : Int32) σ))
set_option maxRecDepth 100000 in
set_option maxHeartbeats 4000000 in
theorem rX10_couldOf {N : Nat} {x0 : Int32} {x1 : Int64} {x2 : Int32} {σ : OM} {r0 : Int32} {σ0 : OM} (h : fX10_couldOf x0 x1 x2 σ = some (r0, σ0)) (hN0 : 0 ≤ N) : oEv N MX10_couldOf [.ref 81, .int x0, .long x1, .int x2] σ (some (.int r0)) σ0 := by
  refine oEv_of (lv := [.ref 81, .int x0, .long x1, .null, .int x2, .null, .null, .null, .null, .null]) (by decide +kernel) (fun g q hq => hq) (fun g => Nat.le_of_ble_eq_true rfl) ?_
  intro K hc ho hL hN1 hr hE hz
  have hN : 0 ≤ kN K := by rw [hN1]; exact hN0
  unfold fX10_couldOf at h
  refine go_aload_n hc dX10_couldOf_0 rfl rfl ?_
  refine go_getC (b := 84) rfl hc ho flX10_20 dX10_couldOf_1 ok_81 ?_
  refine go_bipush hc dX10_couldOf_4 cb_89 ?_
  refine go_iload_n hc dX10_couldOf_6 rfl rfl ?_
  refine go_iadd hc dX10_couldOf_7 ?_
  obtain ⟨hg1, h⟩ := ogd_some h
  refine go_iald hc dX10_couldOf_8 ok_84 ol_84 hg1 rfl ?_
  refine go_iconst hc dX10_couldOf_9 ci_1 ?_
  refine go_icmp_ne (tgt := 17) hc dX10_couldOf_10 rfl (fun hh => ?_) (fun hh => ?_)
  · rw [if_neg hh] at h
    refine go_iconst hc dX10_couldOf_17 ci_0 ?_
    refine go_istore hc (lv1 := [.ref 81, .int x0, .long x1, .null, .int x2, .int (0 : Int32), .null, .null, .null, .null]) dX10_couldOf_18 hL (by decide) (fun _ _ e => by cases e; rfl) rfl ?_
    refine go_iconst hc dX10_couldOf_20 ci_0 ?_
    refine go_istore hc (lv1 := [.ref 81, .int x0, .long x1, .null, .int x2, .int (0 : Int32), .int (0 : Int32), .null, .null, .null]) dX10_couldOf_21 hL (by decide) (fun _ _ e => by cases e; rfl) rfl ?_
    refine go_iconst hc dX10_couldOf_23 ci_0 ?_
    refine go_istore hc (lv1 := [.ref 81, .int x0, .long x1, .null, .int x2, .int (0 : Int32), .int (0 : Int32), .int (0 : Int32), .null, .null]) dX10_couldOf_24 hL (by decide) (fun _ _ e => by cases e; rfl) rfl ?_
    refine go_mask [true, false, true, false, true, true, true, true, false, false] (lv1 := [.ref 81, .null, .long x1, .null, .int x2, .int (0 : Int32), .int (0 : Int32), .int (0 : Int32), .null, .null]) rfl ?_
    exact rX10_couldOf_b26 hc ho hL hN hr hE hz oF x1 x2 (0 : Int32) (0 : Int32) (0 : Int32) _ h
  · rw [if_pos hh] at h
    refine go_iconst hc dX10_couldOf_13 ci_1 ?_
    refine go_goto (tgt := 18) hc dX10_couldOf_14 rfl ?_
    refine go_istore hc (lv1 := [.ref 81, .int x0, .long x1, .null, .int x2, .int (1 : Int32), .null, .null, .null, .null]) dX10_couldOf_18 hL (by decide) (fun _ _ e => by cases e; rfl) rfl ?_
    refine go_iconst hc dX10_couldOf_20 ci_0 ?_
    refine go_istore hc (lv1 := [.ref 81, .int x0, .long x1, .null, .int x2, .int (1 : Int32), .int (0 : Int32), .null, .null, .null]) dX10_couldOf_21 hL (by decide) (fun _ _ e => by cases e; rfl) rfl ?_
    refine go_iconst hc dX10_couldOf_23 ci_0 ?_
    refine go_istore hc (lv1 := [.ref 81, .int x0, .long x1, .null, .int x2, .int (1 : Int32), .int (0 : Int32), .int (0 : Int32), .null, .null]) dX10_couldOf_24 hL (by decide) (fun _ _ e => by cases e; rfl) rfl ?_
    refine go_mask [true, false, true, false, true, true, true, true, false, false] (lv1 := [.ref 81, .null, .long x1, .null, .int x2, .int (1 : Int32), .int (0 : Int32), .int (0 : Int32), .null, .null]) rfl ?_
    exact rX10_couldOf_b26 hc ho hL hN hr hE hz oF x1 x2 (1 : Int32) (0 : Int32) (0 : Int32) _ h
def fX10_could (x0 : Int32) (σ : OM) : Option (Int32 × OM) :=
  obv (fX10_good σ) (fun σ2 =>
  obi (fX10_isStone x0 σ2) (fun r4 σ5 =>
  if r4 = 0 then (
   obi (fX10_no (1 : Int32) σ5) (fun r7 σ8 =>
   some (r7, σ8)))
  else (obi (fX10_knownSet (63 : Int32) σ5) (fun r10 σ11 =>
  obi (fX10_couldOf x0 r10 (0 : Int32) σ11) (fun r13 σ14 =>
  some (r13, σ14))))))
set_option maxRecDepth 100000 in
set_option maxHeartbeats 4000000 in
theorem rX10_could {N : Nat} {x0 : Int32} {σ : OM} {r0 : Int32} {σ0 : OM} (h : fX10_could x0 σ = some (r0, σ0)) (hN0 : 6 ≤ N) : oEv N MX10_could [.ref 81, .int x0] σ (some (.int r0)) σ0 := by
  refine oEv_of (lv := [.ref 81, .int x0]) (by decide +kernel) (fun g q hq => hq) (fun g => Nat.le_of_ble_eq_true rfl) ?_
  intro K hc ho hL hN1 hr hE hz
  have hN : 6 ≤ kN K := by rw [hN1]; exact hN0
  unfold fX10_could at h
  refine go_aload_n hc dX10_could_0 rfl rfl ?_
  obtain ⟨σ2, hf3, h⟩ := obv_some h
  refine go_callVv hc ho cmX10_good mlX10_199 dX10_could_1 ok_81 (As := []) (rest := []) (rX10_good (N := 0) hf3 (Nat.le_refl _)) rfl (Nat.le_trans (Nat.le_of_ble_eq_true rfl) hN) rfl (Nat.le_of_ble_eq_true rfl) (Or.inl hz) ?_
  refine go_aload_n hc dX10_could_4 rfl rfl ?_
  refine go_iload_n hc dX10_could_5 rfl rfl ?_
  obtain ⟨r4, σ5, hf6, h⟩ := obi_some h
  refine go_callVi hc ho cmX10_isStone mlX10_351 dX10_could_6 ok_81 (As := [.int x0]) (rest := []) (rX10_isStone (N := 1) hf6 (Nat.le_refl _)) rfl (Nat.le_trans (Nat.le_of_ble_eq_true rfl) hN) rfl (Nat.le_of_ble_eq_true rfl) (Or.inl hz) ?_
  refine go_if_eq (tgt := 27) hc dX10_could_9 rfl (fun hh => ?_) (fun hh => ?_)
  · rw [if_pos hh] at h
    refine go_aload_n hc dX10_could_27 rfl rfl ?_
    refine go_iconst hc dX10_could_28 ci_1 ?_
    obtain ⟨r7, σ8, hf9, h⟩ := obi_some h
    refine go_callVi hc ho cmX10_no mlX10_202 dX10_could_29 ok_81 (As := [.int (1 : Int32)]) (rest := []) (rX10_no (N := 0) hf9 (Nat.le_refl _)) rfl (Nat.le_trans (Nat.le_of_ble_eq_true rfl) hN) rfl (Nat.le_of_ble_eq_true rfl) (Or.inl hz) ?_
    exact go_iret hc (oend_i h hE) hr dX10_could_32
  · rw [if_neg hh] at h
    refine go_aload_n hc dX10_could_12 rfl rfl ?_
    refine go_iload_n hc dX10_could_13 rfl rfl ?_
    refine go_aload_n hc dX10_could_14 rfl rfl ?_
    refine go_bipush hc dX10_could_15 cb_63 ?_
    obtain ⟨r10, σ11, hf12, h⟩ := obi_some h
    refine go_callVl hc ho cmX10_knownSet mlX10_336 dX10_could_17 ok_81 (As := [.int (63 : Int32)]) (rest := [.int x0, .ref 81]) (rX10_knownSet (N := 5) hf12 (Nat.le_refl _)) rfl (Nat.le_trans (Nat.le_of_ble_eq_true rfl) hN) rfl (Nat.le_of_ble_eq_true rfl) (Or.inl hz) ?_
    refine go_iconst hc dX10_could_20 ci_0 ?_
    obtain ⟨r13, σ14, hf15, h⟩ := obi_some h
    refine go_callVi hc ho cmX10_couldOf mlX10_354 dX10_could_21 ok_81 (As := [.int x0, .long r10, .int (0 : Int32)]) (rest := []) (rX10_couldOf (N := 0) hf15 (Nat.le_refl _)) rfl (Nat.le_trans (Nat.le_of_ble_eq_true rfl) hN) rfl (Nat.le_of_ble_eq_true rfl) (Or.inl hz) ?_
    refine go_goto (tgt := 32) hc dX10_could_24 rfl ?_
    exact go_iret hc (oend_i h hE) hr dX10_could_32
def fX10_surely (x0 : Int32) (σ : OM) : Option (Int32 × OM) :=
  obv (fX10_good σ) (fun σ2 =>
  obi (fX10_isStone x0 σ2) (fun r4 σ5 =>
  if r4 = 0 then (
   obi (fX10_no (1 : Int32) σ5) (fun r7 σ8 =>
   some (r7, σ8)))
  else (obi (fX10_knownSet (63 : Int32) σ5) (fun r10 σ11 =>
  obi (fX10_couldOf x0 r10 (1 : Int32) σ11) (fun r13 σ14 =>
  some (r13, σ14))))))
set_option maxRecDepth 100000 in
set_option maxHeartbeats 4000000 in
theorem rX10_surely {N : Nat} {x0 : Int32} {σ : OM} {r0 : Int32} {σ0 : OM} (h : fX10_surely x0 σ = some (r0, σ0)) (hN0 : 6 ≤ N) : oEv N MX10_surely [.ref 81, .int x0] σ (some (.int r0)) σ0 := by
  refine oEv_of (lv := [.ref 81, .int x0]) (by decide +kernel) (fun g q hq => hq) (fun g => Nat.le_of_ble_eq_true rfl) ?_
  intro K hc ho hL hN1 hr hE hz
  have hN : 6 ≤ kN K := by rw [hN1]; exact hN0
  unfold fX10_surely at h
  refine go_aload_n hc dX10_surely_0 rfl rfl ?_
  obtain ⟨σ2, hf3, h⟩ := obv_some h
  refine go_callVv hc ho cmX10_good mlX10_199 dX10_surely_1 ok_81 (As := []) (rest := []) (rX10_good (N := 0) hf3 (Nat.le_refl _)) rfl (Nat.le_trans (Nat.le_of_ble_eq_true rfl) hN) rfl (Nat.le_of_ble_eq_true rfl) (Or.inl hz) ?_
  refine go_aload_n hc dX10_surely_4 rfl rfl ?_
  refine go_iload_n hc dX10_surely_5 rfl rfl ?_
  obtain ⟨r4, σ5, hf6, h⟩ := obi_some h
  refine go_callVi hc ho cmX10_isStone mlX10_351 dX10_surely_6 ok_81 (As := [.int x0]) (rest := []) (rX10_isStone (N := 1) hf6 (Nat.le_refl _)) rfl (Nat.le_trans (Nat.le_of_ble_eq_true rfl) hN) rfl (Nat.le_of_ble_eq_true rfl) (Or.inl hz) ?_
  refine go_if_eq (tgt := 27) hc dX10_surely_9 rfl (fun hh => ?_) (fun hh => ?_)
  · rw [if_pos hh] at h
    refine go_aload_n hc dX10_surely_27 rfl rfl ?_
    refine go_iconst hc dX10_surely_28 ci_1 ?_
    obtain ⟨r7, σ8, hf9, h⟩ := obi_some h
    refine go_callVi hc ho cmX10_no mlX10_202 dX10_surely_29 ok_81 (As := [.int (1 : Int32)]) (rest := []) (rX10_no (N := 0) hf9 (Nat.le_refl _)) rfl (Nat.le_trans (Nat.le_of_ble_eq_true rfl) hN) rfl (Nat.le_of_ble_eq_true rfl) (Or.inl hz) ?_
    exact go_iret hc (oend_i h hE) hr dX10_surely_32
  · rw [if_neg hh] at h
    refine go_aload_n hc dX10_surely_12 rfl rfl ?_
    refine go_iload_n hc dX10_surely_13 rfl rfl ?_
    refine go_aload_n hc dX10_surely_14 rfl rfl ?_
    refine go_bipush hc dX10_surely_15 cb_63 ?_
    obtain ⟨r10, σ11, hf12, h⟩ := obi_some h
    refine go_callVl hc ho cmX10_knownSet mlX10_336 dX10_surely_17 ok_81 (As := [.int (63 : Int32)]) (rest := [.int x0, .ref 81]) (rX10_knownSet (N := 5) hf12 (Nat.le_refl _)) rfl (Nat.le_trans (Nat.le_of_ble_eq_true rfl) hN) rfl (Nat.le_of_ble_eq_true rfl) (Or.inl hz) ?_
    refine go_iconst hc dX10_surely_20 ci_1 ?_
    obtain ⟨r13, σ14, hf15, h⟩ := obi_some h
    refine go_callVi hc ho cmX10_couldOf mlX10_354 dX10_surely_21 ok_81 (As := [.int x0, .long r10, .int (1 : Int32)]) (rest := []) (rX10_couldOf (N := 0) hf15 (Nat.le_refl _)) rfl (Nat.le_trans (Nat.le_of_ble_eq_true rfl) hN) rfl (Nat.le_of_ble_eq_true rfl) (Or.inl hz) ?_
    refine go_goto (tgt := 32) hc dX10_surely_24 rfl ?_
    exact go_iret hc (oend_i h hE) hr dX10_surely_32
def fX10_greater (x0 : Int64) (x1 : Int64) (σ : OM) : Option (Int64 × OM) :=
  if (lg_cmp x0 x1) ≤ 0 then (
   some (x1, σ))
  else (some (x0, σ))
set_option maxRecDepth 100000 in
set_option maxHeartbeats 4000000 in
theorem rX10_greater {N : Nat} {x0 : Int64} {x1 : Int64} {σ : OM} {r0 : Int64} {σ0 : OM} (h : fX10_greater x0 x1 σ = some (r0, σ0)) (hN0 : 0 ≤ N) : oEv N MX10_greater [.long x0, .long x1] σ (some (.long r0)) σ0 := by
  refine oEv_of (lv := [.long x0, .null, .long x1, .null]) (by decide +kernel) (fun g q hq => hq) (fun g => Nat.le_of_ble_eq_true rfl) ?_
  intro K hc ho hL hN1 hr hE hz
  have hN : 0 ≤ kN K := by rw [hN1]; exact hN0
  unfold fX10_greater at h
  refine go_lload_n hc dX10_greater_0 rfl rfl ?_
  refine go_lload_n hc dX10_greater_1 rfl rfl ?_
  refine go_lcmp hc dX10_greater_2 ?_
  refine go_if_le (tgt := 10) hc dX10_greater_3 rfl (fun hh => ?_) (fun hh => ?_)
  · rw [if_pos hh] at h
    refine go_lload_n hc dX10_greater_10 rfl rfl ?_
    exact go_lret hc (oend_l h hE) hr dX10_greater_11
  · rw [if_neg hh] at h
    refine go_lload_n hc dX10_greater_6 rfl rfl ?_
    refine go_goto (tgt := 11) hc dX10_greater_7 rfl ?_
    exact go_lret hc (oend_l h hE) hr dX10_greater_11
def fX10_leftAtMost (x0 : Int64) (x1 : Int32) (σ : OM) : Option (Int64 × OM) :=
  ogd (oin x1 9) (
  obi (fX10_weight (x0 &&& (mL σ 86 x1.toNatClampNeg)) σ) (fun r2 σ3 =>
  ogd (oin x1 9) (
  obi (fX10_weight (x0 &&& ((mL σ3 86 x1.toNatClampNeg) ^^^ ((-1) : Int64))) σ3) (fun r6 σ7 =>
  obi (fX10_greater r2 r6 σ7) (fun r9 σ10 =>
  some (r9, σ10))))))
set_option maxRecDepth 100000 in
set_option maxHeartbeats 4000000 in
theorem rX10_leftAtMost {N : Nat} {x0 : Int64} {x1 : Int32} {σ : OM} {r0 : Int64} {σ0 : OM} (h : fX10_leftAtMost x0 x1 σ = some (r0, σ0)) (hN0 : 3 ≤ N) : oEv N MX10_leftAtMost [.ref 81, .long x0, .int x1] σ (some (.long r0)) σ0 := by
  refine oEv_of (lv := [.ref 81, .long x0, .null, .int x1]) (by decide +kernel) (fun g q hq => hq) (fun g => Nat.le_of_ble_eq_true rfl) ?_
  intro K hc ho hL hN1 hr hE hz
  have hN : 3 ≤ kN K := by rw [hN1]; exact hN0
  unfold fX10_leftAtMost at h
  refine go_aload_n hc dX10_leftAtMost_0 rfl rfl ?_
  refine go_lload_n hc dX10_leftAtMost_1 rfl rfl ?_
  refine go_aload_n hc dX10_leftAtMost_2 rfl rfl ?_
  refine go_getC (b := 86) rfl hc ho flX10_26 dX10_leftAtMost_3 ok_81 ?_
  refine go_iload_n hc dX10_leftAtMost_6 rfl rfl ?_
  obtain ⟨hg1, h⟩ := ogd_some h
  refine go_lald hc dX10_leftAtMost_7 ok_86 ol_86 hg1 rfl ?_
  refine go_land hc dX10_leftAtMost_8 ?_
  obtain ⟨r2, σ3, hf4, h⟩ := obi_some h
  refine go_callVl hc ho cmX10_weight mlX10_301 dX10_leftAtMost_9 ok_81 (As := [.long (x0 &&& (mL σ 86 x1.toNatClampNeg))]) (rest := []) (rX10_weight (N := 2) hf4 (Nat.le_refl _)) rfl (Nat.le_trans (Nat.le_of_ble_eq_true rfl) hN) rfl (Nat.le_of_ble_eq_true rfl) (Or.inl hz) ?_
  refine go_aload_n hc dX10_leftAtMost_12 rfl rfl ?_
  refine go_lload_n hc dX10_leftAtMost_13 rfl rfl ?_
  refine go_aload_n hc dX10_leftAtMost_14 rfl rfl ?_
  refine go_getC (b := 86) rfl hc ho flX10_26 dX10_leftAtMost_15 ok_81 ?_
  refine go_iload_n hc dX10_leftAtMost_18 rfl rfl ?_
  obtain ⟨hg5, h⟩ := ogd_some h
  refine go_lald hc dX10_leftAtMost_19 ok_86 ol_86 hg5 rfl ?_
  refine go_ldc2 hc ho klX10_181 dX10_leftAtMost_20 ?_
  refine go_lxor hc dX10_leftAtMost_23 ?_
  refine go_land hc dX10_leftAtMost_24 ?_
  obtain ⟨r6, σ7, hf8, h⟩ := obi_some h
  refine go_callVl hc ho cmX10_weight mlX10_301 dX10_leftAtMost_25 ok_81 (As := [.long (x0 &&& ((mL σ3 86 x1.toNatClampNeg) ^^^ ((-1) : Int64)))]) (rest := [.long r2]) (rX10_weight (N := 2) hf8 (Nat.le_refl _)) rfl (Nat.le_trans (Nat.le_of_ble_eq_true rfl) hN) rfl (Nat.le_of_ble_eq_true rfl) (Or.inl hz) ?_
  obtain ⟨r9, σ10, hf11, h⟩ := obi_some h
  refine go_callSl hc ho cmX10_greater mlX10_358 dX10_leftAtMost_28 (As := [.long r2, .long r6]) (rest := []) (rX10_greater (N := 0) hf11 (Nat.le_refl _)) rfl (Nat.le_trans (Nat.le_of_ble_eq_true rfl) hN) rfl (Nat.le_of_ble_eq_true rfl) (Or.inl hz) ?_
  exact go_lret hc (oend_l h hE) hr dX10_leftAtMost_31
def fX10_bestOf_b6 : Nat → Int64 → Int32 → Int32 → OM → Option (Int32 × OM)
  | 0, _, _, _, _ => none
  | n + 1, l1, l3, l4, σ =>
    if (mI σ 84 5) ≤ l4 then (
     some (l3, σ))
    else (if l3 = ((-2) : Int32) then (
     fX10_bestOf_b6 n l1 l4 (l4 + 1) σ)
    else (obi (fX10_leftAtMost l1 l4 σ) (fun r1 σ2 =>
    obi (fX10_leftAtMost l1 l3 σ2) (fun r4 σ5 =>
    if 0 ≤ (lg_cmp r1 r4) then (
     fX10_bestOf_b6 n l1 l3 (l4 + 1) σ5)
    else (fX10_bestOf_b6 n l1 l4 (l4 + 1) σ5)))))
set_option maxRecDepth 100000 in
set_option maxHeartbeats 4000000 in
theorem rX10_bestOf_b6 {K : OK} (hc : kcc K = cX10_bestOf) (ho : kow K = RX10) (hL : knL K = 5) (hN : 4 ≤ kN K) (hr : (kme K).sig.returnType = (some .int)) {r0 : Int32} {σ0 : OM} (hE : oEnd K (some (.int r0)) σ0) (hz : kz K = 0) : ∀ (n : Nat) (l1 : Int64) (l3 : Int32) (l4 : Int32) (σ : OM), fX10_bestOf_b6 n l1 l3 l4 σ = some (r0, σ0) → Go K 6 [.ref 81, .long l1, .null, .int l3, .int l4] [] σ := by
  intro n
  induction n with
  | zero =>
    intro l1 l3 l4 σ h
    cases h
  | succ n ih =>
    intro l1 l3 l4 σ h
    rw [fX10_bestOf_b6] at h
    refine go_iload hc dX10_bestOf_6 rfl ?_
    refine go_aload_n hc dX10_bestOf_8 rfl rfl ?_
    refine go_getC (b := 84) rfl hc ho flX10_20 dX10_bestOf_9 ok_81 ?_
    refine go_iconst hc dX10_bestOf_12 ci_5 ?_
    refine go_iald hc dX10_bestOf_13 ok_84 ol_84 (by decide +kernel) cn_5 ?_
    refine go_icmp_ge (tgt := 49) hc dX10_bestOf_14 rfl (fun hh => ?_) (fun hh => ?_)
    · rw [if_pos hh] at h
      refine go_iload_n hc dX10_bestOf_49 rfl rfl ?_
      exact go_iret hc (oend_i h hE) hr dX10_bestOf_50
    · rw [if_neg hh] at h
      refine go_iload_n hc dX10_bestOf_17 rfl rfl ?_
      refine go_bipush hc dX10_bestOf_18 cb_m2 ?_
      refine go_icmp_eq (tgt := 40) hc dX10_bestOf_20 rfl (fun hh => ?_) (fun hh => ?_)
      · rw [if_pos hh] at h
        refine go_iload hc dX10_bestOf_40 rfl ?_
        refine go_istore_n hc (lv1 := [.ref 81, .long l1, .null, .int l4, .int l4]) dX10_bestOf_42 rfl hL (by decide) (fun _ _ e => by cases e; rfl) rfl ?_
        refine go_iinc hc (lv1 := [.ref 81, .long l1, .null, .int l4, .int (l4 + 1)]) dX10_bestOf_43 rfl ci_1 hL (by decide) (fun _ _ e => by cases e; rfl) rfl ?_
        refine go_goto (tgt := 6) hc dX10_bestOf_46 rfl ?_
        exact ih l1 l4 (l4 + 1) _ h
      · rw [if_neg hh] at h
        refine go_aload_n hc dX10_bestOf_23 rfl rfl ?_
        refine go_lload_n hc dX10_bestOf_24 rfl rfl ?_
        refine go_iload hc dX10_bestOf_25 rfl ?_
        obtain ⟨r1, σ2, hf3, h⟩ := obi_some h
        refine go_callVl hc ho cmX10_leftAtMost mlX10_362 dX10_bestOf_27 ok_81 (As := [.long l1, .int l4]) (rest := []) (rX10_leftAtMost (N := 3) hf3 (Nat.le_refl _)) rfl (Nat.le_trans (Nat.le_of_ble_eq_true rfl) hN) rfl (Nat.le_of_ble_eq_true rfl) (Or.inl hz) ?_
        refine go_aload_n hc dX10_bestOf_30 rfl rfl ?_
        refine go_lload_n hc dX10_bestOf_31 rfl rfl ?_
        refine go_iload_n hc dX10_bestOf_32 rfl rfl ?_
        obtain ⟨r4, σ5, hf6, h⟩ := obi_some h
        refine go_callVl hc ho cmX10_leftAtMost mlX10_362 dX10_bestOf_33 ok_81 (As := [.long l1, .int l3]) (rest := [.long r1]) (rX10_leftAtMost (N := 3) hf6 (Nat.le_refl _)) rfl (Nat.le_trans (Nat.le_of_ble_eq_true rfl) hN) rfl (Nat.le_of_ble_eq_true rfl) (Or.inl hz) ?_
        refine go_lcmp hc dX10_bestOf_36 ?_
        refine go_if_ge (tgt := 43) hc dX10_bestOf_37 rfl (fun hh => ?_) (fun hh => ?_)
        · rw [if_pos hh] at h
          refine go_iinc hc (lv1 := [.ref 81, .long l1, .null, .int l3, .int (l4 + 1)]) dX10_bestOf_43 rfl ci_1 hL (by decide) (fun _ _ e => by cases e; rfl) rfl ?_
          refine go_goto (tgt := 6) hc dX10_bestOf_46 rfl ?_
          exact ih l1 l3 (l4 + 1) _ h
        · rw [if_neg hh] at h
          refine go_iload hc dX10_bestOf_40 rfl ?_
          refine go_istore_n hc (lv1 := [.ref 81, .long l1, .null, .int l4, .int l4]) dX10_bestOf_42 rfl hL (by decide) (fun _ _ e => by cases e; rfl) rfl ?_
          refine go_iinc hc (lv1 := [.ref 81, .long l1, .null, .int l4, .int (l4 + 1)]) dX10_bestOf_43 rfl ci_1 hL (by decide) (fun _ _ e => by cases e; rfl) rfl ?_
          refine go_goto (tgt := 6) hc dX10_bestOf_46 rfl ?_
          exact ih l1 l4 (l4 + 1) _ h
def fX10_bestOf (x0 : Int64) (σ : OM) : Option (Int32 × OM) :=
  fX10_bestOf_b6 oF x0 ((-2) : Int32) (0 : Int32) σ
set_option maxRecDepth 100000 in
set_option maxHeartbeats 4000000 in
theorem rX10_bestOf {N : Nat} {x0 : Int64} {σ : OM} {r0 : Int32} {σ0 : OM} (h : fX10_bestOf x0 σ = some (r0, σ0)) (hN0 : 4 ≤ N) : oEv N MX10_bestOf [.ref 81, .long x0] σ (some (.int r0)) σ0 := by
  refine oEv_of (lv := [.ref 81, .long x0, .null, .null, .null]) (by decide +kernel) (fun g q hq => hq) (fun g => Nat.le_of_ble_eq_true rfl) ?_
  intro K hc ho hL hN1 hr hE hz
  have hN : 4 ≤ kN K := by rw [hN1]; exact hN0
  unfold fX10_bestOf at h
  refine go_bipush hc dX10_bestOf_0 cb_m2 ?_
  refine go_istore_n hc (lv1 := [.ref 81, .long x0, .null, .int ((-2) : Int32), .null]) dX10_bestOf_2 rfl hL (by decide) (fun _ _ e => by cases e; rfl) rfl ?_
  refine go_iconst hc dX10_bestOf_3 ci_0 ?_
  refine go_istore hc (lv1 := [.ref 81, .long x0, .null, .int ((-2) : Int32), .int (0 : Int32)]) dX10_bestOf_4 hL (by decide) (fun _ _ e => by cases e; rfl) rfl ?_
  exact rX10_bestOf_b6 hc ho hL hN hr hE hz oF x0 ((-2) : Int32) (0 : Int32) _ h
def fX10_best (x0 : Int32) (σ : OM) : Option (Int32 × OM) :=
  obv (fX10_good σ) (fun σ2 =>
  obi (fX10_isHouse x0 σ2) (fun r4 σ5 =>
  if r4 = 0 then (
   obi (fX10_no (1 : Int32) σ5) (fun r7 σ8 =>
   some (r7, σ8)))
  else (obi (fX10_kinOf x0 σ5) (fun r10 σ11 =>
  obi (fX10_knownSet r10 σ11) (fun r13 σ14 =>
  obi (fX10_bestOf r13 σ14) (fun r16 σ17 =>
  some (r16, σ17)))))))
set_option maxRecDepth 100000 in
set_option maxHeartbeats 4000000 in
theorem rX10_best {N : Nat} {x0 : Int32} {σ : OM} {r0 : Int32} {σ0 : OM} (h : fX10_best x0 σ = some (r0, σ0)) (hN0 : 6 ≤ N) : oEv N MX10_best [.ref 81, .int x0] σ (some (.int r0)) σ0 := by
  refine oEv_of (lv := [.ref 81, .int x0]) (by decide +kernel) (fun g q hq => hq) (fun g => Nat.le_of_ble_eq_true rfl) ?_
  intro K hc ho hL hN1 hr hE hz
  have hN : 6 ≤ kN K := by rw [hN1]; exact hN0
  unfold fX10_best at h
  refine go_aload_n hc dX10_best_0 rfl rfl ?_
  obtain ⟨σ2, hf3, h⟩ := obv_some h
  refine go_callVv hc ho cmX10_good mlX10_199 dX10_best_1 ok_81 (As := []) (rest := []) (rX10_good (N := 0) hf3 (Nat.le_refl _)) rfl (Nat.le_trans (Nat.le_of_ble_eq_true rfl) hN) rfl (Nat.le_of_ble_eq_true rfl) (Or.inl hz) ?_
  refine go_aload_n hc dX10_best_4 rfl rfl ?_
  refine go_iload_n hc dX10_best_5 rfl rfl ?_
  obtain ⟨r4, σ5, hf6, h⟩ := obi_some h
  refine go_callVi hc ho cmX10_isHouse mlX10_323 dX10_best_6 ok_81 (As := [.int x0]) (rest := []) (rX10_isHouse (N := 1) hf6 (Nat.le_refl _)) rfl (Nat.le_trans (Nat.le_of_ble_eq_true rfl) hN) rfl (Nat.le_of_ble_eq_true rfl) (Or.inl hz) ?_
  refine go_if_eq (tgt := 28) hc dX10_best_9 rfl (fun hh => ?_) (fun hh => ?_)
  · rw [if_pos hh] at h
    refine go_aload_n hc dX10_best_28 rfl rfl ?_
    refine go_iconst hc dX10_best_29 ci_1 ?_
    obtain ⟨r7, σ8, hf9, h⟩ := obi_some h
    refine go_callVi hc ho cmX10_no mlX10_202 dX10_best_30 ok_81 (As := [.int (1 : Int32)]) (rest := []) (rX10_no (N := 0) hf9 (Nat.le_refl _)) rfl (Nat.le_trans (Nat.le_of_ble_eq_true rfl) hN) rfl (Nat.le_of_ble_eq_true rfl) (Or.inl hz) ?_
    exact go_iret hc (oend_i h hE) hr dX10_best_33
  · rw [if_neg hh] at h
    refine go_aload_n hc dX10_best_12 rfl rfl ?_
    refine go_aload_n hc dX10_best_13 rfl rfl ?_
    refine go_aload_n hc dX10_best_14 rfl rfl ?_
    refine go_iload_n hc dX10_best_15 rfl rfl ?_
    obtain ⟨r10, σ11, hf12, h⟩ := obi_some h
    refine go_callVi hc ho cmX10_kinOf mlX10_333 dX10_best_16 ok_81 (As := [.int x0]) (rest := [.ref 81, .ref 81]) (rX10_kinOf (N := 1) hf12 (Nat.le_refl _)) rfl (Nat.le_trans (Nat.le_of_ble_eq_true rfl) hN) rfl (Nat.le_of_ble_eq_true rfl) (Or.inl hz) ?_
    obtain ⟨r13, σ14, hf15, h⟩ := obi_some h
    refine go_callVl hc ho cmX10_knownSet mlX10_336 dX10_best_19 ok_81 (As := [.int r10]) (rest := [.ref 81]) (rX10_knownSet (N := 5) hf15 (Nat.le_refl _)) rfl (Nat.le_trans (Nat.le_of_ble_eq_true rfl) hN) rfl (Nat.le_of_ble_eq_true rfl) (Or.inl hz) ?_
    obtain ⟨r16, σ17, hf18, h⟩ := obi_some h
    refine go_callVi hc ho cmX10_bestOf mlX10_366 dX10_best_22 ok_81 (As := [.long r13]) (rest := []) (rX10_bestOf (N := 4) hf18 (Nat.le_refl _)) rfl (Nat.le_trans (Nat.le_of_ble_eq_true rfl) hN) rfl (Nat.le_of_ble_eq_true rfl) (Or.inl hz) ?_
    refine go_goto (tgt := 33) hc dX10_best_25 rfl ?_
    exact go_iret hc (oend_i h hE) hr dX10_best_33
def fX10_bestLeft (x0 : Int32) (σ : OM) : Option (Int32 × OM) :=
  obv (fX10_good σ) (fun σ2 =>
  obi (fX10_isHouse x0 σ2) (fun r4 σ5 =>
  if r4 = 0 then (
   obi (fX10_no (1 : Int32) σ5) (fun r22 σ23 =>
   some (r22, σ23)))
  else (if (mI σ5 84 5) = 0 then (
   obi (fX10_no (6 : Int32) σ5) (fun r19 σ20 =>
   some (r19, σ20)))
  else (obi (fX10_kinOf x0 σ5) (fun r7 σ8 =>
  obi (fX10_knownSet r7 σ8) (fun r10 σ11 =>
  obi (fX10_bestOf r10 σ11) (fun r13 σ14 =>
  obi (fX10_leftAtMost r10 r13 σ14) (fun r16 σ17 =>
  some (r16.toInt32, σ17)))))))))
set_option maxRecDepth 100000 in
set_option maxHeartbeats 4000000 in
theorem rX10_bestLeft {N : Nat} {x0 : Int32} {σ : OM} {r0 : Int32} {σ0 : OM} (h : fX10_bestLeft x0 σ = some (r0, σ0)) (hN0 : 6 ≤ N) : oEv N MX10_bestLeft [.ref 81, .int x0] σ (some (.int r0)) σ0 := by
  refine oEv_of (lv := [.ref 81, .int x0, .null, .null]) (by decide +kernel) (fun g q hq => hq) (fun g => Nat.le_of_ble_eq_true rfl) ?_
  intro K hc ho hL hN1 hr hE hz
  have hN : 6 ≤ kN K := by rw [hN1]; exact hN0
  unfold fX10_bestLeft at h
  refine go_aload_n hc dX10_bestLeft_0 rfl rfl ?_
  obtain ⟨σ2, hf3, h⟩ := obv_some h
  refine go_callVv hc ho cmX10_good mlX10_199 dX10_bestLeft_1 ok_81 (As := []) (rest := []) (rX10_good (N := 0) hf3 (Nat.le_refl _)) rfl (Nat.le_trans (Nat.le_of_ble_eq_true rfl) hN) rfl (Nat.le_of_ble_eq_true rfl) (Or.inl hz) ?_
  refine go_aload_n hc dX10_bestLeft_4 rfl rfl ?_
  refine go_iload_n hc dX10_bestLeft_5 rfl rfl ?_
  obtain ⟨r4, σ5, hf6, h⟩ := obi_some h
  refine go_callVi hc ho cmX10_isHouse mlX10_323 dX10_bestLeft_6 ok_81 (As := [.int x0]) (rest := []) (rX10_isHouse (N := 1) hf6 (Nat.le_refl _)) rfl (Nat.le_trans (Nat.le_of_ble_eq_true rfl) hN) rfl (Nat.le_of_ble_eq_true rfl) (Or.inl hz) ?_
  refine go_if_ne (tgt := 18) hc dX10_bestLeft_9 rfl (fun hh => ?_) (fun hh => ?_)
  · rw [if_neg hh] at h
    refine go_aload_n hc dX10_bestLeft_18 rfl rfl ?_
    refine go_getC (b := 84) rfl hc ho flX10_20 dX10_bestLeft_19 ok_81 ?_
    refine go_iconst hc dX10_bestLeft_22 ci_5 ?_
    refine go_iald hc dX10_bestLeft_23 ok_84 ol_84 (by decide +kernel) cn_5 ?_
    refine go_if_ne (tgt := 34) hc dX10_bestLeft_24 rfl (fun hh => ?_) (fun hh => ?_)
    · rw [if_neg hh] at h
      refine go_aload_n hc dX10_bestLeft_34 rfl rfl ?_
      refine go_aload_n hc dX10_bestLeft_35 rfl rfl ?_
      refine go_iload_n hc dX10_bestLeft_36 rfl rfl ?_
      obtain ⟨r7, σ8, hf9, h⟩ := obi_some h
      refine go_callVi hc ho cmX10_kinOf mlX10_333 dX10_bestLeft_37 ok_81 (As := [.int x0]) (rest := [.ref 81]) (rX10_kinOf (N := 1) hf9 (Nat.le_refl _)) rfl (Nat.le_trans (Nat.le_of_ble_eq_true rfl) hN) rfl (Nat.le_of_ble_eq_true rfl) (Or.inl hz) ?_
      obtain ⟨r10, σ11, hf12, h⟩ := obi_some h
      refine go_callVl hc ho cmX10_knownSet mlX10_336 dX10_bestLeft_40 ok_81 (As := [.int r7]) (rest := []) (rX10_knownSet (N := 5) hf12 (Nat.le_refl _)) rfl (Nat.le_trans (Nat.le_of_ble_eq_true rfl) hN) rfl (Nat.le_of_ble_eq_true rfl) (Or.inl hz) ?_
      refine go_lstore_n hc (lv1 := [.ref 81, .int x0, .long r10, .null]) dX10_bestLeft_43 rfl hL (by decide) (fun _ _ e => by cases e; rfl) rfl ?_
      refine go_aload_n hc dX10_bestLeft_44 rfl rfl ?_
      refine go_lload_n hc dX10_bestLeft_45 rfl rfl ?_
      refine go_aload_n hc dX10_bestLeft_46 rfl rfl ?_
      refine go_lload_n hc dX10_bestLeft_47 rfl rfl ?_
      obtain ⟨r13, σ14, hf15, h⟩ := obi_some h
      refine go_callVi hc ho cmX10_bestOf mlX10_366 dX10_bestLeft_48 ok_81 (As := [.long r10]) (rest := [.long r10, .ref 81]) (rX10_bestOf (N := 4) hf15 (Nat.le_refl _)) rfl (Nat.le_trans (Nat.le_of_ble_eq_true rfl) hN) rfl (Nat.le_of_ble_eq_true rfl) (Or.inl hz) ?_
      obtain ⟨r16, σ17, hf18, h⟩ := obi_some h
      refine go_callVl hc ho cmX10_leftAtMost mlX10_362 dX10_bestLeft_51 ok_81 (As := [.long r10, .int r13]) (rest := []) (rX10_leftAtMost (N := 3) hf18 (Nat.le_refl _)) rfl (Nat.le_trans (Nat.le_of_ble_eq_true rfl) hN) rfl (Nat.le_of_ble_eq_true rfl) (Or.inl hz) ?_
      refine go_l2i hc dX10_bestLeft_54 ?_
      exact go_iret hc (oend_i h hE) hr dX10_bestLeft_55
    · rw [if_pos hh] at h
      refine go_aload_n hc dX10_bestLeft_27 rfl rfl ?_
      refine go_bipush hc dX10_bestLeft_28 cb_6 ?_
      obtain ⟨r19, σ20, hf21, h⟩ := obi_some h
      refine go_callVi hc ho cmX10_no mlX10_202 dX10_bestLeft_30 ok_81 (As := [.int (6 : Int32)]) (rest := []) (rX10_no (N := 0) hf21 (Nat.le_refl _)) rfl (Nat.le_trans (Nat.le_of_ble_eq_true rfl) hN) rfl (Nat.le_of_ble_eq_true rfl) (Or.inl hz) ?_
      exact go_iret hc (oend_i h hE) hr dX10_bestLeft_33
  · rw [if_pos hh] at h
    refine go_aload_n hc dX10_bestLeft_12 rfl rfl ?_
    refine go_iconst hc dX10_bestLeft_13 ci_1 ?_
    obtain ⟨r22, σ23, hf24, h⟩ := obi_some h
    refine go_callVi hc ho cmX10_no mlX10_202 dX10_bestLeft_14 ok_81 (As := [.int (1 : Int32)]) (rest := []) (rX10_no (N := 0) hf24 (Nat.le_refl _)) rfl (Nat.le_trans (Nat.le_of_ble_eq_true rfl) hN) rfl (Nat.le_of_ble_eq_true rfl) (Or.inl hz) ?_
    exact go_iret hc (oend_i h hE) hr dX10_bestLeft_17
def fX10_leftMean (x0 : Int32) (x1 : Int32) (x2 : Int32) (σ : OM) : Option (Int64 × OM) :=
  obv (fX10_good σ) (fun σ2 =>
  obi (fX10_isHouse x0 σ2) (fun r4 σ5 =>
  if r4 = 0 then (
   obi (fX10_no (1 : Int32) σ5) (fun r7 σ8 =>
   some (r7.toInt64, σ8)))
  else (obi (fX10_isQuestion x1 σ5) (fun r10 σ11 =>
  if r10 = 0 then (
   obi (fX10_no (1 : Int32) σ11) (fun r33 σ34 =>
   some (r33.toInt64, σ34)))
  else (obi (fX10_kinOf x0 σ11) (fun r13 σ14 =>
  obi (fX10_knownSet r13 σ14) (fun r16 σ17 =>
  if (lg_cmp r16 (0 : Int64)) = 0 then (
   obi (fX10_no (6 : Int32) σ17) (fun r30 σ31 =>
   some (r30.toInt64, σ31)))
  else (ogd (oin x1 9) (
  obi (fX10_weight (r16 &&& (mL σ17 86 x1.toNatClampNeg)) σ17) (fun r20 σ21 =>
  ogd (oin x1 9) (
  obi (fX10_weight (r16 &&& ((mL σ21 86 x1.toNatClampNeg) ^^^ ((-1) : Int64))) σ21) (fun r24 σ25 =>
  obi (fX10_lowest ((r20 * r20) + (r24 * r24)) (r20 + r24) x2 σ25) (fun r27 σ28 =>
  some (r27, σ28))))))))))))))
set_option maxRecDepth 100000 in
set_option maxHeartbeats 4000000 in
theorem rX10_leftMean {N : Nat} {x0 : Int32} {x1 : Int32} {x2 : Int32} {σ : OM} {r0 : Int64} {σ0 : OM} (h : fX10_leftMean x0 x1 x2 σ = some (r0, σ0)) (hN0 : 6 ≤ N) : oEv N MX10_leftMean [.ref 81, .int x0, .int x1, .int x2] σ (some (.long r0)) σ0 := by
  refine oEv_of (lv := [.ref 81, .int x0, .int x1, .int x2, .null, .null, .null, .null, .null, .null]) (by decide +kernel) (fun g q hq => hq) (fun g => Nat.le_of_ble_eq_true rfl) ?_
  intro K hc ho hL hN1 hr hE hz
  have hN : 6 ≤ kN K := by rw [hN1]; exact hN0
  unfold fX10_leftMean at h
  refine go_aload_n hc dX10_leftMean_0 rfl rfl ?_
  obtain ⟨σ2, hf3, h⟩ := obv_some h
  refine go_callVv hc ho cmX10_good mlX10_199 dX10_leftMean_1 ok_81 (As := []) (rest := []) (rX10_good (N := 0) hf3 (Nat.le_refl _)) rfl (Nat.le_trans (Nat.le_of_ble_eq_true rfl) hN) rfl (Nat.le_of_ble_eq_true rfl) (Or.inl hz) ?_
  refine go_aload_n hc dX10_leftMean_4 rfl rfl ?_
  refine go_iload_n hc dX10_leftMean_5 rfl rfl ?_
  obtain ⟨r4, σ5, hf6, h⟩ := obi_some h
  refine go_callVi hc ho cmX10_isHouse mlX10_323 dX10_leftMean_6 ok_81 (As := [.int x0]) (rest := []) (rX10_isHouse (N := 1) hf6 (Nat.le_refl _)) rfl (Nat.le_trans (Nat.le_of_ble_eq_true rfl) hN) rfl (Nat.le_of_ble_eq_true rfl) (Or.inl hz) ?_
  refine go_if_eq (tgt := 20) hc dX10_leftMean_9 rfl (fun hh => ?_) (fun hh => ?_)
  · rw [if_pos hh] at h
    refine go_aload_n hc dX10_leftMean_20 rfl rfl ?_
    refine go_iconst hc dX10_leftMean_21 ci_1 ?_
    obtain ⟨r7, σ8, hf9, h⟩ := obi_some h
    refine go_callVi hc ho cmX10_no mlX10_202 dX10_leftMean_22 ok_81 (As := [.int (1 : Int32)]) (rest := []) (rX10_no (N := 0) hf9 (Nat.le_refl _)) rfl (Nat.le_trans (Nat.le_of_ble_eq_true rfl) hN) rfl (Nat.le_of_ble_eq_true rfl) (Or.inl hz) ?_
    refine go_i2l hc dX10_leftMean_25 ?_
    exact go_lret hc (oend_l h hE) hr dX10_leftMean_26
  · rw [if_neg hh] at h
    refine go_aload_n hc dX10_leftMean_12 rfl rfl ?_
    refine go_iload_n hc dX10_leftMean_13 rfl rfl ?_
    obtain ⟨r10, σ11, hf12, h⟩ := obi_some h
    refine go_callVi hc ho cmX10_isQuestion mlX10_298 dX10_leftMean_14 ok_81 (As := [.int x1]) (rest := []) (rX10_isQuestion (N := 1) hf12 (Nat.le_refl _)) rfl (Nat.le_trans (Nat.le_of_ble_eq_true rfl) hN) rfl (Nat.le_of_ble_eq_true rfl) (Or.inl hz) ?_
    refine go_if_ne (tgt := 27) hc dX10_leftMean_17 rfl (fun hh => ?_) (fun hh => ?_)
    · rw [if_neg hh] at h
      refine go_aload_n hc dX10_leftMean_27 rfl rfl ?_
      refine go_aload_n hc dX10_leftMean_28 rfl rfl ?_
      refine go_iload_n hc dX10_leftMean_29 rfl rfl ?_
      obtain ⟨r13, σ14, hf15, h⟩ := obi_some h
      refine go_callVi hc ho cmX10_kinOf mlX10_333 dX10_leftMean_30 ok_81 (As := [.int x0]) (rest := [.ref 81]) (rX10_kinOf (N := 1) hf15 (Nat.le_refl _)) rfl (Nat.le_trans (Nat.le_of_ble_eq_true rfl) hN) rfl (Nat.le_of_ble_eq_true rfl) (Or.inl hz) ?_
      obtain ⟨r16, σ17, hf18, h⟩ := obi_some h
      refine go_callVl hc ho cmX10_knownSet mlX10_336 dX10_leftMean_33 ok_81 (As := [.int r13]) (rest := []) (rX10_knownSet (N := 5) hf18 (Nat.le_refl _)) rfl (Nat.le_trans (Nat.le_of_ble_eq_true rfl) hN) rfl (Nat.le_of_ble_eq_true rfl) (Or.inl hz) ?_
      refine go_lstore hc (lv1 := [.ref 81, .int x0, .int x1, .int x2, .long r16, .null, .null, .null, .null, .null]) dX10_leftMean_36 hL (by decide) (fun _ _ e => by cases e; rfl) rfl ?_
      refine go_lload hc dX10_leftMean_38 rfl ?_
      refine go_lconst hc dX10_leftMean_40 cl_0 ?_
      refine go_lcmp hc dX10_leftMean_41 ?_
      refine go_if_ne (tgt := 53) hc dX10_leftMean_42 rfl (fun hh => ?_) (fun hh => ?_)
      · rw [if_neg hh] at h
        refine go_aload_n hc dX10_leftMean_53 rfl rfl ?_
        refine go_lload hc dX10_leftMean_54 rfl ?_
        refine go_aload_n hc dX10_leftMean_56 rfl rfl ?_
        refine go_getC (b := 86) rfl hc ho flX10_26 dX10_leftMean_57 ok_81 ?_
        refine go_iload_n hc dX10_leftMean_60 rfl rfl ?_
        obtain ⟨hg19, h⟩ := ogd_some h
        refine go_lald hc dX10_leftMean_61 ok_86 ol_86 hg19 rfl ?_
        refine go_land hc dX10_leftMean_62 ?_
        obtain ⟨r20, σ21, hf22, h⟩ := obi_some h
        refine go_callVl hc ho cmX10_weight mlX10_301 dX10_leftMean_63 ok_81 (As := [.long (r16 &&& (mL σ17 86 x1.toNatClampNeg))]) (rest := []) (rX10_weight (N := 2) hf22 (Nat.le_refl _)) rfl (Nat.le_trans (Nat.le_of_ble_eq_true rfl) hN) rfl (Nat.le_of_ble_eq_true rfl) (Or.inl hz) ?_
        refine go_lstore hc (lv1 := [.ref 81, .int x0, .int x1, .int x2, .long r16, .null, .long r20, .null, .null, .null]) dX10_leftMean_66 hL (by decide) (fun _ _ e => by cases e; rfl) rfl ?_
        refine go_aload_n hc dX10_leftMean_68 rfl rfl ?_
        refine go_lload hc dX10_leftMean_69 rfl ?_
        refine go_aload_n hc dX10_leftMean_71 rfl rfl ?_
        refine go_getC (b := 86) rfl hc ho flX10_26 dX10_leftMean_72 ok_81 ?_
        refine go_iload_n hc dX10_leftMean_75 rfl rfl ?_
        obtain ⟨hg23, h⟩ := ogd_some h
        refine go_lald hc dX10_leftMean_76 ok_86 ol_86 hg23 rfl ?_
        refine go_ldc2 hc ho klX10_181 dX10_leftMean_77 ?_
        refine go_lxor hc dX10_leftMean_80 ?_
        refine go_land hc dX10_leftMean_81 ?_
        obtain ⟨r24, σ25, hf26, h⟩ := obi_some h
        refine go_callVl hc ho cmX10_weight mlX10_301 dX10_leftMean_82 ok_81 (As := [.long (r16 &&& ((mL σ21 86 x1.toNatClampNeg) ^^^ ((-1) : Int64)))]) (rest := []) (rX10_weight (N := 2) hf26 (Nat.le_refl _)) rfl (Nat.le_trans (Nat.le_of_ble_eq_true rfl) hN) rfl (Nat.le_of_ble_eq_true rfl) (Or.inl hz) ?_
        refine go_lstore hc (lv1 := [.ref 81, .int x0, .int x1, .int x2, .long r16, .null, .long r20, .null, .long r24, .null]) dX10_leftMean_85 hL (by decide) (fun _ _ e => by cases e; rfl) rfl ?_
        refine go_lload hc dX10_leftMean_87 rfl ?_
        refine go_lload hc dX10_leftMean_89 rfl ?_
        refine go_lmul hc dX10_leftMean_91 ?_
        refine go_lload hc dX10_leftMean_92 rfl ?_
        refine go_lload hc dX10_leftMean_94 rfl ?_
        refine go_lmul hc dX10_leftMean_96 ?_
        refine go_ladd hc dX10_leftMean_97 ?_
        refine go_lload hc dX10_leftMean_98 rfl ?_
        refine go_lload hc dX10_leftMean_100 rfl ?_
        refine go_ladd hc dX10_leftMean_102 ?_
        refine go_iload_n hc dX10_leftMean_103 rfl rfl ?_
        obtain ⟨r27, σ28, hf29, h⟩ := obi_some h
        refine go_callSl hc ho cmX10_lowest mlX10_305 dX10_leftMean_104 (As := [.long ((r20 * r20) + (r24 * r24)), .long (r20 + r24), .int x2]) (rest := []) (rX10_lowest (N := 0) hf29 (Nat.le_refl _)) rfl (Nat.le_trans (Nat.le_of_ble_eq_true rfl) hN) rfl (Nat.le_of_ble_eq_true rfl) (Or.inl hz) ?_
        exact go_lret hc (oend_l h hE) hr dX10_leftMean_107
      · rw [if_pos hh] at h
        refine go_aload_n hc dX10_leftMean_45 rfl rfl ?_
        refine go_bipush hc dX10_leftMean_46 cb_6 ?_
        obtain ⟨r30, σ31, hf32, h⟩ := obi_some h
        refine go_callVi hc ho cmX10_no mlX10_202 dX10_leftMean_48 ok_81 (As := [.int (6 : Int32)]) (rest := []) (rX10_no (N := 0) hf32 (Nat.le_refl _)) rfl (Nat.le_trans (Nat.le_of_ble_eq_true rfl) hN) rfl (Nat.le_of_ble_eq_true rfl) (Or.inl hz) ?_
        refine go_i2l hc dX10_leftMean_51 ?_
        exact go_lret hc (oend_l h hE) hr dX10_leftMean_52
    · rw [if_pos hh] at h
      refine go_aload_n hc dX10_leftMean_20 rfl rfl ?_
      refine go_iconst hc dX10_leftMean_21 ci_1 ?_
      obtain ⟨r33, σ34, hf35, h⟩ := obi_some h
      refine go_callVi hc ho cmX10_no mlX10_202 dX10_leftMean_22 ok_81 (As := [.int (1 : Int32)]) (rest := []) (rX10_no (N := 0) hf35 (Nat.le_refl _)) rfl (Nat.le_trans (Nat.le_of_ble_eq_true rfl) hN) rfl (Nat.le_of_ble_eq_true rfl) (Or.inl hz) ?_
      refine go_i2l hc dX10_leftMean_25 ?_
      exact go_lret hc (oend_l h hE) hr dX10_leftMean_26
def fX10_allCould_b5 : Nat → Int64 → Int32 → Int32 → OM → Option (Int32 × OM)
  | 0, _, _, _, _ => none
  | n + 1, l1, l3, l4, σ =>
    if (mI σ 84 7) ≤ l4 then (
     some (l3, σ))
    else (obi (fX10_couldOf l4 l1 (0 : Int32) σ) (fun r1 σ2 =>
    obi (fX10_ones r1.toInt64 σ2) (fun r4 σ5 =>
    fX10_allCould_b5 n l1 (l3 + r4) (l4 + 1) σ5)))
set_option maxRecDepth 100000 in
set_option maxHeartbeats 4000000 in
theorem rX10_allCould_b5 {K : OK} (hc : kcc K = cX10_allCould) (ho : kow K = RX10) (hL : knL K = 5) (hN : 1 ≤ kN K) (hr : (kme K).sig.returnType = (some .int)) {r0 : Int32} {σ0 : OM} (hE : oEnd K (some (.int r0)) σ0) (hz : kz K = 0) : ∀ (n : Nat) (l1 : Int64) (l3 : Int32) (l4 : Int32) (σ : OM), fX10_allCould_b5 n l1 l3 l4 σ = some (r0, σ0) → Go K 5 [.ref 81, .long l1, .null, .int l3, .int l4] [] σ := by
  intro n
  induction n with
  | zero =>
    intro l1 l3 l4 σ h
    cases h
  | succ n ih =>
    intro l1 l3 l4 σ h
    rw [fX10_allCould_b5] at h
    refine go_iload hc dX10_allCould_5 rfl ?_
    refine go_aload_n hc dX10_allCould_7 rfl rfl ?_
    refine go_getC (b := 84) rfl hc ho flX10_20 dX10_allCould_8 ok_81 ?_
    refine go_bipush hc dX10_allCould_11 cb_7 ?_
    refine go_iald hc dX10_allCould_13 ok_84 ol_84 (by decide +kernel) cn_7 ?_
    refine go_icmp_ge (tgt := 38) hc dX10_allCould_14 rfl (fun hh => ?_) (fun hh => ?_)
    · rw [if_pos hh] at h
      refine go_iload_n hc dX10_allCould_38 rfl rfl ?_
      exact go_iret hc (oend_i h hE) hr dX10_allCould_39
    · rw [if_neg hh] at h
      refine go_iload_n hc dX10_allCould_17 rfl rfl ?_
      refine go_aload_n hc dX10_allCould_18 rfl rfl ?_
      refine go_iload hc dX10_allCould_19 rfl ?_
      refine go_lload_n hc dX10_allCould_21 rfl rfl ?_
      refine go_iconst hc dX10_allCould_22 ci_0 ?_
      obtain ⟨r1, σ2, hf3, h⟩ := obi_some h
      refine go_callVi hc ho cmX10_couldOf mlX10_354 dX10_allCould_23 ok_81 (As := [.int l4, .long l1, .int (0 : Int32)]) (rest := [.int l3]) (rX10_couldOf (N := 0) hf3 (Nat.le_refl _)) rfl (Nat.le_trans (Nat.le_of_ble_eq_true rfl) hN) rfl (Nat.le_of_ble_eq_true rfl) (Or.inl hz) ?_
      refine go_i2l hc dX10_allCould_26 ?_
      obtain ⟨r4, σ5, hf6, h⟩ := obi_some h
      refine go_callSi hc ho cmX10_ones mlX10_291 dX10_allCould_27 (As := [.long r1.toInt64]) (rest := [.int l3]) (rX10_ones (N := 0) hf6 (Nat.le_refl _)) rfl (Nat.le_trans (Nat.le_of_ble_eq_true rfl) hN) rfl (Nat.le_of_ble_eq_true rfl) (Or.inl hz) ?_
      refine go_iadd hc dX10_allCould_30 ?_
      refine go_istore_n hc (lv1 := [.ref 81, .long l1, .null, .int (l3 + r4), .int l4]) dX10_allCould_31 rfl hL (by decide) (fun _ _ e => by cases e; rfl) rfl ?_
      refine go_iinc hc (lv1 := [.ref 81, .long l1, .null, .int (l3 + r4), .int (l4 + 1)]) dX10_allCould_32 rfl ci_1 hL (by decide) (fun _ _ e => by cases e; rfl) rfl ?_
      refine go_goto (tgt := 5) hc dX10_allCould_35 rfl ?_
      exact ih l1 (l3 + r4) (l4 + 1) _ h
def fX10_allCould (x0 : Int64) (σ : OM) : Option (Int32 × OM) :=
  fX10_allCould_b5 oF x0 (0 : Int32) (0 : Int32) σ
set_option maxRecDepth 100000 in
set_option maxHeartbeats 4000000 in
theorem rX10_allCould {N : Nat} {x0 : Int64} {σ : OM} {r0 : Int32} {σ0 : OM} (h : fX10_allCould x0 σ = some (r0, σ0)) (hN0 : 1 ≤ N) : oEv N MX10_allCould [.ref 81, .long x0] σ (some (.int r0)) σ0 := by
  refine oEv_of (lv := [.ref 81, .long x0, .null, .null, .null]) (by decide +kernel) (fun g q hq => hq) (fun g => Nat.le_of_ble_eq_true rfl) ?_
  intro K hc ho hL hN1 hr hE hz
  have hN : 1 ≤ kN K := by rw [hN1]; exact hN0
  unfold fX10_allCould at h
  refine go_iconst hc dX10_allCould_0 ci_0 ?_
  refine go_istore_n hc (lv1 := [.ref 81, .long x0, .null, .int (0 : Int32), .null]) dX10_allCould_1 rfl hL (by decide) (fun _ _ e => by cases e; rfl) rfl ?_
  refine go_iconst hc dX10_allCould_2 ci_0 ?_
  refine go_istore hc (lv1 := [.ref 81, .long x0, .null, .int (0 : Int32), .int (0 : Int32)]) dX10_allCould_3 hL (by decide) (fun _ _ e => by cases e; rfl) rfl ?_
  exact rX10_allCould_b5 hc ho hL hN hr hE hz oF x0 (0 : Int32) (0 : Int32) _ h
def fX10_tells_b35 : Nat → Int64 → Int32 → Int64 → Int32 → OM → Option (Int32 × OM)
  | 0, _, _, _, _, _ => none
  | n + 1, l1, l3, l4, l6, σ =>
    if (mI σ 84 5) ≤ l6 then (
     some (l3, σ))
    else (ogd (oin l6 9) (
    obi (fX10_allCould (l1 &&& (mL σ 86 l6.toNatClampNeg)) σ) (fun r2 σ3 =>
    ogd (oin l6 9) (
    obi (fX10_allCould (l1 &&& ((mL σ3 86 l6.toNatClampNeg) ^^^ ((-1) : Int64))) σ3) (fun r6 σ7 =>
    obi (fX10_greater r2.toInt64 r6.toInt64 σ7) (fun r9 σ10 =>
    if (lg_cmp r9 l4) < 0 then (
     fX10_tells_b35 n l1 l6 r9 (l6 + 1) σ10)
    else (fX10_tells_b35 n l1 l3 l4 (l6 + 1) σ10)))))))
set_option maxRecDepth 100000 in
set_option maxHeartbeats 4000000 in
theorem rX10_tells_b35 {K : OK} (hc : kcc K = cX10_tells) (ho : kow K = RX10) (hL : knL K = 9) (hN : 6 ≤ kN K) (hr : (kme K).sig.returnType = (some .int)) {r0 : Int32} {σ0 : OM} (hE : oEnd K (some (.int r0)) σ0) (hz : kz K = 0) : ∀ (n : Nat) (l1 : Int64) (l3 : Int32) (l4 : Int64) (l6 : Int32) (σ : OM), fX10_tells_b35 n l1 l3 l4 l6 σ = some (r0, σ0) → Go K 35 [.ref 81, .long l1, .null, .int l3, .long l4, .null, .int l6, .null, .null] [] σ := by
  intro n
  induction n with
  | zero =>
    intro l1 l3 l4 l6 σ h
    cases h
  | succ n ih =>
    intro l1 l3 l4 l6 σ h
    rw [fX10_tells_b35] at h
    refine go_iload hc dX10_tells_35 rfl ?_
    refine go_aload_n hc dX10_tells_37 rfl rfl ?_
    refine go_getC (b := 84) rfl hc ho flX10_20 dX10_tells_38 ok_81 ?_
    refine go_iconst hc dX10_tells_41 ci_5 ?_
    refine go_iald hc dX10_tells_42 ok_84 ol_84 (by decide +kernel) cn_5 ?_
    refine go_icmp_ge (tgt := 107) hc dX10_tells_43 rfl (fun hh => ?_) (fun hh => ?_)
    · rw [if_pos hh] at h
      refine go_iload_n hc dX10_tells_107 rfl rfl ?_
      exact go_iret hc (oend_i h hE) hr dX10_tells_108
    · rw [if_neg hh] at h
      refine go_aload_n hc dX10_tells_46 rfl rfl ?_
      refine go_lload_n hc dX10_tells_47 rfl rfl ?_
      refine go_aload_n hc dX10_tells_48 rfl rfl ?_
      refine go_getC (b := 86) rfl hc ho flX10_26 dX10_tells_49 ok_81 ?_
      refine go_iload hc dX10_tells_52 rfl ?_
      obtain ⟨hg1, h⟩ := ogd_some h
      refine go_lald hc dX10_tells_54 ok_86 ol_86 hg1 rfl ?_
      refine go_land hc dX10_tells_55 ?_
      obtain ⟨r2, σ3, hf4, h⟩ := obi_some h
      refine go_callVi hc ho cmX10_allCould mlX10_371 dX10_tells_56 ok_81 (As := [.long (l1 &&& (mL σ 86 l6.toNatClampNeg))]) (rest := []) (rX10_allCould (N := 1) hf4 (Nat.le_refl _)) rfl (Nat.le_trans (Nat.le_of_ble_eq_true rfl) hN) rfl (Nat.le_of_ble_eq_true rfl) (Or.inl hz) ?_
      refine go_i2l hc dX10_tells_59 ?_
      refine go_aload_n hc dX10_tells_60 rfl rfl ?_
      refine go_lload_n hc dX10_tells_61 rfl rfl ?_
      refine go_aload_n hc dX10_tells_62 rfl rfl ?_
      refine go_getC (b := 86) rfl hc ho flX10_26 dX10_tells_63 ok_81 ?_
      refine go_iload hc dX10_tells_66 rfl ?_
      obtain ⟨hg5, h⟩ := ogd_some h
      refine go_lald hc dX10_tells_68 ok_86 ol_86 hg5 rfl ?_
      refine go_ldc2 hc ho klX10_181 dX10_tells_69 ?_
      refine go_lxor hc dX10_tells_72 ?_
      refine go_land hc dX10_tells_73 ?_
      obtain ⟨r6, σ7, hf8, h⟩ := obi_some h
      refine go_callVi hc ho cmX10_allCould mlX10_371 dX10_tells_74 ok_81 (As := [.long (l1 &&& ((mL σ3 86 l6.toNatClampNeg) ^^^ ((-1) : Int64)))]) (rest := [.long r2.toInt64]) (rX10_allCould (N := 1) hf8 (Nat.le_refl _)) rfl (Nat.le_trans (Nat.le_of_ble_eq_true rfl) hN) rfl (Nat.le_of_ble_eq_true rfl) (Or.inl hz) ?_
      refine go_i2l hc dX10_tells_77 ?_
      obtain ⟨r9, σ10, hf11, h⟩ := obi_some h
      refine go_callSl hc ho cmX10_greater mlX10_358 dX10_tells_78 (As := [.long r2.toInt64, .long r6.toInt64]) (rest := []) (rX10_greater (N := 0) hf11 (Nat.le_refl _)) rfl (Nat.le_trans (Nat.le_of_ble_eq_true rfl) hN) rfl (Nat.le_of_ble_eq_true rfl) (Or.inl hz) ?_
      refine go_lstore hc (lv1 := [.ref 81, .long l1, .null, .int l3, .long l4, .null, .int l6, .long r9, .null]) dX10_tells_81 hL (by decide) (fun _ _ e => by cases e; rfl) rfl ?_
      refine go_lload hc dX10_tells_83 rfl ?_
      refine go_lload hc dX10_tells_85 rfl ?_
      refine go_lcmp hc dX10_tells_87 ?_
      refine go_if_lt (tgt := 94) hc dX10_tells_88 rfl (fun hh => ?_) (fun hh => ?_)
      · rw [if_pos hh] at h
        refine go_iload hc dX10_tells_94 rfl ?_
        refine go_istore_n hc (lv1 := [.ref 81, .long l1, .null, .int l6, .long l4, .null, .int l6, .long r9, .null]) dX10_tells_96 rfl hL (by decide) (fun _ _ e => by cases e; rfl) rfl ?_
        refine go_lload hc dX10_tells_97 rfl ?_
        refine go_lstore hc (lv1 := [.ref 81, .long l1, .null, .int l6, .long r9, .null, .int l6, .long r9, .null]) dX10_tells_99 hL (by decide) (fun _ _ e => by cases e; rfl) rfl ?_
        refine go_iinc hc (lv1 := [.ref 81, .long l1, .null, .int l6, .long r9, .null, .int (l6 + 1), .long r9, .null]) dX10_tells_101 rfl ci_1 hL (by decide) (fun _ _ e => by cases e; rfl) rfl ?_
        refine go_goto (tgt := 35) hc dX10_tells_104 rfl ?_
        refine go_mask [true, true, false, true, true, false, true, false, false] (lv1 := [.ref 81, .long l1, .null, .int l6, .long r9, .null, .int (l6 + 1), .null, .null]) rfl ?_
        exact ih l1 l6 r9 (l6 + 1) _ h
      · rw [if_neg hh] at h
        refine go_goto (tgt := 101) hc dX10_tells_91 rfl ?_
        refine go_iinc hc (lv1 := [.ref 81, .long l1, .null, .int l3, .long l4, .null, .int (l6 + 1), .long r9, .null]) dX10_tells_101 rfl ci_1 hL (by decide) (fun _ _ e => by cases e; rfl) rfl ?_
        refine go_goto (tgt := 35) hc dX10_tells_104 rfl ?_
        refine go_mask [true, true, false, true, true, false, true, false, false] (lv1 := [.ref 81, .long l1, .null, .int l3, .long l4, .null, .int (l6 + 1), .null, .null]) rfl ?_
        exact ih l1 l3 l4 (l6 + 1) _ h
def fX10_tells (σ : OM) : Option (Int32 × OM) :=
  obv (fX10_good σ) (fun σ2 =>
  if (mI σ2 81 14) = 0 then (
   obi (fX10_no (1 : Int32) σ2) (fun r7 σ8 =>
   some (r7, σ8)))
  else (obi (fX10_knownSet (63 : Int32) σ2) (fun r4 σ5 =>
  fX10_tells_b35 oF r4 ((-2) : Int32) (1000000 : Int64) (0 : Int32) σ5)))
set_option maxRecDepth 100000 in
set_option maxHeartbeats 4000000 in
theorem rX10_tells {N : Nat} {σ : OM} {r0 : Int32} {σ0 : OM} (h : fX10_tells σ = some (r0, σ0)) (hN0 : 6 ≤ N) : oEv N MX10_tells [.ref 81] σ (some (.int r0)) σ0 := by
  refine oEv_of (lv := [.ref 81, .null, .null, .null, .null, .null, .null, .null, .null]) (by decide +kernel) (fun g q hq => hq) (fun g => Nat.le_of_ble_eq_true rfl) ?_
  intro K hc ho hL hN1 hr hE hz
  have hN : 6 ≤ kN K := by rw [hN1]; exact hN0
  unfold fX10_tells at h
  refine go_aload_n hc dX10_tells_0 rfl rfl ?_
  obtain ⟨σ2, hf3, h⟩ := obv_some h
  refine go_callVv hc ho cmX10_good mlX10_199 dX10_tells_1 ok_81 (As := []) (rest := []) (rX10_good (N := 0) hf3 (Nat.le_refl _)) rfl (Nat.le_trans (Nat.le_of_ble_eq_true rfl) hN) rfl (Nat.le_of_ble_eq_true rfl) (Or.inl hz) ?_
  refine go_aload_n hc dX10_tells_4 rfl rfl ?_
  refine go_getI hc ho flX10_212 dX10_tells_5 ok_81 ?_
  refine go_if_ne (tgt := 17) hc dX10_tells_8 rfl (fun hh => ?_) (fun hh => ?_)
  · rw [if_neg hh] at h
    refine go_aload_n hc dX10_tells_17 rfl rfl ?_
    refine go_bipush hc dX10_tells_18 cb_63 ?_
    obtain ⟨r4, σ5, hf6, h⟩ := obi_some h
    refine go_callVl hc ho cmX10_knownSet mlX10_336 dX10_tells_20 ok_81 (As := [.int (63 : Int32)]) (rest := []) (rX10_knownSet (N := 5) hf6 (Nat.le_refl _)) rfl (Nat.le_trans (Nat.le_of_ble_eq_true rfl) hN) rfl (Nat.le_of_ble_eq_true rfl) (Or.inl hz) ?_
    refine go_lstore_n hc (lv1 := [.ref 81, .long r4, .null, .null, .null, .null, .null, .null, .null]) dX10_tells_23 rfl hL (by decide) (fun _ _ e => by cases e; rfl) rfl ?_
    refine go_bipush hc dX10_tells_24 cb_m2 ?_
    refine go_istore_n hc (lv1 := [.ref 81, .long r4, .null, .int ((-2) : Int32), .null, .null, .null, .null, .null]) dX10_tells_26 rfl hL (by decide) (fun _ _ e => by cases e; rfl) rfl ?_
    refine go_ldc2 hc ho klX10_369 dX10_tells_27 ?_
    refine go_lstore hc (lv1 := [.ref 81, .long r4, .null, .int ((-2) : Int32), .long (1000000 : Int64), .null, .null, .null, .null]) dX10_tells_30 hL (by decide) (fun _ _ e => by cases e; rfl) rfl ?_
    refine go_iconst hc dX10_tells_32 ci_0 ?_
    refine go_istore hc (lv1 := [.ref 81, .long r4, .null, .int ((-2) : Int32), .long (1000000 : Int64), .null, .int (0 : Int32), .null, .null]) dX10_tells_33 hL (by decide) (fun _ _ e => by cases e; rfl) rfl ?_
    exact rX10_tells_b35 hc ho hL hN hr hE hz oF r4 ((-2) : Int32) (1000000 : Int64) (0 : Int32) _ h
  · rw [if_pos hh] at h
    refine go_aload_n hc dX10_tells_11 rfl rfl ?_
    refine go_iconst hc dX10_tells_12 ci_1 ?_
    obtain ⟨r7, σ8, hf9, h⟩ := obi_some h
    refine go_callVi hc ho cmX10_no mlX10_202 dX10_tells_13 ok_81 (As := [.int (1 : Int32)]) (rest := []) (rX10_no (N := 0) hf9 (Nat.le_refl _)) rfl (Nat.le_trans (Nat.le_of_ble_eq_true rfl) hN) rfl (Nat.le_of_ble_eq_true rfl) (Or.inl hz) ?_
    exact go_iret hc (oend_i h hE) hr dX10_tells_16
def fX10_isPair (x0 : Int32) (x1 : Int32) (σ : OM) : Option (Int32 × OM) :=
  obi (fX10_isHouse x0 σ) (fun r1 σ2 =>
  if r1 = 0 then (
   some ((0 : Int32), σ2))
  else (obi (fX10_isQuestion x1 σ2) (fun r4 σ5 =>
  if r4 = 0 then (
   some ((0 : Int32), σ5))
  else (some ((1 : Int32), σ5)))))
set_option maxRecDepth 100000 in
set_option maxHeartbeats 4000000 in
theorem rX10_isPair {N : Nat} {x0 : Int32} {x1 : Int32} {σ : OM} {r0 : Int32} {σ0 : OM} (h : fX10_isPair x0 x1 σ = some (r0, σ0)) (hN0 : 2 ≤ N) : oEv N MX10_isPair [.ref 81, .int x0, .int x1] σ (some (.int r0)) σ0 := by
  refine oEv_of (lv := [.ref 81, .int x0, .int x1]) (by decide +kernel) (fun g q hq => hq) (fun g => Nat.le_of_ble_eq_true rfl) ?_
  intro K hc ho hL hN1 hr hE hz
  have hN : 2 ≤ kN K := by rw [hN1]; exact hN0
  unfold fX10_isPair at h
  refine go_aload_n hc dX10_isPair_0 rfl rfl ?_
  refine go_iload_n hc dX10_isPair_1 rfl rfl ?_
  obtain ⟨r1, σ2, hf3, h⟩ := obi_some h
  refine go_callVi hc ho cmX10_isHouse mlX10_323 dX10_isPair_2 ok_81 (As := [.int x0]) (rest := []) (rX10_isHouse (N := 1) hf3 (Nat.le_refl _)) rfl (Nat.le_trans (Nat.le_of_ble_eq_true rfl) hN) rfl (Nat.le_of_ble_eq_true rfl) (Or.inl hz) ?_
  refine go_if_eq (tgt := 20) hc dX10_isPair_5 rfl (fun hh => ?_) (fun hh => ?_)
  · rw [if_pos hh] at h
    refine go_iconst hc dX10_isPair_20 ci_0 ?_
    exact go_zret hc (oend_i h hE) hr rfl dX10_isPair_21
  · rw [if_neg hh] at h
    refine go_aload_n hc dX10_isPair_8 rfl rfl ?_
    refine go_iload_n hc dX10_isPair_9 rfl rfl ?_
    obtain ⟨r4, σ5, hf6, h⟩ := obi_some h
    refine go_callVi hc ho cmX10_isQuestion mlX10_298 dX10_isPair_10 ok_81 (As := [.int x1]) (rest := []) (rX10_isQuestion (N := 1) hf6 (Nat.le_refl _)) rfl (Nat.le_trans (Nat.le_of_ble_eq_true rfl) hN) rfl (Nat.le_of_ble_eq_true rfl) (Or.inl hz) ?_
    refine go_if_eq (tgt := 20) hc dX10_isPair_13 rfl (fun hh => ?_) (fun hh => ?_)
    · rw [if_pos hh] at h
      refine go_iconst hc dX10_isPair_20 ci_0 ?_
      exact go_zret hc (oend_i h hE) hr rfl dX10_isPair_21
    · rw [if_neg hh] at h
      refine go_iconst hc dX10_isPair_16 ci_1 ?_
      refine go_goto (tgt := 21) hc dX10_isPair_17 rfl ?_
      exact go_zret hc (oend_i h hE) hr rfl dX10_isPair_21
def fX10_layPlans_b7 : Nat → Int32 → OM → Option OM
  | 0, _, _ => none
  | n + 1, l2, σ =>
    if (6561 : Int32) ≤ l2 then (
     some σ)
    else (ogd (oin l2 6561) (
    ogd (oin l2 6561) (
    fX10_layPlans_b7 n (l2 + 1) (sL (sI σ 91 l2.toNatClampNeg ((-1) : Int32)) 92 l2.toNatClampNeg ((-1) : Int64)))))
set_option maxRecDepth 100000 in
set_option maxHeartbeats 4000000 in
theorem rX10_layPlans_b7 {K : OK} (hc : kcc K = cX10_layPlans) (ho : kow K = RX10) (hL : knL K = 3) (hN : 0 ≤ kN K) (hr : (kme K).sig.returnType = none) {σ0 : OM} (hE : oEnd K (none) σ0) (hz : kz K = 0) : ∀ (n : Nat) (l2 : Int32) (σ : OM), fX10_layPlans_b7 n l2 σ = some σ0 → Go K 7 [.ref 81, .null, .int l2] [] σ := by
  intro n
  induction n with
  | zero =>
    intro l2 σ h
    cases h
  | succ n ih =>
    intro l2 σ h
    rw [fX10_layPlans_b7] at h
    refine go_iload_n hc dX10_layPlans_7 rfl rfl ?_
    refine go_sipush hc dX10_layPlans_8 cs_6561 ?_
    refine go_icmp_ge (tgt := 36) hc dX10_layPlans_11 rfl (fun hh => ?_) (fun hh => ?_)
    · rw [if_pos hh] at h
      exact go_vret hc (oend_v h hE) hr dX10_layPlans_36
    · rw [if_neg hh] at h
      refine go_aload_n hc dX10_layPlans_14 rfl rfl ?_
      refine go_getC (b := 91) rfl hc ho flX10_42 dX10_layPlans_15 ok_81 ?_
      refine go_iload_n hc dX10_layPlans_18 rfl rfl ?_
      refine go_iconst hc dX10_layPlans_19 ci_m1 ?_
      obtain ⟨hg1, h⟩ := ogd_some h
      refine go_iast hc dX10_layPlans_20 ok_91 ol_91 hg1 rfl ?_
      refine go_aload_n hc dX10_layPlans_21 rfl rfl ?_
      refine go_getC (b := 92) rfl hc ho flX10_45 dX10_layPlans_22 ok_81 ?_
      refine go_iload_n hc dX10_layPlans_25 rfl rfl ?_
      refine go_ldc2 hc ho klX10_181 dX10_layPlans_26 ?_
      obtain ⟨hg2, h⟩ := ogd_some h
      refine go_last hc dX10_layPlans_29 ok_92 ol_92 hg2 rfl ?_
      refine go_iinc hc (lv1 := [.ref 81, .null, .int (l2 + 1)]) dX10_layPlans_30 rfl ci_1 hL (by decide) (fun _ _ e => by cases e; rfl) rfl ?_
      refine go_goto (tgt := 7) hc dX10_layPlans_33 rfl ?_
      exact ih (l2 + 1) _ h
def fX10_layPlans (x0 : Int32) (σ : OM) : Option OM :=
  fX10_layPlans_b7 oF (0 : Int32) (sI σ 81 28 x0)
set_option maxRecDepth 100000 in
set_option maxHeartbeats 4000000 in
theorem rX10_layPlans {N : Nat} {x0 : Int32} {σ : OM} {σ0 : OM} (h : fX10_layPlans x0 σ = some σ0) (hN0 : 0 ≤ N) : oEv N MX10_layPlans [.ref 81, .int x0] σ (none) σ0 := by
  refine oEv_of (lv := [.ref 81, .int x0, .null]) (by decide +kernel) (fun g q hq => hq) (fun g => Nat.le_of_ble_eq_true rfl) ?_
  intro K hc ho hL hN1 hr hE hz
  have hN : 0 ≤ kN K := by rw [hN1]; exact hN0
  unfold fX10_layPlans at h
  refine go_aload_n hc dX10_layPlans_0 rfl rfl ?_
  refine go_iload_n hc dX10_layPlans_1 rfl rfl ?_
  refine go_putI hc ho fpX10_374 dX10_layPlans_2 ok_81 (fun g => oni g _) (fun _ => rfl) ?_
  refine go_iconst hc dX10_layPlans_5 ci_0 ?_
  refine go_istore_n hc (lv1 := [.ref 81, .int x0, .int (0 : Int32)]) dX10_layPlans_6 rfl hL (by decide) (fun _ _ e => by cases e; rfl) rfl ?_
  refine go_mask [true, false, true] (lv1 := [.ref 81, .null, .int (0 : Int32)]) rfl ?_
  exact rX10_layPlans_b7 hc ho hL hN hr hE hz oF (0 : Int32) _ h
def fX10_third_b4 : Nat → Int32 → Int32 → Int32 → OM → Option (Int32 × OM)
  | 0, _, _, _, _ => none
  | n + 1, l0, l1, l2, σ =>
    if l0 ≤ l2 then (
     some (l1, σ))
    else (fX10_third_b4 n l0 (l1 * (3 : Int32)) (l2 + 1) σ)
set_option maxRecDepth 100000 in
set_option maxHeartbeats 4000000 in
theorem rX10_third_b4 {K : OK} (hc : kcc K = cX10_third) (ho : kow K = RX10) (hL : knL K = 3) (hN : 0 ≤ kN K) (hr : (kme K).sig.returnType = (some .int)) {r0 : Int32} {σ0 : OM} (hE : oEnd K (some (.int r0)) σ0) (hz : kz K = 0) : ∀ (n : Nat) (l0 : Int32) (l1 : Int32) (l2 : Int32) (σ : OM), fX10_third_b4 n l0 l1 l2 σ = some (r0, σ0) → Go K 4 [.int l0, .int l1, .int l2] [] σ := by
  intro n
  induction n with
  | zero =>
    intro l0 l1 l2 σ h
    cases h
  | succ n ih =>
    intro l0 l1 l2 σ h
    rw [fX10_third_b4] at h
    refine go_iload_n hc dX10_third_4 rfl rfl ?_
    refine go_iload_n hc dX10_third_5 rfl rfl ?_
    refine go_icmp_ge (tgt := 19) hc dX10_third_6 rfl (fun hh => ?_) (fun hh => ?_)
    · rw [if_pos hh] at h
      refine go_iload_n hc dX10_third_19 rfl rfl ?_
      exact go_iret hc (oend_i h hE) hr dX10_third_20
    · rw [if_neg hh] at h
      refine go_iload_n hc dX10_third_9 rfl rfl ?_
      refine go_iconst hc dX10_third_10 ci_3 ?_
      refine go_imul hc dX10_third_11 ?_
      refine go_istore_n hc (lv1 := [.int l0, .int (l1 * (3 : Int32)), .int l2]) dX10_third_12 rfl hL (by decide) (fun _ _ e => by cases e; rfl) rfl ?_
      refine go_iinc hc (lv1 := [.int l0, .int (l1 * (3 : Int32)), .int (l2 + 1)]) dX10_third_13 rfl ci_1 hL (by decide) (fun _ _ e => by cases e; rfl) rfl ?_
      refine go_goto (tgt := 4) hc dX10_third_16 rfl ?_
      exact ih l0 (l1 * (3 : Int32)) (l2 + 1) _ h
def fX10_third (x0 : Int32) (σ : OM) : Option (Int32 × OM) :=
  fX10_third_b4 oF x0 (1 : Int32) (0 : Int32) σ
set_option maxRecDepth 100000 in
set_option maxHeartbeats 4000000 in
theorem rX10_third {N : Nat} {x0 : Int32} {σ : OM} {r0 : Int32} {σ0 : OM} (h : fX10_third x0 σ = some (r0, σ0)) (hN0 : 0 ≤ N) : oEv N MX10_third [.int x0] σ (some (.int r0)) σ0 := by
  refine oEv_of (lv := [.int x0, .null, .null]) (by decide +kernel) (fun g q hq => hq) (fun g => Nat.le_of_ble_eq_true rfl) ?_
  intro K hc ho hL hN1 hr hE hz
  have hN : 0 ≤ kN K := by rw [hN1]; exact hN0
  unfold fX10_third at h
  refine go_iconst hc dX10_third_0 ci_1 ?_
  refine go_istore_n hc (lv1 := [.int x0, .int (1 : Int32), .null]) dX10_third_1 rfl hL (by decide) (fun _ _ e => by cases e; rfl) rfl ?_
  refine go_iconst hc dX10_third_2 ci_0 ?_
  refine go_istore_n hc (lv1 := [.int x0, .int (1 : Int32), .int (0 : Int32)]) dX10_third_3 rfl hL (by decide) (fun _ _ e => by cases e; rfl) rfl ?_
  exact rX10_third_b4 hc ho hL hN hr hE hz oF x0 (1 : Int32) (0 : Int32) _ h
