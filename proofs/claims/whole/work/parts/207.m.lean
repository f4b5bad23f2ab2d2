def fX10_doesTell (x0 : Int64) (x1 : Int32) (σ : OM) : Option (Int32 × OM) :=
  if x1 = (mI σ 81 28) then (
   some ((0 : Int32), σ))
  else (ogd (oin x1 9) (
  if (lg_cmp (x0 &&& (mL σ 86 x1.toNatClampNeg)) (0 : Int64)) = 0 then (
   some ((0 : Int32), σ))
  else (ogd (oin x1 9) (
  if (lg_cmp (x0 &&& ((mL σ 86 x1.toNatClampNeg) ^^^ ((-1) : Int64))) (0 : Int64)) = 0 then (
   some ((0 : Int32), σ))
  else (some ((1 : Int32), σ))))))
set_option maxRecDepth 100000 in
set_option maxHeartbeats 4000000 in
theorem rX10_doesTell {N : Nat} {x0 : Int64} {x1 : Int32} {σ : OM} {r0 : Int32} {σ0 : OM} (h : fX10_doesTell x0 x1 σ = some (r0, σ0)) (hN0 : 0 ≤ N) : oEv N MX10_doesTell [.ref 81, .long x0, .int x1] σ (some (.int r0)) σ0 := by
  refine oEv_of (lv := [.ref 81, .long x0, .null, .int x1]) (by decide +kernel) (fun g q hq => hq) (fun g => Nat.le_of_ble_eq_true rfl) ?_
  intro K hc ho hL hN1 hr hE hz
  have hN : 0 ≤ kN K := by rw [hN1]; exact hN0
  unfold fX10_doesTell at h
  refine go_iload_n hc dX10_doesTell_0 rfl rfl ?_
  refine go_aload_n hc dX10_doesTell_1 rfl rfl ?_
  refine go_getI hc ho flX10_374 dX10_doesTell_2 ok_81 ?_
  refine go_icmp_eq (tgt := 42) hc dX10_doesTell_5 rfl (fun hh => ?_) (fun hh => ?_)
  · rw [if_pos hh] at h
    refine go_iconst hc dX10_doesTell_42 ci_0 ?_
    exact go_zret hc (oend_i h hE) hr rfl dX10_doesTell_43
  · rw [if_neg hh] at h
    refine go_lload_n hc dX10_doesTell_8 rfl rfl ?_
    refine go_aload_n hc dX10_doesTell_9 rfl rfl ?_
    refine go_getC (b := 86) rfl hc ho flX10_26 dX10_doesTell_10 ok_81 ?_
    refine go_iload_n hc dX10_doesTell_13 rfl rfl ?_
    obtain ⟨hg1, h⟩ := ogd_some h
    refine go_lald hc dX10_doesTell_14 ok_86 ol_86 hg1 rfl ?_
    refine go_land hc dX10_doesTell_15 ?_
    refine go_lconst hc dX10_doesTell_16 cl_0 ?_
    refine go_lcmp hc dX10_doesTell_17 ?_
    refine go_if_eq (tgt := 42) hc dX10_doesTell_18 rfl (fun hh => ?_) (fun hh => ?_)
    · rw [if_pos hh] at h
      refine go_iconst hc dX10_doesTell_42 ci_0 ?_
      exact go_zret hc (oend_i h hE) hr rfl dX10_doesTell_43
    · rw [if_neg hh] at h
      refine go_lload_n hc dX10_doesTell_21 rfl rfl ?_
      refine go_aload_n hc dX10_doesTell_22 rfl rfl ?_
      refine go_getC (b := 86) rfl hc ho flX10_26 dX10_doesTell_23 ok_81 ?_
      refine go_iload_n hc dX10_doesTell_26 rfl rfl ?_
      obtain ⟨hg2, h⟩ := ogd_some h
      refine go_lald hc dX10_doesTell_27 ok_86 ol_86 hg2 rfl ?_
      refine go_ldc2 hc ho klX10_181 dX10_doesTell_28 ?_
      refine go_lxor hc dX10_doesTell_31 ?_
      refine go_land hc dX10_doesTell_32 ?_
      refine go_lconst hc dX10_doesTell_33 cl_0 ?_
      refine go_lcmp hc dX10_doesTell_34 ?_
      refine go_if_eq (tgt := 42) hc dX10_doesTell_35 rfl (fun hh => ?_) (fun hh => ?_)
      · rw [if_pos hh] at h
        refine go_iconst hc dX10_doesTell_42 ci_0 ?_
        exact go_zret hc (oend_i h hE) hr rfl dX10_doesTell_43
      · rw [if_neg hh] at h
        refine go_iconst hc dX10_doesTell_38 ci_1 ?_
        refine go_goto (tgt := 43) hc dX10_doesTell_39 rfl ?_
        exact go_zret hc (oend_i h hE) hr rfl dX10_doesTell_43
def fX10_byAsking (rc : Int32 → Int64 → OM → Option (Int32 × OM)) (x0 : Int32) (x1 : Int64) (x2 : Int32) (σ : OM) : Option (Int32 × OM) :=
  obi (fX10_third x2 σ) (fun r1 σ2 =>
  ogd (oin x2 9) (
  obi (rc (x0 + r1) (x1 &&& (mL σ2 86 x2.toNatClampNeg)) σ2) (fun r5 σ6 =>
  obi (fX10_third x2 σ6) (fun r8 σ9 =>
  ogd (oin x2 9) (
  obi (rc (x0 + ((2 : Int32) * r8)) (x1 &&& ((mL σ9 86 x2.toNatClampNeg) ^^^ ((-1) : Int64))) σ9) (fun r12 σ13 =>
  if r5 ≤ r12 then (
   if r12 < (1000000 : Int32) then (
    some ((r12 + (1 : Int32)), σ13))
   else (some ((1000000 : Int32), σ13)))
  else (if r5 < (1000000 : Int32) then (
   some ((r5 + (1 : Int32)), σ13))
  else (some ((1000000 : Int32), σ13)))))))))
set_option maxRecDepth 100000 in
set_option maxHeartbeats 4000000 in
theorem rX10_byAsking {ND : Nat} {rc : Int32 → Int64 → OM → Option (Int32 × OM)} (hB : 0 ≤ ND) (hrc : ∀ (x0 : Int32) (x1 : Int64) (σ : OM) (r : Int32) (σ1 : OM), rc x0 x1 σ = some (r, σ1) → oEv ND MX10_fewestOf [.ref 81, .int x0, .long x1] σ (some (.int r)) σ1) {N : Nat} {x0 : Int32} {x1 : Int64} {x2 : Int32} {σ : OM} {r0 : Int32} {σ0 : OM} (h : fX10_byAsking rc x0 x1 x2 σ = some (r0, σ0)) (hN0 : ND + 1 ≤ N) : oEv N MX10_byAsking [.ref 81, .int x0, .long x1, .int x2] σ (some (.int r0)) σ0 := by
  refine oEv_of (lv := [.ref 81, .int x0, .long x1, .null, .int x2, .null, .null, .null]) (by decide +kernel) (fun g q hq => hq) (fun g => Nat.le_of_ble_eq_true rfl) ?_
  intro K hc ho hL hN1 hr hE hz
  have hN : ND + 1 ≤ kN K := by rw [hN1]; exact hN0
  unfold fX10_byAsking at h
  refine go_aload_n hc dX10_byAsking_0 rfl rfl ?_
  refine go_iload_n hc dX10_byAsking_1 rfl rfl ?_
  refine go_iload hc dX10_byAsking_2 rfl ?_
  obtain ⟨r1, σ2, hf3, h⟩ := obi_some h
  refine go_callSi hc ho cmX10_third mlX10_386 dX10_byAsking_4 (As := [.int x2]) (rest := [.int x0, .ref 81]) (rX10_third (N := 0) hf3 (Nat.le_refl _)) rfl (by omega) rfl (Nat.le_of_ble_eq_true rfl) (Or.inl hz) ?_
  refine go_iadd hc dX10_byAsking_7 ?_
  refine go_lload_n hc dX10_byAsking_8 rfl rfl ?_
  refine go_aload_n hc dX10_byAsking_9 rfl rfl ?_
  refine go_getC (b := 86) rfl hc ho flX10_26 dX10_byAsking_10 ok_81 ?_
  refine go_iload hc dX10_byAsking_13 rfl ?_
  obtain ⟨hg4, h⟩ := ogd_some h
  refine go_lald hc dX10_byAsking_15 ok_86 ol_86 hg4 rfl ?_
  refine go_land hc dX10_byAsking_16 ?_
  obtain ⟨r5, σ6, hf7, h⟩ := obi_some h
  refine go_callVi hc ho cmX10_fewestOf mlX10_389 dX10_byAsking_17 ok_81 (As := [.int (x0 + r1), .long (x1 &&& (mL σ2 86 x2.toNatClampNeg))]) (rest := []) (hrc (x0 + r1) (x1 &&& (mL σ2 86 x2.toNatClampNeg)) _ _ _ hf7) rfl (by omega) rfl (Nat.le_of_ble_eq_true rfl) (Or.inl hz) ?_
  refine go_istore hc (lv1 := [.ref 81, .int x0, .long x1, .null, .int x2, .int r5, .null, .null]) dX10_byAsking_20 hL (by decide) (fun _ _ e => by cases e; rfl) rfl ?_
  refine go_aload_n hc dX10_byAsking_22 rfl rfl ?_
  refine go_iload_n hc dX10_byAsking_23 rfl rfl ?_
  refine go_iconst hc dX10_byAsking_24 ci_2 ?_
  refine go_iload hc dX10_byAsking_25 rfl ?_
  obtain ⟨r8, σ9, hf10, h⟩ := obi_some h
  refine go_callSi hc ho cmX10_third mlX10_386 dX10_byAsking_27 (As := [.int x2]) (rest := [.int (2 : Int32), .int x0, .ref 81]) (rX10_third (N := 0) hf10 (Nat.le_refl _)) rfl (by omega) rfl (Nat.le_of_ble_eq_true rfl) (Or.inl hz) ?_
  refine go_imul hc dX10_byAsking_30 ?_
  refine go_iadd hc dX10_byAsking_31 ?_
  refine go_lload_n hc dX10_byAsking_32 rfl rfl ?_
  refine go_aload_n hc dX10_byAsking_33 rfl rfl ?_
  refine go_getC (b := 86) rfl hc ho flX10_26 dX10_byAsking_34 ok_81 ?_
  refine go_iload hc dX10_byAsking_37 rfl ?_
  obtain ⟨hg11, h⟩ := ogd_some h
  refine go_lald hc dX10_byAsking_39 ok_86 ol_86 hg11 rfl ?_
  refine go_ldc2 hc ho klX10_181 dX10_byAsking_40 ?_
  refine go_lxor hc dX10_byAsking_43 ?_
  refine go_land hc dX10_byAsking_44 ?_
  obtain ⟨r12, σ13, hf14, h⟩ := obi_some h
  refine go_callVi hc ho cmX10_fewestOf mlX10_389 dX10_byAsking_45 ok_81 (As := [.int (x0 + ((2 : Int32) * r8)), .long (x1 &&& ((mL σ9 86 x2.toNatClampNeg) ^^^ ((-1) : Int64)))]) (rest := []) (hrc (x0 + ((2 : Int32) * r8)) (x1 &&& ((mL σ9 86 x2.toNatClampNeg) ^^^ ((-1) : Int64))) _ _ _ hf14) rfl (by omega) rfl (Nat.le_of_ble_eq_true rfl) (Or.inl hz) ?_
  refine go_istore hc (lv1 := [.ref 81, .int x0, .long x1, .null, .int x2, .int r5, .int r12, .null]) dX10_byAsking_48 hL (by decide) (fun _ _ e => by cases e; rfl) rfl ?_
  refine go_iload hc dX10_byAsking_50 rfl ?_
  refine go_iload hc dX10_byAsking_52 rfl ?_
  refine go_icmp_le (tgt := 62) hc dX10_byAsking_54 rfl (fun hh => ?_) (fun hh => ?_)
  · rw [if_pos hh] at h
    refine go_iload hc dX10_byAsking_62 rfl ?_
    refine go_istore hc (lv1 := [.ref 81, .int x0, .long x1, .null, .int x2, .int r5, .int r12, .int r12]) dX10_byAsking_64 hL (by decide) (fun _ _ e => by cases e; rfl) rfl ?_
    refine go_iload hc dX10_byAsking_66 rfl ?_
    refine go_ldcw hc ho kcX10_377 dX10_byAsking_68 ?_
    refine go_icmp_lt (tgt := 80) hc dX10_byAsking_71 rfl (fun hh => ?_) (fun hh => ?_)
    · rw [if_pos hh] at h
      refine go_iload hc dX10_byAsking_80 rfl ?_
      refine go_iconst hc dX10_byAsking_82 ci_1 ?_
      refine go_iadd hc dX10_byAsking_83 ?_
      exact go_iret hc (oend_i h hE) hr dX10_byAsking_84
    · rw [if_neg hh] at h
      refine go_ldcw hc ho kcX10_377 dX10_byAsking_74 ?_
      refine go_goto (tgt := 84) hc dX10_byAsking_77 rfl ?_
      exact go_iret hc (oend_i h hE) hr dX10_byAsking_84
  · rw [if_neg hh] at h
    refine go_iload hc dX10_byAsking_57 rfl ?_
    refine go_goto (tgt := 64) hc dX10_byAsking_59 rfl ?_
    refine go_istore hc (lv1 := [.ref 81, .int x0, .long x1, .null, .int x2, .int r5, .int r12, .int r5]) dX10_byAsking_64 hL (by decide) (fun _ _ e => by cases e; rfl) rfl ?_
    refine go_iload hc dX10_byAsking_66 rfl ?_
    refine go_ldcw hc ho kcX10_377 dX10_byAsking_68 ?_
    refine go_icmp_lt (tgt := 80) hc dX10_byAsking_71 rfl (fun hh => ?_) (fun hh => ?_)
    · rw [if_pos hh] at h
      refine go_iload hc dX10_byAsking_80 rfl ?_
      refine go_iconst hc dX10_byAsking_82 ci_1 ?_
      refine go_iadd hc dX10_byAsking_83 ?_
      exact go_iret hc (oend_i h hE) hr dX10_byAsking_84
    · rw [if_neg hh] at h
      refine go_ldcw hc ho kcX10_377 dX10_byAsking_74 ?_
      refine go_goto (tgt := 84) hc dX10_byAsking_77 rfl ?_
      exact go_iret hc (oend_i h hE) hr dX10_byAsking_84
def fX10_fewestOf_b99 (rc : Int32 → Int64 → OM → Option (Int32 × OM)) (l1 : Int32) (l4 : Int32) (σ : OM) : Option (Int32 × OM) :=
  ogd (oin l1 6561) (
  some (l4, sI σ 91 l1.toNatClampNeg l4))
set_option maxRecDepth 100000 in
set_option maxHeartbeats 4000000 in
theorem rX10_fewestOf_b99 {ND : Nat} {rc : Int32 → Int64 → OM → Option (Int32 × OM)} (hB : 0 ≤ ND) (hrc : ∀ (x0 : Int32) (x1 : Int64) (σ : OM) (r : Int32) (σ1 : OM), rc x0 x1 σ = some (r, σ1) → oEv ND MX10_fewestOf [.ref 81, .int x0, .long x1] σ (some (.int r)) σ1) {K : OK} (hc : kcc K = cX10_fewestOf) (ho : kow K = RX10) (hL : knL K = 6) (hN : ND + 2 ≤ kN K) (hr : (kme K).sig.returnType = (some .int)) {r0 : Int32} {σ0 : OM} (hE : oEnd K (some (.int r0)) σ0) (hz : kz K = 0) {l1 : Int32} {l4 : Int32} {σ : OM} (h : fX10_fewestOf_b99 rc l1 l4 σ = some (r0, σ0)) : Go K 99 [.ref 81, .int l1, .null, .null, .int l4, .null] [] σ := by
  unfold fX10_fewestOf_b99 at h
  refine go_aload_n hc dX10_fewestOf_99 rfl rfl ?_
  refine go_getC (b := 91) rfl hc ho flX10_42 dX10_fewestOf_100 ok_81 ?_
  refine go_iload_n hc dX10_fewestOf_103 rfl rfl ?_
  refine go_iload hc dX10_fewestOf_104 rfl ?_
  obtain ⟨hg1, h⟩ := ogd_some h
  refine go_iast hc dX10_fewestOf_106 ok_91 ol_91 hg1 rfl ?_
  refine go_iload hc dX10_fewestOf_107 rfl ?_
  exact go_iret hc (oend_i h hE) hr dX10_fewestOf_109
def fX10_fewestOf_b44 (rc : Int32 → Int64 → OM → Option (Int32 × OM)) : Nat → Int32 → Int64 → Int32 → Int32 → OM → Option (Int32 × OM)
  | 0, _, _, _, _, _ => none
  | n + 1, l1, l2, l4, l5, σ =>
    if (mI σ 84 5) ≤ l5 then (
     fX10_fewestOf_b99 rc l1 l4 σ)
    else (obi (fX10_doesTell l2 l5 σ) (fun r1 σ2 =>
    if r1 = 0 then (
     fX10_fewestOf_b44 rc n l1 l2 l4 (l5 + 1) σ2)
    else (obi (fX10_byAsking rc l1 l2 l5 σ2) (fun r4 σ5 =>
    if l4 ≤ r4 then (
     fX10_fewestOf_b44 rc n l1 l2 l4 (l5 + 1) σ5)
    else (obi (fX10_byAsking rc l1 l2 l5 σ5) (fun r7 σ8 =>
    fX10_fewestOf_b44 rc n l1 l2 r7 (l5 + 1) σ8))))))
set_option maxRecDepth 100000 in
set_option maxHeartbeats 4000000 in
theorem rX10_fewestOf_b44 {ND : Nat} {rc : Int32 → Int64 → OM → Option (Int32 × OM)} (hB : 0 ≤ ND) (hrc : ∀ (x0 : Int32) (x1 : Int64) (σ : OM) (r : Int32) (σ1 : OM), rc x0 x1 σ = some (r, σ1) → oEv ND MX10_fewestOf [.ref 81, .int x0, .long x1] σ (some (.int r)) σ1) {K : OK} (hc : kcc K = cX10_fewestOf) (ho : kow K = RX10) (hL : knL K = 6) (hN : ND + 2 ≤ kN K) (hr : (kme K).sig.returnType = (some .int)) {r0 : Int32} {σ0 : OM} (hE : oEnd K (some (.int r0)) σ0) (hz : kz K = 0) : ∀ (n : Nat) (l1 : Int32) (l2 : Int64) (l4 : Int32) (l5 : Int32) (σ : OM), fX10_fewestOf_b44 rc n l1 l2 l4 l5 σ = some (r0, σ0) → Go K 44 [.ref 81, .int l1, .long l2, .null, .int l4, .int l5] [] σ := by
  intro n
  induction n with
  | zero =>
    intro l1 l2 l4 l5 σ h
    cases h
  | succ n ih =>
    intro l1 l2 l4 l5 σ h
    rw [fX10_fewestOf_b44] at h
    refine go_iload hc dX10_fewestOf_44 rfl ?_
    refine go_aload_n hc dX10_fewestOf_46 rfl rfl ?_
    refine go_getC (b := 84) rfl hc ho flX10_20 dX10_fewestOf_47 ok_81 ?_
    refine go_iconst hc dX10_fewestOf_50 ci_5 ?_
    refine go_iald hc dX10_fewestOf_51 ok_84 ol_84 (by decide +kernel) cn_5 ?_
    refine go_icmp_ge (tgt := 99) hc dX10_fewestOf_52 rfl (fun hh => ?_) (fun hh => ?_)
    · rw [if_pos hh] at h
      refine go_mask [true, true, false, false, true, false] (lv1 := [.ref 81, .int l1, .null, .null, .int l4, .null]) rfl ?_
      exact rX10_fewestOf_b99 hB hrc hc ho hL hN hr hE hz h
    · rw [if_neg hh] at h
      refine go_aload_n hc dX10_fewestOf_55 rfl rfl ?_
      refine go_lload_n hc dX10_fewestOf_56 rfl rfl ?_
      refine go_iload hc dX10_fewestOf_57 rfl ?_
      obtain ⟨r1, σ2, hf3, h⟩ := obi_some h
      refine go_callVi hc ho cmX10_doesTell mlX10_378 dX10_fewestOf_59 ok_81 (As := [.long l2, .int l5]) (rest := []) (rX10_doesTell (N := 0) hf3 (Nat.le_refl _)) rfl (by omega) rfl (Nat.le_of_ble_eq_true rfl) (Or.inl hz) ?_
      refine go_if_eq (tgt := 93) hc dX10_fewestOf_62 rfl (fun hh => ?_) (fun hh => ?_)
      · rw [if_pos hh] at h
        refine go_iinc hc (lv1 := [.ref 81, .int l1, .long l2, .null, .int l4, .int (l5 + 1)]) dX10_fewestOf_93 rfl ci_1 hL (by decide) (fun _ _ e => by cases e; rfl) rfl ?_
        refine go_goto (tgt := 44) hc dX10_fewestOf_96 rfl ?_
        exact ih l1 l2 l4 (l5 + 1) _ h
      · rw [if_neg hh] at h
        refine go_aload_n hc dX10_fewestOf_65 rfl rfl ?_
        refine go_iload_n hc dX10_fewestOf_66 rfl rfl ?_
        refine go_lload_n hc dX10_fewestOf_67 rfl rfl ?_
        refine go_iload hc dX10_fewestOf_68 rfl ?_
        obtain ⟨r4, σ5, hf6, h⟩ := obi_some h
        refine go_callVi hc ho cmX10_byAsking mlX10_382 dX10_fewestOf_70 ok_81 (As := [.int l1, .long l2, .int l5]) (rest := []) (rX10_byAsking hB hrc (N := ND + 1) hf6 (Nat.le_refl _)) rfl (by omega) rfl (Nat.le_of_ble_eq_true rfl) (Or.inl hz) ?_
        refine go_iload hc dX10_fewestOf_73 rfl ?_
        refine go_icmp_ge (tgt := 89) hc dX10_fewestOf_75 rfl (fun hh => ?_) (fun hh => ?_)
        · rw [if_pos hh] at h
          refine go_iload hc dX10_fewestOf_89 rfl ?_
          refine go_istore hc (lv1 := [.ref 81, .int l1, .long l2, .null, .int l4, .int l5]) dX10_fewestOf_91 hL (by decide) (fun _ _ e => by cases e; rfl) rfl ?_
          refine go_iinc hc (lv1 := [.ref 81, .int l1, .long l2, .null, .int l4, .int (l5 + 1)]) dX10_fewestOf_93 rfl ci_1 hL (by decide) (fun _ _ e => by cases e; rfl) rfl ?_
          refine go_goto (tgt := 44) hc dX10_fewestOf_96 rfl ?_
          exact ih l1 l2 l4 (l5 + 1) _ h
        · rw [if_neg hh] at h
          refine go_aload_n hc dX10_fewestOf_78 rfl rfl ?_
          refine go_iload_n hc dX10_fewestOf_79 rfl rfl ?_
          refine go_lload_n hc dX10_fewestOf_80 rfl rfl ?_
          refine go_iload hc dX10_fewestOf_81 rfl ?_
          obtain ⟨r7, σ8, hf9, h⟩ := obi_some h
          refine go_callVi hc ho cmX10_byAsking mlX10_382 dX10_fewestOf_83 ok_81 (As := [.int l1, .long l2, .int l5]) (rest := []) (rX10_byAsking hB hrc (N := ND + 1) hf9 (Nat.le_refl _)) rfl (by omega) rfl (Nat.le_of_ble_eq_true rfl) (Or.inl hz) ?_
          refine go_goto (tgt := 91) hc dX10_fewestOf_86 rfl ?_
          refine go_istore hc (lv1 := [.ref 81, .int l1, .long l2, .null, .int r7, .int l5]) dX10_fewestOf_91 hL (by decide) (fun _ _ e => by cases e; rfl) rfl ?_
          refine go_iinc hc (lv1 := [.ref 81, .int l1, .long l2, .null, .int r7, .int (l5 + 1)]) dX10_fewestOf_93 rfl ci_1 hL (by decide) (fun _ _ e => by cases e; rfl) rfl ?_
          refine go_goto (tgt := 44) hc dX10_fewestOf_96 rfl ?_
          exact ih l1 l2 r7 (l5 + 1) _ h
def fX10_fewestOf_s (rc : Int32 → Int64 → OM → Option (Int32 × OM)) (x0 : Int32) (x1 : Int64) (σ : OM) : Option (Int32 × OM) :=
  ogd (oin (mI σ 81 28) 9) (
  obi (fX10_answerBy x1 (mL σ 86 ((mI σ 81 28).toNatClampNeg)) σ) (fun r2 σ3 =>
  if r2 = ((-2) : Int32) then (
   ogd (oin x0 6561) (
   if (mI σ3 91 x0.toNatClampNeg) < 0 then (
    fX10_fewestOf_b44 rc oF x0 x1 (1000000 : Int32) (0 : Int32) σ3)
   else (ogd (oin x0 6561) (
   some ((mI σ3 91 x0.toNatClampNeg), σ3)))))
  else (some ((0 : Int32), σ3))))
set_option maxRecDepth 100000 in
set_option maxHeartbeats 4000000 in
theorem rX10_fewestOf_s {ND : Nat} {rc : Int32 → Int64 → OM → Option (Int32 × OM)} (hB : 0 ≤ ND) (hrc : ∀ (x0 : Int32) (x1 : Int64) (σ : OM) (r : Int32) (σ1 : OM), rc x0 x1 σ = some (r, σ1) → oEv ND MX10_fewestOf [.ref 81, .int x0, .long x1] σ (some (.int r)) σ1) {N : Nat} {x0 : Int32} {x1 : Int64} {σ : OM} {r0 : Int32} {σ0 : OM} (h : fX10_fewestOf_s rc x0 x1 σ = some (r0, σ0)) (hN0 : ND + 2 ≤ N) : oEv N MX10_fewestOf [.ref 81, .int x0, .long x1] σ (some (.int r0)) σ0 := by
  refine oEv_of (lv := [.ref 81, .int x0, .long x1, .null, .null, .null]) (by decide +kernel) (fun g q hq => hq) (fun g => Nat.le_of_ble_eq_true rfl) ?_
  intro K hc ho hL hN1 hr hE hz
  have hN : ND + 2 ≤ kN K := by rw [hN1]; exact hN0
  unfold fX10_fewestOf_s at h
  refine go_lload_n hc dX10_fewestOf_0 rfl rfl ?_
  refine go_aload_n hc dX10_fewestOf_1 rfl rfl ?_
  refine go_getC (b := 86) rfl hc ho flX10_26 dX10_fewestOf_2 ok_81 ?_
  refine go_aload_n hc dX10_fewestOf_5 rfl rfl ?_
  refine go_getI hc ho flX10_374 dX10_fewestOf_6 ok_81 ?_
  obtain ⟨hg1, h⟩ := ogd_some h
  refine go_lald hc dX10_fewestOf_9 ok_86 ol_86 hg1 rfl ?_
  obtain ⟨r2, σ3, hf4, h⟩ := obi_some h
  refine go_callSi hc ho cmX10_answerBy mlX10_329 dX10_fewestOf_10 (As := [.long x1, .long (mL σ 86 ((mI σ 81 28).toNatClampNeg))]) (rest := []) (rX10_answerBy (N := 0) hf4 (Nat.le_refl _)) rfl (by omega) rfl (Nat.le_of_ble_eq_true rfl) (Or.inl hz) ?_
  refine go_bipush hc dX10_fewestOf_13 cb_m2 ?_
  refine go_icmp_eq (tgt := 20) hc dX10_fewestOf_15 rfl (fun hh => ?_) (fun hh => ?_)
  · rw [if_pos hh] at h
    refine go_aload_n hc dX10_fewestOf_20 rfl rfl ?_
    refine go_getC (b := 91) rfl hc ho flX10_42 dX10_fewestOf_21 ok_81 ?_
    refine go_iload_n hc dX10_fewestOf_24 rfl rfl ?_
    obtain ⟨hg5, h⟩ := ogd_some h
    refine go_iald hc dX10_fewestOf_25 ok_91 ol_91 hg5 rfl ?_
    refine go_if_lt (tgt := 36) hc dX10_fewestOf_26 rfl (fun hh => ?_) (fun hh => ?_)
    · rw [if_pos hh] at h
      refine go_ldcw hc ho kcX10_377 dX10_fewestOf_36 ?_
      refine go_istore hc (lv1 := [.ref 81, .int x0, .long x1, .null, .int (1000000 : Int32), .null]) dX10_fewestOf_39 hL (by decide) (fun _ _ e => by cases e; rfl) rfl ?_
      refine go_iconst hc dX10_fewestOf_41 ci_0 ?_
      refine go_istore hc (lv1 := [.ref 81, .int x0, .long x1, .null, .int (1000000 : Int32), .int (0 : Int32)]) dX10_fewestOf_42 hL (by decide) (fun _ _ e => by cases e; rfl) rfl ?_
      exact rX10_fewestOf_b44 hB hrc hc ho hL hN hr hE hz oF x0 x1 (1000000 : Int32) (0 : Int32) _ h
    · rw [if_neg hh] at h
      refine go_aload_n hc dX10_fewestOf_29 rfl rfl ?_
      refine go_getC (b := 91) rfl hc ho flX10_42 dX10_fewestOf_30 ok_81 ?_
      refine go_iload_n hc dX10_fewestOf_33 rfl rfl ?_
      obtain ⟨hg6, h⟩ := ogd_some h
      refine go_iald hc dX10_fewestOf_34 ok_91 ol_91 hg6 rfl ?_
      exact go_iret hc (oend_i h hE) hr dX10_fewestOf_35
  · rw [if_neg hh] at h
    refine go_iconst hc dX10_fewestOf_18 ci_0 ?_
    exact go_iret hc (oend_i h hE) hr dX10_fewestOf_19
def fX10_fewestOf : Nat → Int32 → Int64 → OM → Option (Int32 × OM)
  | 0, _, _, _ => none
  | n + 1, x0, x1, σ => fX10_fewestOf_s (fX10_fewestOf n) x0 x1 σ
theorem rX10_fewestOf : ∀ (n : Nat) (x0 : Int32) (x1 : Int64) (σ : OM) (r0 : Int32) (σ0 : OM) (N : Nat), fX10_fewestOf n x0 x1 σ = some (r0, σ0) → 0 + 2 * n ≤ N → oEv N MX10_fewestOf [.ref 81, .int x0, .long x1] σ (some (.int r0)) σ0 := by
  intro n
  induction n with
  | zero =>
    intro x0 x1 σ r0 σ0 N h hN
    cases h
  | succ n ih =>
    intro x0 x1 σ r0 σ0 N h hN
    rw [fX10_fewestOf] at h
    exact rX10_fewestOf_s (ND := 0 + 2 * n) (Nat.le_add_right _ _) (fun x0 x1 σ r σ1 hh => ih x0 x1 σ r σ1 _ hh (Nat.le_refl _)) h (by omega)
def fX10_fewest (x0 : Int32) (x1 : Int32) (σ : OM) : Option (Int32 × OM) :=
  obv (fX10_good σ) (fun σ2 =>
  obi (fX10_isPair x0 x1 σ2) (fun r4 σ5 =>
  if r4 = 0 then (
   obi (fX10_no (1 : Int32) σ5) (fun r19 σ20 =>
   some (r19, σ20)))
  else (obi (fX10_kinOf x0 σ5) (fun r7 σ8 =>
  obi (fX10_knownSet r7 σ8) (fun r10 σ11 =>
  if (lg_cmp r10 (0 : Int64)) = 0 then (
   some (((-2) : Int32), σ11))
  else (obv (fX10_layPlans x1 σ11) (fun σ14 =>
  obi (fX10_fewestOf oP (0 : Int32) r10 σ14) (fun r16 σ17 =>
  if r16 < (1000000 : Int32) then (
   some (r16, σ17))
  else (some (((-2) : Int32), σ17))))))))))
set_option maxRecDepth 100000 in
set_option maxHeartbeats 4000000 in
theorem rX10_fewest {N : Nat} {x0 : Int32} {x1 : Int32} {σ : OM} {r0 : Int32} {σ0 : OM} (h : fX10_fewest x0 x1 σ = some (r0, σ0)) (hN0 : 21 ≤ N) : oEv N MX10_fewest [.ref 81, .int x0, .int x1] σ (some (.int r0)) σ0 := by
  refine oEv_of (lv := [.ref 81, .int x0, .int x1, .null, .null, .null]) (by decide +kernel) (fun g q hq => hq) (fun g => Nat.le_of_ble_eq_true rfl) ?_
  intro K hc ho hL hN1 hr hE hz
  have hN : 21 ≤ kN K := by rw [hN1]; exact hN0
  unfold fX10_fewest at h
  refine go_aload_n hc dX10_fewest_0 rfl rfl ?_
  obtain ⟨σ2, hf3, h⟩ := obv_some h
  refine go_callVv hc ho cmX10_good mlX10_199 dX10_fewest_1 ok_81 (As := []) (rest := []) (rX10_good (N := 0) hf3 (Nat.le_refl _)) rfl (Nat.le_trans (Nat.le_of_ble_eq_true rfl) hN) rfl (Nat.le_of_ble_eq_true rfl) (Or.inl hz) ?_
  refine go_aload_n hc dX10_fewest_4 rfl rfl ?_
  refine go_iload_n hc dX10_fewest_5 rfl rfl ?_
  refine go_iload_n hc dX10_fewest_6 rfl rfl ?_
  obtain ⟨r4, σ5, hf6, h⟩ := obi_some h
  refine go_callVi hc ho cmX10_isPair mlX10_399 dX10_fewest_7 ok_81 (As := [.int x0, .int x1]) (rest := []) (rX10_isPair (N := 2) hf6 (Nat.le_refl _)) rfl (Nat.le_trans (Nat.le_of_ble_eq_true rfl) hN) rfl (Nat.le_of_ble_eq_true rfl) (Or.inl hz) ?_
  refine go_if_ne (tgt := 19) hc dX10_fewest_10 rfl (fun hh => ?_) (fun hh => ?_)
  · rw [if_neg hh] at h
    refine go_aload_n hc dX10_fewest_19 rfl rfl ?_
    refine go_aload_n hc dX10_fewest_20 rfl rfl ?_
    refine go_iload_n hc dX10_fewest_21 rfl rfl ?_
    obtain ⟨r7, σ8, hf9, h⟩ := obi_some h
    refine go_callVi hc ho cmX10_kinOf mlX10_333 dX10_fewest_22 ok_81 (As := [.int x0]) (rest := [.ref 81]) (rX10_kinOf (N := 1) hf9 (Nat.le_refl _)) rfl (Nat.le_trans (Nat.le_of_ble_eq_true rfl) hN) rfl (Nat.le_of_ble_eq_true rfl) (Or.inl hz) ?_
    obtain ⟨r10, σ11, hf12, h⟩ := obi_some h
    refine go_callVl hc ho cmX10_knownSet mlX10_336 dX10_fewest_25 ok_81 (As := [.int r7]) (rest := []) (rX10_knownSet (N := 5) hf12 (Nat.le_refl _)) rfl (Nat.le_trans (Nat.le_of_ble_eq_true rfl) hN) rfl (Nat.le_of_ble_eq_true rfl) (Or.inl hz) ?_
    refine go_lstore_n hc (lv1 := [.ref 81, .int x0, .int x1, .long r10, .null, .null]) dX10_fewest_28 rfl hL (by decide) (fun _ _ e => by cases e; rfl) rfl ?_
    refine go_lload_n hc dX10_fewest_29 rfl rfl ?_
    refine go_lconst hc dX10_fewest_30 cl_0 ?_
    refine go_lcmp hc dX10_fewest_31 ?_
    refine go_if_ne (tgt := 38) hc dX10_fewest_32 rfl (fun hh => ?_) (fun hh => ?_)
    · rw [if_neg hh] at h
      refine go_aload_n hc dX10_fewest_38 rfl rfl ?_
      refine go_iload_n hc dX10_fewest_39 rfl rfl ?_
      obtain ⟨σ14, hf15, h⟩ := obv_some h
      refine go_callVv hc ho cmX10_layPlans mlX10_402 dX10_fewest_40 ok_81 (As := [.int x1]) (rest := []) (rX10_layPlans (N := 0) hf15 (Nat.le_refl _)) rfl (Nat.le_trans (Nat.le_of_ble_eq_true rfl) hN) rfl (Nat.le_of_ble_eq_true rfl) (Or.inl hz) ?_
      refine go_aload_n hc dX10_fewest_43 rfl rfl ?_
      refine go_iconst hc dX10_fewest_44 ci_0 ?_
      refine go_lload_n hc dX10_fewest_45 rfl rfl ?_
      obtain ⟨r16, σ17, hf18, h⟩ := obi_some h
      refine go_callVi hc ho cmX10_fewestOf mlX10_389 dX10_fewest_46 ok_81 (As := [.int (0 : Int32), .long r10]) (rest := []) (rX10_fewestOf oP (0 : Int32) r10 _ _ _ _ hf18 (Nat.le_refl _)) rfl (by have := hN; show _ ≤ _; simp only [oR, oP] at *; omega) rfl (Nat.le_of_ble_eq_true rfl) (Or.inl hz) ?_
      refine go_istore hc (lv1 := [.ref 81, .int x0, .int x1, .long r10, .null, .int r16]) dX10_fewest_49 hL (by decide) (fun _ _ e => by cases e; rfl) rfl ?_
      refine go_iload hc dX10_fewest_51 rfl ?_
      refine go_ldcw hc ho kcX10_377 dX10_fewest_53 ?_
      refine go_icmp_lt (tgt := 64) hc dX10_fewest_56 rfl (fun hh => ?_) (fun hh => ?_)
      · rw [if_pos hh] at h
        refine go_iload hc dX10_fewest_64 rfl ?_
        exact go_iret hc (oend_i h hE) hr dX10_fewest_66
      · rw [if_neg hh] at h
        refine go_bipush hc dX10_fewest_59 cb_m2 ?_
        refine go_goto (tgt := 66) hc dX10_fewest_61 rfl ?_
        exact go_iret hc (oend_i h hE) hr dX10_fewest_66
    · rw [if_pos hh] at h
      refine go_bipush hc dX10_fewest_35 cb_m2 ?_
      exact go_iret hc (oend_i h hE) hr dX10_fewest_37
  · rw [if_pos hh] at h
    refine go_aload_n hc dX10_fewest_13 rfl rfl ?_
    refine go_iconst hc dX10_fewest_14 ci_1 ?_
    obtain ⟨r19, σ20, hf21, h⟩ := obi_some h
    refine go_callVi hc ho cmX10_no mlX10_202 dX10_fewest_15 ok_81 (As := [.int (1 : Int32)]) (rest := []) (rX10_no (N := 0) hf21 (Nat.le_refl _)) rfl (Nat.le_trans (Nat.le_of_ble_eq_true rfl) hN) rfl (Nat.le_of_ble_eq_true rfl) (Or.inl hz) ?_
    exact go_iret hc (oend_i h hE) hr dX10_fewest_18
def fX10_first_b54 : Nat → Int64 → Int32 → Int32 → OM → Option (Int32 × OM)
  | 0, _, _, _, _ => none
  | n + 1, l3, l5, l6, σ =>
    if (mI σ 84 5) ≤ l6 then (
     some (((-2) : Int32), σ))
    else (if l5 ≤ 0 then (
     some (((-2) : Int32), σ))
    else (if (1000000 : Int32) ≤ l5 then (
     some (((-2) : Int32), σ))
    else (obi (fX10_doesTell l3 l6 σ) (fun r1 σ2 =>
    if r1 = 0 then (
     fX10_first_b54 n l3 l5 (l6 + 1) σ2)
    else (obi (fX10_byAsking (fX10_fewestOf oP) (0 : Int32) l3 l6 σ2) (fun r4 σ5 =>
    if r4 = l5 then (
     some (l6, σ5))
    else (fX10_first_b54 n l3 l5 (l6 + 1) σ5)))))))
set_option maxRecDepth 100000 in
set_option maxHeartbeats 4000000 in
theorem rX10_first_b54 {K : OK} (hc : kcc K = cX10_first) (ho : kow K = RX10) (hL : knL K = 7) (hN : 22 ≤ kN K) (hr : (kme K).sig.returnType = (some .int)) {r0 : Int32} {σ0 : OM} (hE : oEnd K (some (.int r0)) σ0) (hz : kz K = 0) : ∀ (n : Nat) (l3 : Int64) (l5 : Int32) (l6 : Int32) (σ : OM), fX10_first_b54 n l3 l5 l6 σ = some (r0, σ0) → Go K 54 [.ref 81, .null, .null, .long l3, .null, .int l5, .int l6] [] σ := by
  intro n
  induction n with
  | zero =>
    intro l3 l5 l6 σ h
    cases h
  | succ n ih =>
    intro l3 l5 l6 σ h
    rw [fX10_first_b54] at h
    refine go_iload hc dX10_first_54 rfl ?_
    refine go_aload_n hc dX10_first_56 rfl rfl ?_
    refine go_getC (b := 84) rfl hc ho flX10_20 dX10_first_57 ok_81 ?_
    refine go_iconst hc dX10_first_60 ci_5 ?_
    refine go_iald hc dX10_first_61 ok_84 ol_84 (by decide +kernel) cn_5 ?_
    refine go_icmp_ge (tgt := 110) hc dX10_first_62 rfl (fun hh => ?_) (fun hh => ?_)
    · rw [if_pos hh] at h
      refine go_bipush hc dX10_first_110 cb_m2 ?_
      exact go_iret hc (oend_i h hE) hr dX10_first_112
    · rw [if_neg hh] at h
      refine go_iload hc dX10_first_65 rfl ?_
      refine go_if_le (tgt := 110) hc dX10_first_67 rfl (fun hh => ?_) (fun hh => ?_)
      · rw [if_pos hh] at h
        refine go_bipush hc dX10_first_110 cb_m2 ?_
        exact go_iret hc (oend_i h hE) hr dX10_first_112
      · rw [if_neg hh] at h
        refine go_iload hc dX10_first_70 rfl ?_
        refine go_ldcw hc ho kcX10_377 dX10_first_72 ?_
        refine go_icmp_ge (tgt := 110) hc dX10_first_75 rfl (fun hh => ?_) (fun hh => ?_)
        · rw [if_pos hh] at h
          refine go_bipush hc dX10_first_110 cb_m2 ?_
          exact go_iret hc (oend_i h hE) hr dX10_first_112
        · rw [if_neg hh] at h
          refine go_aload_n hc dX10_first_78 rfl rfl ?_
          refine go_lload_n hc dX10_first_79 rfl rfl ?_
          refine go_iload hc dX10_first_80 rfl ?_
          obtain ⟨r1, σ2, hf3, h⟩ := obi_some h
          refine go_callVi hc ho cmX10_doesTell mlX10_378 dX10_first_82 ok_81 (As := [.long l3, .int l6]) (rest := []) (rX10_doesTell (N := 0) hf3 (Nat.le_refl _)) rfl (Nat.le_trans (Nat.le_of_ble_eq_true rfl) hN) rfl (Nat.le_of_ble_eq_true rfl) (Or.inl hz) ?_
          refine go_if_eq (tgt := 104) hc dX10_first_85 rfl (fun hh => ?_) (fun hh => ?_)
          · rw [if_pos hh] at h
            refine go_iinc hc (lv1 := [.ref 81, .null, .null, .long l3, .null, .int l5, .int (l6 + 1)]) dX10_first_104 rfl ci_1 hL (by decide) (fun _ _ e => by cases e; rfl) rfl ?_
            refine go_goto (tgt := 54) hc dX10_first_107 rfl ?_
            exact ih l3 l5 (l6 + 1) _ h
          · rw [if_neg hh] at h
            refine go_aload_n hc dX10_first_88 rfl rfl ?_
            refine go_iconst hc dX10_first_89 ci_0 ?_
            refine go_lload_n hc dX10_first_90 rfl rfl ?_
            refine go_iload hc dX10_first_91 rfl ?_
            obtain ⟨r4, σ5, hf6, h⟩ := obi_some h
            refine go_callVi hc ho cmX10_byAsking mlX10_382 dX10_first_93 ok_81 (As := [.int (0 : Int32), .long l3, .int l6]) (rest := []) (rX10_byAsking (ND := 0 + 2 * oP) (N := 0 + 2 * oP + 1) (Nat.le_add_right _ _) (fun x0 x1 σ r σ1 hh => rX10_fewestOf oP x0 x1 σ r σ1 _ hh (Nat.le_refl _)) hf6 (Nat.le_refl _)) rfl (by have := hN; show _ ≤ _; simp only [oR, oP] at *; omega) rfl (Nat.le_of_ble_eq_true rfl) (Or.inl hz) ?_
            refine go_iload hc dX10_first_96 rfl ?_
            refine go_icmp_ne (tgt := 104) hc dX10_first_98 rfl (fun hh => ?_) (fun hh => ?_)
            · rw [if_neg hh] at h
              refine go_iinc hc (lv1 := [.ref 81, .null, .null, .long l3, .null, .int l5, .int (l6 + 1)]) dX10_first_104 rfl ci_1 hL (by decide) (fun _ _ e => by cases e; rfl) rfl ?_
              refine go_goto (tgt := 54) hc dX10_first_107 rfl ?_
              exact ih l3 l5 (l6 + 1) _ h
            · rw [if_pos hh] at h
              refine go_iload hc dX10_first_101 rfl ?_
              exact go_iret hc (oend_i h hE) hr dX10_first_103
def fX10_first (x0 : Int32) (x1 : Int32) (σ : OM) : Option (Int32 × OM) :=
  obv (fX10_good σ) (fun σ2 =>
  obi (fX10_isPair x0 x1 σ2) (fun r4 σ5 =>
  if r4 = 0 then (
   obi (fX10_no (1 : Int32) σ5) (fun r19 σ20 =>
   some (r19, σ20)))
  else (obi (fX10_kinOf x0 σ5) (fun r7 σ8 =>
  obi (fX10_knownSet r7 σ8) (fun r10 σ11 =>
  if (lg_cmp r10 (0 : Int64)) = 0 then (
   some (((-2) : Int32), σ11))
  else (obv (fX10_layPlans x1 σ11) (fun σ14 =>
  obi (fX10_fewestOf oP (0 : Int32) r10 σ14) (fun r16 σ17 =>
  fX10_first_b54 oF r10 r16 (0 : Int32) σ17))))))))
set_option maxRecDepth 100000 in
set_option maxHeartbeats 4000000 in
theorem rX10_first {N : Nat} {x0 : Int32} {x1 : Int32} {σ : OM} {r0 : Int32} {σ0 : OM} (h : fX10_first x0 x1 σ = some (r0, σ0)) (hN0 : 22 ≤ N) : oEv N MX10_first [.ref 81, .int x0, .int x1] σ (some (.int r0)) σ0 := by
  refine oEv_of (lv := [.ref 81, .int x0, .int x1, .null, .null, .null, .null]) (by decide +kernel) (fun g q hq => hq) (fun g => Nat.le_of_ble_eq_true rfl) ?_
  intro K hc ho hL hN1 hr hE hz
  have hN : 22 ≤ kN K := by rw [hN1]; exact hN0
  unfold fX10_first at h
  refine go_aload_n hc dX10_first_0 rfl rfl ?_
  obtain ⟨σ2, hf3, h⟩ := obv_some h
  refine go_callVv hc ho cmX10_good mlX10_199 dX10_first_1 ok_81 (As := []) (rest := []) (rX10_good (N := 0) hf3 (Nat.le_refl _)) rfl (Nat.le_trans (Nat.le_of_ble_eq_true rfl) hN) rfl (Nat.le_of_ble_eq_true rfl) (Or.inl hz) ?_
  refine go_aload_n hc dX10_first_4 rfl rfl ?_
  refine go_iload_n hc dX10_first_5 rfl rfl ?_
  refine go_iload_n hc dX10_first_6 rfl rfl ?_
  obtain ⟨r4, σ5, hf6, h⟩ := obi_some h
  refine go_callVi hc ho cmX10_isPair mlX10_399 dX10_first_7 ok_81 (As := [.int x0, .int x1]) (rest := []) (rX10_isPair (N := 2) hf6 (Nat.le_refl _)) rfl (Nat.le_trans (Nat.le_of_ble_eq_true rfl) hN) rfl (Nat.le_of_ble_eq_true rfl) (Or.inl hz) ?_
  refine go_if_ne (tgt := 19) hc dX10_first_10 rfl (fun hh => ?_) (fun hh => ?_)
  · rw [if_neg hh] at h
    refine go_aload_n hc dX10_first_19 rfl rfl ?_
    refine go_aload_n hc dX10_first_20 rfl rfl ?_
    refine go_iload_n hc dX10_first_21 rfl rfl ?_
    obtain ⟨r7, σ8, hf9, h⟩ := obi_some h
    refine go_callVi hc ho cmX10_kinOf mlX10_333 dX10_first_22 ok_81 (As := [.int x0]) (rest := [.ref 81]) (rX10_kinOf (N := 1) hf9 (Nat.le_refl _)) rfl (Nat.le_trans (Nat.le_of_ble_eq_true rfl) hN) rfl (Nat.le_of_ble_eq_true rfl) (Or.inl hz) ?_
    obtain ⟨r10, σ11, hf12, h⟩ := obi_some h
    refine go_callVl hc ho cmX10_knownSet mlX10_336 dX10_first_25 ok_81 (As := [.int r7]) (rest := []) (rX10_knownSet (N := 5) hf12 (Nat.le_refl _)) rfl (Nat.le_trans (Nat.le_of_ble_eq_true rfl) hN) rfl (Nat.le_of_ble_eq_true rfl) (Or.inl hz) ?_
    refine go_lstore_n hc (lv1 := [.ref 81, .int x0, .int x1, .long r10, .null, .null, .null]) dX10_first_28 rfl hL (by decide) (fun _ _ e => by cases e; rfl) rfl ?_
    refine go_lload_n hc dX10_first_29 rfl rfl ?_
    refine go_lconst hc dX10_first_30 cl_0 ?_
    refine go_lcmp hc dX10_first_31 ?_
    refine go_if_ne (tgt := 38) hc dX10_first_32 rfl (fun hh => ?_) (fun hh => ?_)
    · rw [if_neg hh] at h
      refine go_aload_n hc dX10_first_38 rfl rfl ?_
      refine go_iload_n hc dX10_first_39 rfl rfl ?_
      obtain ⟨σ14, hf15, h⟩ := obv_some h
      refine go_callVv hc ho cmX10_layPlans mlX10_402 dX10_first_40 ok_81 (As := [.int x1]) (rest := []) (rX10_layPlans (N := 0) hf15 (Nat.le_refl _)) rfl (Nat.le_trans (Nat.le_of_ble_eq_true rfl) hN) rfl (Nat.le_of_ble_eq_true rfl) (Or.inl hz) ?_
      refine go_aload_n hc dX10_first_43 rfl rfl ?_
      refine go_iconst hc dX10_first_44 ci_0 ?_
      refine go_lload_n hc dX10_first_45 rfl rfl ?_
      obtain ⟨r16, σ17, hf18, h⟩ := obi_some h
      refine go_callVi hc ho cmX10_fewestOf mlX10_389 dX10_first_46 ok_81 (As := [.int (0 : Int32), .long r10]) (rest := []) (rX10_fewestOf oP (0 : Int32) r10 _ _ _ _ hf18 (Nat.le_refl _)) rfl (by have := hN; show _ ≤ _; simp only [oR, oP] at *; omega) rfl (Nat.le_of_ble_eq_true rfl) (Or.inl hz) ?_
      refine go_istore hc (lv1 := [.ref 81, .int x0, .int x1, .long r10, .null, .int r16, .null]) dX10_first_49 hL (by decide) (fun _ _ e => by cases e; rfl) rfl ?_
      refine go_iconst hc dX10_first_51 ci_0 ?_
      refine go_istore hc (lv1 := [.ref 81, .int x0, .int x1, .long r10, .null, .int r16, .int (0 : Int32)]) dX10_first_52 hL (by decide) (fun _ _ e => by cases e; rfl) rfl ?_
      refine go_mask [true, false, false, true, false, true, true] (lv1 := [.ref 81, .null, .null, .long r10, .null, .int r16, .int (0 : Int32)]) rfl ?_
      exact rX10_first_b54 hc ho hL hN hr hE hz oF r10 r16 (0 : Int32) _ h
    · rw [if_pos hh] at h
      refine go_bipush hc dX10_first_35 cb_m2 ?_
      exact go_iret hc (oend_i h hE) hr dX10_first_37
  · rw [if_pos hh] at h
    refine go_aload_n hc dX10_first_13 rfl rfl ?_
    refine go_iconst hc dX10_first_14 ci_1 ?_
    obtain ⟨r19, σ20, hf21, h⟩ := obi_some h
    refine go_callVi hc ho cmX10_no mlX10_202 dX10_first_15 ok_81 (As := [.int (1 : Int32)]) (rest := []) (rX10_no (N := 0) hf21 (Nat.le_refl _)) rfl (Nat.le_trans (Nat.le_of_ble_eq_true rfl) hN) rfl (Nat.le_of_ble_eq_true rfl) (Or.inl hz) ?_
    exact go_iret hc (oend_i h hE) hr dX10_first_18
def fX10_meanOf_b148 (rc : Int32 → Int64 → OM → Option (Int64 × OM)) (l1 : Int32) (l4 : Int64) (σ : OM) : Option (Int64 × OM) :=
  ogd (oin l1 6561) (
  some (l4, sL σ 92 l1.toNatClampNeg l4))
set_option maxRecDepth 100000 in
set_option maxHeartbeats 4000000 in
theorem rX10_meanOf_b148 {ND : Nat} {rc : Int32 → Int64 → OM → Option (Int64 × OM)} (hB : 2 ≤ ND) (hrc : ∀ (x0 : Int32) (x1 : Int64) (σ : OM) (r : Int64) (σ1 : OM), rc x0 x1 σ = some (r, σ1) → oEv ND MX10_meanOf [.ref 81, .int x0, .long x1] σ (some (.long r)) σ1) {K : OK} (hc : kcc K = cX10_meanOf) (ho : kow K = RX10) (hL : knL K = 9) (hN : ND + 1 ≤ kN K) (hr : (kme K).sig.returnType = (some .long)) {r0 : Int64} {σ0 : OM} (hE : oEnd K (some (.long r0)) σ0) (hz : kz K = 0) {l1 : Int32} {l4 : Int64} {σ : OM} (h : fX10_meanOf_b148 rc l1 l4 σ = some (r0, σ0)) : Go K 148 [.ref 81, .int l1, .null, .null, .long l4, .null, .null, .null, .null] [] σ := by
  unfold fX10_meanOf_b148 at h
  refine go_aload_n hc dX10_meanOf_148 rfl rfl ?_
  refine go_getC (b := 92) rfl hc ho flX10_45 dX10_meanOf_149 ok_81 ?_
  refine go_iload_n hc dX10_meanOf_152 rfl rfl ?_
  refine go_lload hc dX10_meanOf_153 rfl ?_
  obtain ⟨hg1, h⟩ := ogd_some h
  refine go_last hc dX10_meanOf_155 ok_92 ol_92 hg1 rfl ?_
  refine go_lload hc dX10_meanOf_156 rfl ?_
  exact go_lret hc (oend_l h hE) hr dX10_meanOf_158
def fX10_meanOf_b46 (rc : Int32 → Int64 → OM → Option (Int64 × OM)) : Nat → Int32 → Int64 → Int64 → Int32 → OM → Option (Int64 × OM)
  | 0, _, _, _, _, _ => none
  | n + 1, l1, l2, l4, l6, σ =>
    if (mI σ 84 5) ≤ l6 then (
     fX10_meanOf_b148 rc l1 l4 σ)
    else (obi (fX10_doesTell l2 l6 σ) (fun r1 σ2 =>
    if r1 = 0 then (
     fX10_meanOf_b46 rc n l1 l2 l4 (l6 + 1) σ2)
    else (obi (fX10_weight l2 σ2) (fun r4 σ5 =>
    obi (fX10_third l6 σ5) (fun r7 σ8 =>
    ogd (oin l6 9) (
    obi (rc (l1 + r7) (l2 &&& (mL σ8 86 l6.toNatClampNeg)) σ8) (fun r11 σ12 =>
    obi (fX10_third l6 σ12) (fun r14 σ15 =>
    ogd (oin l6 9) (
    obi (rc (l1 + ((2 : Int32) * r14)) (l2 &&& ((mL σ15 86 l6.toNatClampNeg) ^^^ ((-1) : Int64))) σ15) (fun r18 σ19 =>
    if 0 ≤ (lg_cmp ((r4 + r11) + r18) l4) then (
     fX10_meanOf_b46 rc n l1 l2 l4 (l6 + 1) σ19)
    else (fX10_meanOf_b46 rc n l1 l2 ((r4 + r11) + r18) (l6 + 1) σ19)))))))))))
set_option maxRecDepth 100000 in
set_option maxHeartbeats 4000000 in
theorem rX10_meanOf_b46 {ND : Nat} {rc : Int32 → Int64 → OM → Option (Int64 × OM)} (hB : 2 ≤ ND) (hrc : ∀ (x0 : Int32) (x1 : Int64) (σ : OM) (r : Int64) (σ1 : OM), rc x0 x1 σ = some (r, σ1) → oEv ND MX10_meanOf [.ref 81, .int x0, .long x1] σ (some (.long r)) σ1) {K : OK} (hc : kcc K = cX10_meanOf) (ho : kow K = RX10) (hL : knL K = 9) (hN : ND + 1 ≤ kN K) (hr : (kme K).sig.returnType = (some .long)) {r0 : Int64} {σ0 : OM} (hE : oEnd K (some (.long r0)) σ0) (hz : kz K = 0) : ∀ (n : Nat) (l1 : Int32) (l2 : Int64) (l4 : Int64) (l6 : Int32) (σ : OM), fX10_meanOf_b46 rc n l1 l2 l4 l6 σ = some (r0, σ0) → Go K 46 [.ref 81, .int l1, .long l2, .null, .long l4, .null, .int l6, .null, .null] [] σ := by
  intro n
  induction n with
  | zero =>
    intro l1 l2 l4 l6 σ h
    cases h
  | succ n ih =>
    intro l1 l2 l4 l6 σ h
    rw [fX10_meanOf_b46] at h
    refine go_iload hc dX10_meanOf_46 rfl ?_
    refine go_aload_n hc dX10_meanOf_48 rfl rfl ?_
    refine go_getC (b := 84) rfl hc ho flX10_20 dX10_meanOf_49 ok_81 ?_
    refine go_iconst hc dX10_meanOf_52 ci_5 ?_
    refine go_iald hc dX10_meanOf_53 ok_84 ol_84 (by decide +kernel) cn_5 ?_
    refine go_icmp_ge (tgt := 148) hc dX10_meanOf_54 rfl (fun hh => ?_) (fun hh => ?_)
    · rw [if_pos hh] at h
      refine go_mask [true, true, false, false, true, false, false, false, false] (lv1 := [.ref 81, .int l1, .null, .null, .long l4, .null, .null, .null, .null]) rfl ?_
      exact rX10_meanOf_b148 hB hrc hc ho hL hN hr hE hz h
    · rw [if_neg hh] at h
      refine go_aload_n hc dX10_meanOf_57 rfl rfl ?_
      refine go_lload_n hc dX10_meanOf_58 rfl rfl ?_
      refine go_iload hc dX10_meanOf_59 rfl ?_
      obtain ⟨r1, σ2, hf3, h⟩ := obi_some h
      refine go_callVi hc ho cmX10_doesTell mlX10_378 dX10_meanOf_61 ok_81 (As := [.long l2, .int l6]) (rest := []) (rX10_doesTell (N := 0) hf3 (Nat.le_refl _)) rfl (by omega) rfl (Nat.le_of_ble_eq_true rfl) (Or.inl hz) ?_
      refine go_if_ne (tgt := 70) hc dX10_meanOf_64 rfl (fun hh => ?_) (fun hh => ?_)
      · rw [if_neg hh] at h
        refine go_aload_n hc dX10_meanOf_70 rfl rfl ?_
        refine go_lload_n hc dX10_meanOf_71 rfl rfl ?_
        obtain ⟨r4, σ5, hf6, h⟩ := obi_some h
        refine go_callVl hc ho cmX10_weight mlX10_301 dX10_meanOf_72 ok_81 (As := [.long l2]) (rest := []) (rX10_weight (N := 2) hf6 (Nat.le_refl _)) rfl (by omega) rfl (Nat.le_of_ble_eq_true rfl) (Or.inl hz) ?_
        refine go_aload_n hc dX10_meanOf_75 rfl rfl ?_
        refine go_iload_n hc dX10_meanOf_76 rfl rfl ?_
        refine go_iload hc dX10_meanOf_77 rfl ?_
        obtain ⟨r7, σ8, hf9, h⟩ := obi_some h
        refine go_callSi hc ho cmX10_third mlX10_386 dX10_meanOf_79 (As := [.int l6]) (rest := [.int l1, .ref 81, .long r4]) (rX10_third (N := 0) hf9 (Nat.le_refl _)) rfl (by omega) rfl (Nat.le_of_ble_eq_true rfl) (Or.inl hz) ?_
        refine go_iadd hc dX10_meanOf_82 ?_
        refine go_lload_n hc dX10_meanOf_83 rfl rfl ?_
        refine go_aload_n hc dX10_meanOf_84 rfl rfl ?_
        refine go_getC (b := 86) rfl hc ho flX10_26 dX10_meanOf_85 ok_81 ?_
        refine go_iload hc dX10_meanOf_88 rfl ?_
        obtain ⟨hg10, h⟩ := ogd_some h
        refine go_lald hc dX10_meanOf_90 ok_86 ol_86 hg10 rfl ?_
        refine go_land hc dX10_meanOf_91 ?_
        obtain ⟨r11, σ12, hf13, h⟩ := obi_some h
        refine go_callVl hc ho cmX10_meanOf mlX10_395 dX10_meanOf_92 ok_81 (As := [.int (l1 + r7), .long (l2 &&& (mL σ8 86 l6.toNatClampNeg))]) (rest := [.long r4]) (hrc (l1 + r7) (l2 &&& (mL σ8 86 l6.toNatClampNeg)) _ _ _ hf13) rfl (by omega) rfl (Nat.le_of_ble_eq_true rfl) (Or.inl hz) ?_
        refine go_ladd hc dX10_meanOf_95 ?_
        refine go_aload_n hc dX10_meanOf_96 rfl rfl ?_
        refine go_iload_n hc dX10_meanOf_97 rfl rfl ?_
        refine go_iconst hc dX10_meanOf_98 ci_2 ?_
        refine go_iload hc dX10_meanOf_99 rfl ?_
        obtain ⟨r14, σ15, hf16, h⟩ := obi_some h
        refine go_callSi hc ho cmX10_third mlX10_386 dX10_meanOf_101 (As := [.int l6]) (rest := [.int (2 : Int32), .int l1, .ref 81, .long (r4 + r11)]) (rX10_third (N := 0) hf16 (Nat.le_refl _)) rfl (by omega) rfl (Nat.le_of_ble_eq_true rfl) (Or.inl hz) ?_
        refine go_imul hc dX10_meanOf_104 ?_
        refine go_iadd hc dX10_meanOf_105 ?_
        refine go_lload_n hc dX10_meanOf_106 rfl rfl ?_
        refine go_aload_n hc dX10_meanOf_107 rfl rfl ?_
        refine go_getC (b := 86) rfl hc ho flX10_26 dX10_meanOf_108 ok_81 ?_
        refine go_iload hc dX10_meanOf_111 rfl ?_
        obtain ⟨hg17, h⟩ := ogd_some h
        refine go_lald hc dX10_meanOf_113 ok_86 ol_86 hg17 rfl ?_
        refine go_ldc2 hc ho klX10_181 dX10_meanOf_114 ?_
        refine go_lxor hc dX10_meanOf_117 ?_
        refine go_land hc dX10_meanOf_118 ?_
        obtain ⟨r18, σ19, hf20, h⟩ := obi_some h
        refine go_callVl hc ho cmX10_meanOf mlX10_395 dX10_meanOf_119 ok_81 (As := [.int (l1 + ((2 : Int32) * r14)), .long (l2 &&& ((mL σ15 86 l6.toNatClampNeg) ^^^ ((-1) : Int64)))]) (rest := [.long (r4 + r11)]) (hrc (l1 + ((2 : Int32) * r14)) (l2 &&& ((mL σ15 86 l6.toNatClampNeg) ^^^ ((-1) : Int64))) _ _ _ hf20) rfl (by omega) rfl (Nat.le_of_ble_eq_true rfl) (Or.inl hz) ?_
        refine go_ladd hc dX10_meanOf_122 ?_
        refine go_lstore hc (lv1 := [.ref 81, .int l1, .long l2, .null, .long l4, .null, .int l6, .long ((r4 + r11) + r18), .null]) dX10_meanOf_123 hL (by decide) (fun _ _ e => by cases e; rfl) rfl ?_
        refine go_lload hc dX10_meanOf_125 rfl ?_
        refine go_lload hc dX10_meanOf_127 rfl ?_
        refine go_lcmp hc dX10_meanOf_129 ?_
        refine go_if_ge (tgt := 138) hc dX10_meanOf_130 rfl (fun hh => ?_) (fun hh => ?_)
        · rw [if_pos hh] at h
          refine go_lload hc dX10_meanOf_138 rfl ?_
          refine go_lstore hc (lv1 := [.ref 81, .int l1, .long l2, .null, .long l4, .null, .int l6, .long ((r4 + r11) + r18), .null]) dX10_meanOf_140 hL (by decide) (fun _ _ e => by cases e; rfl) rfl ?_
          refine go_iinc hc (lv1 := [.ref 81, .int l1, .long l2, .null, .long l4, .null, .int (l6 + 1), .long ((r4 + r11) + r18), .null]) dX10_meanOf_142 rfl ci_1 hL (by decide) (fun _ _ e => by cases e; rfl) rfl ?_
          refine go_goto (tgt := 46) hc dX10_meanOf_145 rfl ?_
          refine go_mask [true, true, true, false, true, false, true, false, false] (lv1 := [.ref 81, .int l1, .long l2, .null, .long l4, .null, .int (l6 + 1), .null, .null]) rfl ?_
          exact ih l1 l2 l4 (l6 + 1) _ h
        · rw [if_neg hh] at h
          refine go_lload hc dX10_meanOf_133 rfl ?_
          refine go_goto (tgt := 140) hc dX10_meanOf_135 rfl ?_
          refine go_lstore hc (lv1 := [.ref 81, .int l1, .long l2, .null, .long ((r4 + r11) + r18), .null, .int l6, .long ((r4 + r11) + r18), .null]) dX10_meanOf_140 hL (by decide) (fun _ _ e => by cases e; rfl) rfl ?_
          refine go_iinc hc (lv1 := [.ref 81, .int l1, .long l2, .null, .long ((r4 + r11) + r18), .null, .int (l6 + 1), .long ((r4 + r11) + r18), .null]) dX10_meanOf_142 rfl ci_1 hL (by decide) (fun _ _ e => by cases e; rfl) rfl ?_
          refine go_goto (tgt := 46) hc dX10_meanOf_145 rfl ?_
          refine go_mask [true, true, true, false, true, false, true, false, false] (lv1 := [.ref 81, .int l1, .long l2, .null, .long ((r4 + r11) + r18), .null, .int (l6 + 1), .null, .null]) rfl ?_
          exact ih l1 l2 ((r4 + r11) + r18) (l6 + 1) _ h
      · rw [if_pos hh] at h
        refine go_goto (tgt := 142) hc dX10_meanOf_67 rfl ?_
        refine go_iinc hc (lv1 := [.ref 81, .int l1, .long l2, .null, .long l4, .null, .int (l6 + 1), .null, .null]) dX10_meanOf_142 rfl ci_1 hL (by decide) (fun _ _ e => by cases e; rfl) rfl ?_
        refine go_goto (tgt := 46) hc dX10_meanOf_145 rfl ?_
        exact ih l1 l2 l4 (l6 + 1) _ h
def fX10_meanOf_s (rc : Int32 → Int64 → OM → Option (Int64 × OM)) (x0 : Int32) (x1 : Int64) (σ : OM) : Option (Int64 × OM) :=
  ogd (oin (mI σ 81 28) 9) (
  obi (fX10_answerBy x1 (mL σ 86 ((mI σ 81 28).toNatClampNeg)) σ) (fun r2 σ3 =>
  if r2 = ((-2) : Int32) then (
   ogd (oin x0 6561) (
   if (lg_cmp (mL σ3 92 x0.toNatClampNeg) (0 : Int64)) < 0 then (
    fX10_meanOf_b46 rc oF x0 x1 (1125899906842624 : Int64) (0 : Int32) σ3)
   else (ogd (oin x0 6561) (
   some ((mL σ3 92 x0.toNatClampNeg), σ3)))))
  else (some ((0 : Int64), σ3))))
set_option maxRecDepth 100000 in
set_option maxHeartbeats 4000000 in
theorem rX10_meanOf_s {ND : Nat} {rc : Int32 → Int64 → OM → Option (Int64 × OM)} (hB : 2 ≤ ND) (hrc : ∀ (x0 : Int32) (x1 : Int64) (σ : OM) (r : Int64) (σ1 : OM), rc x0 x1 σ = some (r, σ1) → oEv ND MX10_meanOf [.ref 81, .int x0, .long x1] σ (some (.long r)) σ1) {N : Nat} {x0 : Int32} {x1 : Int64} {σ : OM} {r0 : Int64} {σ0 : OM} (h : fX10_meanOf_s rc x0 x1 σ = some (r0, σ0)) (hN0 : ND + 1 ≤ N) : oEv N MX10_meanOf [.ref 81, .int x0, .long x1] σ (some (.long r0)) σ0 := by
  refine oEv_of (lv := [.ref 81, .int x0, .long x1, .null, .null, .null, .null, .null, .null]) (by decide +kernel) (fun g q hq => hq) (fun g => Nat.le_of_ble_eq_true rfl) ?_
  intro K hc ho hL hN1 hr hE hz
  have hN : ND + 1 ≤ kN K := by rw [hN1]; exact hN0
  unfold fX10_meanOf_s at h
  refine go_lload_n hc dX10_meanOf_0 rfl rfl ?_
  refine go_aload_n hc dX10_meanOf_1 rfl rfl ?_
  refine go_getC (b := 86) rfl hc ho flX10_26 dX10_meanOf_2 ok_81 ?_
  refine go_aload_n hc dX10_meanOf_5 rfl rfl ?_
  refine go_getI hc ho flX10_374 dX10_meanOf_6 ok_81 ?_
  obtain ⟨hg1, h⟩ := ogd_some h
  refine go_lald hc dX10_meanOf_9 ok_86 ol_86 hg1 rfl ?_
  obtain ⟨r2, σ3, hf4, h⟩ := obi_some h
  refine go_callSi hc ho cmX10_answerBy mlX10_329 dX10_meanOf_10 (As := [.long x1, .long (mL σ 86 ((mI σ 81 28).toNatClampNeg))]) (rest := []) (rX10_answerBy (N := 0) hf4 (Nat.le_refl _)) rfl (by omega) rfl (Nat.le_of_ble_eq_true rfl) (Or.inl hz) ?_
  refine go_bipush hc dX10_meanOf_13 cb_m2 ?_
  refine go_icmp_eq (tgt := 20) hc dX10_meanOf_15 rfl (fun hh => ?_) (fun hh => ?_)
  · rw [if_pos hh] at h
    refine go_aload_n hc dX10_meanOf_20 rfl rfl ?_
    refine go_getC (b := 92) rfl hc ho flX10_45 dX10_meanOf_21 ok_81 ?_
    refine go_iload_n hc dX10_meanOf_24 rfl rfl ?_
    obtain ⟨hg5, h⟩ := ogd_some h
    refine go_lald hc dX10_meanOf_25 ok_92 ol_92 hg5 rfl ?_
    refine go_lconst hc dX10_meanOf_26 cl_0 ?_
    refine go_lcmp hc dX10_meanOf_27 ?_
    refine go_if_lt (tgt := 38) hc dX10_meanOf_28 rfl (fun hh => ?_) (fun hh => ?_)
    · rw [if_pos hh] at h
      refine go_ldc2 hc ho klX10_393 dX10_meanOf_38 ?_
      refine go_lstore hc (lv1 := [.ref 81, .int x0, .long x1, .null, .long (1125899906842624 : Int64), .null, .null, .null, .null]) dX10_meanOf_41 hL (by decide) (fun _ _ e => by cases e; rfl) rfl ?_
      refine go_iconst hc dX10_meanOf_43 ci_0 ?_
      refine go_istore hc (lv1 := [.ref 81, .int x0, .long x1, .null, .long (1125899906842624 : Int64), .null, .int (0 : Int32), .null, .null]) dX10_meanOf_44 hL (by decide) (fun _ _ e => by cases e; rfl) rfl ?_
      exact rX10_meanOf_b46 hB hrc hc ho hL hN hr hE hz oF x0 x1 (1125899906842624 : Int64) (0 : Int32) _ h
    · rw [if_neg hh] at h
      refine go_aload_n hc dX10_meanOf_31 rfl rfl ?_
      refine go_getC (b := 92) rfl hc ho flX10_45 dX10_meanOf_32 ok_81 ?_
      refine go_iload_n hc dX10_meanOf_35 rfl rfl ?_
      obtain ⟨hg6, h⟩ := ogd_some h
      refine go_lald hc dX10_meanOf_36 ok_92 ol_92 hg6 rfl ?_
      exact go_lret hc (oend_l h hE) hr dX10_meanOf_37
  · rw [if_neg hh] at h
    refine go_lconst hc dX10_meanOf_18 cl_0 ?_
    exact go_lret hc (oend_l h hE) hr dX10_meanOf_19
def fX10_meanOf : Nat → Int32 → Int64 → OM → Option (Int64 × OM)
  | 0, _, _, _ => none
  | n + 1, x0, x1, σ => fX10_meanOf_s (fX10_meanOf n) x0 x1 σ
theorem rX10_meanOf : ∀ (n : Nat) (x0 : Int32) (x1 : Int64) (σ : OM) (r0 : Int64) (σ0 : OM) (N : Nat), fX10_meanOf n x0 x1 σ = some (r0, σ0) → 2 + 1 * n ≤ N → oEv N MX10_meanOf [.ref 81, .int x0, .long x1] σ (some (.long r0)) σ0 := by
  intro n
  induction n with
  | zero =>
    intro x0 x1 σ r0 σ0 N h hN
    cases h
  | succ n ih =>
    intro x0 x1 σ r0 σ0 N h hN
    rw [fX10_meanOf] at h
    exact rX10_meanOf_s (ND := 2 + 1 * n) (Nat.le_add_right _ _) (fun x0 x1 σ r σ1 hh => ih x0 x1 σ r σ1 _ hh (Nat.le_refl _)) h (by omega)
def fX10_mean (x0 : Int32) (x1 : Int32) (x2 : Int32) (σ : OM) : Option (Int64 × OM) :=
  obv (fX10_good σ) (fun σ2 =>
  obi (fX10_isPair x0 x1 σ2) (fun r4 σ5 =>
  if r4 = 0 then (
   obi (fX10_no (1 : Int32) σ5) (fun r31 σ32 =>
   some (r31.toInt64, σ32)))
  else (obi (fX10_kinOf x0 σ5) (fun r7 σ8 =>
  obi (fX10_knownSet r7 σ8) (fun r10 σ11 =>
  if (lg_cmp r10 (0 : Int64)) = 0 then (
   obi (fX10_no (6 : Int32) σ11) (fun r28 σ29 =>
   some (r28.toInt64, σ29)))
  else (obv (fX10_layPlans x1 σ11) (fun σ14 =>
  obi (fX10_meanOf oP (0 : Int32) r10 σ14) (fun r16 σ17 =>
  if (lg_cmp r16 (1125899906842624 : Int64)) < 0 then (
   obi (fX10_weight r10 σ17) (fun r19 σ20 =>
   obi (fX10_lowest r16 r19 x2 σ20) (fun r22 σ23 =>
   some (r22, σ23))))
  else (obi (fX10_no (6 : Int32) σ17) (fun r25 σ26 =>
  some (r25.toInt64, σ26)))))))))))
set_option maxRecDepth 100000 in
set_option maxHeartbeats 4000000 in
theorem rX10_mean {N : Nat} {x0 : Int32} {x1 : Int32} {x2 : Int32} {σ : OM} {r0 : Int64} {σ0 : OM} (h : fX10_mean x0 x1 x2 σ = some (r0, σ0)) (hN0 : 13 ≤ N) : oEv N MX10_mean [.ref 81, .int x0, .int x1, .int x2] σ (some (.long r0)) σ0 := by
  refine oEv_of (lv := [.ref 81, .int x0, .int x1, .int x2, .null, .null, .null, .null]) (by decide +kernel) (fun g q hq => hq) (fun g => Nat.le_of_ble_eq_true rfl) ?_
  intro K hc ho hL hN1 hr hE hz
  have hN : 13 ≤ kN K := by rw [hN1]; exact hN0
  unfold fX10_mean at h
  refine go_aload_n hc dX10_mean_0 rfl rfl ?_
  obtain ⟨σ2, hf3, h⟩ := obv_some h
  refine go_callVv hc ho cmX10_good mlX10_199 dX10_mean_1 ok_81 (As := []) (rest := []) (rX10_good (N := 0) hf3 (Nat.le_refl _)) rfl (Nat.le_trans (Nat.le_of_ble_eq_true rfl) hN) rfl (Nat.le_of_ble_eq_true rfl) (Or.inl hz) ?_
  refine go_aload_n hc dX10_mean_4 rfl rfl ?_
  refine go_iload_n hc dX10_mean_5 rfl rfl ?_
  refine go_iload_n hc dX10_mean_6 rfl rfl ?_
  obtain ⟨r4, σ5, hf6, h⟩ := obi_some h
  refine go_callVi hc ho cmX10_isPair mlX10_399 dX10_mean_7 ok_81 (As := [.int x0, .int x1]) (rest := []) (rX10_isPair (N := 2) hf6 (Nat.le_refl _)) rfl (Nat.le_trans (Nat.le_of_ble_eq_true rfl) hN) rfl (Nat.le_of_ble_eq_true rfl) (Or.inl hz) ?_
  refine go_if_ne (tgt := 20) hc dX10_mean_10 rfl (fun hh => ?_) (fun hh => ?_)
  · rw [if_neg hh] at h
    refine go_aload_n hc dX10_mean_20 rfl rfl ?_
    refine go_aload_n hc dX10_mean_21 rfl rfl ?_
    refine go_iload_n hc dX10_mean_22 rfl rfl ?_
    obtain ⟨r7, σ8, hf9, h⟩ := obi_some h
    refine go_callVi hc ho cmX10_kinOf mlX10_333 dX10_mean_23 ok_81 (As := [.int x0]) (rest := [.ref 81]) (rX10_kinOf (N := 1) hf9 (Nat.le_refl _)) rfl (Nat.le_trans (Nat.le_of_ble_eq_true rfl) hN) rfl (Nat.le_of_ble_eq_true rfl) (Or.inl hz) ?_
    obtain ⟨r10, σ11, hf12, h⟩ := obi_some h
    refine go_callVl hc ho cmX10_knownSet mlX10_336 dX10_mean_26 ok_81 (As := [.int r7]) (rest := []) (rX10_knownSet (N := 5) hf12 (Nat.le_refl _)) rfl (Nat.le_trans (Nat.le_of_ble_eq_true rfl) hN) rfl (Nat.le_of_ble_eq_true rfl) (Or.inl hz) ?_
    refine go_lstore hc (lv1 := [.ref 81, .int x0, .int x1, .int x2, .long r10, .null, .null, .null]) dX10_mean_29 hL (by decide) (fun _ _ e => by cases e; rfl) rfl ?_
    refine go_lload hc dX10_mean_31 rfl ?_
    refine go_lconst hc dX10_mean_33 cl_0 ?_
    refine go_lcmp hc dX10_mean_34 ?_
    refine go_if_ne (tgt := 46) hc dX10_mean_35 rfl (fun hh => ?_) (fun hh => ?_)
    · rw [if_neg hh] at h
      refine go_aload_n hc dX10_mean_46 rfl rfl ?_
      refine go_iload_n hc dX10_mean_47 rfl rfl ?_
      obtain ⟨σ14, hf15, h⟩ := obv_some h
      refine go_callVv hc ho cmX10_layPlans mlX10_402 dX10_mean_48 ok_81 (As := [.int x1]) (rest := []) (rX10_layPlans (N := 0) hf15 (Nat.le_refl _)) rfl (Nat.le_trans (Nat.le_of_ble_eq_true rfl) hN) rfl (Nat.le_of_ble_eq_true rfl) (Or.inl hz) ?_
      refine go_aload_n hc dX10_mean_51 rfl rfl ?_
      refine go_iconst hc dX10_mean_52 ci_0 ?_
      refine go_lload hc dX10_mean_53 rfl ?_
      obtain ⟨r16, σ17, hf18, h⟩ := obi_some h
      refine go_callVl hc ho cmX10_meanOf mlX10_395 dX10_mean_55 ok_81 (As := [.int (0 : Int32), .long r10]) (rest := []) (rX10_meanOf oP (0 : Int32) r10 _ _ _ _ hf18 (Nat.le_refl _)) rfl (by have := hN; show _ ≤ _; simp only [oR, oP] at *; omega) rfl (Nat.le_of_ble_eq_true rfl) (Or.inl hz) ?_
      refine go_lstore hc (lv1 := [.ref 81, .int x0, .int x1, .int x2, .long r10, .null, .long r16, .null]) dX10_mean_58 hL (by decide) (fun _ _ e => by cases e; rfl) rfl ?_
      refine go_lload hc dX10_mean_60 rfl ?_
      refine go_ldc2 hc ho klX10_393 dX10_mean_62 ?_
      refine go_lcmp hc dX10_mean_65 ?_
      refine go_if_lt (tgt := 79) hc dX10_mean_66 rfl (fun hh => ?_) (fun hh => ?_)
      · rw [if_pos hh] at h
        refine go_lload hc dX10_mean_79 rfl ?_
        refine go_aload_n hc dX10_mean_81 rfl rfl ?_
        refine go_lload hc dX10_mean_82 rfl ?_
        obtain ⟨r19, σ20, hf21, h⟩ := obi_some h
        refine go_callVl hc ho cmX10_weight mlX10_301 dX10_mean_84 ok_81 (As := [.long r10]) (rest := [.long r16]) (rX10_weight (N := 2) hf21 (Nat.le_refl _)) rfl (Nat.le_trans (Nat.le_of_ble_eq_true rfl) hN) rfl (Nat.le_of_ble_eq_true rfl) (Or.inl hz) ?_
        refine go_iload_n hc dX10_mean_87 rfl rfl ?_
        obtain ⟨r22, σ23, hf24, h⟩ := obi_some h
        refine go_callSl hc ho cmX10_lowest mlX10_305 dX10_mean_88 (As := [.long r16, .long r19, .int x2]) (rest := []) (rX10_lowest (N := 0) hf24 (Nat.le_refl _)) rfl (Nat.le_trans (Nat.le_of_ble_eq_true rfl) hN) rfl (Nat.le_of_ble_eq_true rfl) (Or.inl hz) ?_
        exact go_lret hc (oend_l h hE) hr dX10_mean_91
      · rw [if_neg hh] at h
        refine go_aload_n hc dX10_mean_69 rfl rfl ?_
        refine go_bipush hc dX10_mean_70 cb_6 ?_
        obtain ⟨r25, σ26, hf27, h⟩ := obi_some h
        refine go_callVi hc ho cmX10_no mlX10_202 dX10_mean_72 ok_81 (As := [.int (6 : Int32)]) (rest := []) (rX10_no (N := 0) hf27 (Nat.le_refl _)) rfl (Nat.le_trans (Nat.le_of_ble_eq_true rfl) hN) rfl (Nat.le_of_ble_eq_true rfl) (Or.inl hz) ?_
        refine go_i2l hc dX10_mean_75 ?_
        refine go_goto (tgt := 91) hc dX10_mean_76 rfl ?_
        exact go_lret hc (oend_l h hE) hr dX10_mean_91
    · rw [if_pos hh] at h
      refine go_aload_n hc dX10_mean_38 rfl rfl ?_
      refine go_bipush hc dX10_mean_39 cb_6 ?_
      obtain ⟨r28, σ29, hf30, h⟩ := obi_some h
      refine go_callVi hc ho cmX10_no mlX10_202 dX10_mean_41 ok_81 (As := [.int (6 : Int32)]) (rest := []) (rX10_no (N := 0) hf30 (Nat.le_refl _)) rfl (Nat.le_trans (Nat.le_of_ble_eq_true rfl) hN) rfl (Nat.le_of_ble_eq_true rfl) (Or.inl hz) ?_
      refine go_i2l hc dX10_mean_44 ?_
      exact go_lret hc (oend_l h hE) hr dX10_mean_45
  · rw [if_pos hh] at h
    refine go_aload_n hc dX10_mean_13 rfl rfl ?_
    refine go_iconst hc dX10_mean_14 ci_1 ?_
    obtain ⟨r31, σ32, hf33, h⟩ := obi_some h
    refine go_callVi hc ho cmX10_no mlX10_202 dX10_mean_15 ok_81 (As := [.int (1 : Int32)]) (rest := []) (rX10_no (N := 0) hf33 (Nat.le_refl _)) rfl (Nat.le_trans (Nat.le_of_ble_eq_true rfl) hN) rfl (Nat.le_of_ble_eq_true rfl) (Or.inl hz) ?_
    refine go_i2l hc dX10_mean_18 ?_
    exact go_lret hc (oend_l h hE) hr dX10_mean_19
def fX10_askIn_b2 : Nat → Int32 → Int32 → Int32 → OM → Option (Int32 × OM)
  | 0, _, _, _, _ => none
  | n + 1, l1, l2, l3, σ =>
    if (mI σ 84 4) ≤ l3 then (
     some ((1 : Int32), σ))
    else (ogd (oin ((41 : Int32) + ((2 : Int32) * l3)) 279) (
    if (mI σ 84 (((41 : Int32) + ((2 : Int32) * l3)).toNatClampNeg)) = l1 then (
     ogd (oin (((41 : Int32) + ((2 : Int32) * l3)) + (1 : Int32)) 279) (
     if (mI σ 84 ((((41 : Int32) + ((2 : Int32) * l3)) + (1 : Int32)).toNatClampNeg)) = l2 then (
      some ((2 : Int32), σ))
     else (fX10_askIn_b2 n l1 l2 (l3 + 1) σ)))
    else (fX10_askIn_b2 n l1 l2 (l3 + 1) σ)))
set_option maxRecDepth 100000 in
set_option maxHeartbeats 4000000 in
theorem rX10_askIn_b2 {K : OK} (hc : kcc K = cX10_askIn) (ho : kow K = RX10) (hL : knL K = 4) (hN : 0 ≤ kN K) (hr : (kme K).sig.returnType = (some .int)) {r0 : Int32} {σ0 : OM} (hE : oEnd K (some (.int r0)) σ0) (hz : kz K = 0) : ∀ (n : Nat) (l1 : Int32) (l2 : Int32) (l3 : Int32) (σ : OM), fX10_askIn_b2 n l1 l2 l3 σ = some (r0, σ0) → Go K 2 [.ref 81, .int l1, .int l2, .int l3] [] σ := by
  intro n
  induction n with
  | zero =>
    intro l1 l2 l3 σ h
    cases h
  | succ n ih =>
    intro l1 l2 l3 σ h
    rw [fX10_askIn_b2] at h
    refine go_iload_n hc dX10_askIn_2 rfl rfl ?_
    refine go_aload_n hc dX10_askIn_3 rfl rfl ?_
    refine go_getC (b := 84) rfl hc ho flX10_20 dX10_askIn_4 ok_81 ?_
    refine go_iconst hc dX10_askIn_7 ci_4 ?_
    refine go_iald hc dX10_askIn_8 ok_84 ol_84 (by decide +kernel) cn_4 ?_
    refine go_icmp_ge (tgt := 52) hc dX10_askIn_9 rfl (fun hh => ?_) (fun hh => ?_)
    · rw [if_pos hh] at h
      refine go_iconst hc dX10_askIn_52 ci_1 ?_
      exact go_iret hc (oend_i h hE) hr dX10_askIn_53
    · rw [if_neg hh] at h
      refine go_aload_n hc dX10_askIn_12 rfl rfl ?_
      refine go_getC (b := 84) rfl hc ho flX10_20 dX10_askIn_13 ok_81 ?_
      refine go_bipush hc dX10_askIn_16 cb_41 ?_
      refine go_iconst hc dX10_askIn_18 ci_2 ?_
      refine go_iload_n hc dX10_askIn_19 rfl rfl ?_
      refine go_imul hc dX10_askIn_20 ?_
      refine go_iadd hc dX10_askIn_21 ?_
      obtain ⟨hg1, h⟩ := ogd_some h
      refine go_iald hc dX10_askIn_22 ok_84 ol_84 hg1 rfl ?_
      refine go_iload_n hc dX10_askIn_23 rfl rfl ?_
      refine go_icmp_ne (tgt := 46) hc dX10_askIn_24 rfl (fun hh => ?_) (fun hh => ?_)
      · rw [if_neg hh] at h
        refine go_iinc hc (lv1 := [.ref 81, .int l1, .int l2, .int (l3 + 1)]) dX10_askIn_46 rfl ci_1 hL (by decide) (fun _ _ e => by cases e; rfl) rfl ?_
        refine go_goto (tgt := 2) hc dX10_askIn_49 rfl ?_
        exact ih l1 l2 (l3 + 1) _ h
      · rw [if_pos hh] at h
        refine go_aload_n hc dX10_askIn_27 rfl rfl ?_
        refine go_getC (b := 84) rfl hc ho flX10_20 dX10_askIn_28 ok_81 ?_
        refine go_bipush hc dX10_askIn_31 cb_41 ?_
        refine go_iconst hc dX10_askIn_33 ci_2 ?_
        refine go_iload_n hc dX10_askIn_34 rfl rfl ?_
        refine go_imul hc dX10_askIn_35 ?_
        refine go_iadd hc dX10_askIn_36 ?_
        refine go_iconst hc dX10_askIn_37 ci_1 ?_
        refine go_iadd hc dX10_askIn_38 ?_
        obtain ⟨hg2, h⟩ := ogd_some h
        refine go_iald hc dX10_askIn_39 ok_84 ol_84 hg2 rfl ?_
        refine go_iload_n hc dX10_askIn_40 rfl rfl ?_
        refine go_icmp_ne (tgt := 46) hc dX10_askIn_41 rfl (fun hh => ?_) (fun hh => ?_)
        · rw [if_neg hh] at h
          refine go_iinc hc (lv1 := [.ref 81, .int l1, .int l2, .int (l3 + 1)]) dX10_askIn_46 rfl ci_1 hL (by decide) (fun _ _ e => by cases e; rfl) rfl ?_
          refine go_goto (tgt := 2) hc dX10_askIn_49 rfl ?_
          exact ih l1 l2 (l3 + 1) _ h
        · rw [if_pos hh] at h
          refine go_iconst hc dX10_askIn_44 ci_2 ?_
          exact go_iret hc (oend_i h hE) hr dX10_askIn_45
def fX10_askIn (x0 : Int32) (x1 : Int32) (σ : OM) : Option (Int32 × OM) :=
  fX10_askIn_b2 oF x0 x1 (0 : Int32) σ
set_option maxRecDepth 100000 in
set_option maxHeartbeats 4000000 in
theorem rX10_askIn {N : Nat} {x0 : Int32} {x1 : Int32} {σ : OM} {r0 : Int32} {σ0 : OM} (h : fX10_askIn x0 x1 σ = some (r0, σ0)) (hN0 : 0 ≤ N) : oEv N MX10_askIn [.ref 81, .int x0, .int x1] σ (some (.int r0)) σ0 := by
  refine oEv_of (lv := [.ref 81, .int x0, .int x1, .null]) (by decide +kernel) (fun g q hq => hq) (fun g => Nat.le_of_ble_eq_true rfl) ?_
  intro K hc ho hL hN1 hr hE hz
  have hN : 0 ≤ kN K := by rw [hN1]; exact hN0
  unfold fX10_askIn at h
  refine go_iconst hc dX10_askIn_0 ci_0 ?_
  refine go_istore_n hc (lv1 := [.ref 81, .int x0, .int x1, .int (0 : Int32)]) dX10_askIn_1 rfl hL (by decide) (fun _ _ e => by cases e; rfl) rfl ?_
  exact rX10_askIn_b2 hc ho hL hN hr hE hz oF x0 x1 (0 : Int32) _ h
def fX10_yearOf (x0 : Int32) (x1 : Int32) (σ : OM) : Option (Int32 × OM) :=
  ogd (oin ((17 : Int32) + ((4 : Int32) * x0)) 279) (
  ogd (oin (((17 : Int32) + ((4 : Int32) * x0)) + (1 : Int32)) 279) (
  ogd (oin (((17 : Int32) + ((4 : Int32) * x0)) + (3 : Int32)) 279) (
  if (mI σ 84 ((((17 : Int32) + ((4 : Int32) * x0)) + (3 : Int32)).toNatClampNeg)) ≤ 0 then (
   some (((mI σ 84 (((17 : Int32) + ((4 : Int32) * x0)).toNatClampNeg)) + ((mI σ 84 ((((17 : Int32) + ((4 : Int32) * x0)) + (1 : Int32)).toNatClampNeg)) * x1)), σ))
  else (ogd (oin (((17 : Int32) + ((4 : Int32) * x0)) + (3 : Int32)) 279) (
  if ((mI σ 84 (((17 : Int32) + ((4 : Int32) * x0)).toNatClampNeg)) + ((mI σ 84 ((((17 : Int32) + ((4 : Int32) * x0)) + (1 : Int32)).toNatClampNeg)) * x1)) < ((mI σ 84 ((((17 : Int32) + ((4 : Int32) * x0)) + (3 : Int32)).toNatClampNeg)) - (1 : Int32)) then (
   some (((mI σ 84 (((17 : Int32) + ((4 : Int32) * x0)).toNatClampNeg)) + ((mI σ 84 ((((17 : Int32) + ((4 : Int32) * x0)) + (1 : Int32)).toNatClampNeg)) * x1)), σ))
  else (some (((-2) : Int32), σ)))))))
set_option maxRecDepth 100000 in
set_option maxHeartbeats 4000000 in
theorem rX10_yearOf {N : Nat} {x0 : Int32} {x1 : Int32} {σ : OM} {r0 : Int32} {σ0 : OM} (h : fX10_yearOf x0 x1 σ = some (r0, σ0)) (hN0 : 0 ≤ N) : oEv N MX10_yearOf [.ref 81, .int x0, .int x1] σ (some (.int r0)) σ0 := by
  refine oEv_of (lv := [.ref 81, .int x0, .int x1, .null, .null]) (by decide +kernel) (fun g q hq => hq) (fun g => Nat.le_of_ble_eq_true rfl) ?_
  intro K hc ho hL hN1 hr hE hz
  have hN : 0 ≤ kN K := by rw [hN1]; exact hN0
  unfold fX10_yearOf at h
  refine go_bipush hc dX10_yearOf_0 cb_17 ?_
  refine go_iconst hc dX10_yearOf_2 ci_4 ?_
  refine go_iload_n hc dX10_yearOf_3 rfl rfl ?_
  refine go_imul hc dX10_yearOf_4 ?_
  refine go_iadd hc dX10_yearOf_5 ?_
  refine go_istore_n hc (lv1 := [.ref 81, .int x0, .int x1, .int ((17 : Int32) + ((4 : Int32) * x0)), .null]) dX10_yearOf_6 rfl hL (by decide) (fun _ _ e => by cases e; rfl) rfl ?_
  refine go_aload_n hc dX10_yearOf_7 rfl rfl ?_
  refine go_getC (b := 84) rfl hc ho flX10_20 dX10_yearOf_8 ok_81 ?_
  refine go_iload_n hc dX10_yearOf_11 rfl rfl ?_
  obtain ⟨hg1, h⟩ := ogd_some h
  refine go_iald hc dX10_yearOf_12 ok_84 ol_84 hg1 rfl ?_
  refine go_aload_n hc dX10_yearOf_13 rfl rfl ?_
  refine go_getC (b := 84) rfl hc ho flX10_20 dX10_yearOf_14 ok_81 ?_
  refine go_iload_n hc dX10_yearOf_17 rfl rfl ?_
  refine go_iconst hc dX10_yearOf_18 ci_1 ?_
  refine go_iadd hc dX10_yearOf_19 ?_
  obtain ⟨hg2, h⟩ := ogd_some h
  refine go_iald hc dX10_yearOf_20 ok_84 ol_84 hg2 rfl ?_
  refine go_iload_n hc dX10_yearOf_21 rfl rfl ?_
  refine go_imul hc dX10_yearOf_22 ?_
  refine go_iadd hc dX10_yearOf_23 ?_
  refine go_istore hc (lv1 := [.ref 81, .int x0, .int x1, .int ((17 : Int32) + ((4 : Int32) * x0)), .int ((mI σ 84 (((17 : Int32) + ((4 : Int32) * x0)).toNatClampNeg)) + ((mI σ 84 ((((17 : Int32) + ((4 : Int32) * x0)) + (1 : Int32)).toNatClampNeg)) * x1))]) dX10_yearOf_24 hL (by decide) (fun _ _ e => by cases e; rfl) rfl ?_
  refine go_aload_n hc dX10_yearOf_26 rfl rfl ?_
  refine go_getC (b := 84) rfl hc ho flX10_20 dX10_yearOf_27 ok_81 ?_
  refine go_iload_n hc dX10_yearOf_30 rfl rfl ?_
  refine go_iconst hc dX10_yearOf_31 ci_3 ?_
  refine go_iadd hc dX10_yearOf_32 ?_
  obtain ⟨hg3, h⟩ := ogd_some h
  refine go_iald hc dX10_yearOf_33 ok_84 ol_84 hg3 rfl ?_
  refine go_if_le (tgt := 57) hc dX10_yearOf_34 rfl (fun hh => ?_) (fun hh => ?_)
  · rw [if_pos hh] at h
    refine go_iload hc dX10_yearOf_57 rfl ?_
    exact go_iret hc (oend_i h hE) hr dX10_yearOf_59
  · rw [if_neg hh] at h
    refine go_iload hc dX10_yearOf_37 rfl ?_
    refine go_aload_n hc dX10_yearOf_39 rfl rfl ?_
    refine go_getC (b := 84) rfl hc ho flX10_20 dX10_yearOf_40 ok_81 ?_
    refine go_iload_n hc dX10_yearOf_43 rfl rfl ?_
    refine go_iconst hc dX10_yearOf_44 ci_3 ?_
    refine go_iadd hc dX10_yearOf_45 ?_
    obtain ⟨hg4, h⟩ := ogd_some h
    refine go_iald hc dX10_yearOf_46 ok_84 ol_84 hg4 rfl ?_
    refine go_iconst hc dX10_yearOf_47 ci_1 ?_
    refine go_isub hc dX10_yearOf_48 ?_
    refine go_icmp_lt (tgt := 57) hc dX10_yearOf_49 rfl (fun hh => ?_) (fun hh => ?_)
    · rw [if_pos hh] at h
      refine go_iload hc dX10_yearOf_57 rfl ?_
      exact go_iret hc (oend_i h hE) hr dX10_yearOf_59
    · rw [if_neg hh] at h
      refine go_bipush hc dX10_yearOf_52 cb_m2 ?_
      refine go_goto (tgt := 59) hc dX10_yearOf_54 rfl ?_
      exact go_iret hc (oend_i h hE) hr dX10_yearOf_59
def fX10_asking_b66 (l1 : Int32) (l4 : Int32) (σ : OM) : Option (Int32 × OM) :=
  obi (fX10_yearOf l1 l4 σ) (fun r1 σ2 =>
  some (r1, σ2))
set_option maxRecDepth 100000 in
set_option maxHeartbeats 4000000 in
theorem rX10_asking_b66 {K : OK} (hc : kcc K = cX10_asking) (ho : kow K = RX10) (hL : knL K = 5) (hN : 2 ≤ kN K) (hr : (kme K).sig.returnType = (some .int)) {r0 : Int32} {σ0 : OM} (hE : oEnd K (some (.int r0)) σ0) (hz : kz K = 0) {l1 : Int32} {l4 : Int32} {σ : OM} (h : fX10_asking_b66 l1 l4 σ = some (r0, σ0)) : Go K 66 [.ref 81, .int l1, .null, .null, .int l4] [] σ := by
  unfold fX10_asking_b66 at h
  refine go_aload_n hc dX10_asking_66 rfl rfl ?_
  refine go_iload_n hc dX10_asking_67 rfl rfl ?_
  refine go_iload hc dX10_asking_68 rfl ?_
  obtain ⟨r1, σ2, hf3, h⟩ := obi_some h
  refine go_callVi hc ho cmX10_yearOf mlX10_408 dX10_asking_70 ok_81 (As := [.int l1, .int l4]) (rest := []) (rX10_yearOf (N := 0) hf3 (Nat.le_refl _)) rfl (Nat.le_trans (Nat.le_of_ble_eq_true rfl) hN) rfl (Nat.le_of_ble_eq_true rfl) (Or.inl hz) ?_
  exact go_iret hc (oend_i h hE) hr dX10_asking_73
def fX10_asking_b39 : Nat → Int32 → Int32 → Int32 → OM → Option (Int32 × OM)
  | 0, _, _, _, _ => none
  | n + 1, l1, l3, l4, σ =>
    obi (fX10_askIn l1 l4 σ) (fun r1 σ2 =>
    if l3 < r1 then (
     fX10_asking_b66 l1 l4 σ2)
    else (obi (fX10_askIn l1 l4 σ2) (fun r4 σ5 =>
    fX10_asking_b39 n l1 (l3 - r4) (l4 + 1) σ5)))
set_option maxRecDepth 100000 in
set_option maxHeartbeats 4000000 in
theorem rX10_asking_b39 {K : OK} (hc : kcc K = cX10_asking) (ho : kow K = RX10) (hL : knL K = 5) (hN : 2 ≤ kN K) (hr : (kme K).sig.returnType = (some .int)) {r0 : Int32} {σ0 : OM} (hE : oEnd K (some (.int r0)) σ0) (hz : kz K = 0) : ∀ (n : Nat) (l1 : Int32) (l3 : Int32) (l4 : Int32) (σ : OM), fX10_asking_b39 n l1 l3 l4 σ = some (r0, σ0) → Go K 39 [.ref 81, .int l1, .null, .int l3, .int l4] [] σ := by
  intro n
  induction n with
  | zero =>
    intro l1 l3 l4 σ h
    cases h
  | succ n ih =>
    intro l1 l3 l4 σ h
    rw [fX10_asking_b39] at h
    refine go_iload_n hc dX10_asking_39 rfl rfl ?_
    refine go_aload_n hc dX10_asking_40 rfl rfl ?_
    refine go_iload_n hc dX10_asking_41 rfl rfl ?_
    refine go_iload hc dX10_asking_42 rfl ?_
    obtain ⟨r1, σ2, hf3, h⟩ := obi_some h
    refine go_callVi hc ho cmX10_askIn mlX10_405 dX10_asking_44 ok_81 (As := [.int l1, .int l4]) (rest := [.int l3]) (rX10_askIn (N := 0) hf3 (Nat.le_refl _)) rfl (Nat.le_trans (Nat.le_of_ble_eq_true rfl) hN) rfl (Nat.le_of_ble_eq_true rfl) (Or.inl hz) ?_
    refine go_icmp_lt (tgt := 66) hc dX10_asking_47 rfl (fun hh => ?_) (fun hh => ?_)
    · rw [if_pos hh] at h
      refine go_mask [true, true, false, false, true] (lv1 := [.ref 81, .int l1, .null, .null, .int l4]) rfl ?_
      exact rX10_asking_b66 hc ho hL hN hr hE hz h
    · rw [if_neg hh] at h
      refine go_iload_n hc dX10_asking_50 rfl rfl ?_
      refine go_aload_n hc dX10_asking_51 rfl rfl ?_
      refine go_iload_n hc dX10_asking_52 rfl rfl ?_
      refine go_iload hc dX10_asking_53 rfl ?_
      obtain ⟨r4, σ5, hf6, h⟩ := obi_some h
      refine go_callVi hc ho cmX10_askIn mlX10_405 dX10_asking_55 ok_81 (As := [.int l1, .int l4]) (rest := [.int l3]) (rX10_askIn (N := 0) hf6 (Nat.le_refl _)) rfl (Nat.le_trans (Nat.le_of_ble_eq_true rfl) hN) rfl (Nat.le_of_ble_eq_true rfl) (Or.inl hz) ?_
      refine go_isub hc dX10_asking_58 ?_
      refine go_istore_n hc (lv1 := [.ref 81, .int l1, .null, .int (l3 - r4), .int l4]) dX10_asking_59 rfl hL (by decide) (fun _ _ e => by cases e; rfl) rfl ?_
      refine go_iinc hc (lv1 := [.ref 81, .int l1, .null, .int (l3 - r4), .int (l4 + 1)]) dX10_asking_60 rfl ci_1 hL (by decide) (fun _ _ e => by cases e; rfl) rfl ?_
      refine go_goto (tgt := 39) hc dX10_asking_63 rfl ?_
      exact ih l1 (l3 - r4) (l4 + 1) _ h
def fX10_asking (x0 : Int32) (x1 : Int32) (σ : OM) : Option (Int32 × OM) :=
  obv (fX10_good σ) (fun σ2 =>
  obi (fX10_isHouse x0 σ2) (fun r4 σ5 =>
  if r4 = 0 then (
   obi (fX10_no (1 : Int32) σ5) (fun r13 σ14 =>
   some (r13, σ14)))
  else (obi (fX10_in x1 (0 : Int32) (99 : Int32) σ5) (fun r7 σ8 =>
  if r7 = 0 then (
   obi (fX10_no (2 : Int32) σ8) (fun r10 σ11 =>
   some (r10, σ11)))
  else (fX10_asking_b39 oF x0 x1 (0 : Int32) σ8)))))
set_option maxRecDepth 100000 in
set_option maxHeartbeats 4000000 in
theorem rX10_asking {N : Nat} {x0 : Int32} {x1 : Int32} {σ : OM} {r0 : Int32} {σ0 : OM} (h : fX10_asking x0 x1 σ = some (r0, σ0)) (hN0 : 2 ≤ N) : oEv N MX10_asking [.ref 81, .int x0, .int x1] σ (some (.int r0)) σ0 := by
  refine oEv_of (lv := [.ref 81, .int x0, .int x1, .null, .null]) (by decide +kernel) (fun g q hq => hq) (fun g => Nat.le_of_ble_eq_true rfl) ?_
  intro K hc ho hL hN1 hr hE hz
  have hN : 2 ≤ kN K := by rw [hN1]; exact hN0
  unfold fX10_asking at h
  refine go_aload_n hc dX10_asking_0 rfl rfl ?_
  obtain ⟨σ2, hf3, h⟩ := obv_some h
  refine go_callVv hc ho cmX10_good mlX10_199 dX10_asking_1 ok_81 (As := []) (rest := []) (rX10_good (N := 0) hf3 (Nat.le_refl _)) rfl (Nat.le_trans (Nat.le_of_ble_eq_true rfl) hN) rfl (Nat.le_of_ble_eq_true rfl) (Or.inl hz) ?_
  refine go_aload_n hc dX10_asking_4 rfl rfl ?_
  refine go_iload_n hc dX10_asking_5 rfl rfl ?_
  obtain ⟨r4, σ5, hf6, h⟩ := obi_some h
  refine go_callVi hc ho cmX10_isHouse mlX10_323 dX10_asking_6 ok_81 (As := [.int x0]) (rest := []) (rX10_isHouse (N := 1) hf6 (Nat.le_refl _)) rfl (Nat.le_trans (Nat.le_of_ble_eq_true rfl) hN) rfl (Nat.le_of_ble_eq_true rfl) (Or.inl hz) ?_
  refine go_if_ne (tgt := 18) hc dX10_asking_9 rfl (fun hh => ?_) (fun hh => ?_)
  · rw [if_neg hh] at h
    refine go_iload_n hc dX10_asking_18 rfl rfl ?_
    refine go_iconst hc dX10_asking_19 ci_0 ?_
    refine go_bipush hc dX10_asking_20 cb_99 ?_
    obtain ⟨r7, σ8, hf9, h⟩ := obi_some h
    refine go_callSi hc ho cmX10_in mlX10_156 dX10_asking_22 (As := [.int x1, .int (0 : Int32), .int (99 : Int32)]) (rest := []) (rX10_in (N := 0) hf9 (Nat.le_refl _)) rfl (Nat.le_trans (Nat.le_of_ble_eq_true rfl) hN) rfl (Nat.le_of_ble_eq_true rfl) (Or.inl hz) ?_
    refine go_if_ne (tgt := 34) hc dX10_asking_25 rfl (fun hh => ?_) (fun hh => ?_)
    · rw [if_neg hh] at h
      refine go_iload_n hc dX10_asking_34 rfl rfl ?_
      refine go_istore_n hc (lv1 := [.ref 81, .int x0, .int x1, .int x1, .null]) dX10_asking_35 rfl hL (by decide) (fun _ _ e => by cases e; rfl) rfl ?_
      refine go_iconst hc dX10_asking_36 ci_0 ?_
      refine go_istore hc (lv1 := [.ref 81, .int x0, .int x1, .int x1, .int (0 : Int32)]) dX10_asking_37 hL (by decide) (fun _ _ e => by cases e; rfl) rfl ?_
      refine go_mask [true, true, false, true, true] (lv1 := [.ref 81, .int x0, .null, .int x1, .int (0 : Int32)]) rfl ?_
      exact rX10_asking_b39 hc ho hL hN hr hE hz oF x0 x1 (0 : Int32) _ h
    · rw [if_pos hh] at h
      refine go_aload_n hc dX10_asking_28 rfl rfl ?_
      refine go_iconst hc dX10_asking_29 ci_2 ?_
      obtain ⟨r10, σ11, hf12, h⟩ := obi_some h
      refine go_callVi hc ho cmX10_no mlX10_202 dX10_asking_30 ok_81 (As := [.int (2 : Int32)]) (rest := []) (rX10_no (N := 0) hf12 (Nat.le_refl _)) rfl (Nat.le_trans (Nat.le_of_ble_eq_true rfl) hN) rfl (Nat.le_of_ble_eq_true rfl) (Or.inl hz) ?_
      exact go_iret hc (oend_i h hE) hr dX10_asking_33
  · rw [if_pos hh] at h
    refine go_aload_n hc dX10_asking_12 rfl rfl ?_
    refine go_iconst hc dX10_asking_13 ci_1 ?_
    obtain ⟨r13, σ14, hf15, h⟩ := obi_some h
    refine go_callVi hc ho cmX10_no mlX10_202 dX10_asking_14 ok_81 (As := [.int (1 : Int32)]) (rest := []) (rX10_no (N := 0) hf15 (Nat.le_refl _)) rfl (Nat.le_trans (Nat.le_of_ble_eq_true rfl) hN) rfl (Nat.le_of_ble_eq_true rfl) (Or.inl hz) ?_
    exact go_iret hc (oend_i h hE) hr dX10_asking_17
def fX10_next_b52 (l1 : Int32) (l2 : Int32) (σ : OM) : Option (Int32 × OM) :=
  obi (fX10_yearOf l1 l2 σ) (fun r1 σ2 =>
  some (r1, σ2))
set_option maxRecDepth 100000 in
set_option maxHeartbeats 4000000 in
theorem rX10_next_b52 {K : OK} (hc : kcc K = cX10_next) (ho : kow K = RX10) (hL : knL K = 3) (hN : 2 ≤ kN K) (hr : (kme K).sig.returnType = (some .int)) {r0 : Int32} {σ0 : OM} (hE : oEnd K (some (.int r0)) σ0) (hz : kz K = 0) {l1 : Int32} {l2 : Int32} {σ : OM} (h : fX10_next_b52 l1 l2 σ = some (r0, σ0)) : Go K 52 [.ref 81, .int l1, .int l2] [] σ := by
  unfold fX10_next_b52 at h
  refine go_aload_n hc dX10_next_52 rfl rfl ?_
  refine go_iload_n hc dX10_next_53 rfl rfl ?_
  refine go_iload_n hc dX10_next_54 rfl rfl ?_
  obtain ⟨r1, σ2, hf3, h⟩ := obi_some h
  refine go_callVi hc ho cmX10_yearOf mlX10_408 dX10_next_55 ok_81 (As := [.int l1, .int l2]) (rest := []) (rX10_yearOf (N := 0) hf3 (Nat.le_refl _)) rfl (Nat.le_trans (Nat.le_of_ble_eq_true rfl) hN) rfl (Nat.le_of_ble_eq_true rfl) (Or.inl hz) ?_
  exact go_iret hc (oend_i h hE) hr dX10_next_58
def fX10_next_b20 : Nat → Int32 → Int32 → OM → Option (Int32 × OM)
  | 0, _, _, _ => none
  | n + 1, l1, l2, σ =>
    obi (fX10_yearOf l1 l2 σ) (fun r1 σ2 =>
    if r1 = ((-2) : Int32) then (
     fX10_next_b52 l1 l2 σ2)
    else (obi (fX10_yearOf l1 l2 σ2) (fun r4 σ5 =>
    if (mI σ5 88 0) ≤ r4 then (
     fX10_next_b52 l1 l2 σ5)
    else (fX10_next_b20 n l1 (l2 + 1) σ5))))
set_option maxRecDepth 100000 in
set_option maxHeartbeats 4000000 in
theorem rX10_next_b20 {K : OK} (hc : kcc K = cX10_next) (ho : kow K = RX10) (hL : knL K = 3) (hN : 2 ≤ kN K) (hr : (kme K).sig.returnType = (some .int)) {r0 : Int32} {σ0 : OM} (hE : oEnd K (some (.int r0)) σ0) (hz : kz K = 0) : ∀ (n : Nat) (l1 : Int32) (l2 : Int32) (σ : OM), fX10_next_b20 n l1 l2 σ = some (r0, σ0) → Go K 20 [.ref 81, .int l1, .int l2] [] σ := by
  intro n
  induction n with
  | zero =>
    intro l1 l2 σ h
    cases h
  | succ n ih =>
    intro l1 l2 σ h
    rw [fX10_next_b20] at h
    refine go_aload_n hc dX10_next_20 rfl rfl ?_
    refine go_iload_n hc dX10_next_21 rfl rfl ?_
    refine go_iload_n hc dX10_next_22 rfl rfl ?_
    obtain ⟨r1, σ2, hf3, h⟩ := obi_some h
    refine go_callVi hc ho cmX10_yearOf mlX10_408 dX10_next_23 ok_81 (As := [.int l1, .int l2]) (rest := []) (rX10_yearOf (N := 0) hf3 (Nat.le_refl _)) rfl (Nat.le_trans (Nat.le_of_ble_eq_true rfl) hN) rfl (Nat.le_of_ble_eq_true rfl) (Or.inl hz) ?_
    refine go_bipush hc dX10_next_26 cb_m2 ?_
    refine go_icmp_eq (tgt := 52) hc dX10_next_28 rfl (fun hh => ?_) (fun hh => ?_)
    · rw [if_pos hh] at h
      exact rX10_next_b52 hc ho hL hN hr hE hz h
    · rw [if_neg hh] at h
      refine go_aload_n hc dX10_next_31 rfl rfl ?_
      refine go_iload_n hc dX10_next_32 rfl rfl ?_
      refine go_iload_n hc dX10_next_33 rfl rfl ?_
      obtain ⟨r4, σ5, hf6, h⟩ := obi_some h
      refine go_callVi hc ho cmX10_yearOf mlX10_408 dX10_next_34 ok_81 (As := [.int l1, .int l2]) (rest := []) (rX10_yearOf (N := 0) hf6 (Nat.le_refl _)) rfl (Nat.le_trans (Nat.le_of_ble_eq_true rfl) hN) rfl (Nat.le_of_ble_eq_true rfl) (Or.inl hz) ?_
      refine go_aload_n hc dX10_next_37 rfl rfl ?_
      refine go_getC (b := 88) rfl hc ho flX10_33 dX10_next_38 ok_81 ?_
      refine go_iconst hc dX10_next_41 ci_0 ?_
      refine go_iald hc dX10_next_42 ok_88 ol_88 (by decide +kernel) cn_0 ?_
      refine go_icmp_ge (tgt := 52) hc dX10_next_43 rfl (fun hh => ?_) (fun hh => ?_)
      · rw [if_pos hh] at h
        exact rX10_next_b52 hc ho hL hN hr hE hz h
      · rw [if_neg hh] at h
        refine go_iinc hc (lv1 := [.ref 81, .int l1, .int (l2 + 1)]) dX10_next_46 rfl ci_1 hL (by decide) (fun _ _ e => by cases e; rfl) rfl ?_
        refine go_goto (tgt := 20) hc dX10_next_49 rfl ?_
        exact ih l1 (l2 + 1) _ h
def fX10_next (x0 : Int32) (σ : OM) : Option (Int32 × OM) :=
  obv (fX10_good σ) (fun σ2 =>
  obi (fX10_isHouse x0 σ2) (fun r4 σ5 =>
  if r4 = 0 then (
   obi (fX10_no (1 : Int32) σ5) (fun r7 σ8 =>
   some (r7, σ8)))
  else (fX10_next_b20 oF x0 (0 : Int32) σ5)))
set_option maxRecDepth 100000 in
set_option maxHeartbeats 4000000 in
theorem rX10_next {N : Nat} {x0 : Int32} {σ : OM} {r0 : Int32} {σ0 : OM} (h : fX10_next x0 σ = some (r0, σ0)) (hN0 : 2 ≤ N) : oEv N MX10_next [.ref 81, .int x0] σ (some (.int r0)) σ0 := by
  refine oEv_of (lv := [.ref 81, .int x0, .null]) (by decide +kernel) (fun g q hq => hq) (fun g => Nat.le_of_ble_eq_true rfl) ?_
  intro K hc ho hL hN1 hr hE hz
  have hN : 2 ≤ kN K := by rw [hN1]; exact hN0
  unfold fX10_next at h
  refine go_aload_n hc dX10_next_0 rfl rfl ?_
  obtain ⟨σ2, hf3, h⟩ := obv_some h
  refine go_callVv hc ho cmX10_good mlX10_199 dX10_next_1 ok_81 (As := []) (rest := []) (rX10_good (N := 0) hf3 (Nat.le_refl _)) rfl (Nat.le_trans (Nat.le_of_ble_eq_true rfl) hN) rfl (Nat.le_of_ble_eq_true rfl) (Or.inl hz) ?_
  refine go_aload_n hc dX10_next_4 rfl rfl ?_
  refine go_iload_n hc dX10_next_5 rfl rfl ?_
  obtain ⟨r4, σ5, hf6, h⟩ := obi_some h
  refine go_callVi hc ho cmX10_isHouse mlX10_323 dX10_next_6 ok_81 (As := [.int x0]) (rest := []) (rX10_isHouse (N := 1) hf6 (Nat.le_refl _)) rfl (Nat.le_trans (Nat.le_of_ble_eq_true rfl) hN) rfl (Nat.le_of_ble_eq_true rfl) (Or.inl hz) ?_
  refine go_if_ne (tgt := 18) hc dX10_next_9 rfl (fun hh => ?_) (fun hh => ?_)
  · rw [if_neg hh] at h
    refine go_iconst hc dX10_next_18 ci_0 ?_
    refine go_istore_n hc (lv1 := [.ref 81, .int x0, .int (0 : Int32)]) dX10_next_19 rfl hL (by decide) (fun _ _ e => by cases e; rfl) rfl ?_
    exact rX10_next_b20 hc ho hL hN hr hE hz oF x0 (0 : Int32) _ h
  · rw [if_pos hh] at h
    refine go_aload_n hc dX10_next_12 rfl rfl ?_
    refine go_iconst hc dX10_next_13 ci_1 ?_
    obtain ⟨r7, σ8, hf9, h⟩ := obi_some h
    refine go_callVi hc ho cmX10_no mlX10_202 dX10_next_14 ok_81 (As := [.int (1 : Int32)]) (rest := []) (rX10_no (N := 0) hf9 (Nat.le_refl _)) rfl (Nat.le_trans (Nat.le_of_ble_eq_true rfl) hN) rfl (Nat.le_of_ble_eq_true rfl) (Or.inl hz) ?_
    exact go_iret hc (oend_i h hE) hr dX10_next_17
def fX10_turnOf_b130 (rc56 : Int32 → OM → Option (Int32 × OM)) (l2 : Int32) (l3 : Int32) (σ : OM) : Option (Int32 × OM) :=
  if 0 ≤ l3 then (
   ogd (oin l3 6) (
   obi (fX10_askIn l3 (mI σ 93 l3.toNatClampNeg) σ) (fun r2 σ3 =>
   if 0 ≤ (l2 - r2) then (
    ogd (oin l3 6) (
    ogd (oin l3 6) (
    rc56 (l2 - r2) (sI σ3 93 l3.toNatClampNeg ((mI σ3 93 l3.toNatClampNeg) + (1 : Int32))))))
   else (some (l3, σ3)))))
  else (some (((-2) : Int32), σ))
set_option maxRecDepth 100000 in
set_option maxHeartbeats 4000000 in
theorem rX10_turnOf_b130 {K : OK} (hc : kcc K = cX10_turnOf) (ho : kow K = RX10) (hL : knL K = 5) (hN : 1 ≤ kN K) (hr : (kme K).sig.returnType = (some .int)) {r0 : Int32} {σ0 : OM} (hE : oEnd K (some (.int r0)) σ0) (hz : kz K = 0) {rc56 : Int32 → OM → Option (Int32 × OM)} (hrc56 : ∀ (l2 : Int32) (σ : OM), rc56 l2 σ = some (r0, σ0) → Go K 56 [.ref 81, .null, .int l2, .null, .null] [] σ) {l2 : Int32} {l3 : Int32} {σ : OM} (h : fX10_turnOf_b130 rc56 l2 l3 σ = some (r0, σ0)) : Go K 130 [.ref 81, .null, .int l2, .int l3, .null] [] σ := by
  unfold fX10_turnOf_b130 at h
  refine go_iload_n hc dX10_turnOf_130 rfl rfl ?_
  refine go_if_ge (tgt := 137) hc dX10_turnOf_131 rfl (fun hh => ?_) (fun hh => ?_)
  · rw [if_pos hh] at h
    refine go_iload_n hc dX10_turnOf_137 rfl rfl ?_
    refine go_aload_n hc dX10_turnOf_138 rfl rfl ?_
    refine go_iload_n hc dX10_turnOf_139 rfl rfl ?_
    refine go_aload_n hc dX10_turnOf_140 rfl rfl ?_
    refine go_getC (b := 93) rfl hc ho flX10_48 dX10_turnOf_141 ok_81 ?_
    refine go_iload_n hc dX10_turnOf_144 rfl rfl ?_
    obtain ⟨hg1, h⟩ := ogd_some h
    refine go_iald hc dX10_turnOf_145 ok_93 ol_93 hg1 rfl ?_
    obtain ⟨r2, σ3, hf4, h⟩ := obi_some h
    refine go_callVi hc ho cmX10_askIn mlX10_405 dX10_turnOf_146 ok_81 (As := [.int l3, .int (mI σ 93 l3.toNatClampNeg)]) (rest := [.int l2]) (rX10_askIn (N := 0) hf4 (Nat.le_refl _)) rfl (Nat.le_trans (Nat.le_of_ble_eq_true rfl) hN) rfl (Nat.le_of_ble_eq_true rfl) (Or.inl hz) ?_
    refine go_isub hc dX10_turnOf_149 ?_
    refine go_istore_n hc (lv1 := [.ref 81, .null, .int (l2 - r2), .int l3, .null]) dX10_turnOf_150 rfl hL (by decide) (fun _ _ e => by cases e; rfl) rfl ?_
    refine go_iload_n hc dX10_turnOf_151 rfl rfl ?_
    refine go_if_ge (tgt := 157) hc dX10_turnOf_152 rfl (fun hh => ?_) (fun hh => ?_)
    · rw [if_pos hh] at h
      refine go_aload_n hc dX10_turnOf_157 rfl rfl ?_
      refine go_getC (b := 93) rfl hc ho flX10_48 dX10_turnOf_158 ok_81 ?_
      refine go_iload_n hc dX10_turnOf_161 rfl rfl ?_
      refine go_dup2_11 hc dX10_turnOf_162 rfl rfl ?_
      obtain ⟨hg5, h⟩ := ogd_some h
      refine go_iald hc dX10_turnOf_163 ok_93 ol_93 hg5 rfl ?_
      refine go_iconst hc dX10_turnOf_164 ci_1 ?_
      refine go_iadd hc dX10_turnOf_165 ?_
      obtain ⟨hg6, h⟩ := ogd_some h
      refine go_iast hc dX10_turnOf_166 ok_93 ol_93 hg6 rfl ?_
      refine go_goto (tgt := 56) hc dX10_turnOf_167 rfl ?_
      refine go_mask [true, false, true, false, false] (lv1 := [.ref 81, .null, .int (l2 - r2), .null, .null]) rfl ?_
      exact hrc56 (l2 - r2) _ h
    · rw [if_neg hh] at h
      refine go_iload_n hc dX10_turnOf_155 rfl rfl ?_
      exact go_iret hc (oend_i h hE) hr dX10_turnOf_156
  · rw [if_neg hh] at h
    refine go_bipush hc dX10_turnOf_134 cb_m2 ?_
    exact go_iret hc (oend_i h hE) hr dX10_turnOf_136
def fX10_turnOf_b61 (rc56 : Int32 → OM → Option (Int32 × OM)) : Nat → Int32 → Int32 → Int32 → OM → Option (Int32 × OM)
  | 0, _, _, _, _ => none
  | n + 1, l2, l3, l4, σ =>
    if (mI σ 84 3) ≤ l4 then (
     fX10_turnOf_b130 rc56 l2 l3 σ)
    else (ogd (oin l4 6) (
    obi (fX10_yearOf l4 (mI σ 93 l4.toNatClampNeg) σ) (fun r2 σ3 =>
    if r2 = ((-2) : Int32) then (
     fX10_turnOf_b61 rc56 n l2 l3 (l4 + 1) σ3)
    else (if l3 < 0 then (
     fX10_turnOf_b61 rc56 n l2 l4 (l4 + 1) σ3)
    else (ogd (oin l4 6) (
    obi (fX10_yearOf l4 (mI σ3 93 l4.toNatClampNeg) σ3) (fun r6 σ7 =>
    ogd (oin l3 6) (
    obi (fX10_yearOf l3 (mI σ7 93 l3.toNatClampNeg) σ7) (fun r10 σ11 =>
    if r10 ≤ r6 then (
     fX10_turnOf_b61 rc56 n l2 l3 (l4 + 1) σ11)
    else (fX10_turnOf_b61 rc56 n l2 l4 (l4 + 1) σ11))))))))))
set_option maxRecDepth 100000 in
set_option maxHeartbeats 4000000 in
theorem rX10_turnOf_b61 {K : OK} (hc : kcc K = cX10_turnOf) (ho : kow K = RX10) (hL : knL K = 5) (hN : 1 ≤ kN K) (hr : (kme K).sig.returnType = (some .int)) {r0 : Int32} {σ0 : OM} (hE : oEnd K (some (.int r0)) σ0) (hz : kz K = 0) {rc56 : Int32 → OM → Option (Int32 × OM)} (hrc56 : ∀ (l2 : Int32) (σ : OM), rc56 l2 σ = some (r0, σ0) → Go K 56 [.ref 81, .null, .int l2, .null, .null] [] σ) : ∀ (n : Nat) (l2 : Int32) (l3 : Int32) (l4 : Int32) (σ : OM), fX10_turnOf_b61 rc56 n l2 l3 l4 σ = some (r0, σ0) → Go K 61 [.ref 81, .null, .int l2, .int l3, .int l4] [] σ := by
  intro n
  induction n with
  | zero =>
    intro l2 l3 l4 σ h
    cases h
  | succ n ih =>
    intro l2 l3 l4 σ h
    rw [fX10_turnOf_b61] at h
    refine go_iload hc dX10_turnOf_61 rfl ?_
    refine go_aload_n hc dX10_turnOf_63 rfl rfl ?_
    refine go_getC (b := 84) rfl hc ho flX10_20 dX10_turnOf_64 ok_81 ?_
    refine go_iconst hc dX10_turnOf_67 ci_3 ?_
    refine go_iald hc dX10_turnOf_68 ok_84 ol_84 (by decide +kernel) cn_3 ?_
    refine go_icmp_ge (tgt := 130) hc dX10_turnOf_69 rfl (fun hh => ?_) (fun hh => ?_)
    · rw [if_pos hh] at h
      refine go_mask [true, false, true, true, false] (lv1 := [.ref 81, .null, .int l2, .int l3, .null]) rfl ?_
      exact rX10_turnOf_b130 hc ho hL hN hr hE hz hrc56 h
    · rw [if_neg hh] at h
      refine go_aload_n hc dX10_turnOf_72 rfl rfl ?_
      refine go_iload hc dX10_turnOf_73 rfl ?_
      refine go_aload_n hc dX10_turnOf_75 rfl rfl ?_
      refine go_getC (b := 93) rfl hc ho flX10_48 dX10_turnOf_76 ok_81 ?_
      refine go_iload hc dX10_turnOf_79 rfl ?_
      obtain ⟨hg1, h⟩ := ogd_some h
      refine go_iald hc dX10_turnOf_81 ok_93 ol_93 hg1 rfl ?_
      obtain ⟨r2, σ3, hf4, h⟩ := obi_some h
      refine go_callVi hc ho cmX10_yearOf mlX10_408 dX10_turnOf_82 ok_81 (As := [.int l4, .int (mI σ 93 l4.toNatClampNeg)]) (rest := []) (rX10_yearOf (N := 0) hf4 (Nat.le_refl _)) rfl (Nat.le_trans (Nat.le_of_ble_eq_true rfl) hN) rfl (Nat.le_of_ble_eq_true rfl) (Or.inl hz) ?_
      refine go_bipush hc dX10_turnOf_85 cb_m2 ?_
      refine go_icmp_eq (tgt := 124) hc dX10_turnOf_87 rfl (fun hh => ?_) (fun hh => ?_)
      · rw [if_pos hh] at h
        refine go_iinc hc (lv1 := [.ref 81, .null, .int l2, .int l3, .int (l4 + 1)]) dX10_turnOf_124 rfl ci_1 hL (by decide) (fun _ _ e => by cases e; rfl) rfl ?_
        refine go_goto (tgt := 61) hc dX10_turnOf_127 rfl ?_
        exact ih l2 l3 (l4 + 1) _ h
      · rw [if_neg hh] at h
        refine go_iload_n hc dX10_turnOf_90 rfl rfl ?_
        refine go_if_lt (tgt := 121) hc dX10_turnOf_91 rfl (fun hh => ?_) (fun hh => ?_)
        · rw [if_pos hh] at h
          refine go_iload hc dX10_turnOf_121 rfl ?_
          refine go_istore_n hc (lv1 := [.ref 81, .null, .int l2, .int l4, .int l4]) dX10_turnOf_123 rfl hL (by decide) (fun _ _ e => by cases e; rfl) rfl ?_
          refine go_iinc hc (lv1 := [.ref 81, .null, .int l2, .int l4, .int (l4 + 1)]) dX10_turnOf_124 rfl ci_1 hL (by decide) (fun _ _ e => by cases e; rfl) rfl ?_
          refine go_goto (tgt := 61) hc dX10_turnOf_127 rfl ?_
          exact ih l2 l4 (l4 + 1) _ h
        · rw [if_neg hh] at h
          refine go_aload_n hc dX10_turnOf_94 rfl rfl ?_
          refine go_iload hc dX10_turnOf_95 rfl ?_
          refine go_aload_n hc dX10_turnOf_97 rfl rfl ?_
          refine go_getC (b := 93) rfl hc ho flX10_48 dX10_turnOf_98 ok_81 ?_
          refine go_iload hc dX10_turnOf_101 rfl ?_
          obtain ⟨hg5, h⟩ := ogd_some h
          refine go_iald hc dX10_turnOf_103 ok_93 ol_93 hg5 rfl ?_
          obtain ⟨r6, σ7, hf8, h⟩ := obi_some h
          refine go_callVi hc ho cmX10_yearOf mlX10_408 dX10_turnOf_104 ok_81 (As := [.int l4, .int (mI σ3 93 l4.toNatClampNeg)]) (rest := []) (rX10_yearOf (N := 0) hf8 (Nat.le_refl _)) rfl (Nat.le_trans (Nat.le_of_ble_eq_true rfl) hN) rfl (Nat.le_of_ble_eq_true rfl) (Or.inl hz) ?_
          refine go_aload_n hc dX10_turnOf_107 rfl rfl ?_
          refine go_iload_n hc dX10_turnOf_108 rfl rfl ?_
          refine go_aload_n hc dX10_turnOf_109 rfl rfl ?_
          refine go_getC (b := 93) rfl hc ho flX10_48 dX10_turnOf_110 ok_81 ?_
          refine go_iload_n hc dX10_turnOf_113 rfl rfl ?_
          obtain ⟨hg9, h⟩ := ogd_some h
          refine go_iald hc dX10_turnOf_114 ok_93 ol_93 hg9 rfl ?_
          obtain ⟨r10, σ11, hf12, h⟩ := obi_some h
          refine go_callVi hc ho cmX10_yearOf mlX10_408 dX10_turnOf_115 ok_81 (As := [.int l3, .int (mI σ7 93 l3.toNatClampNeg)]) (rest := [.int r6]) (rX10_yearOf (N := 0) hf12 (Nat.le_refl _)) rfl (Nat.le_trans (Nat.le_of_ble_eq_true rfl) hN) rfl (Nat.le_of_ble_eq_true rfl) (Or.inl hz) ?_
          refine go_icmp_ge (tgt := 124) hc dX10_turnOf_118 rfl (fun hh => ?_) (fun hh => ?_)
          · rw [if_pos hh] at h
            refine go_iinc hc (lv1 := [.ref 81, .null, .int l2, .int l3, .int (l4 + 1)]) dX10_turnOf_124 rfl ci_1 hL (by decide) (fun _ _ e => by cases e; rfl) rfl ?_
            refine go_goto (tgt := 61) hc dX10_turnOf_127 rfl ?_
            exact ih l2 l3 (l4 + 1) _ h
          · rw [if_neg hh] at h
            refine go_iload hc dX10_turnOf_121 rfl ?_
            refine go_istore_n hc (lv1 := [.ref 81, .null, .int l2, .int l4, .int l4]) dX10_turnOf_123 rfl hL (by decide) (fun _ _ e => by cases e; rfl) rfl ?_
            refine go_iinc hc (lv1 := [.ref 81, .null, .int l2, .int l4, .int (l4 + 1)]) dX10_turnOf_124 rfl ci_1 hL (by decide) (fun _ _ e => by cases e; rfl) rfl ?_
            refine go_goto (tgt := 61) hc dX10_turnOf_127 rfl ?_
            exact ih l2 l4 (l4 + 1) _ h
def fX10_turnOf_b56 : Nat → Int32 → OM → Option (Int32 × OM)
  | 0, _, _ => none
  | n + 1, l2, σ =>
    fX10_turnOf_b61 (fX10_turnOf_b56 n) oF l2 ((-1) : Int32) (0 : Int32) σ
set_option maxRecDepth 100000 in
set_option maxHeartbeats 4000000 in
theorem rX10_turnOf_b56 {K : OK} (hc : kcc K = cX10_turnOf) (ho : kow K = RX10) (hL : knL K = 5) (hN : 1 ≤ kN K) (hr : (kme K).sig.returnType = (some .int)) {r0 : Int32} {σ0 : OM} (hE : oEnd K (some (.int r0)) σ0) (hz : kz K = 0) : ∀ (n : Nat) (l2 : Int32) (σ : OM), fX10_turnOf_b56 n l2 σ = some (r0, σ0) → Go K 56 [.ref 81, .null, .int l2, .null, .null] [] σ := by
  intro n
  induction n with
  | zero =>
    intro l2 σ h
    cases h
  | succ n ih =>
    intro l2 σ h
    rw [fX10_turnOf_b56] at h
    refine go_iconst hc dX10_turnOf_56 ci_m1 ?_
    refine go_istore_n hc (lv1 := [.ref 81, .null, .int l2, .int ((-1) : Int32), .null]) dX10_turnOf_57 rfl hL (by decide) (fun _ _ e => by cases e; rfl) rfl ?_
    refine go_iconst hc dX10_turnOf_58 ci_0 ?_
    refine go_istore hc (lv1 := [.ref 81, .null, .int l2, .int ((-1) : Int32), .int (0 : Int32)]) dX10_turnOf_59 hL (by decide) (fun _ _ e => by cases e; rfl) rfl ?_
    exact rX10_turnOf_b61 hc ho hL hN hr hE hz ih oF l2 ((-1) : Int32) (0 : Int32) _ h
def fX10_turnOf_b35 : Nat → Int32 → Int32 → OM → Option (Int32 × OM)
  | 0, _, _, _ => none
  | n + 1, l1, l2, σ =>
    if (6 : Int32) ≤ l2 then (
     fX10_turnOf_b56 oF l1 σ)
    else (ogd (oin l2 6) (
    fX10_turnOf_b35 n l1 (l2 + 1) (sI σ 93 l2.toNatClampNeg (0 : Int32))))
set_option maxRecDepth 100000 in
set_option maxHeartbeats 4000000 in
theorem rX10_turnOf_b35 {K : OK} (hc : kcc K = cX10_turnOf) (ho : kow K = RX10) (hL : knL K = 5) (hN : 1 ≤ kN K) (hr : (kme K).sig.returnType = (some .int)) {r0 : Int32} {σ0 : OM} (hE : oEnd K (some (.int r0)) σ0) (hz : kz K = 0) : ∀ (n : Nat) (l1 : Int32) (l2 : Int32) (σ : OM), fX10_turnOf_b35 n l1 l2 σ = some (r0, σ0) → Go K 35 [.ref 81, .int l1, .int l2, .null, .null] [] σ := by
  intro n
  induction n with
  | zero =>
    intro l1 l2 σ h
    cases h
  | succ n ih =>
    intro l1 l2 σ h
    rw [fX10_turnOf_b35] at h
    refine go_iload_n hc dX10_turnOf_35 rfl rfl ?_
    refine go_bipush hc dX10_turnOf_36 cb_6 ?_
    refine go_icmp_ge (tgt := 54) hc dX10_turnOf_38 rfl (fun hh => ?_) (fun hh => ?_)
    · rw [if_pos hh] at h
      refine go_iload_n hc dX10_turnOf_54 rfl rfl ?_
      refine go_istore_n hc (lv1 := [.ref 81, .int l1, .int l1, .null, .null]) dX10_turnOf_55 rfl hL (by decide) (fun _ _ e => by cases e; rfl) rfl ?_
      refine go_mask [true, false, true, false, false] (lv1 := [.ref 81, .null, .int l1, .null, .null]) rfl ?_
      exact rX10_turnOf_b56 hc ho hL hN hr hE hz oF l1 _ h
    · rw [if_neg hh] at h
      refine go_aload_n hc dX10_turnOf_41 rfl rfl ?_
      refine go_getC (b := 93) rfl hc ho flX10_48 dX10_turnOf_42 ok_81 ?_
      refine go_iload_n hc dX10_turnOf_45 rfl rfl ?_
      refine go_iconst hc dX10_turnOf_46 ci_0 ?_
      obtain ⟨hg1, h⟩ := ogd_some h
      refine go_iast hc dX10_turnOf_47 ok_93 ol_93 hg1 rfl ?_
      refine go_iinc hc (lv1 := [.ref 81, .int l1, .int (l2 + 1), .null, .null]) dX10_turnOf_48 rfl ci_1 hL (by decide) (fun _ _ e => by cases e; rfl) rfl ?_
      refine go_goto (tgt := 35) hc dX10_turnOf_51 rfl ?_
      exact ih l1 (l2 + 1) _ h
def fX10_turnOf (x0 : Int32) (σ : OM) : Option (Int32 × OM) :=
  obv (fX10_good σ) (fun σ2 =>
  if (mI σ2 81 14) = 0 then (
   obi (fX10_no (1 : Int32) σ2) (fun r10 σ11 =>
   some (r10, σ11)))
  else (obi (fX10_in x0 (0 : Int32) (99 : Int32) σ2) (fun r4 σ5 =>
  if r4 = 0 then (
   obi (fX10_no (2 : Int32) σ5) (fun r7 σ8 =>
   some (r7, σ8)))
  else (fX10_turnOf_b35 oF x0 (0 : Int32) σ5))))
set_option maxRecDepth 100000 in
set_option maxHeartbeats 4000000 in
theorem rX10_turnOf {N : Nat} {x0 : Int32} {σ : OM} {r0 : Int32} {σ0 : OM} (h : fX10_turnOf x0 σ = some (r0, σ0)) (hN0 : 1 ≤ N) : oEv N MX10_turnOf [.ref 81, .int x0] σ (some (.int r0)) σ0 := by
  refine oEv_of (lv := [.ref 81, .int x0, .null, .null, .null]) (by decide +kernel) (fun g q hq => hq) (fun g => Nat.le_of_ble_eq_true rfl) ?_
  intro K hc ho hL hN1 hr hE hz
  have hN : 1 ≤ kN K := by rw [hN1]; exact hN0
  unfold fX10_turnOf at h
  refine go_aload_n hc dX10_turnOf_0 rfl rfl ?_
  obtain ⟨σ2, hf3, h⟩ := obv_some h
  refine go_callVv hc ho cmX10_good mlX10_199 dX10_turnOf_1 ok_81 (As := []) (rest := []) (rX10_good (N := 0) hf3 (Nat.le_refl _)) rfl (Nat.le_trans (Nat.le_of_ble_eq_true rfl) hN) rfl (Nat.le_of_ble_eq_true rfl) (Or.inl hz) ?_
  refine go_aload_n hc dX10_turnOf_4 rfl rfl ?_
  refine go_getI hc ho flX10_212 dX10_turnOf_5 ok_81 ?_
  refine go_if_ne (tgt := 17) hc dX10_turnOf_8 rfl (fun hh => ?_) (fun hh => ?_)
  · rw [if_neg hh] at h
    refine go_iload_n hc dX10_turnOf_17 rfl rfl ?_
    refine go_iconst hc dX10_turnOf_18 ci_0 ?_
    refine go_bipush hc dX10_turnOf_19 cb_99 ?_
    obtain ⟨r4, σ5, hf6, h⟩ := obi_some h
    refine go_callSi hc ho cmX10_in mlX10_156 dX10_turnOf_21 (As := [.int x0, .int (0 : Int32), .int (99 : Int32)]) (rest := []) (rX10_in (N := 0) hf6 (Nat.le_refl _)) rfl (Nat.le_trans (Nat.le_of_ble_eq_true rfl) hN) rfl (Nat.le_of_ble_eq_true rfl) (Or.inl hz) ?_
    refine go_if_ne (tgt := 33) hc dX10_turnOf_24 rfl (fun hh => ?_) (fun hh => ?_)
    · rw [if_neg hh] at h
      refine go_iconst hc dX10_turnOf_33 ci_0 ?_
      refine go_istore_n hc (lv1 := [.ref 81, .int x0, .int (0 : Int32), .null, .null]) dX10_turnOf_34 rfl hL (by decide) (fun _ _ e => by cases e; rfl) rfl ?_
      exact rX10_turnOf_b35 hc ho hL hN hr hE hz oF x0 (0 : Int32) _ h
    · rw [if_pos hh] at h
      refine go_aload_n hc dX10_turnOf_27 rfl rfl ?_
      refine go_iconst hc dX10_turnOf_28 ci_2 ?_
      obtain ⟨r7, σ8, hf9, h⟩ := obi_some h
      refine go_callVi hc ho cmX10_no mlX10_202 dX10_turnOf_29 ok_81 (As := [.int (2 : Int32)]) (rest := []) (rX10_no (N := 0) hf9 (Nat.le_refl _)) rfl (Nat.le_trans (Nat.le_of_ble_eq_true rfl) hN) rfl (Nat.le_of_ble_eq_true rfl) (Or.inl hz) ?_
      exact go_iret hc (oend_i h hE) hr dX10_turnOf_32
  · rw [if_pos hh] at h
    refine go_aload_n hc dX10_turnOf_11 rfl rfl ?_
    refine go_iconst hc dX10_turnOf_12 ci_1 ?_
    obtain ⟨r10, σ11, hf12, h⟩ := obi_some h
    refine go_callVi hc ho cmX10_no mlX10_202 dX10_turnOf_13 ok_81 (As := [.int (1 : Int32)]) (rest := []) (rX10_no (N := 0) hf12 (Nat.le_refl _)) rfl (Nat.le_trans (Nat.le_of_ble_eq_true rfl) hN) rfl (Nat.le_of_ble_eq_true rfl) (Or.inl hz) ?_
    exact go_iret hc (oend_i h hE) hr dX10_turnOf_16
def fX10_turnsTo_b51 (rc38 : Int32 → Int32 → Int32 → OM → Option (Int32 × OM)) : Nat → Int32 → Int32 → Int32 → Int32 → OM → Option (Int32 × OM)
  | 0, _, _, _, _, _ => none
  | n + 1, l1, l2, l3, l4, σ =>
    obi (fX10_yearOf l3 l4 σ) (fun r1 σ2 =>
    if r1 = ((-2) : Int32) then (
     rc38 l1 l2 (l3 + 1) σ2)
    else (obi (fX10_yearOf l3 l4 σ2) (fun r4 σ5 =>
    if l1 < r4 then (
     rc38 l1 l2 (l3 + 1) σ5)
    else (obi (fX10_askIn l3 l4 σ5) (fun r7 σ8 =>
    fX10_turnsTo_b51 rc38 n l1 (l2 + r7) l3 (l4 + 1) σ8)))))
set_option maxRecDepth 100000 in
set_option maxHeartbeats 4000000 in
theorem rX10_turnsTo_b51 {K : OK} (hc : kcc K = cX10_turnsTo) (ho : kow K = RX10) (hL : knL K = 5) (hN : 1 ≤ kN K) (hr : (kme K).sig.returnType = (some .int)) {r0 : Int32} {σ0 : OM} (hE : oEnd K (some (.int r0)) σ0) (hz : kz K = 0) {rc38 : Int32 → Int32 → Int32 → OM → Option (Int32 × OM)} (hrc38 : ∀ (l1 : Int32) (l2 : Int32) (l3 : Int32) (σ : OM), rc38 l1 l2 l3 σ = some (r0, σ0) → Go K 38 [.ref 81, .int l1, .int l2, .int l3, .null] [] σ) : ∀ (n : Nat) (l1 : Int32) (l2 : Int32) (l3 : Int32) (l4 : Int32) (σ : OM), fX10_turnsTo_b51 rc38 n l1 l2 l3 l4 σ = some (r0, σ0) → Go K 51 [.ref 81, .int l1, .int l2, .int l3, .int l4] [] σ := by
  intro n
  induction n with
  | zero =>
    intro l1 l2 l3 l4 σ h
    cases h
  | succ n ih =>
    intro l1 l2 l3 l4 σ h
    rw [fX10_turnsTo_b51] at h
    refine go_aload_n hc dX10_turnsTo_51 rfl rfl ?_
    refine go_iload_n hc dX10_turnsTo_52 rfl rfl ?_
    refine go_iload hc dX10_turnsTo_53 rfl ?_
    obtain ⟨r1, σ2, hf3, h⟩ := obi_some h
    refine go_callVi hc ho cmX10_yearOf mlX10_408 dX10_turnsTo_55 ok_81 (As := [.int l3, .int l4]) (rest := []) (rX10_yearOf (N := 0) hf3 (Nat.le_refl _)) rfl (Nat.le_trans (Nat.le_of_ble_eq_true rfl) hN) rfl (Nat.le_of_ble_eq_true rfl) (Or.inl hz) ?_
    refine go_bipush hc dX10_turnsTo_58 cb_m2 ?_
    refine go_icmp_eq (tgt := 90) hc dX10_turnsTo_60 rfl (fun hh => ?_) (fun hh => ?_)
    · rw [if_pos hh] at h
      refine go_iinc hc (lv1 := [.ref 81, .int l1, .int l2, .int (l3 + 1), .int l4]) dX10_turnsTo_90 rfl ci_1 hL (by decide) (fun _ _ e => by cases e; rfl) rfl ?_
      refine go_goto (tgt := 38) hc dX10_turnsTo_93 rfl ?_
      refine go_mask [true, true, true, true, false] (lv1 := [.ref 81, .int l1, .int l2, .int (l3 + 1), .null]) rfl ?_
      exact hrc38 l1 l2 (l3 + 1) _ h
    · rw [if_neg hh] at h
      refine go_aload_n hc dX10_turnsTo_63 rfl rfl ?_
      refine go_iload_n hc dX10_turnsTo_64 rfl rfl ?_
      refine go_iload hc dX10_turnsTo_65 rfl ?_
      obtain ⟨r4, σ5, hf6, h⟩ := obi_some h
      refine go_callVi hc ho cmX10_yearOf mlX10_408 dX10_turnsTo_67 ok_81 (As := [.int l3, .int l4]) (rest := []) (rX10_yearOf (N := 0) hf6 (Nat.le_refl _)) rfl (Nat.le_trans (Nat.le_of_ble_eq_true rfl) hN) rfl (Nat.le_of_ble_eq_true rfl) (Or.inl hz) ?_
      refine go_iload_n hc dX10_turnsTo_70 rfl rfl ?_
      refine go_icmp_gt (tgt := 90) hc dX10_turnsTo_71 rfl (fun hh => ?_) (fun hh => ?_)
      · rw [if_pos hh] at h
        refine go_iinc hc (lv1 := [.ref 81, .int l1, .int l2, .int (l3 + 1), .int l4]) dX10_turnsTo_90 rfl ci_1 hL (by decide) (fun _ _ e => by cases e; rfl) rfl ?_
        refine go_goto (tgt := 38) hc dX10_turnsTo_93 rfl ?_
        refine go_mask [true, true, true, true, false] (lv1 := [.ref 81, .int l1, .int l2, .int (l3 + 1), .null]) rfl ?_
        exact hrc38 l1 l2 (l3 + 1) _ h
      · rw [if_neg hh] at h
        refine go_iload_n hc dX10_turnsTo_74 rfl rfl ?_
        refine go_aload_n hc dX10_turnsTo_75 rfl rfl ?_
        refine go_iload_n hc dX10_turnsTo_76 rfl rfl ?_
        refine go_iload hc dX10_turnsTo_77 rfl ?_
        obtain ⟨r7, σ8, hf9, h⟩ := obi_some h
        refine go_callVi hc ho cmX10_askIn mlX10_405 dX10_turnsTo_79 ok_81 (As := [.int l3, .int l4]) (rest := [.int l2]) (rX10_askIn (N := 0) hf9 (Nat.le_refl _)) rfl (Nat.le_trans (Nat.le_of_ble_eq_true rfl) hN) rfl (Nat.le_of_ble_eq_true rfl) (Or.inl hz) ?_
        refine go_iadd hc dX10_turnsTo_82 ?_
        refine go_istore_n hc (lv1 := [.ref 81, .int l1, .int (l2 + r7), .int l3, .int l4]) dX10_turnsTo_83 rfl hL (by decide) (fun _ _ e => by cases e; rfl) rfl ?_
        refine go_iinc hc (lv1 := [.ref 81, .int l1, .int (l2 + r7), .int l3, .int (l4 + 1)]) dX10_turnsTo_84 rfl ci_1 hL (by decide) (fun _ _ e => by cases e; rfl) rfl ?_
        refine go_goto (tgt := 51) hc dX10_turnsTo_87 rfl ?_
        exact ih l1 (l2 + r7) l3 (l4 + 1) _ h
def fX10_turnsTo_b38 : Nat → Int32 → Int32 → Int32 → OM → Option (Int32 × OM)
  | 0, _, _, _, _ => none
  | n + 1, l1, l2, l3, σ =>
    if (mI σ 84 3) ≤ l3 then (
     some (l2, σ))
    else (fX10_turnsTo_b51 (fX10_turnsTo_b38 n) oF l1 l2 l3 (0 : Int32) σ)
set_option maxRecDepth 100000 in
set_option maxHeartbeats 4000000 in
theorem rX10_turnsTo_b38 {K : OK} (hc : kcc K = cX10_turnsTo) (ho : kow K = RX10) (hL : knL K = 5) (hN : 1 ≤ kN K) (hr : (kme K).sig.returnType = (some .int)) {r0 : Int32} {σ0 : OM} (hE : oEnd K (some (.int r0)) σ0) (hz : kz K = 0) : ∀ (n : Nat) (l1 : Int32) (l2 : Int32) (l3 : Int32) (σ : OM), fX10_turnsTo_b38 n l1 l2 l3 σ = some (r0, σ0) → Go K 38 [.ref 81, .int l1, .int l2, .int l3, .null] [] σ := by
  intro n
  induction n with
  | zero =>
    intro l1 l2 l3 σ h
    cases h
  | succ n ih =>
    intro l1 l2 l3 σ h
    rw [fX10_turnsTo_b38] at h
    refine go_iload_n hc dX10_turnsTo_38 rfl rfl ?_
    refine go_aload_n hc dX10_turnsTo_39 rfl rfl ?_
    refine go_getC (b := 84) rfl hc ho flX10_20 dX10_turnsTo_40 ok_81 ?_
    refine go_iconst hc dX10_turnsTo_43 ci_3 ?_
    refine go_iald hc dX10_turnsTo_44 ok_84 ol_84 (by decide +kernel) cn_3 ?_
    refine go_icmp_ge (tgt := 96) hc dX10_turnsTo_45 rfl (fun hh => ?_) (fun hh => ?_)
    · rw [if_pos hh] at h
      refine go_iload_n hc dX10_turnsTo_96 rfl rfl ?_
      exact go_iret hc (oend_i h hE) hr dX10_turnsTo_97
    · rw [if_neg hh] at h
      refine go_iconst hc dX10_turnsTo_48 ci_0 ?_
      refine go_istore hc (lv1 := [.ref 81, .int l1, .int l2, .int l3, .int (0 : Int32)]) dX10_turnsTo_49 hL (by decide) (fun _ _ e => by cases e; rfl) rfl ?_
      exact rX10_turnsTo_b51 hc ho hL hN hr hE hz ih oF l1 l2 l3 (0 : Int32) _ h
def fX10_turnsTo (x0 : Int32) (σ : OM) : Option (Int32 × OM) :=
  obv (fX10_good σ) (fun σ2 =>
  if (mI σ2 81 14) = 0 then (
   obi (fX10_no (1 : Int32) σ2) (fun r10 σ11 =>
   some (r10, σ11)))
  else (obi (fX10_in x0 (0 : Int32) (999 : Int32) σ2) (fun r4 σ5 =>
  if r4 = 0 then (
   obi (fX10_no (2 : Int32) σ5) (fun r7 σ8 =>
   some (r7, σ8)))
  else (fX10_turnsTo_b38 oF x0 (0 : Int32) (0 : Int32) σ5))))
set_option maxRecDepth 100000 in
set_option maxHeartbeats 4000000 in
theorem rX10_turnsTo {N : Nat} {x0 : Int32} {σ : OM} {r0 : Int32} {σ0 : OM} (h : fX10_turnsTo x0 σ = some (r0, σ0)) (hN0 : 1 ≤ N) : oEv N MX10_turnsTo [.ref 81, .int x0] σ (some (.int r0)) σ0 := by
  refine oEv_of (lv := [.ref 81, .int x0, .null, .null, .null]) (by decide +kernel) (fun g q hq => hq) (fun g => Nat.le_of_ble_eq_true rfl) ?_
  intro K hc ho hL hN1 hr hE hz
  have hN : 1 ≤ kN K := by rw [hN1]; exact hN0
  unfold fX10_turnsTo at h
  refine go_aload_n hc dX10_turnsTo_0 rfl rfl ?_
  obtain ⟨σ2, hf3, h⟩ := obv_some h
  refine go_callVv hc ho cmX10_good mlX10_199 dX10_turnsTo_1 ok_81 (As := []) (rest := []) (rX10_good (N := 0) hf3 (Nat.le_refl _)) rfl (Nat.le_trans (Nat.le_of_ble_eq_true rfl) hN) rfl (Nat.le_of_ble_eq_true rfl) (Or.inl hz) ?_
  refine go_aload_n hc dX10_turnsTo_4 rfl rfl ?_
  refine go_getI hc ho flX10_212 dX10_turnsTo_5 ok_81 ?_
  refine go_if_ne (tgt := 17) hc dX10_turnsTo_8 rfl (fun hh => ?_) (fun hh => ?_)
  · rw [if_neg hh] at h
    refine go_iload_n hc dX10_turnsTo_17 rfl rfl ?_
    refine go_iconst hc dX10_turnsTo_18 ci_0 ?_
    refine go_sipush hc dX10_turnsTo_19 cs_999 ?_
    obtain ⟨r4, σ5, hf6, h⟩ := obi_some h
    refine go_callSi hc ho cmX10_in mlX10_156 dX10_turnsTo_22 (As := [.int x0, .int (0 : Int32), .int (999 : Int32)]) (rest := []) (rX10_in (N := 0) hf6 (Nat.le_refl _)) rfl (Nat.le_trans (Nat.le_of_ble_eq_true rfl) hN) rfl (Nat.le_of_ble_eq_true rfl) (Or.inl hz) ?_
    refine go_if_ne (tgt := 34) hc dX10_turnsTo_25 rfl (fun hh => ?_) (fun hh => ?_)
    · rw [if_neg hh] at h
      refine go_iconst hc dX10_turnsTo_34 ci_0 ?_
      refine go_istore_n hc (lv1 := [.ref 81, .int x0, .int (0 : Int32), .null, .null]) dX10_turnsTo_35 rfl hL (by decide) (fun _ _ e => by cases e; rfl) rfl ?_
      refine go_iconst hc dX10_turnsTo_36 ci_0 ?_
      refine go_istore_n hc (lv1 := [.ref 81, .int x0, .int (0 : Int32), .int (0 : Int32), .null]) dX10_turnsTo_37 rfl hL (by decide) (fun _ _ e => by cases e; rfl) rfl ?_
      exact rX10_turnsTo_b38 hc ho hL hN hr hE hz oF x0 (0 : Int32) (0 : Int32) _ h
    · rw [if_pos hh] at h
      refine go_aload_n hc dX10_turnsTo_28 rfl rfl ?_
      refine go_iconst hc dX10_turnsTo_29 ci_2 ?_
      obtain ⟨r7, σ8, hf9, h⟩ := obi_some h
      refine go_callVi hc ho cmX10_no mlX10_202 dX10_turnsTo_30 ok_81 (As := [.int (2 : Int32)]) (rest := []) (rX10_no (N := 0) hf9 (Nat.le_refl _)) rfl (Nat.le_trans (Nat.le_of_ble_eq_true rfl) hN) rfl (Nat.le_of_ble_eq_true rfl) (Or.inl hz) ?_
      exact go_iret hc (oend_i h hE) hr dX10_turnsTo_33
  · rw [if_pos hh] at h
    refine go_aload_n hc dX10_turnsTo_11 rfl rfl ?_
    refine go_iconst hc dX10_turnsTo_12 ci_1 ?_
    obtain ⟨r10, σ11, hf12, h⟩ := obi_some h
    refine go_callVi hc ho cmX10_no mlX10_202 dX10_turnsTo_13 ok_81 (As := [.int (1 : Int32)]) (rest := []) (rX10_no (N := 0) hf12 (Nat.le_refl _)) rfl (Nat.le_trans (Nat.le_of_ble_eq_true rfl) hN) rfl (Nat.le_of_ble_eq_true rfl) (Or.inl hz) ?_
    exact go_iret hc (oend_i h hE) hr dX10_turnsTo_16
def fX10_births_b54 : Nat → Int32 → Int32 → Int32 → Int32 → Int32 → OM → Option (Int32 × OM)
  | 0, _, _, _, _, _, _ => none
  | n + 1, l1, l3, l4, l5, l6, σ =>
    if l3 ≤ l6 then (
     some (l5, σ))
    else (ogd (oin (((17 : Int32) + ((4 : Int32) * l1)) + (2 : Int32)) 279) (
    if (mI σ 84 ((((17 : Int32) + ((4 : Int32) * l1)) + (2 : Int32)).toNatClampNeg)) ≤ (((((75 : Int32) * l4) + (74 : Int32)) - (((75 : Int32) * l4) + (74 : Int32)) / (65537 : Int32) * (65537 : Int32)) - ((((75 : Int32) * l4) + (74 : Int32)) - (((75 : Int32) * l4) + (74 : Int32)) / (65537 : Int32) * (65537 : Int32)) / (100 : Int32) * (100 : Int32)) then (
     fX10_births_b54 n l1 l3 ((((75 : Int32) * l4) + (74 : Int32)) - (((75 : Int32) * l4) + (74 : Int32)) / (65537 : Int32) * (65537 : Int32)) (l5 + (1 : Int32)) (l6 + 1) σ)
    else (fX10_births_b54 n l1 l3 ((((75 : Int32) * l4) + (74 : Int32)) - (((75 : Int32) * l4) + (74 : Int32)) / (65537 : Int32) * (65537 : Int32)) (l5 + (2 : Int32)) (l6 + 1) σ)))
set_option maxRecDepth 100000 in
set_option maxHeartbeats 4000000 in
theorem rX10_births_b54 {K : OK} (hc : kcc K = cX10_births) (ho : kow K = RX10) (hL : knL K = 7) (hN : 2 ≤ kN K) (hr : (kme K).sig.returnType = (some .int)) {r0 : Int32} {σ0 : OM} (hE : oEnd K (some (.int r0)) σ0) (hz : kz K = 0) : ∀ (n : Nat) (l1 : Int32) (l3 : Int32) (l4 : Int32) (l5 : Int32) (l6 : Int32) (σ : OM), fX10_births_b54 n l1 l3 l4 l5 l6 σ = some (r0, σ0) → Go K 54 [.ref 81, .int l1, .null, .int l3, .int l4, .int l5, .int l6] [] σ := by
  intro n
  induction n with
  | zero =>
    intro l1 l3 l4 l5 l6 σ h
    cases h
  | succ n ih =>
    intro l1 l3 l4 l5 l6 σ h
    rw [fX10_births_b54] at h
    refine go_iload hc dX10_births_54 rfl ?_
    refine go_iload_n hc dX10_births_56 rfl rfl ?_
    refine go_icmp_ge (tgt := 111) hc dX10_births_57 rfl (fun hh => ?_) (fun hh => ?_)
    · rw [if_pos hh] at h
      refine go_iload hc dX10_births_111 rfl ?_
      exact go_iret hc (oend_i h hE) hr dX10_births_113
    · rw [if_neg hh] at h
      refine go_bipush hc dX10_births_60 cb_75 ?_
      refine go_iload hc dX10_births_62 rfl ?_
      refine go_imul hc dX10_births_64 ?_
      refine go_bipush hc dX10_births_65 cb_74 ?_
      refine go_iadd hc dX10_births_67 ?_
      refine go_ldcw hc ho kcX10_412 dX10_births_68 ?_
      refine go_irem hc dX10_births_71 (by decide) ?_
      refine go_istore hc (lv1 := [.ref 81, .int l1, .null, .int l3, .int ((((75 : Int32) * l4) + (74 : Int32)) - (((75 : Int32) * l4) + (74 : Int32)) / (65537 : Int32) * (65537 : Int32)), .int l5, .int l6]) dX10_births_72 hL (by decide) (fun _ _ e => by cases e; rfl) rfl ?_
      refine go_iload hc dX10_births_74 rfl ?_
      refine go_iload hc dX10_births_76 rfl ?_
      refine go_bipush hc dX10_births_78 cb_100 ?_
      refine go_irem hc dX10_births_80 (by decide) ?_
      refine go_aload_n hc dX10_births_81 rfl rfl ?_
      refine go_getC (b := 84) rfl hc ho flX10_20 dX10_births_82 ok_81 ?_
      refine go_bipush hc dX10_births_85 cb_17 ?_
      refine go_iconst hc dX10_births_87 ci_4 ?_
      refine go_iload_n hc dX10_births_88 rfl rfl ?_
      refine go_imul hc dX10_births_89 ?_
      refine go_iadd hc dX10_births_90 ?_
      refine go_iconst hc dX10_births_91 ci_2 ?_
      refine go_iadd hc dX10_births_92 ?_
      obtain ⟨hg1, h⟩ := ogd_some h
      refine go_iald hc dX10_births_93 ok_84 ol_84 hg1 rfl ?_
      refine go_icmp_ge (tgt := 101) hc dX10_births_94 rfl (fun hh => ?_) (fun hh => ?_)
      · rw [if_pos hh] at h
        refine go_iconst hc dX10_births_101 ci_1 ?_
        refine go_iadd hc dX10_births_102 ?_
        refine go_istore hc (lv1 := [.ref 81, .int l1, .null, .int l3, .int ((((75 : Int32) * l4) + (74 : Int32)) - (((75 : Int32) * l4) + (74 : Int32)) / (65537 : Int32) * (65537 : Int32)), .int (l5 + (1 : Int32)), .int l6]) dX10_births_103 hL (by decide) (fun _ _ e => by cases e; rfl) rfl ?_
        refine go_iinc hc (lv1 := [.ref 81, .int l1, .null, .int l3, .int ((((75 : Int32) * l4) + (74 : Int32)) - (((75 : Int32) * l4) + (74 : Int32)) / (65537 : Int32) * (65537 : Int32)), .int (l5 + (1 : Int32)), .int (l6 + 1)]) dX10_births_105 rfl ci_1 hL (by decide) (fun _ _ e => by cases e; rfl) rfl ?_
        refine go_goto (tgt := 54) hc dX10_births_108 rfl ?_
        exact ih l1 l3 ((((75 : Int32) * l4) + (74 : Int32)) - (((75 : Int32) * l4) + (74 : Int32)) / (65537 : Int32) * (65537 : Int32)) (l5 + (1 : Int32)) (l6 + 1) _ h
      · rw [if_neg hh] at h
        refine go_iconst hc dX10_births_97 ci_2 ?_
        refine go_goto (tgt := 102) hc dX10_births_98 rfl ?_
        refine go_iadd hc dX10_births_102 ?_
        refine go_istore hc (lv1 := [.ref 81, .int l1, .null, .int l3, .int ((((75 : Int32) * l4) + (74 : Int32)) - (((75 : Int32) * l4) + (74 : Int32)) / (65537 : Int32) * (65537 : Int32)), .int (l5 + (2 : Int32)), .int l6]) dX10_births_103 hL (by decide) (fun _ _ e => by cases e; rfl) rfl ?_
        refine go_iinc hc (lv1 := [.ref 81, .int l1, .null, .int l3, .int ((((75 : Int32) * l4) + (74 : Int32)) - (((75 : Int32) * l4) + (74 : Int32)) / (65537 : Int32) * (65537 : Int32)), .int (l5 + (2 : Int32)), .int (l6 + 1)]) dX10_births_105 rfl ci_1 hL (by decide) (fun _ _ e => by cases e; rfl) rfl ?_
        refine go_goto (tgt := 54) hc dX10_births_108 rfl ?_
        exact ih l1 l3 ((((75 : Int32) * l4) + (74 : Int32)) - (((75 : Int32) * l4) + (74 : Int32)) / (65537 : Int32) * (65537 : Int32)) (l5 + (2 : Int32)) (l6 + 1) _ h
def fX10_births (x0 : Int32) (x1 : Int32) (x2 : Int32) (σ : OM) : Option (Int32 × OM) :=
  obv (fX10_good σ) (fun σ2 =>
  obi (fX10_isHouse x0 σ2) (fun r4 σ5 =>
  if r4 = 0 then (
   obi (fX10_no (1 : Int32) σ5) (fun r19 σ20 =>
   some (r19, σ20)))
  else (obi (fX10_in x1 (0 : Int32) (65536 : Int32) σ5) (fun r7 σ8 =>
  if r7 = 0 then (
   obi (fX10_no (2 : Int32) σ8) (fun r10 σ11 =>
   some (r10, σ11)))
  else (obi (fX10_in x2 (0 : Int32) (99 : Int32) σ8) (fun r13 σ14 =>
  if r13 = 0 then (
   obi (fX10_no (2 : Int32) σ14) (fun r16 σ17 =>
   some (r16, σ17)))
  else (fX10_births_b54 oF x0 x2 x1 (0 : Int32) (0 : Int32) σ14)))))))
set_option maxRecDepth 100000 in
set_option maxHeartbeats 4000000 in
theorem rX10_births {N : Nat} {x0 : Int32} {x1 : Int32} {x2 : Int32} {σ : OM} {r0 : Int32} {σ0 : OM} (h : fX10_births x0 x1 x2 σ = some (r0, σ0)) (hN0 : 2 ≤ N) : oEv N MX10_births [.ref 81, .int x0, .int x1, .int x2] σ (some (.int r0)) σ0 := by
  refine oEv_of (lv := [.ref 81, .int x0, .int x1, .int x2, .null, .null, .null]) (by decide +kernel) (fun g q hq => hq) (fun g => Nat.le_of_ble_eq_true rfl) ?_
  intro K hc ho hL hN1 hr hE hz
  have hN : 2 ≤ kN K := by rw [hN1]; exact hN0
  unfold fX10_births at h
  refine go_aload_n hc dX10_births_0 rfl rfl ?_
  obtain ⟨σ2, hf3, h⟩ := obv_some h
  refine go_callVv hc ho cmX10_good mlX10_199 dX10_births_1 ok_81 (As := []) (rest := []) (rX10_good (N := 0) hf3 (Nat.le_refl _)) rfl (Nat.le_trans (Nat.le_of_ble_eq_true rfl) hN) rfl (Nat.le_of_ble_eq_true rfl) (Or.inl hz) ?_
  refine go_aload_n hc dX10_births_4 rfl rfl ?_
  refine go_iload_n hc dX10_births_5 rfl rfl ?_
  obtain ⟨r4, σ5, hf6, h⟩ := obi_some h
  refine go_callVi hc ho cmX10_isHouse mlX10_323 dX10_births_6 ok_81 (As := [.int x0]) (rest := []) (rX10_isHouse (N := 1) hf6 (Nat.le_refl _)) rfl (Nat.le_trans (Nat.le_of_ble_eq_true rfl) hN) rfl (Nat.le_of_ble_eq_true rfl) (Or.inl hz) ?_
  refine go_if_ne (tgt := 18) hc dX10_births_9 rfl (fun hh => ?_) (fun hh => ?_)
  · rw [if_neg hh] at h
    refine go_iload_n hc dX10_births_18 rfl rfl ?_
    refine go_iconst hc dX10_births_19 ci_0 ?_
    refine go_ldcw hc ho kcX10_411 dX10_births_20 ?_
    obtain ⟨r7, σ8, hf9, h⟩ := obi_some h
    refine go_callSi hc ho cmX10_in mlX10_156 dX10_births_23 (As := [.int x1, .int (0 : Int32), .int (65536 : Int32)]) (rest := []) (rX10_in (N := 0) hf9 (Nat.le_refl _)) rfl (Nat.le_trans (Nat.le_of_ble_eq_true rfl) hN) rfl (Nat.le_of_ble_eq_true rfl) (Or.inl hz) ?_
    refine go_if_eq (tgt := 39) hc dX10_births_26 rfl (fun hh => ?_) (fun hh => ?_)
    · rw [if_pos hh] at h
      refine go_aload_n hc dX10_births_39 rfl rfl ?_
      refine go_iconst hc dX10_births_40 ci_2 ?_
      obtain ⟨r10, σ11, hf12, h⟩ := obi_some h
      refine go_callVi hc ho cmX10_no mlX10_202 dX10_births_41 ok_81 (As := [.int (2 : Int32)]) (rest := []) (rX10_no (N := 0) hf12 (Nat.le_refl _)) rfl (Nat.le_trans (Nat.le_of_ble_eq_true rfl) hN) rfl (Nat.le_of_ble_eq_true rfl) (Or.inl hz) ?_
      exact go_iret hc (oend_i h hE) hr dX10_births_44
    · rw [if_neg hh] at h
      refine go_iload_n hc dX10_births_29 rfl rfl ?_
      refine go_iconst hc dX10_births_30 ci_0 ?_
      refine go_bipush hc dX10_births_31 cb_99 ?_
      obtain ⟨r13, σ14, hf15, h⟩ := obi_some h
      refine go_callSi hc ho cmX10_in mlX10_156 dX10_births_33 (As := [.int x2, .int (0 : Int32), .int (99 : Int32)]) (rest := []) (rX10_in (N := 0) hf15 (Nat.le_refl _)) rfl (Nat.le_trans (Nat.le_of_ble_eq_true rfl) hN) rfl (Nat.le_of_ble_eq_true rfl) (Or.inl hz) ?_
      refine go_if_ne (tgt := 45) hc dX10_births_36 rfl (fun hh => ?_) (fun hh => ?_)
      · rw [if_neg hh] at h
        refine go_iload_n hc dX10_births_45 rfl rfl ?_
        refine go_istore hc (lv1 := [.ref 81, .int x0, .int x1, .int x2, .int x1, .null, .null]) dX10_births_46 hL (by decide) (fun _ _ e => by cases e; rfl) rfl ?_
        refine go_iconst hc dX10_births_48 ci_0 ?_
        refine go_istore hc (lv1 := [.ref 81, .int x0, .int x1, .int x2, .int x1, .int (0 : Int32), .null]) dX10_births_49 hL (by decide) (fun _ _ e => by cases e; rfl) rfl ?_
        refine go_iconst hc dX10_births_51 ci_0 ?_
        refine go_istore hc (lv1 := [.ref 81, .int x0, .int x1, .int x2, .int x1, .int (0 : Int32), .int (0 : Int32)]) dX10_births_52 hL (by decide) (fun _ _ e => by cases e; rfl) rfl ?_
        refine go_mask [true, true, false, true, true, true, true] (lv1 := [.ref 81, .int x0, .null, .int x2, .int x1, .int (0 : Int32), .int (0 : Int32)]) rfl ?_
        exact rX10_births_b54 hc ho hL hN hr hE hz oF x0 x2 x1 (0 : Int32) (0 : Int32) _ h
      · rw [if_pos hh] at h
        refine go_aload_n hc dX10_births_39 rfl rfl ?_
        refine go_iconst hc dX10_births_40 ci_2 ?_
        obtain ⟨r16, σ17, hf18, h⟩ := obi_some h
        refine go_callVi hc ho cmX10_no mlX10_202 dX10_births_41 ok_81 (As := [.int (2 : Int32)]) (rest := []) (rX10_no (N := 0) hf18 (Nat.le_refl _)) rfl (Nat.le_trans (Nat.le_of_ble_eq_true rfl) hN) rfl (Nat.le_of_ble_eq_true rfl) (Or.inl hz) ?_
        exact go_iret hc (oend_i h hE) hr dX10_births_44
  · rw [if_pos hh] at h
    refine go_aload_n hc dX10_births_12 rfl rfl ?_
    refine go_iconst hc dX10_births_13 ci_1 ?_
    obtain ⟨r19, σ20, hf21, h⟩ := obi_some h
    refine go_callVi hc ho cmX10_no mlX10_202 dX10_births_14 ok_81 (As := [.int (1 : Int32)]) (rest := []) (rX10_no (N := 0) hf21 (Nat.le_refl _)) rfl (Nat.le_trans (Nat.le_of_ble_eq_true rfl) hN) rfl (Nat.le_of_ble_eq_true rfl) (Or.inl hz) ?_
    exact go_iret hc (oend_i h hE) hr dX10_births_17
def fX10_note_b49 (σ : OM) : Option OM :=
  obv (fX10_copy 88 (0 : Int32) 89 ((68 : Int32) * (mI σ 81 22)) (68 : Int32) σ) (fun σ2 =>
  some (sI σ2 81 22 ((mI σ2 81 22) + (1 : Int32))))
set_option maxRecDepth 100000 in
set_option maxHeartbeats 4000000 in
theorem rX10_note_b49 {K : OK} (hc : kcc K = cX10_note) (ho : kow K = RX10) (hL : knL K = 2) (hN : 1 ≤ kN K) (hr : (kme K).sig.returnType = none) {σ0 : OM} (hE : oEnd K (none) σ0) (hz : kz K = 0) {σ : OM} (h : fX10_note_b49 σ = some σ0) : Go K 49 [.ref 81, .null] [] σ := by
  unfold fX10_note_b49 at h
  refine go_aload_n hc dX10_note_49 rfl rfl ?_
  refine go_getC (b := 88) rfl hc ho flX10_33 dX10_note_50 ok_81 ?_
  refine go_iconst hc dX10_note_53 ci_0 ?_
  refine go_aload_n hc dX10_note_54 rfl rfl ?_
  refine go_getC (b := 89) rfl hc ho flX10_36 dX10_note_55 ok_81 ?_
  refine go_bipush hc dX10_note_58 cb_68 ?_
  refine go_aload_n hc dX10_note_60 rfl rfl ?_
  refine go_getI hc ho flX10_215 dX10_note_61 ok_81 ?_
  refine go_imul hc dX10_note_64 ?_
  refine go_bipush hc dX10_note_65 cb_68 ?_
  obtain ⟨σ2, hf3, h⟩ := obv_some h
  refine go_callSv hc ho cmX10_copy mlX10_208 dX10_note_67 (As := [.ref 88, .int (0 : Int32), .ref 89, .int ((68 : Int32) * (mI σ 81 22)), .int (68 : Int32)]) (rest := []) (rX10_copy (N := 0) ok_88 ok_89 hf3 (Nat.le_refl _)) rfl (Nat.le_trans (Nat.le_of_ble_eq_true rfl) hN) rfl (Nat.le_of_ble_eq_true rfl) (Or.inl hz) ?_
  refine go_aload_n hc dX10_note_70 rfl rfl ?_
  refine go_dup hc dX10_note_71 rfl ?_
  refine go_getI hc ho flX10_215 dX10_note_72 ok_81 ?_
  refine go_iconst hc dX10_note_75 ci_1 ?_
  refine go_iadd hc dX10_note_76 ?_
  refine go_putI hc ho fpX10_215 dX10_note_77 ok_81 (fun g => oni g _) (fun _ => rfl) ?_
  exact go_vret hc (oend_v h hE) hr dX10_note_80
def fX10_note_b11 : Nat → Int32 → OM → Option OM
  | 0, _, _ => none
  | n + 1, l1, σ =>
    if (748 : Int32) ≤ l1 then (
     fX10_note_b49 (sI σ 81 22 ((mI σ 81 22) - (1 : Int32))))
    else (ogd (oin (l1 + (68 : Int32)) 816) (
    ogd (oin l1 816) (
    fX10_note_b11 n (l1 + 1) (sI σ 89 l1.toNatClampNeg (mI σ 89 ((l1 + (68 : Int32)).toNatClampNeg))))))
set_option maxRecDepth 100000 in
set_option maxHeartbeats 4000000 in
theorem rX10_note_b11 {K : OK} (hc : kcc K = cX10_note) (ho : kow K = RX10) (hL : knL K = 2) (hN : 1 ≤ kN K) (hr : (kme K).sig.returnType = none) {σ0 : OM} (hE : oEnd K (none) σ0) (hz : kz K = 0) : ∀ (n : Nat) (l1 : Int32) (σ : OM), fX10_note_b11 n l1 σ = some σ0 → Go K 11 [.ref 81, .int l1] [] σ := by
  intro n
  induction n with
  | zero =>
    intro l1 σ h
    cases h
  | succ n ih =>
    intro l1 σ h
    rw [fX10_note_b11] at h
    refine go_iload_n hc dX10_note_11 rfl rfl ?_
    refine go_sipush hc dX10_note_12 cs_748 ?_
    refine go_icmp_ge (tgt := 39) hc dX10_note_15 rfl (fun hh => ?_) (fun hh => ?_)
    · rw [if_pos hh] at h
      refine go_aload_n hc dX10_note_39 rfl rfl ?_
      refine go_dup hc dX10_note_40 rfl ?_
      refine go_getI hc ho flX10_215 dX10_note_41 ok_81 ?_
      refine go_iconst hc dX10_note_44 ci_1 ?_
      refine go_isub hc dX10_note_45 ?_
      refine go_putI hc ho fpX10_215 dX10_note_46 ok_81 (fun g => oni g _) (fun _ => rfl) ?_
      refine go_mask [true, false] (lv1 := [.ref 81, .null]) rfl ?_
      exact rX10_note_b49 hc ho hL hN hr hE hz h
    · rw [if_neg hh] at h
      refine go_aload_n hc dX10_note_18 rfl rfl ?_
      refine go_getC (b := 89) rfl hc ho flX10_36 dX10_note_19 ok_81 ?_
      refine go_iload_n hc dX10_note_22 rfl rfl ?_
      refine go_aload_n hc dX10_note_23 rfl rfl ?_
      refine go_getC (b := 89) rfl hc ho flX10_36 dX10_note_24 ok_81 ?_
      refine go_iload_n hc dX10_note_27 rfl rfl ?_
      refine go_bipush hc dX10_note_28 cb_68 ?_
      refine go_iadd hc dX10_note_30 ?_
      obtain ⟨hg1, h⟩ := ogd_some h
      refine go_iald hc dX10_note_31 ok_89 ol_89 hg1 rfl ?_
      obtain ⟨hg2, h⟩ := ogd_some h
      refine go_iast hc dX10_note_32 ok_89 ol_89 hg2 rfl ?_
      refine go_iinc hc (lv1 := [.ref 81, .int (l1 + 1)]) dX10_note_33 rfl ci_1 hL (by decide) (fun _ _ e => by cases e; rfl) rfl ?_
      refine go_goto (tgt := 11) hc dX10_note_36 rfl ?_
      exact ih (l1 + 1) _ h
def fX10_note (σ : OM) : Option OM :=
  if (mI σ 81 22) = (12 : Int32) then (
   fX10_note_b11 oF (0 : Int32) σ)
  else (fX10_note_b49 σ)
set_option maxRecDepth 100000 in
set_option maxHeartbeats 4000000 in
theorem rX10_note {N : Nat} {σ : OM} {σ0 : OM} (h : fX10_note σ = some σ0) (hN0 : 1 ≤ N) : oEv N MX10_note [.ref 81] σ (none) σ0 := by
  refine oEv_of (lv := [.ref 81, .null]) (by decide +kernel) (fun g q hq => hq) (fun g => Nat.le_of_ble_eq_true rfl) ?_
  intro K hc ho hL hN1 hr hE hz
  have hN : 1 ≤ kN K := by rw [hN1]; exact hN0
  unfold fX10_note at h
  refine go_aload_n hc dX10_note_0 rfl rfl ?_
  refine go_getI hc ho flX10_215 dX10_note_1 ok_81 ?_
  refine go_bipush hc dX10_note_4 cb_12 ?_
  refine go_icmp_ne (tgt := 49) hc dX10_note_6 rfl (fun hh => ?_) (fun hh => ?_)
  · rw [if_neg hh] at h
    exact rX10_note_b49 hc ho hL hN hr hE hz h
  · rw [if_pos hh] at h
    refine go_iconst hc dX10_note_9 ci_0 ?_
    refine go_istore_n hc (lv1 := [.ref 81, .int (0 : Int32)]) dX10_note_10 rfl hL (by decide) (fun _ _ e => by cases e; rfl) rfl ?_
    exact rX10_note_b11 hc ho hL hN hr hE hz oF (0 : Int32) _ h
def fX10_answers_b132 (l5 : Int32) (k1 : Int32) (k2 : Int32) (σ : OM) : Option (Int32 × OM) :=
  ogd (oin k1 68) (
  ogd (oin (l5 + (2 : Int32)) 68) (
  some ((mI (sI (sI σ 88 k1.toNatClampNeg k2) 88 1 ((mI (sI σ 88 k1.toNatClampNeg k2) 88 1) + (1 : Int32))) 88 ((l5 + (2 : Int32)).toNatClampNeg)), sI (sI σ 88 k1.toNatClampNeg k2) 88 1 ((mI (sI σ 88 k1.toNatClampNeg k2) 88 1) + (1 : Int32)))))
set_option maxRecDepth 100000 in
set_option maxHeartbeats 4000000 in
theorem rX10_answers_b132 {K : OK} (hc : kcc K = cX10_answers) (ho : kow K = RX10) (hL : knL K = 6) (hN : 3 ≤ kN K) (hr : (kme K).sig.returnType = (some .int)) {r0 : Int32} {σ0 : OM} (hE : oEnd K (some (.int r0)) σ0) (hz : kz K = 0) {l5 : Int32} {k1 : Int32} {k2 : Int32} {σ : OM} (h : fX10_answers_b132 l5 k1 k2 σ = some (r0, σ0)) : Go K 132 [.ref 81, .null, .null, .null, .null, .int l5] [.int k2, .int k1, .ref 88] σ := by
  unfold fX10_answers_b132 at h
  obtain ⟨hg1, h⟩ := ogd_some h
  refine go_iast hc dX10_answers_132 ok_88 ol_88 hg1 rfl ?_
  refine go_aload_n hc dX10_answers_133 rfl rfl ?_
  refine go_getC (b := 88) rfl hc ho flX10_33 dX10_answers_134 ok_81 ?_
  refine go_iconst hc dX10_answers_137 ci_1 ?_
  refine go_dup2_11 hc dX10_answers_138 rfl rfl ?_
  refine go_iald hc dX10_answers_139 ok_88 ol_88 (by decide +kernel) cn_1 ?_
  refine go_iconst hc dX10_answers_140 ci_1 ?_
  refine go_iadd hc dX10_answers_141 ?_
  refine go_iast hc dX10_answers_142 ok_88 ol_88 (by decide +kernel) cn_1 ?_
  refine go_aload_n hc dX10_answers_143 rfl rfl ?_
  refine go_getC (b := 88) rfl hc ho flX10_33 dX10_answers_144 ok_81 ?_
  refine go_iload hc dX10_answers_147 rfl ?_
  refine go_iconst hc dX10_answers_149 ci_2 ?_
  refine go_iadd hc dX10_answers_150 ?_
  obtain ⟨hg2, h⟩ := ogd_some h
  refine go_iald hc dX10_answers_151 ok_88 ol_88 hg2 rfl ?_
  exact go_iret hc (oend_i h hE) hr dX10_answers_152
def fX10_answers_b81 (l1 : Int32) (l2 : Int32) (l3 : Int32) (k0 : Int32) (σ : OM) : Option (Int32 × OM) :=
  ogd (oin ((2 : Int32) + ((3 : Int32) * (mI σ 88 1))) 68) (
  ogd (oin (((2 : Int32) + ((3 : Int32) * (mI σ 88 1))) + (1 : Int32)) 68) (
  if k0 = l3 then (
   fX10_answers_b132 ((2 : Int32) + ((3 : Int32) * (mI σ 88 1))) (((2 : Int32) + ((3 : Int32) * (mI σ 88 1))) + (2 : Int32)) (1 : Int32) (sI (sI σ 88 (((2 : Int32) + ((3 : Int32) * (mI σ 88 1))).toNatClampNeg) l1) 88 ((((2 : Int32) + ((3 : Int32) * (mI σ 88 1))) + (1 : Int32)).toNatClampNeg) l2))
  else (fX10_answers_b132 ((2 : Int32) + ((3 : Int32) * (mI σ 88 1))) (((2 : Int32) + ((3 : Int32) * (mI σ 88 1))) + (2 : Int32)) (0 : Int32) (sI (sI σ 88 (((2 : Int32) + ((3 : Int32) * (mI σ 88 1))).toNatClampNeg) l1) 88 ((((2 : Int32) + ((3 : Int32) * (mI σ 88 1))) + (1 : Int32)).toNatClampNeg) l2))))
set_option maxRecDepth 100000 in
set_option maxHeartbeats 4000000 in
theorem rX10_answers_b81 {K : OK} (hc : kcc K = cX10_answers) (ho : kow K = RX10) (hL : knL K = 6) (hN : 3 ≤ kN K) (hr : (kme K).sig.returnType = (some .int)) {r0 : Int32} {σ0 : OM} (hE : oEnd K (some (.int r0)) σ0) (hz : kz K = 0) {l1 : Int32} {l2 : Int32} {l3 : Int32} {k0 : Int32} {σ : OM} (h : fX10_answers_b81 l1 l2 l3 k0 σ = some (r0, σ0)) : Go K 81 [.ref 81, .int l1, .int l2, .int l3, .null, .null] [.int k0] σ := by
  unfold fX10_answers_b81 at h
  refine go_istore hc (lv1 := [.ref 81, .int l1, .int l2, .int l3, .int k0, .null]) dX10_answers_81 hL (by decide) (fun _ _ e => by cases e; rfl) rfl ?_
  refine go_iconst hc dX10_answers_83 ci_2 ?_
  refine go_iconst hc dX10_answers_84 ci_3 ?_
  refine go_aload_n hc dX10_answers_85 rfl rfl ?_
  refine go_getC (b := 88) rfl hc ho flX10_33 dX10_answers_86 ok_81 ?_
  refine go_iconst hc dX10_answers_89 ci_1 ?_
  refine go_iald hc dX10_answers_90 ok_88 ol_88 (by decide +kernel) cn_1 ?_
  refine go_imul hc dX10_answers_91 ?_
  refine go_iadd hc dX10_answers_92 ?_
  refine go_istore hc (lv1 := [.ref 81, .int l1, .int l2, .int l3, .int k0, .int ((2 : Int32) + ((3 : Int32) * (mI σ 88 1)))]) dX10_answers_93 hL (by decide) (fun _ _ e => by cases e; rfl) rfl ?_
  refine go_aload_n hc dX10_answers_95 rfl rfl ?_
  refine go_getC (b := 88) rfl hc ho flX10_33 dX10_answers_96 ok_81 ?_
  refine go_iload hc dX10_answers_99 rfl ?_
  refine go_iload_n hc dX10_answers_101 rfl rfl ?_
  obtain ⟨hg1, h⟩ := ogd_some h
  refine go_iast hc dX10_answers_102 ok_88 ol_88 hg1 rfl ?_
  refine go_aload_n hc dX10_answers_103 rfl rfl ?_
  refine go_getC (b := 88) rfl hc ho flX10_33 dX10_answers_104 ok_81 ?_
  refine go_iload hc dX10_answers_107 rfl ?_
  refine go_iconst hc dX10_answers_109 ci_1 ?_
  refine go_iadd hc dX10_answers_110 ?_
  refine go_iload_n hc dX10_answers_111 rfl rfl ?_
  obtain ⟨hg2, h⟩ := ogd_some h
  refine go_iast hc dX10_answers_112 ok_88 ol_88 hg2 rfl ?_
  refine go_aload_n hc dX10_answers_113 rfl rfl ?_
  refine go_getC (b := 88) rfl hc ho flX10_33 dX10_answers_114 ok_81 ?_
  refine go_iload hc dX10_answers_117 rfl ?_
  refine go_iconst hc dX10_answers_119 ci_2 ?_
  refine go_iadd hc dX10_answers_120 ?_
  refine go_iload hc dX10_answers_121 rfl ?_
  refine go_iload_n hc dX10_answers_123 rfl rfl ?_
  refine go_icmp_ne (tgt := 131) hc dX10_answers_124 rfl (fun hh => ?_) (fun hh => ?_)
  · rw [if_neg hh] at h
    refine go_iconst hc dX10_answers_131 ci_0 ?_
    refine go_mask [true, false, false, false, false, true] (lv1 := [.ref 81, .null, .null, .null, .null, .int ((2 : Int32) + ((3 : Int32) * (mI σ 88 1)))]) rfl ?_
    exact rX10_answers_b132 hc ho hL hN hr hE hz h
  · rw [if_pos hh] at h
    refine go_iconst hc dX10_answers_127 ci_1 ?_
    refine go_goto (tgt := 132) hc dX10_answers_128 rfl ?_
    refine go_mask [true, false, false, false, false, true] (lv1 := [.ref 81, .null, .null, .null, .null, .int ((2 : Int32) + ((3 : Int32) * (mI σ 88 1)))]) rfl ?_
    exact rX10_answers_b132 hc ho hL hN hr hE hz h
def fX10_answers (x0 : Int32) (x1 : Int32) (x2 : Int32) (σ : OM) : Option (Int32 × OM) :=
  obi (fX10_isPair x0 x1 σ) (fun r1 σ2 =>
  if r1 = 0 then (
   obi (fX10_no (1 : Int32) σ2) (fun r14 σ15 =>
   some (r14, σ15)))
  else (if (mI σ2 84 10) = 0 then (
   obi (fX10_no (6 : Int32) σ2) (fun r11 σ12 =>
   some (r11, σ12)))
  else (if (mI σ2 88 1) = (20 : Int32) then (
   obi (fX10_no (3 : Int32) σ2) (fun r8 σ9 =>
   some (r8, σ9)))
  else (obv (fX10_note σ2) (fun σ5 =>
  ogd (oin x1 9) (
  if (lg_cmp (((mL σ5 86 x1.toNatClampNeg) >>> (((mI σ5 84 10) - (1 : Int32)).toInt64 &&& 63)) &&& (1 : Int64)) (1 : Int64)) = 0 then (
   fX10_answers_b81 x0 x1 x2 (1 : Int32) σ5)
  else (fX10_answers_b81 x0 x1 x2 (0 : Int32) σ5)))))))
set_option maxRecDepth 100000 in
set_option maxHeartbeats 4000000 in
theorem rX10_answers {N : Nat} {x0 : Int32} {x1 : Int32} {x2 : Int32} {σ : OM} {r0 : Int32} {σ0 : OM} (h : fX10_answers x0 x1 x2 σ = some (r0, σ0)) (hN0 : 3 ≤ N) : oEv N MX10_answers [.ref 81, .int x0, .int x1, .int x2] σ (some (.int r0)) σ0 := by
  refine oEv_of (lv := [.ref 81, .int x0, .int x1, .int x2, .null, .null]) (by decide +kernel) (fun g q hq => hq) (fun g => Nat.le_of_ble_eq_true rfl) ?_
  intro K hc ho hL hN1 hr hE hz
  have hN : 3 ≤ kN K := by rw [hN1]; exact hN0
  unfold fX10_answers at h
  refine go_aload_n hc dX10_answers_0 rfl rfl ?_
  refine go_iload_n hc dX10_answers_1 rfl rfl ?_
  refine go_iload_n hc dX10_answers_2 rfl rfl ?_
  obtain ⟨r1, σ2, hf3, h⟩ := obi_some h
  refine go_callVi hc ho cmX10_isPair mlX10_399 dX10_answers_3 ok_81 (As := [.int x0, .int x1]) (rest := []) (rX10_isPair (N := 2) hf3 (Nat.le_refl _)) rfl (Nat.le_trans (Nat.le_of_ble_eq_true rfl) hN) rfl (Nat.le_of_ble_eq_true rfl) (Or.inl hz) ?_
  refine go_if_ne (tgt := 15) hc dX10_answers_6 rfl (fun hh => ?_) (fun hh => ?_)
  · rw [if_neg hh] at h
    refine go_aload_n hc dX10_answers_15 rfl rfl ?_
    refine go_getC (b := 84) rfl hc ho flX10_20 dX10_answers_16 ok_81 ?_
    refine go_bipush hc dX10_answers_19 cb_10 ?_
    refine go_iald hc dX10_answers_21 ok_84 ol_84 (by decide +kernel) cn_10 ?_
    refine go_if_ne (tgt := 32) hc dX10_answers_22 rfl (fun hh => ?_) (fun hh => ?_)
    · rw [if_neg hh] at h
      refine go_aload_n hc dX10_answers_32 rfl rfl ?_
      refine go_getC (b := 88) rfl hc ho flX10_33 dX10_answers_33 ok_81 ?_
      refine go_iconst hc dX10_answers_36 ci_1 ?_
      refine go_iald hc dX10_answers_37 ok_88 ol_88 (by decide +kernel) cn_1 ?_
      refine go_bipush hc dX10_answers_38 cb_20 ?_
      refine go_icmp_ne (tgt := 49) hc dX10_answers_40 rfl (fun hh => ?_) (fun hh => ?_)
      · rw [if_neg hh] at h
        refine go_aload_n hc dX10_answers_49 rfl rfl ?_
        obtain ⟨σ5, hf6, h⟩ := obv_some h
        refine go_callVv hc ho cmX10_note mlX10_413 dX10_answers_50 ok_81 (As := []) (rest := []) (rX10_note (N := 1) hf6 (Nat.le_refl _)) rfl (Nat.le_trans (Nat.le_of_ble_eq_true rfl) hN) rfl (Nat.le_of_ble_eq_true rfl) (Or.inl hz) ?_
        refine go_aload_n hc dX10_answers_53 rfl rfl ?_
        refine go_getC (b := 86) rfl hc ho flX10_26 dX10_answers_54 ok_81 ?_
        refine go_iload_n hc dX10_answers_57 rfl rfl ?_
        obtain ⟨hg7, h⟩ := ogd_some h
        refine go_lald hc dX10_answers_58 ok_86 ol_86 hg7 rfl ?_
        refine go_aload_n hc dX10_answers_59 rfl rfl ?_
        refine go_getC (b := 84) rfl hc ho flX10_20 dX10_answers_60 ok_81 ?_
        refine go_bipush hc dX10_answers_63 cb_10 ?_
        refine go_iald hc dX10_answers_65 ok_84 ol_84 (by decide +kernel) cn_10 ?_
        refine go_iconst hc dX10_answers_66 ci_1 ?_
        refine go_isub hc dX10_answers_67 ?_
        refine go_lshr hc dX10_answers_68 ?_
        refine go_lconst hc dX10_answers_69 cl_1 ?_
        refine go_land hc dX10_answers_70 ?_
        refine go_lconst hc dX10_answers_71 cl_1 ?_
        refine go_lcmp hc dX10_answers_72 ?_
        refine go_if_ne (tgt := 80) hc dX10_answers_73 rfl (fun hh => ?_) (fun hh => ?_)
        · rw [if_neg hh] at h
          refine go_iconst hc dX10_answers_80 ci_0 ?_
          exact rX10_answers_b81 hc ho hL hN hr hE hz h
        · rw [if_pos hh] at h
          refine go_iconst hc dX10_answers_76 ci_1 ?_
          refine go_goto (tgt := 81) hc dX10_answers_77 rfl ?_
          exact rX10_answers_b81 hc ho hL hN hr hE hz h
      · rw [if_pos hh] at h
        refine go_aload_n hc dX10_answers_43 rfl rfl ?_
        refine go_iconst hc dX10_answers_44 ci_3 ?_
        obtain ⟨r8, σ9, hf10, h⟩ := obi_some h
        refine go_callVi hc ho cmX10_no mlX10_202 dX10_answers_45 ok_81 (As := [.int (3 : Int32)]) (rest := []) (rX10_no (N := 0) hf10 (Nat.le_refl _)) rfl (Nat.le_trans (Nat.le_of_ble_eq_true rfl) hN) rfl (Nat.le_of_ble_eq_true rfl) (Or.inl hz) ?_
        exact go_iret hc (oend_i h hE) hr dX10_answers_48
    · rw [if_pos hh] at h
      refine go_aload_n hc dX10_answers_25 rfl rfl ?_
      refine go_bipush hc dX10_answers_26 cb_6 ?_
      obtain ⟨r11, σ12, hf13, h⟩ := obi_some h
      refine go_callVi hc ho cmX10_no mlX10_202 dX10_answers_28 ok_81 (As := [.int (6 : Int32)]) (rest := []) (rX10_no (N := 0) hf13 (Nat.le_refl _)) rfl (Nat.le_trans (Nat.le_of_ble_eq_true rfl) hN) rfl (Nat.le_of_ble_eq_true rfl) (Or.inl hz) ?_
      exact go_iret hc (oend_i h hE) hr dX10_answers_31
  · rw [if_pos hh] at h
    refine go_aload_n hc dX10_answers_9 rfl rfl ?_
    refine go_iconst hc dX10_answers_10 ci_1 ?_
    obtain ⟨r14, σ15, hf16, h⟩ := obi_some h
    refine go_callVi hc ho cmX10_no mlX10_202 dX10_answers_11 ok_81 (As := [.int (1 : Int32)]) (rest := []) (rX10_no (N := 0) hf16 (Nat.le_refl _)) rfl (Nat.le_trans (Nat.le_of_ble_eq_true rfl) hN) rfl (Nat.le_of_ble_eq_true rfl) (Or.inl hz) ?_
    exact go_iret hc (oend_i h hE) hr dX10_answers_14
def fX10_ask (x0 : Int32) (x1 : Int32) (σ : OM) : Option (Int32 × OM) :=
  obv (fX10_good σ) (fun σ2 =>
  obi (fX10_answers x0 x1 (1 : Int32) σ2) (fun r4 σ5 =>
  some (r4, σ5)))
set_option maxRecDepth 100000 in
set_option maxHeartbeats 4000000 in
theorem rX10_ask {N : Nat} {x0 : Int32} {x1 : Int32} {σ : OM} {r0 : Int32} {σ0 : OM} (h : fX10_ask x0 x1 σ = some (r0, σ0)) (hN0 : 4 ≤ N) : oEv N MX10_ask [.ref 81, .int x0, .int x1] σ (some (.int r0)) σ0 := by
  refine oEv_of (lv := [.ref 81, .int x0, .int x1]) (by decide +kernel) (fun g q hq => hq) (fun g => Nat.le_of_ble_eq_true rfl) ?_
  intro K hc ho hL hN1 hr hE hz
  have hN : 4 ≤ kN K := by rw [hN1]; exact hN0
  unfold fX10_ask at h
  refine go_aload_n hc dX10_ask_0 rfl rfl ?_
  obtain ⟨σ2, hf3, h⟩ := obv_some h
  refine go_callVv hc ho cmX10_good mlX10_199 dX10_ask_1 ok_81 (As := []) (rest := []) (rX10_good (N := 0) hf3 (Nat.le_refl _)) rfl (Nat.le_trans (Nat.le_of_ble_eq_true rfl) hN) rfl (Nat.le_of_ble_eq_true rfl) (Or.inl hz) ?_
  refine go_aload_n hc dX10_ask_4 rfl rfl ?_
  refine go_iload_n hc dX10_ask_5 rfl rfl ?_
  refine go_iload_n hc dX10_ask_6 rfl rfl ?_
  refine go_iconst hc dX10_ask_7 ci_1 ?_
  obtain ⟨r4, σ5, hf6, h⟩ := obi_some h
  refine go_callVi hc ho cmX10_answers mlX10_416 dX10_ask_8 ok_81 (As := [.int x0, .int x1, .int (1 : Int32)]) (rest := []) (rX10_answers (N := 3) hf6 (Nat.le_refl _)) rfl (Nat.le_trans (Nat.le_of_ble_eq_true rfl) hN) rfl (Nat.le_of_ble_eq_true rfl) (Or.inl hz) ?_
  exact go_iret hc (oend_i h hE) hr dX10_ask_11
def fX10_lie (x0 : Int32) (x1 : Int32) (σ : OM) : Option (Int32 × OM) :=
  obv (fX10_good σ) (fun σ2 =>
  obi (fX10_answers x0 x1 (0 : Int32) σ2) (fun r4 σ5 =>
  some (r4, σ5)))
set_option maxRecDepth 100000 in
set_option maxHeartbeats 4000000 in
theorem rX10_lie {N : Nat} {x0 : Int32} {x1 : Int32} {σ : OM} {r0 : Int32} {σ0 : OM} (h : fX10_lie x0 x1 σ = some (r0, σ0)) (hN0 : 4 ≤ N) : oEv N MX10_lie [.ref 81, .int x0, .int x1] σ (some (.int r0)) σ0 := by
  refine oEv_of (lv := [.ref 81, .int x0, .int x1]) (by decide +kernel) (fun g q hq => hq) (fun g => Nat.le_of_ble_eq_true rfl) ?_
  intro K hc ho hL hN1 hr hE hz
  have hN : 4 ≤ kN K := by rw [hN1]; exact hN0
  unfold fX10_lie at h
  refine go_aload_n hc dX10_lie_0 rfl rfl ?_
  obtain ⟨σ2, hf3, h⟩ := obv_some h
  refine go_callVv hc ho cmX10_good mlX10_199 dX10_lie_1 ok_81 (As := []) (rest := []) (rX10_good (N := 0) hf3 (Nat.le_refl _)) rfl (Nat.le_trans (Nat.le_of_ble_eq_true rfl) hN) rfl (Nat.le_of_ble_eq_true rfl) (Or.inl hz) ?_
  refine go_aload_n hc dX10_lie_4 rfl rfl ?_
  refine go_iload_n hc dX10_lie_5 rfl rfl ?_
  refine go_iload_n hc dX10_lie_6 rfl rfl ?_
  refine go_iconst hc dX10_lie_7 ci_0 ?_
  obtain ⟨r4, σ5, hf6, h⟩ := obi_some h
  refine go_callVi hc ho cmX10_answers mlX10_416 dX10_lie_8 ok_81 (As := [.int x0, .int x1, .int (0 : Int32)]) (rest := []) (rX10_answers (N := 3) hf6 (Nat.le_refl _)) rfl (Nat.le_trans (Nat.le_of_ble_eq_true rfl) hN) rfl (Nat.le_of_ble_eq_true rfl) (Or.inl hz) ?_
  exact go_iret hc (oend_i h hE) hr dX10_lie_11
def fX10_isNot (x0 : Int32) (σ : OM) : Option (Int32 × OM) :=
  some ((0 : Int32), sI σ 81 11 x0)
set_option maxRecDepth 100000 in
set_option maxHeartbeats 4000000 in
theorem rX10_isNot {N : Nat} {x0 : Int32} {σ : OM} {r0 : Int32} {σ0 : OM} (h : fX10_isNot x0 σ = some (r0, σ0)) (hN0 : 0 ≤ N) : oEv N MX10_isNot [.ref 81, .int x0] σ (some (.int r0)) σ0 := by
  refine oEv_of (lv := [.ref 81, .int x0]) (by decide +kernel) (fun g q hq => hq) (fun g => Nat.le_of_ble_eq_true rfl) ?_
  intro K hc ho hL hN1 hr hE hz
  have hN : 0 ≤ kN K := by rw [hN1]; exact hN0
  unfold fX10_isNot at h
  refine go_aload_n hc dX10_isNot_0 rfl rfl ?_
  refine go_iload_n hc dX10_isNot_1 rfl rfl ?_
  refine go_putI hc ho fpX10_54 dX10_isNot_2 ok_81 (fun g => oni g _) (fun _ => rfl) ?_
  refine go_iconst hc dX10_isNot_5 ci_0 ?_
  exact go_zret hc (oend_i h hE) hr rfl dX10_isNot_6
def fX10_wed (x0 : Int32) (x1 : Int32) (σ : OM) : Option (Int32 × OM) :=
  obv (fX10_good σ) (fun σ2 =>
  obi (fX10_isHouse x0 σ2) (fun r4 σ5 =>
  if r4 = 0 then (
   obi (fX10_isNot (1 : Int32) σ5) (fun r7 σ8 =>
   ogd (oisb r7) (some (r7, σ8))))
  else (obi (fX10_isHouse x1 σ5) (fun r11 σ12 =>
  if r11 = 0 then (
   obi (fX10_isNot (1 : Int32) σ12) (fun r14 σ15 =>
   ogd (oisb r14) (some (r14, σ15))))
  else (if x0 = x1 then (
   obi (fX10_isNot (1 : Int32) σ12) (fun r33 σ34 =>
   ogd (oisb r33) (some (r33, σ34))))
  else (ogd (oin ((62 : Int32) + x0) 68) (
  obi (fX10_hasBit (mI σ12 88 (((62 : Int32) + x0).toNatClampNeg)) x1 σ12) (fun r19 σ20 =>
  if r19 = 0 then (
   obv (fX10_note σ20) (fun σ23 =>
   ogd (oin ((62 : Int32) + x0) 68) (
   ogd (oin ((62 : Int32) + x0) 68) (
   ogd (oin ((62 : Int32) + x1) 68) (
   ogd (oin ((62 : Int32) + x1) 68) (
   some ((1 : Int32), sI (sI σ23 88 (((62 : Int32) + x0).toNatClampNeg) ((mI σ23 88 (((62 : Int32) + x0).toNatClampNeg)) ||| ((1 : Int32) <<< (x1 &&& 31)))) 88 (((62 : Int32) + x1).toNatClampNeg) ((mI (sI σ23 88 (((62 : Int32) + x0).toNatClampNeg) ((mI σ23 88 (((62 : Int32) + x0).toNatClampNeg)) ||| ((1 : Int32) <<< (x1 &&& 31)))) 88 (((62 : Int32) + x1).toNatClampNeg)) ||| ((1 : Int32) <<< (x0 &&& 31))))))))))
  else (obi (fX10_isNot (5 : Int32) σ20) (fun r29 σ30 =>
  ogd (oisb r29) (some (r29, σ30))))))))))))
set_option maxRecDepth 100000 in
set_option maxHeartbeats 4000000 in
theorem rX10_wed {N : Nat} {x0 : Int32} {x1 : Int32} {σ : OM} {r0 : Int32} {σ0 : OM} (h : fX10_wed x0 x1 σ = some (r0, σ0)) (hN0 : 2 ≤ N) : oEv N MX10_wed [.ref 81, .int x0, .int x1] σ (some (.int r0)) σ0 := by
  refine oEv_of (lv := [.ref 81, .int x0, .int x1]) (by decide +kernel) (fun g q hq => hq) (fun g => Nat.le_of_ble_eq_true rfl) ?_
  intro K hc ho hL hN1 hr hE hz
  have hN : 2 ≤ kN K := by rw [hN1]; exact hN0
  unfold fX10_wed at h
  refine go_aload_n hc dX10_wed_0 rfl rfl ?_
  obtain ⟨σ2, hf3, h⟩ := obv_some h
  refine go_callVv hc ho cmX10_good mlX10_199 dX10_wed_1 ok_81 (As := []) (rest := []) (rX10_good (N := 0) hf3 (Nat.le_refl _)) rfl (Nat.le_trans (Nat.le_of_ble_eq_true rfl) hN) rfl (Nat.le_of_ble_eq_true rfl) (Or.inl hz) ?_
  refine go_aload_n hc dX10_wed_4 rfl rfl ?_
  refine go_iload_n hc dX10_wed_5 rfl rfl ?_
  obtain ⟨r4, σ5, hf6, h⟩ := obi_some h
  refine go_callVi hc ho cmX10_isHouse mlX10_323 dX10_wed_6 ok_81 (As := [.int x0]) (rest := []) (rX10_isHouse (N := 1) hf6 (Nat.le_refl _)) rfl (Nat.le_trans (Nat.le_of_ble_eq_true rfl) hN) rfl (Nat.le_of_ble_eq_true rfl) (Or.inl hz) ?_
  refine go_if_eq (tgt := 25) hc dX10_wed_9 rfl (fun hh => ?_) (fun hh => ?_)
  · rw [if_pos hh] at h
    refine go_aload_n hc dX10_wed_25 rfl rfl ?_
    refine go_iconst hc dX10_wed_26 ci_1 ?_
    obtain ⟨r7, σ8, hf9, h⟩ := obi_some h
    refine go_callVi hc ho cmX10_isNot mlX10_420 dX10_wed_27 ok_81 (As := [.int (1 : Int32)]) (rest := []) (rX10_isNot (N := 0) hf9 (Nat.le_refl _)) rfl (Nat.le_trans (Nat.le_of_ble_eq_true rfl) hN) rfl (Nat.le_of_ble_eq_true rfl) (Or.inl hz) ?_
    obtain ⟨hg10, h⟩ := ogd_some h
    exact go_zret hc (oend_i h hE) hr (oisb_n hg10) dX10_wed_30
  · rw [if_neg hh] at h
    refine go_aload_n hc dX10_wed_12 rfl rfl ?_
    refine go_iload_n hc dX10_wed_13 rfl rfl ?_
    obtain ⟨r11, σ12, hf13, h⟩ := obi_some h
    refine go_callVi hc ho cmX10_isHouse mlX10_323 dX10_wed_14 ok_81 (As := [.int x1]) (rest := []) (rX10_isHouse (N := 1) hf13 (Nat.le_refl _)) rfl (Nat.le_trans (Nat.le_of_ble_eq_true rfl) hN) rfl (Nat.le_of_ble_eq_true rfl) (Or.inl hz) ?_
    refine go_if_eq (tgt := 25) hc dX10_wed_17 rfl (fun hh => ?_) (fun hh => ?_)
    · rw [if_pos hh] at h
      refine go_aload_n hc dX10_wed_25 rfl rfl ?_
      refine go_iconst hc dX10_wed_26 ci_1 ?_
      obtain ⟨r14, σ15, hf16, h⟩ := obi_some h
      refine go_callVi hc ho cmX10_isNot mlX10_420 dX10_wed_27 ok_81 (As := [.int (1 : Int32)]) (rest := []) (rX10_isNot (N := 0) hf16 (Nat.le_refl _)) rfl (Nat.le_trans (Nat.le_of_ble_eq_true rfl) hN) rfl (Nat.le_of_ble_eq_true rfl) (Or.inl hz) ?_
      obtain ⟨hg17, h⟩ := ogd_some h
      exact go_zret hc (oend_i h hE) hr (oisb_n hg17) dX10_wed_30
    · rw [if_neg hh] at h
      refine go_iload_n hc dX10_wed_20 rfl rfl ?_
      refine go_iload_n hc dX10_wed_21 rfl rfl ?_
      refine go_icmp_ne (tgt := 31) hc dX10_wed_22 rfl (fun hh => ?_) (fun hh => ?_)
      · rw [if_neg hh] at h
        refine go_aload_n hc dX10_wed_31 rfl rfl ?_
        refine go_getC (b := 88) rfl hc ho flX10_33 dX10_wed_32 ok_81 ?_
        refine go_bipush hc dX10_wed_35 cb_62 ?_
        refine go_iload_n hc dX10_wed_37 rfl rfl ?_
        refine go_iadd hc dX10_wed_38 ?_
        obtain ⟨hg18, h⟩ := ogd_some h
        refine go_iald hc dX10_wed_39 ok_88 ol_88 hg18 rfl ?_
        refine go_iload_n hc dX10_wed_40 rfl rfl ?_
        obtain ⟨r19, σ20, hf21, h⟩ := obi_some h
        refine go_callSi hc ho cmX10_hasBit mlX10_270 dX10_wed_41 (As := [.int (mI σ12 88 (((62 : Int32) + x0).toNatClampNeg)), .int x1]) (rest := []) (rX10_hasBit (N := 0) hf21 (Nat.le_refl _)) rfl (Nat.le_trans (Nat.le_of_ble_eq_true rfl) hN) rfl (Nat.le_of_ble_eq_true rfl) (Or.inl hz) ?_
        refine go_if_eq (tgt := 53) hc dX10_wed_44 rfl (fun hh => ?_) (fun hh => ?_)
        · rw [if_pos hh] at h
          refine go_aload_n hc dX10_wed_53 rfl rfl ?_
          obtain ⟨σ23, hf24, h⟩ := obv_some h
          refine go_callVv hc ho cmX10_note mlX10_413 dX10_wed_54 ok_81 (As := []) (rest := []) (rX10_note (N := 1) hf24 (Nat.le_refl _)) rfl (Nat.le_trans (Nat.le_of_ble_eq_true rfl) hN) rfl (Nat.le_of_ble_eq_true rfl) (Or.inl hz) ?_
          refine go_aload_n hc dX10_wed_57 rfl rfl ?_
          refine go_getC (b := 88) rfl hc ho flX10_33 dX10_wed_58 ok_81 ?_
          refine go_bipush hc dX10_wed_61 cb_62 ?_
          refine go_iload_n hc dX10_wed_63 rfl rfl ?_
          refine go_iadd hc dX10_wed_64 ?_
          refine go_dup2_11 hc dX10_wed_65 rfl rfl ?_
          obtain ⟨hg25, h⟩ := ogd_some h
          refine go_iald hc dX10_wed_66 ok_88 ol_88 hg25 rfl ?_
          refine go_iconst hc dX10_wed_67 ci_1 ?_
          refine go_iload_n hc dX10_wed_68 rfl rfl ?_
          refine go_ishl hc dX10_wed_69 ?_
          refine go_ior hc dX10_wed_70 ?_
          obtain ⟨hg26, h⟩ := ogd_some h
          refine go_iast hc dX10_wed_71 ok_88 ol_88 hg26 rfl ?_
          refine go_aload_n hc dX10_wed_72 rfl rfl ?_
          refine go_getC (b := 88) rfl hc ho flX10_33 dX10_wed_73 ok_81 ?_
          refine go_bipush hc dX10_wed_76 cb_62 ?_
          refine go_iload_n hc dX10_wed_78 rfl rfl ?_
          refine go_iadd hc dX10_wed_79 ?_
          refine go_dup2_11 hc dX10_wed_80 rfl rfl ?_
          obtain ⟨hg27, h⟩ := ogd_some h
          refine go_iald hc dX10_wed_81 ok_88 ol_88 hg27 rfl ?_
          refine go_iconst hc dX10_wed_82 ci_1 ?_
          refine go_iload_n hc dX10_wed_83 rfl rfl ?_
          refine go_ishl hc dX10_wed_84 ?_
          refine go_ior hc dX10_wed_85 ?_
          obtain ⟨hg28, h⟩ := ogd_some h
          refine go_iast hc dX10_wed_86 ok_88 ol_88 hg28 rfl ?_
          refine go_iconst hc dX10_wed_87 ci_1 ?_
          exact go_zret hc (oend_i h hE) hr rfl dX10_wed_88
        · rw [if_neg hh] at h
          refine go_aload_n hc dX10_wed_47 rfl rfl ?_
          refine go_iconst hc dX10_wed_48 ci_5 ?_
          obtain ⟨r29, σ30, hf31, h⟩ := obi_some h
          refine go_callVi hc ho cmX10_isNot mlX10_420 dX10_wed_49 ok_81 (As := [.int (5 : Int32)]) (rest := []) (rX10_isNot (N := 0) hf31 (Nat.le_refl _)) rfl (Nat.le_trans (Nat.le_of_ble_eq_true rfl) hN) rfl (Nat.le_of_ble_eq_true rfl) (Or.inl hz) ?_
          obtain ⟨hg32, h⟩ := ogd_some h
          exact go_zret hc (oend_i h hE) hr (oisb_n hg32) dX10_wed_52
      · rw [if_pos hh] at h
        refine go_aload_n hc dX10_wed_25 rfl rfl ?_
        refine go_iconst hc dX10_wed_26 ci_1 ?_
        obtain ⟨r33, σ34, hf35, h⟩ := obi_some h
        refine go_callVi hc ho cmX10_isNot mlX10_420 dX10_wed_27 ok_81 (As := [.int (1 : Int32)]) (rest := []) (rX10_isNot (N := 0) hf35 (Nat.le_refl _)) rfl (Nat.le_trans (Nat.le_of_ble_eq_true rfl) hN) rfl (Nat.le_of_ble_eq_true rfl) (Or.inl hz) ?_
        obtain ⟨hg36, h⟩ := ogd_some h
        exact go_zret hc (oend_i h hE) hr (oisb_n hg36) dX10_wed_30
def fX10_years (x0 : Int32) (σ : OM) : Option (Int32 × OM) :=
  obv (fX10_good σ) (fun σ2 =>
  if (mI σ2 81 14) = 0 then (
   obi (fX10_no (1 : Int32) σ2) (fun r16 σ17 =>
   some (r16, σ17)))
  else (obi (fX10_in x0 (1 : Int32) (99 : Int32) σ2) (fun r4 σ5 =>
  if r4 = 0 then (
   obi (fX10_no (2 : Int32) σ5) (fun r13 σ14 =>
   some (r13, σ14)))
  else (if ((mI σ5 88 0) + x0) ≤ (999 : Int32) then (
   obv (fX10_note σ5) (fun σ8 =>
   some ((mI (sI σ8 88 0 ((mI σ8 88 0) + x0)) 88 0), sI σ8 88 0 ((mI σ8 88 0) + x0))))
  else (obi (fX10_no (3 : Int32) σ5) (fun r10 σ11 =>
  some (r10, σ11)))))))
set_option maxRecDepth 100000 in
set_option maxHeartbeats 4000000 in
theorem rX10_years {N : Nat} {x0 : Int32} {σ : OM} {r0 : Int32} {σ0 : OM} (h : fX10_years x0 σ = some (r0, σ0)) (hN0 : 2 ≤ N) : oEv N MX10_years [.ref 81, .int x0] σ (some (.int r0)) σ0 := by
  refine oEv_of (lv := [.ref 81, .int x0]) (by decide +kernel) (fun g q hq => hq) (fun g => Nat.le_of_ble_eq_true rfl) ?_
  intro K hc ho hL hN1 hr hE hz
  have hN : 2 ≤ kN K := by rw [hN1]; exact hN0
  unfold fX10_years at h
  refine go_aload_n hc dX10_years_0 rfl rfl ?_
  obtain ⟨σ2, hf3, h⟩ := obv_some h
  refine go_callVv hc ho cmX10_good mlX10_199 dX10_years_1 ok_81 (As := []) (rest := []) (rX10_good (N := 0) hf3 (Nat.le_refl _)) rfl (Nat.le_trans (Nat.le_of_ble_eq_true rfl) hN) rfl (Nat.le_of_ble_eq_true rfl) (Or.inl hz) ?_
  refine go_aload_n hc dX10_years_4 rfl rfl ?_
  refine go_getI hc ho flX10_212 dX10_years_5 ok_81 ?_
  refine go_if_ne (tgt := 17) hc dX10_years_8 rfl (fun hh => ?_) (fun hh => ?_)
  · rw [if_neg hh] at h
    refine go_iload_n hc dX10_years_17 rfl rfl ?_
    refine go_iconst hc dX10_years_18 ci_1 ?_
    refine go_bipush hc dX10_years_19 cb_99 ?_
    obtain ⟨r4, σ5, hf6, h⟩ := obi_some h
    refine go_callSi hc ho cmX10_in mlX10_156 dX10_years_21 (As := [.int x0, .int (1 : Int32), .int (99 : Int32)]) (rest := []) (rX10_in (N := 0) hf6 (Nat.le_refl _)) rfl (Nat.le_trans (Nat.le_of_ble_eq_true rfl) hN) rfl (Nat.le_of_ble_eq_true rfl) (Or.inl hz) ?_
    refine go_if_ne (tgt := 33) hc dX10_years_24 rfl (fun hh => ?_) (fun hh => ?_)
    · rw [if_neg hh] at h
      refine go_aload_n hc dX10_years_33 rfl rfl ?_
      refine go_getC (b := 88) rfl hc ho flX10_33 dX10_years_34 ok_81 ?_
      refine go_iconst hc dX10_years_37 ci_0 ?_
      refine go_iald hc dX10_years_38 ok_88 ol_88 (by decide +kernel) cn_0 ?_
      refine go_iload_n hc dX10_years_39 rfl rfl ?_
      refine go_iadd hc dX10_years_40 ?_
      refine go_sipush hc dX10_years_41 cs_999 ?_
      refine go_icmp_le (tgt := 53) hc dX10_years_44 rfl (fun hh => ?_) (fun hh => ?_)
      · rw [if_pos hh] at h
        refine go_aload_n hc dX10_years_53 rfl rfl ?_
        obtain ⟨σ8, hf9, h⟩ := obv_some h
        refine go_callVv hc ho cmX10_note mlX10_413 dX10_years_54 ok_81 (As := []) (rest := []) (rX10_note (N := 1) hf9 (Nat.le_refl _)) rfl (Nat.le_trans (Nat.le_of_ble_eq_true rfl) hN) rfl (Nat.le_of_ble_eq_true rfl) (Or.inl hz) ?_
        refine go_aload_n hc dX10_years_57 rfl rfl ?_
        refine go_getC (b := 88) rfl hc ho flX10_33 dX10_years_58 ok_81 ?_
        refine go_iconst hc dX10_years_61 ci_0 ?_
        refine go_dup2_11 hc dX10_years_62 rfl rfl ?_
        refine go_iald hc dX10_years_63 ok_88 ol_88 (by decide +kernel) cn_0 ?_
        refine go_iload_n hc dX10_years_64 rfl rfl ?_
        refine go_iadd hc dX10_years_65 ?_
        refine go_iast hc dX10_years_66 ok_88 ol_88 (by decide +kernel) cn_0 ?_
        refine go_aload_n hc dX10_years_67 rfl rfl ?_
        refine go_getC (b := 88) rfl hc ho flX10_33 dX10_years_68 ok_81 ?_
        refine go_iconst hc dX10_years_71 ci_0 ?_
        refine go_iald hc dX10_years_72 ok_88 ol_88 (by decide +kernel) cn_0 ?_
        exact go_iret hc (oend_i h hE) hr dX10_years_73
      · rw [if_neg hh] at h
        refine go_aload_n hc dX10_years_47 rfl rfl ?_
        refine go_iconst hc dX10_years_48 ci_3 ?_
        obtain ⟨r10, σ11, hf12, h⟩ := obi_some h
        refine go_callVi hc ho cmX10_no mlX10_202 dX10_years_49 ok_81 (As := [.int (3 : Int32)]) (rest := []) (rX10_no (N := 0) hf12 (Nat.le_refl _)) rfl (Nat.le_trans (Nat.le_of_ble_eq_true rfl) hN) rfl (Nat.le_of_ble_eq_true rfl) (Or.inl hz) ?_
        exact go_iret hc (oend_i h hE) hr dX10_years_52
    · rw [if_pos hh] at h
      refine go_aload_n hc dX10_years_27 rfl rfl ?_
      refine go_iconst hc dX10_years_28 ci_2 ?_
      obtain ⟨r13, σ14, hf15, h⟩ := obi_some h
      refine go_callVi hc ho cmX10_no mlX10_202 dX10_years_29 ok_81 (As := [.int (2 : Int32)]) (rest := []) (rX10_no (N := 0) hf15 (Nat.le_refl _)) rfl (Nat.le_trans (Nat.le_of_ble_eq_true rfl) hN) rfl (Nat.le_of_ble_eq_true rfl) (Or.inl hz) ?_
      exact go_iret hc (oend_i h hE) hr dX10_years_32
  · rw [if_pos hh] at h
    refine go_aload_n hc dX10_years_11 rfl rfl ?_
    refine go_iconst hc dX10_years_12 ci_1 ?_
    obtain ⟨r16, σ17, hf18, h⟩ := obi_some h
    refine go_callVi hc ho cmX10_no mlX10_202 dX10_years_13 ok_81 (As := [.int (1 : Int32)]) (rest := []) (rX10_no (N := 0) hf18 (Nat.le_refl _)) rfl (Nat.le_trans (Nat.le_of_ble_eq_true rfl) hN) rfl (Nat.le_of_ble_eq_true rfl) (Or.inl hz) ?_
    exact go_iret hc (oend_i h hE) hr dX10_years_16
def fX10_undo (σ : OM) : Option (Int32 × OM) :=
  obv (fX10_good σ) (fun σ2 =>
  if (mI σ2 81 22) = 0 then (
   obi (fX10_isNot (6 : Int32) σ2) (fun r7 σ8 =>
   ogd (oisb r7) (some (r7, σ8))))
  else (obv (fX10_copy 89 ((68 : Int32) * (mI (sI σ2 81 22 ((mI σ2 81 22) - (1 : Int32))) 81 22)) 88 (0 : Int32) (68 : Int32) (sI σ2 81 22 ((mI σ2 81 22) - (1 : Int32)))) (fun σ5 =>
  some ((1 : Int32), σ5))))
set_option maxRecDepth 100000 in
set_option maxHeartbeats 4000000 in
theorem rX10_undo {N : Nat} {σ : OM} {r0 : Int32} {σ0 : OM} (h : fX10_undo σ = some (r0, σ0)) (hN0 : 1 ≤ N) : oEv N MX10_undo [.ref 81] σ (some (.int r0)) σ0 := by
  refine oEv_of (lv := [.ref 81]) (by decide +kernel) (fun g q hq => hq) (fun g => Nat.le_of_ble_eq_true rfl) ?_
  intro K hc ho hL hN1 hr hE hz
  have hN : 1 ≤ kN K := by rw [hN1]; exact hN0
  unfold fX10_undo at h
  refine go_aload_n hc dX10_undo_0 rfl rfl ?_
  obtain ⟨σ2, hf3, h⟩ := obv_some h
  refine go_callVv hc ho cmX10_good mlX10_199 dX10_undo_1 ok_81 (As := []) (rest := []) (rX10_good (N := 0) hf3 (Nat.le_refl _)) rfl (Nat.le_trans (Nat.le_of_ble_eq_true rfl) hN) rfl (Nat.le_of_ble_eq_true rfl) (Or.inl hz) ?_
  refine go_aload_n hc dX10_undo_4 rfl rfl ?_
  refine go_getI hc ho flX10_215 dX10_undo_5 ok_81 ?_
  refine go_if_ne (tgt := 18) hc dX10_undo_8 rfl (fun hh => ?_) (fun hh => ?_)
  · rw [if_neg hh] at h
    refine go_aload_n hc dX10_undo_18 rfl rfl ?_
    refine go_dup hc dX10_undo_19 rfl ?_
    refine go_getI hc ho flX10_215 dX10_undo_20 ok_81 ?_
    refine go_iconst hc dX10_undo_23 ci_1 ?_
    refine go_isub hc dX10_undo_24 ?_
    refine go_putI hc ho fpX10_215 dX10_undo_25 ok_81 (fun g => oni g _) (fun _ => rfl) ?_
    refine go_aload_n hc dX10_undo_28 rfl rfl ?_
    refine go_getC (b := 89) rfl hc ho flX10_36 dX10_undo_29 ok_81 ?_
    refine go_bipush hc dX10_undo_32 cb_68 ?_
    refine go_aload_n hc dX10_undo_34 rfl rfl ?_
    refine go_getI hc ho flX10_215 dX10_undo_35 ok_81 ?_
    refine go_imul hc dX10_undo_38 ?_
    refine go_aload_n hc dX10_undo_39 rfl rfl ?_
    refine go_getC (b := 88) rfl hc ho flX10_33 dX10_undo_40 ok_81 ?_
    refine go_iconst hc dX10_undo_43 ci_0 ?_
    refine go_bipush hc dX10_undo_44 cb_68 ?_
    obtain ⟨σ5, hf6, h⟩ := obv_some h
    refine go_callSv hc ho cmX10_copy mlX10_208 dX10_undo_46 (As := [.ref 89, .int ((68 : Int32) * (mI (sI σ2 81 22 ((mI σ2 81 22) - (1 : Int32))) 81 22)), .ref 88, .int (0 : Int32), .int (68 : Int32)]) (rest := []) (rX10_copy (N := 0) ok_89 ok_88 hf6 (Nat.le_refl _)) rfl (Nat.le_trans (Nat.le_of_ble_eq_true rfl) hN) rfl (Nat.le_of_ble_eq_true rfl) (Or.inl hz) ?_
    refine go_iconst hc dX10_undo_49 ci_1 ?_
    exact go_zret hc (oend_i h hE) hr rfl dX10_undo_50
  · rw [if_pos hh] at h
    refine go_aload_n hc dX10_undo_11 rfl rfl ?_
    refine go_bipush hc dX10_undo_12 cb_6 ?_
    obtain ⟨r7, σ8, hf9, h⟩ := obi_some h
    refine go_callVi hc ho cmX10_isNot mlX10_420 dX10_undo_14 ok_81 (As := [.int (6 : Int32)]) (rest := []) (rX10_isNot (N := 0) hf9 (Nat.le_refl _)) rfl (Nat.le_trans (Nat.le_of_ble_eq_true rfl) hN) rfl (Nat.le_of_ble_eq_true rfl) (Or.inl hz) ?_
    obtain ⟨hg10, h⟩ := ogd_some h
    exact go_zret hc (oend_i h hE) hr (oisb_n hg10) dX10_undo_17
def fX10_image (σ : OM) : Option (Int32 × OM) :=
  obv (fX10_good σ) (fun σ2 =>
  if (mI σ2 81 14) = 0 then (
   obi (fX10_no (1 : Int32) σ2) (fun r10 σ11 =>
   some (r10, σ11)))
  else (if (mI σ2 81 23) = (3 : Int32) then (
   obi (fX10_no (3 : Int32) σ2) (fun r7 σ8 =>
   some (r7, σ8)))
  else (obv (fX10_copy 88 (0 : Int32) 90 ((68 : Int32) * (mI σ2 81 23)) (68 : Int32) σ2) (fun σ5 =>
  some (((mI (sI σ5 81 23 ((mI σ5 81 23) + (1 : Int32))) 81 23) - (1 : Int32)), sI σ5 81 23 ((mI σ5 81 23) + (1 : Int32)))))))
set_option maxRecDepth 100000 in
set_option maxHeartbeats 4000000 in
theorem rX10_image {N : Nat} {σ : OM} {r0 : Int32} {σ0 : OM} (h : fX10_image σ = some (r0, σ0)) (hN0 : 1 ≤ N) : oEv N MX10_image [.ref 81] σ (some (.int r0)) σ0 := by
  refine oEv_of (lv := [.ref 81]) (by decide +kernel) (fun g q hq => hq) (fun g => Nat.le_of_ble_eq_true rfl) ?_
  intro K hc ho hL hN1 hr hE hz
  have hN : 1 ≤ kN K := by rw [hN1]; exact hN0
  unfold fX10_image at h
  refine go_aload_n hc dX10_image_0 rfl rfl ?_
  obtain ⟨σ2, hf3, h⟩ := obv_some h
  refine go_callVv hc ho cmX10_good mlX10_199 dX10_image_1 ok_81 (As := []) (rest := []) (rX10_good (N := 0) hf3 (Nat.le_refl _)) rfl (Nat.le_trans (Nat.le_of_ble_eq_true rfl) hN) rfl (Nat.le_of_ble_eq_true rfl) (Or.inl hz) ?_
  refine go_aload_n hc dX10_image_4 rfl rfl ?_
  refine go_getI hc ho flX10_212 dX10_image_5 ok_81 ?_
  refine go_if_ne (tgt := 17) hc dX10_image_8 rfl (fun hh => ?_) (fun hh => ?_)
  · rw [if_neg hh] at h
    refine go_aload_n hc dX10_image_17 rfl rfl ?_
    refine go_getI hc ho flX10_218 dX10_image_18 ok_81 ?_
    refine go_iconst hc dX10_image_21 ci_3 ?_
    refine go_icmp_ne (tgt := 31) hc dX10_image_22 rfl (fun hh => ?_) (fun hh => ?_)
    · rw [if_neg hh] at h
      refine go_aload_n hc dX10_image_31 rfl rfl ?_
      refine go_getC (b := 88) rfl hc ho flX10_33 dX10_image_32 ok_81 ?_
      refine go_iconst hc dX10_image_35 ci_0 ?_
      refine go_aload_n hc dX10_image_36 rfl rfl ?_
      refine go_getC (b := 90) rfl hc ho flX10_39 dX10_image_37 ok_81 ?_
      refine go_bipush hc dX10_image_40 cb_68 ?_
      refine go_aload_n hc dX10_image_42 rfl rfl ?_
      refine go_getI hc ho flX10_218 dX10_image_43 ok_81 ?_
      refine go_imul hc dX10_image_46 ?_
      refine go_bipush hc dX10_image_47 cb_68 ?_
      obtain ⟨σ5, hf6, h⟩ := obv_some h
      refine go_callSv hc ho cmX10_copy mlX10_208 dX10_image_49 (As := [.ref 88, .int (0 : Int32), .ref 90, .int ((68 : Int32) * (mI σ2 81 23)), .int (68 : Int32)]) (rest := []) (rX10_copy (N := 0) ok_88 ok_90 hf6 (Nat.le_refl _)) rfl (Nat.le_trans (Nat.le_of_ble_eq_true rfl) hN) rfl (Nat.le_of_ble_eq_true rfl) (Or.inl hz) ?_
      refine go_aload_n hc dX10_image_52 rfl rfl ?_
      refine go_dup hc dX10_image_53 rfl ?_
      refine go_getI hc ho flX10_218 dX10_image_54 ok_81 ?_
      refine go_iconst hc dX10_image_57 ci_1 ?_
      refine go_iadd hc dX10_image_58 ?_
      refine go_putI hc ho fpX10_218 dX10_image_59 ok_81 (fun g => oni g _) (fun _ => rfl) ?_
      refine go_aload_n hc dX10_image_62 rfl rfl ?_
      refine go_getI hc ho flX10_218 dX10_image_63 ok_81 ?_
      refine go_iconst hc dX10_image_66 ci_1 ?_
      refine go_isub hc dX10_image_67 ?_
      exact go_iret hc (oend_i h hE) hr dX10_image_68
    · rw [if_pos hh] at h
      refine go_aload_n hc dX10_image_25 rfl rfl ?_
      refine go_iconst hc dX10_image_26 ci_3 ?_
      obtain ⟨r7, σ8, hf9, h⟩ := obi_some h
      refine go_callVi hc ho cmX10_no mlX10_202 dX10_image_27 ok_81 (As := [.int (3 : Int32)]) (rest := []) (rX10_no (N := 0) hf9 (Nat.le_refl _)) rfl (Nat.le_trans (Nat.le_of_ble_eq_true rfl) hN) rfl (Nat.le_of_ble_eq_true rfl) (Or.inl hz) ?_
      exact go_iret hc (oend_i h hE) hr dX10_image_30
  · rw [if_pos hh] at h
    refine go_aload_n hc dX10_image_11 rfl rfl ?_
    refine go_iconst hc dX10_image_12 ci_1 ?_
    obtain ⟨r10, σ11, hf12, h⟩ := obi_some h
    refine go_callVi hc ho cmX10_no mlX10_202 dX10_image_13 ok_81 (As := [.int (1 : Int32)]) (rest := []) (rX10_no (N := 0) hf12 (Nat.le_refl _)) rfl (Nat.le_trans (Nat.le_of_ble_eq_true rfl) hN) rfl (Nat.le_of_ble_eq_true rfl) (Or.inl hz) ?_
    exact go_iret hc (oend_i h hE) hr dX10_image_16
def fX10_back (x0 : Int32) (σ : OM) : Option (Int32 × OM) :=
  obv (fX10_good σ) (fun σ2 =>
  obi (fX10_in x0 (0 : Int32) ((mI σ2 81 23) - (1 : Int32)) σ2) (fun r4 σ5 =>
  if r4 = 0 then (
   obi (fX10_isNot (1 : Int32) σ5) (fun r10 σ11 =>
   ogd (oisb r10) (some (r10, σ11))))
  else (obv (fX10_copy 90 ((68 : Int32) * x0) 88 (0 : Int32) (68 : Int32) σ5) (fun σ8 =>
  some ((1 : Int32), sI σ8 81 22 (0 : Int32))))))
set_option maxRecDepth 100000 in
set_option maxHeartbeats 4000000 in
theorem rX10_back {N : Nat} {x0 : Int32} {σ : OM} {r0 : Int32} {σ0 : OM} (h : fX10_back x0 σ = some (r0, σ0)) (hN0 : 1 ≤ N) : oEv N MX10_back [.ref 81, .int x0] σ (some (.int r0)) σ0 := by
  refine oEv_of (lv := [.ref 81, .int x0]) (by decide +kernel) (fun g q hq => hq) (fun g => Nat.le_of_ble_eq_true rfl) ?_
  intro K hc ho hL hN1 hr hE hz
  have hN : 1 ≤ kN K := by rw [hN1]; exact hN0
  unfold fX10_back at h
  refine go_aload_n hc dX10_back_0 rfl rfl ?_
  obtain ⟨σ2, hf3, h⟩ := obv_some h
  refine go_callVv hc ho cmX10_good mlX10_199 dX10_back_1 ok_81 (As := []) (rest := []) (rX10_good (N := 0) hf3 (Nat.le_refl _)) rfl (Nat.le_trans (Nat.le_of_ble_eq_true rfl) hN) rfl (Nat.le_of_ble_eq_true rfl) (Or.inl hz) ?_
  refine go_iload_n hc dX10_back_4 rfl rfl ?_
  refine go_iconst hc dX10_back_5 ci_0 ?_
  refine go_aload_n hc dX10_back_6 rfl rfl ?_
  refine go_getI hc ho flX10_218 dX10_back_7 ok_81 ?_
  refine go_iconst hc dX10_back_10 ci_1 ?_
  refine go_isub hc dX10_back_11 ?_
  obtain ⟨r4, σ5, hf6, h⟩ := obi_some h
  refine go_callSi hc ho cmX10_in mlX10_156 dX10_back_12 (As := [.int x0, .int (0 : Int32), .int ((mI σ2 81 23) - (1 : Int32))]) (rest := []) (rX10_in (N := 0) hf6 (Nat.le_refl _)) rfl (Nat.le_trans (Nat.le_of_ble_eq_true rfl) hN) rfl (Nat.le_of_ble_eq_true rfl) (Or.inl hz) ?_
  refine go_if_ne (tgt := 24) hc dX10_back_15 rfl (fun hh => ?_) (fun hh => ?_)
  · rw [if_neg hh] at h
    refine go_aload_n hc dX10_back_24 rfl rfl ?_
    refine go_getC (b := 90) rfl hc ho flX10_39 dX10_back_25 ok_81 ?_
    refine go_bipush hc dX10_back_28 cb_68 ?_
    refine go_iload_n hc dX10_back_30 rfl rfl ?_
    refine go_imul hc dX10_back_31 ?_
    refine go_aload_n hc dX10_back_32 rfl rfl ?_
    refine go_getC (b := 88) rfl hc ho flX10_33 dX10_back_33 ok_81 ?_
    refine go_iconst hc dX10_back_36 ci_0 ?_
    refine go_bipush hc dX10_back_37 cb_68 ?_
    obtain ⟨σ8, hf9, h⟩ := obv_some h
    refine go_callSv hc ho cmX10_copy mlX10_208 dX10_back_39 (As := [.ref 90, .int ((68 : Int32) * x0), .ref 88, .int (0 : Int32), .int (68 : Int32)]) (rest := []) (rX10_copy (N := 0) ok_90 ok_88 hf9 (Nat.le_refl _)) rfl (Nat.le_trans (Nat.le_of_ble_eq_true rfl) hN) rfl (Nat.le_of_ble_eq_true rfl) (Or.inl hz) ?_
    refine go_aload_n hc dX10_back_42 rfl rfl ?_
    refine go_iconst hc dX10_back_43 ci_0 ?_
    refine go_putI hc ho fpX10_215 dX10_back_44 ok_81 (fun g => oni g _) (fun _ => rfl) ?_
    refine go_iconst hc dX10_back_47 ci_1 ?_
    exact go_zret hc (oend_i h hE) hr rfl dX10_back_48
  · rw [if_pos hh] at h
    refine go_aload_n hc dX10_back_18 rfl rfl ?_
    refine go_iconst hc dX10_back_19 ci_1 ?_
    obtain ⟨r10, σ11, hf12, h⟩ := obi_some h
    refine go_callVi hc ho cmX10_isNot mlX10_420 dX10_back_20 ok_81 (As := [.int (1 : Int32)]) (rest := []) (rX10_isNot (N := 0) hf12 (Nat.le_refl _)) rfl (Nat.le_trans (Nat.le_of_ble_eq_true rfl) hN) rfl (Nat.le_of_ble_eq_true rfl) (Or.inl hz) ?_
    obtain ⟨hg13, h⟩ := ogd_some h
    exact go_zret hc (oend_i h hE) hr (oisb_n hg13) dX10_back_23
def fX10_led_b4 : Nat → Int32 → Int32 → Int32 → OM → Option (Int32 × OM)
  | 0, _, _, _, _ => none
  | n + 1, l1, l2, l3, σ =>
    if (mI σ 81 14) = 0 then (
     some ((0 : Int32), sI σ 81 0 (1 : Int32)))
    else (if (mI σ 88 1) ≤ l3 then (
     some ((0 : Int32), sI σ 81 0 (1 : Int32)))
    else (obi (fX10_takesOf l3 σ) (fun r1 σ2 =>
    if r1 = 0 then (
     if l2 = l1 then (
      some (l3, sI σ2 81 0 (0 : Int32)))
     else (fX10_led_b4 n l1 (l2 + 1) (l3 + 1) σ2))
    else (fX10_led_b4 n l1 l2 (l3 + 1) σ2))))
set_option maxRecDepth 100000 in
set_option maxHeartbeats 4000000 in
theorem rX10_led_b4 {K : OK} (hc : kcc K = cX10_led) (ho : kow K = RX10) (hL : knL K = 4) (hN : 6 ≤ kN K) (hr : (kme K).sig.returnType = (some .int)) {r0 : Int32} {σ0 : OM} (hE : oEnd K (some (.int r0)) σ0) (hz : kz K = 0) : ∀ (n : Nat) (l1 : Int32) (l2 : Int32) (l3 : Int32) (σ : OM), fX10_led_b4 n l1 l2 l3 σ = some (r0, σ0) → Go K 4 [.ref 81, .int l1, .int l2, .int l3] [] σ := by
  intro n
  induction n with
  | zero =>
    intro l1 l2 l3 σ h
    cases h
  | succ n ih =>
    intro l1 l2 l3 σ h
    rw [fX10_led_b4] at h
    refine go_aload_n hc dX10_led_4 rfl rfl ?_
    refine go_getI hc ho flX10_212 dX10_led_5 ok_81 ?_
    refine go_if_eq (tgt := 53) hc dX10_led_8 rfl (fun hh => ?_) (fun hh => ?_)
    · rw [if_pos hh] at h
      refine go_aload_n hc dX10_led_53 rfl rfl ?_
      refine go_iconst hc dX10_led_54 ci_1 ?_
      refine go_putI hc ho fpX10_51 dX10_led_55 ok_81 (fun g => oni g _) (fun _ => rfl) ?_
      refine go_iconst hc dX10_led_58 ci_0 ?_
      exact go_iret hc (oend_i h hE) hr dX10_led_59
    · rw [if_neg hh] at h
      refine go_iload_n hc dX10_led_11 rfl rfl ?_
      refine go_aload_n hc dX10_led_12 rfl rfl ?_
      refine go_getC (b := 88) rfl hc ho flX10_33 dX10_led_13 ok_81 ?_
      refine go_iconst hc dX10_led_16 ci_1 ?_
      refine go_iald hc dX10_led_17 ok_88 ol_88 (by decide +kernel) cn_1 ?_
      refine go_icmp_ge (tgt := 53) hc dX10_led_18 rfl (fun hh => ?_) (fun hh => ?_)
      · rw [if_pos hh] at h
        refine go_aload_n hc dX10_led_53 rfl rfl ?_
        refine go_iconst hc dX10_led_54 ci_1 ?_
        refine go_putI hc ho fpX10_51 dX10_led_55 ok_81 (fun g => oni g _) (fun _ => rfl) ?_
        refine go_iconst hc dX10_led_58 ci_0 ?_
        exact go_iret hc (oend_i h hE) hr dX10_led_59
      · rw [if_neg hh] at h
        refine go_aload_n hc dX10_led_21 rfl rfl ?_
        refine go_iload_n hc dX10_led_22 rfl rfl ?_
        obtain ⟨r1, σ2, hf3, h⟩ := obi_some h
        refine go_callVi hc ho cmX10_takesOf mlX10_345 dX10_led_23 ok_81 (As := [.int l3]) (rest := []) (rX10_takesOf (N := 5) hf3 (Nat.le_refl _)) rfl (Nat.le_trans (Nat.le_of_ble_eq_true rfl) hN) rfl (Nat.le_of_ble_eq_true rfl) (Or.inl hz) ?_
        refine go_if_eq (tgt := 32) hc dX10_led_26 rfl (fun hh => ?_) (fun hh => ?_)
        · rw [if_pos hh] at h
          refine go_iload_n hc dX10_led_32 rfl rfl ?_
          refine go_iload_n hc dX10_led_33 rfl rfl ?_
          refine go_icmp_ne (tgt := 44) hc dX10_led_34 rfl (fun hh => ?_) (fun hh => ?_)
          · rw [if_neg hh] at h
            refine go_iinc hc (lv1 := [.ref 81, .int l1, .int (l2 + 1), .int l3]) dX10_led_44 rfl ci_1 hL (by decide) (fun _ _ e => by cases e; rfl) rfl ?_
            refine go_iinc hc (lv1 := [.ref 81, .int l1, .int (l2 + 1), .int (l3 + 1)]) dX10_led_47 rfl ci_1 hL (by decide) (fun _ _ e => by cases e; rfl) rfl ?_
            refine go_goto (tgt := 4) hc dX10_led_50 rfl ?_
            exact ih l1 (l2 + 1) (l3 + 1) _ h
          · rw [if_pos hh] at h
            refine go_aload_n hc dX10_led_37 rfl rfl ?_
            refine go_iconst hc dX10_led_38 ci_0 ?_
            refine go_putI hc ho fpX10_51 dX10_led_39 ok_81 (fun g => oni g _) (fun _ => rfl) ?_
            refine go_iload_n hc dX10_led_42 rfl rfl ?_
            exact go_iret hc (oend_i h hE) hr dX10_led_43
        · rw [if_neg hh] at h
          refine go_goto (tgt := 47) hc dX10_led_29 rfl ?_
          refine go_iinc hc (lv1 := [.ref 81, .int l1, .int l2, .int (l3 + 1)]) dX10_led_47 rfl ci_1 hL (by decide) (fun _ _ e => by cases e; rfl) rfl ?_
          refine go_goto (tgt := 4) hc dX10_led_50 rfl ?_
          exact ih l1 l2 (l3 + 1) _ h
def fX10_led (x0 : Int32) (σ : OM) : Option (Int32 × OM) :=
  fX10_led_b4 oF x0 (0 : Int32) (0 : Int32) σ
set_option maxRecDepth 100000 in
set_option maxHeartbeats 4000000 in
theorem rX10_led {N : Nat} {x0 : Int32} {σ : OM} {r0 : Int32} {σ0 : OM} (h : fX10_led x0 σ = some (r0, σ0)) (hN0 : 6 ≤ N) : oEv N MX10_led [.ref 81, .int x0] σ (some (.int r0)) σ0 := by
  refine oEv_of (lv := [.ref 81, .int x0, .null, .null]) (by decide +kernel) (fun g q hq => hq) (fun g => Nat.le_of_ble_eq_true rfl) ?_
  intro K hc ho hL hN1 hr hE hz
  have hN : 6 ≤ kN K := by rw [hN1]; exact hN0
  unfold fX10_led at h
  refine go_iconst hc dX10_led_0 ci_0 ?_
  refine go_istore_n hc (lv1 := [.ref 81, .int x0, .int (0 : Int32), .null]) dX10_led_1 rfl hL (by decide) (fun _ _ e => by cases e; rfl) rfl ?_
  refine go_iconst hc dX10_led_2 ci_0 ?_
  refine go_istore_n hc (lv1 := [.ref 81, .int x0, .int (0 : Int32), .int (0 : Int32)]) dX10_led_3 rfl hL (by decide) (fun _ _ e => by cases e; rfl) rfl ?_
  exact rX10_led_b4 hc ho hL hN hr hE hz oF x0 (0 : Int32) (0 : Int32) _ h
def fX10_weddings_b4 : Nat → Int32 → Int32 → OM → Option (Int32 × OM)
  | 0, _, _, _ => none
  | n + 1, l1, l2, σ =>
    if (6 : Int32) ≤ l2 then (
     some ((l1 / (2 : Int32)), σ))
    else (ogd (oin ((62 : Int32) + l2) 68) (
    obi (fX10_ones ((mI σ 88 (((62 : Int32) + l2).toNatClampNeg)).toInt64) σ) (fun r2 σ3 =>
    fX10_weddings_b4 n (l1 + r2) (l2 + 1) σ3)))
set_option maxRecDepth 100000 in
set_option maxHeartbeats 4000000 in
theorem rX10_weddings_b4 {K : OK} (hc : kcc K = cX10_weddings) (ho : kow K = RX10) (hL : knL K = 3) (hN : 1 ≤ kN K) (hr : (kme K).sig.returnType = (some .int)) {r0 : Int32} {σ0 : OM} (hE : oEnd K (some (.int r0)) σ0) (hz : kz K = 0) : ∀ (n : Nat) (l1 : Int32) (l2 : Int32) (σ : OM), fX10_weddings_b4 n l1 l2 σ = some (r0, σ0) → Go K 4 [.ref 81, .int l1, .int l2] [] σ := by
  intro n
  induction n with
  | zero =>
    intro l1 l2 σ h
    cases h
  | succ n ih =>
    intro l1 l2 σ h
    rw [fX10_weddings_b4] at h
    refine go_iload_n hc dX10_weddings_4 rfl rfl ?_
    refine go_bipush hc dX10_weddings_5 cb_6 ?_
    refine go_icmp_ge (tgt := 32) hc dX10_weddings_7 rfl (fun hh => ?_) (fun hh => ?_)
    · rw [if_pos hh] at h
      refine go_iload_n hc dX10_weddings_32 rfl rfl ?_
      refine go_iconst hc dX10_weddings_33 ci_2 ?_
      refine go_idiv hc dX10_weddings_34 (by decide) ?_
      exact go_iret hc (oend_i h hE) hr dX10_weddings_35
    · rw [if_neg hh] at h
      refine go_iload_n hc dX10_weddings_10 rfl rfl ?_
      refine go_aload_n hc dX10_weddings_11 rfl rfl ?_
      refine go_getC (b := 88) rfl hc ho flX10_33 dX10_weddings_12 ok_81 ?_
      refine go_bipush hc dX10_weddings_15 cb_62 ?_
      refine go_iload_n hc dX10_weddings_17 rfl rfl ?_
      refine go_iadd hc dX10_weddings_18 ?_
      obtain ⟨hg1, h⟩ := ogd_some h
      refine go_iald hc dX10_weddings_19 ok_88 ol_88 hg1 rfl ?_
      refine go_i2l hc dX10_weddings_20 ?_
      obtain ⟨r2, σ3, hf4, h⟩ := obi_some h
      refine go_callSi hc ho cmX10_ones mlX10_291 dX10_weddings_21 (As := [.long ((mI σ 88 (((62 : Int32) + l2).toNatClampNeg)).toInt64)]) (rest := [.int l1]) (rX10_ones (N := 0) hf4 (Nat.le_refl _)) rfl (Nat.le_trans (Nat.le_of_ble_eq_true rfl) hN) rfl (Nat.le_of_ble_eq_true rfl) (Or.inl hz) ?_
      refine go_iadd hc dX10_weddings_24 ?_
      refine go_istore_n hc (lv1 := [.ref 81, .int (l1 + r2), .int l2]) dX10_weddings_25 rfl hL (by decide) (fun _ _ e => by cases e; rfl) rfl ?_
      refine go_iinc hc (lv1 := [.ref 81, .int (l1 + r2), .int (l2 + 1)]) dX10_weddings_26 rfl ci_1 hL (by decide) (fun _ _ e => by cases e; rfl) rfl ?_
      refine go_goto (tgt := 4) hc dX10_weddings_29 rfl ?_
      exact ih (l1 + r2) (l2 + 1) _ h
def fX10_weddings (σ : OM) : Option (Int32 × OM) :=
  fX10_weddings_b4 oF (0 : Int32) (0 : Int32) σ
set_option maxRecDepth 100000 in
set_option maxHeartbeats 4000000 in
theorem rX10_weddings {N : Nat} {σ : OM} {r0 : Int32} {σ0 : OM} (h : fX10_weddings σ = some (r0, σ0)) (hN0 : 1 ≤ N) : oEv N MX10_weddings [.ref 81] σ (some (.int r0)) σ0 := by
  refine oEv_of (lv := [.ref 81, .null, .null]) (by decide +kernel) (fun g q hq => hq) (fun g => Nat.le_of_ble_eq_true rfl) ?_
  intro K hc ho hL hN1 hr hE hz
  have hN : 1 ≤ kN K := by rw [hN1]; exact hN0
  unfold fX10_weddings at h
  refine go_iconst hc dX10_weddings_0 ci_0 ?_
  refine go_istore_n hc (lv1 := [.ref 81, .int (0 : Int32), .null]) dX10_weddings_1 rfl hL (by decide) (fun _ _ e => by cases e; rfl) rfl ?_
  refine go_iconst hc dX10_weddings_2 ci_0 ?_
  refine go_istore_n hc (lv1 := [.ref 81, .int (0 : Int32), .int (0 : Int32)]) dX10_weddings_3 rfl hL (by decide) (fun _ _ e => by cases e; rfl) rfl ?_
  exact rX10_weddings_b4 hc ho hL hN hr hE hz oF (0 : Int32) (0 : Int32) _ h
def fX10_size (x0 : Int32) (σ : OM) : Option (Int32 × OM) :=
  if x0 = (12 : Int32) then (
   some ((mI (sI σ 81 0 (0 : Int32)) 81 2), sI σ 81 0 (0 : Int32)))
  else (if (mI (sI σ 81 0 (0 : Int32)) 81 14) = 0 then (
   obi (fX10_in x0 (0 : Int32) (11 : Int32) (sI σ 81 0 (0 : Int32))) (fun r4 σ5 =>
   if r4 = 0 then (
    some (((-1) : Int32), σ5))
   else (some ((0 : Int32), σ5))))
  else (if x0 = 0 then (
   some ((mI (sI σ 81 0 (0 : Int32)) 84 1), sI σ 81 0 (0 : Int32)))
  else if x0 = 1 then (
   some ((mI (sI σ 81 0 (0 : Int32)) 84 2), sI σ 81 0 (0 : Int32)))
  else if x0 = 2 then (
   some ((mI (sI σ 81 0 (0 : Int32)) 84 3), sI σ 81 0 (0 : Int32)))
  else if x0 = 3 then (
   some ((mI (sI σ 81 0 (0 : Int32)) 84 4), sI σ 81 0 (0 : Int32)))
  else if x0 = 4 then (
   some ((mI (sI σ 81 0 (0 : Int32)) 84 5), sI σ 81 0 (0 : Int32)))
  else if x0 = 5 then (
   some ((mI (sI σ 81 0 (0 : Int32)) 88 1), sI σ 81 0 (0 : Int32)))
  else if x0 = 6 then (
   some ((mI (sI σ 81 0 (0 : Int32)) 84 7), sI σ 81 0 (0 : Int32)))
  else if x0 = 7 then (
   obi (fX10_weddings (sI σ 81 0 (0 : Int32))) (fun r1 σ2 =>
   some (r1, σ2)))
  else if x0 = 8 then (
   some ((mI (sI σ 81 0 (0 : Int32)) 88 0), sI σ 81 0 (0 : Int32)))
  else if x0 = 9 then (
   if (mI (sI σ 81 0 (0 : Int32)) 84 10) ≤ 0 then (
    some ((0 : Int32), sI σ 81 0 (0 : Int32)))
   else (some ((1 : Int32), sI σ 81 0 (0 : Int32))))
  else if x0 = 10 then (
   some ((mI (sI σ 81 0 (0 : Int32)) 81 22), sI σ 81 0 (0 : Int32)))
  else if x0 = 11 then (
   some ((mI (sI σ 81 0 (0 : Int32)) 81 23), sI σ 81 0 (0 : Int32)))
  else (some (((-1) : Int32), sI σ 81 0 (0 : Int32)))))
set_option maxRecDepth 100000 in
set_option maxHeartbeats 4000000 in
theorem rX10_size {N : Nat} {x0 : Int32} {σ : OM} {r0 : Int32} {σ0 : OM} (h : fX10_size x0 σ = some (r0, σ0)) (hN0 : 2 ≤ N) : oEv N MX10_size [.ref 81, .int x0] σ (some (.int r0)) σ0 := by
  refine oEv_of (lv := [.ref 81, .int x0]) (by decide +kernel) (fun g q hq => hq) (fun g => Nat.le_of_ble_eq_true rfl) ?_
  intro K hc ho hL hN1 hr hE hz
  have hN : 2 ≤ kN K := by rw [hN1]; exact hN0
  unfold fX10_size at h
  refine go_aload_n hc dX10_size_0 rfl rfl ?_
  refine go_iconst hc dX10_size_1 ci_0 ?_
  refine go_putI hc ho fpX10_51 dX10_size_2 ok_81 (fun g => oni g _) (fun _ => rfl) ?_
  refine go_iload_n hc dX10_size_5 rfl rfl ?_
  refine go_bipush hc dX10_size_6 cb_12 ?_
  refine go_icmp_ne (tgt := 16) hc dX10_size_8 rfl (fun hh => ?_) (fun hh => ?_)
  · rw [if_neg hh] at h
    refine go_aload_n hc dX10_size_16 rfl rfl ?_
    refine go_getI hc ho flX10_212 dX10_size_17 ok_81 ?_
    refine go_if_ne (tgt := 39) hc dX10_size_20 rfl (fun hh => ?_) (fun hh => ?_)
    · rw [if_neg hh] at h
      refine go_iload_n hc dX10_size_39 rfl rfl ?_
      by_cases e0 : x0 = 0
      · rw [if_pos e0] at h
        refine go_tabIn (tgt := 104) (off := 64) hc dX10_size_40 (by rw [e0]; decide) (by rw [e0]; decide) (by rw [e0]; decide +kernel) rfl ?_
        refine go_aload_n hc dX10_size_104 rfl rfl ?_
        refine go_getC (b := 84) rfl hc ho flX10_20 dX10_size_105 ok_81 ?_
        refine go_iconst hc dX10_size_108 ci_1 ?_
        refine go_iald hc dX10_size_109 ok_84 ol_84 (by decide +kernel) cn_1 ?_
        exact go_iret hc (oend_i h hE) hr dX10_size_110
      rw [if_neg e0] at h
      by_cases e1 : x0 = 1
      · rw [if_pos e1] at h
        refine go_tabIn (tgt := 111) (off := 71) hc dX10_size_40 (by rw [e1]; decide) (by rw [e1]; decide) (by rw [e1]; decide +kernel) rfl ?_
        refine go_aload_n hc dX10_size_111 rfl rfl ?_
        refine go_getC (b := 84) rfl hc ho flX10_20 dX10_size_112 ok_81 ?_
        refine go_iconst hc dX10_size_115 ci_2 ?_
        refine go_iald hc dX10_size_116 ok_84 ol_84 (by decide +kernel) cn_2 ?_
        exact go_iret hc (oend_i h hE) hr dX10_size_117
      rw [if_neg e1] at h
      by_cases e2 : x0 = 2
      · rw [if_pos e2] at h
        refine go_tabIn (tgt := 118) (off := 78) hc dX10_size_40 (by rw [e2]; decide) (by rw [e2]; decide) (by rw [e2]; decide +kernel) rfl ?_
        refine go_aload_n hc dX10_size_118 rfl rfl ?_
        refine go_getC (b := 84) rfl hc ho flX10_20 dX10_size_119 ok_81 ?_
        refine go_iconst hc dX10_size_122 ci_3 ?_
        refine go_iald hc dX10_size_123 ok_84 ol_84 (by decide +kernel) cn_3 ?_
        exact go_iret hc (oend_i h hE) hr dX10_size_124
      rw [if_neg e2] at h
      by_cases e3 : x0 = 3
      · rw [if_pos e3] at h
        refine go_tabIn (tgt := 125) (off := 85) hc dX10_size_40 (by rw [e3]; decide) (by rw [e3]; decide) (by rw [e3]; decide +kernel) rfl ?_
        refine go_aload_n hc dX10_size_125 rfl rfl ?_
        refine go_getC (b := 84) rfl hc ho flX10_20 dX10_size_126 ok_81 ?_
        refine go_iconst hc dX10_size_129 ci_4 ?_
        refine go_iald hc dX10_size_130 ok_84 ol_84 (by decide +kernel) cn_4 ?_
        exact go_iret hc (oend_i h hE) hr dX10_size_131
      rw [if_neg e3] at h
      by_cases e4 : x0 = 4
      · rw [if_pos e4] at h
        refine go_tabIn (tgt := 132) (off := 92) hc dX10_size_40 (by rw [e4]; decide) (by rw [e4]; decide) (by rw [e4]; decide +kernel) rfl ?_
        refine go_aload_n hc dX10_size_132 rfl rfl ?_
        refine go_getC (b := 84) rfl hc ho flX10_20 dX10_size_133 ok_81 ?_
        refine go_iconst hc dX10_size_136 ci_5 ?_
        refine go_iald hc dX10_size_137 ok_84 ol_84 (by decide +kernel) cn_5 ?_
        exact go_iret hc (oend_i h hE) hr dX10_size_138
      rw [if_neg e4] at h
      by_cases e5 : x0 = 5
      · rw [if_pos e5] at h
        refine go_tabIn (tgt := 139) (off := 99) hc dX10_size_40 (by rw [e5]; decide) (by rw [e5]; decide) (by rw [e5]; decide +kernel) rfl ?_
        refine go_aload_n hc dX10_size_139 rfl rfl ?_
        refine go_getC (b := 88) rfl hc ho flX10_33 dX10_size_140 ok_81 ?_
        refine go_iconst hc dX10_size_143 ci_1 ?_
        refine go_iald hc dX10_size_144 ok_88 ol_88 (by decide +kernel) cn_1 ?_
        exact go_iret hc (oend_i h hE) hr dX10_size_145
      rw [if_neg e5] at h
      by_cases e6 : x0 = 6
      · rw [if_pos e6] at h
        refine go_tabIn (tgt := 146) (off := 106) hc dX10_size_40 (by rw [e6]; decide) (by rw [e6]; decide) (by rw [e6]; decide +kernel) rfl ?_
        refine go_aload_n hc dX10_size_146 rfl rfl ?_
        refine go_getC (b := 84) rfl hc ho flX10_20 dX10_size_147 ok_81 ?_
        refine go_bipush hc dX10_size_150 cb_7 ?_
        refine go_iald hc dX10_size_152 ok_84 ol_84 (by decide +kernel) cn_7 ?_
        exact go_iret hc (oend_i h hE) hr dX10_size_153
      rw [if_neg e6] at h
      by_cases e7 : x0 = 7
      · rw [if_pos e7] at h
        refine go_tabIn (tgt := 154) (off := 114) hc dX10_size_40 (by rw [e7]; decide) (by rw [e7]; decide) (by rw [e7]; decide +kernel) rfl ?_
        refine go_aload_n hc dX10_size_154 rfl rfl ?_
        obtain ⟨r1, σ2, hf3, h⟩ := obi_some h
        refine go_callVi hc ho cmX10_weddings mlX10_423 dX10_size_155 ok_81 (As := []) (rest := []) (rX10_weddings (N := 1) hf3 (Nat.le_refl _)) rfl (Nat.le_trans (Nat.le_of_ble_eq_true rfl) hN) rfl (Nat.le_of_ble_eq_true rfl) (Or.inl hz) ?_
        exact go_iret hc (oend_i h hE) hr dX10_size_158
      rw [if_neg e7] at h
      by_cases e8 : x0 = 8
      · rw [if_pos e8] at h
        refine go_tabIn (tgt := 159) (off := 119) hc dX10_size_40 (by rw [e8]; decide) (by rw [e8]; decide) (by rw [e8]; decide +kernel) rfl ?_
        refine go_aload_n hc dX10_size_159 rfl rfl ?_
        refine go_getC (b := 88) rfl hc ho flX10_33 dX10_size_160 ok_81 ?_
        refine go_iconst hc dX10_size_163 ci_0 ?_
        refine go_iald hc dX10_size_164 ok_88 ol_88 (by decide +kernel) cn_0 ?_
        exact go_iret hc (oend_i h hE) hr dX10_size_165
      rw [if_neg e8] at h
      by_cases e9 : x0 = 9
      · rw [if_pos e9] at h
        refine go_tabIn (tgt := 166) (off := 126) hc dX10_size_40 (by rw [e9]; decide) (by rw [e9]; decide) (by rw [e9]; decide +kernel) rfl ?_
        refine go_aload_n hc dX10_size_166 rfl rfl ?_
        refine go_getC (b := 84) rfl hc ho flX10_20 dX10_size_167 ok_81 ?_
        refine go_bipush hc dX10_size_170 cb_10 ?_
        refine go_iald hc dX10_size_172 ok_84 ol_84 (by decide +kernel) cn_10 ?_
        refine go_if_le (tgt := 180) hc dX10_size_173 rfl (fun hh => ?_) (fun hh => ?_)
        · rw [if_pos hh] at h
          refine go_iconst hc dX10_size_180 ci_0 ?_
          exact go_iret hc (oend_i h hE) hr dX10_size_181
        · rw [if_neg hh] at h
          refine go_iconst hc dX10_size_176 ci_1 ?_
          refine go_goto (tgt := 181) hc dX10_size_177 rfl ?_
          exact go_iret hc (oend_i h hE) hr dX10_size_181
      rw [if_neg e9] at h
      by_cases e10 : x0 = 10
      · rw [if_pos e10] at h
        refine go_tabIn (tgt := 182) (off := 142) hc dX10_size_40 (by rw [e10]; decide) (by rw [e10]; decide) (by rw [e10]; decide +kernel) rfl ?_
        refine go_aload_n hc dX10_size_182 rfl rfl ?_
        refine go_getI hc ho flX10_215 dX10_size_183 ok_81 ?_
        exact go_iret hc (oend_i h hE) hr dX10_size_186
      rw [if_neg e10] at h
      by_cases e11 : x0 = 11
      · rw [if_pos e11] at h
        refine go_tabIn (tgt := 187) (off := 147) hc dX10_size_40 (by rw [e11]; decide) (by rw [e11]; decide) (by rw [e11]; decide +kernel) rfl ?_
        refine go_aload_n hc dX10_size_187 rfl rfl ?_
        refine go_getI hc ho flX10_218 dX10_size_188 ok_81 ?_
        exact go_iret hc (oend_i h hE) hr dX10_size_191
      rw [if_neg e11] at h
      refine go_tabOut (tgt := 192) hc dX10_size_40 ((otab 12 (by decide) (fun k hk => by rcases (show k = 0 ∨ k = 1 ∨ k = 2 ∨ k = 3 ∨ k = 4 ∨ k = 5 ∨ k = 6 ∨ k = 7 ∨ k = 8 ∨ k = 9 ∨ k = 10 ∨ k = 11 by omega) with rfl | rfl | rfl | rfl | rfl | rfl | rfl | rfl | rfl | rfl | rfl | rfl <;> first | exact e0 | exact e1 | exact e2 | exact e3 | exact e4 | exact e5 | exact e6 | exact e7 | exact e8 | exact e9 | exact e10 | exact e11)).imp id (fun q => by omega)) rfl ?_
      refine go_iconst hc dX10_size_192 ci_m1 ?_
      exact go_iret hc (oend_i h hE) hr dX10_size_193
    · rw [if_pos hh] at h
      refine go_iload_n hc dX10_size_23 rfl rfl ?_
      refine go_iconst hc dX10_size_24 ci_0 ?_
      refine go_bipush hc dX10_size_25 cb_11 ?_
      obtain ⟨r4, σ5, hf6, h⟩ := obi_some h
      refine go_callSi hc ho cmX10_in mlX10_156 dX10_size_27 (As := [.int x0, .int (0 : Int32), .int (11 : Int32)]) (rest := []) (rX10_in (N := 0) hf6 (Nat.le_refl _)) rfl (Nat.le_trans (Nat.le_of_ble_eq_true rfl) hN) rfl (Nat.le_of_ble_eq_true rfl) (Or.inl hz) ?_
      refine go_if_eq (tgt := 37) hc dX10_size_30 rfl (fun hh => ?_) (fun hh => ?_)
      · rw [if_pos hh] at h
        refine go_iconst hc dX10_size_37 ci_m1 ?_
        exact go_iret hc (oend_i h hE) hr dX10_size_38
      · rw [if_neg hh] at h
        refine go_iconst hc dX10_size_33 ci_0 ?_
        refine go_goto (tgt := 38) hc dX10_size_34 rfl ?_
        exact go_iret hc (oend_i h hE) hr dX10_size_38
  · rw [if_pos hh] at h
    refine go_aload_n hc dX10_size_11 rfl rfl ?_
    refine go_getI hc ho flX10_57 dX10_size_12 ok_81 ?_
    exact go_iret hc (oend_i h hE) hr dX10_size_15
def fX10_trouble (σ : OM) : Option (Int32 × OM) :=
  some ((mI (sI σ 81 0 (0 : Int32)) 81 11), sI σ 81 0 (0 : Int32))
set_option maxRecDepth 100000 in
set_option maxHeartbeats 4000000 in
theorem rX10_trouble {N : Nat} {σ : OM} {r0 : Int32} {σ0 : OM} (h : fX10_trouble σ = some (r0, σ0)) (hN0 : 0 ≤ N) : oEv N MX10_trouble [.ref 81] σ (some (.int r0)) σ0 := by
  refine oEv_of (lv := [.ref 81]) (by decide +kernel) (fun g q hq => hq) (fun g => Nat.le_of_ble_eq_true rfl) ?_
  intro K hc ho hL hN1 hr hE hz
  have hN : 0 ≤ kN K := by rw [hN1]; exact hN0
  unfold fX10_trouble at h
  refine go_aload_n hc dX10_trouble_0 rfl rfl ?_
  refine go_iconst hc dX10_trouble_1 ci_0 ?_
  refine go_putI hc ho fpX10_51 dX10_trouble_2 ok_81 (fun g => oni g _) (fun _ => rfl) ?_
  refine go_aload_n hc dX10_trouble_5 rfl rfl ?_
  refine go_getI hc ho flX10_54 dX10_trouble_6 ok_81 ?_
  exact go_iret hc (oend_i h hE) hr dX10_trouble_9
