def fX10_worldsOf_b4 : Nat → Int32 → Int64 → Int32 → OM → Option (Int64 × OM)
  | 0, _, _, _, _ => none
  | n + 1, l0, l1, l3, σ =>
    if (64 : Int32) ≤ l3 then (
     some (l1, σ))
    else (if ((l3 >>> (l0 &&& 31)) &&& (1 : Int32)) = (1 : Int32) then (
     fX10_worldsOf_b4 n l0 (l1 ||| ((1 : Int64) <<< (l3.toInt64 &&& 63))) (l3 + 1) σ)
    else (fX10_worldsOf_b4 n l0 (l1 ||| (0 : Int64)) (l3 + 1) σ))
set_option maxRecDepth 100000 in
set_option maxHeartbeats 4000000 in
theorem rX10_worldsOf_b4 {K : OK} (hc : kcc K = cX10_worldsOf) (ho : kow K = RX10) (hL : knL K = 4) (hN : 0 ≤ kN K) (hr : (kme K).sig.returnType = (some .long)) {r0 : Int64} {σ0 : OM} (hE : oEnd K (some (.long r0)) σ0) (hz : kz K = 0) : ∀ (n : Nat) (l0 : Int32) (l1 : Int64) (l3 : Int32) (σ : OM), fX10_worldsOf_b4 n l0 l1 l3 σ = some (r0, σ0) → Go K 4 [.int l0, .long l1, .null, .int l3] [] σ := by
  intro n
  induction n with
  | zero =>
    intro l0 l1 l3 σ h
    cases h
  | succ n ih =>
    intro l0 l1 l3 σ h
    rw [fX10_worldsOf_b4] at h
    refine go_iload_n hc dX10_worldsOf_4 rfl rfl ?_
    refine go_bipush hc dX10_worldsOf_5 cb_64 ?_
    refine go_icmp_ge (tgt := 35) hc dX10_worldsOf_7 rfl (fun hh => ?_) (fun hh => ?_)
    · rw [if_pos hh] at h
      refine go_lload_n hc dX10_worldsOf_35 rfl rfl ?_
      exact go_lret hc (oend_l h hE) hr dX10_worldsOf_36
    · rw [if_neg hh] at h
      refine go_lload_n hc dX10_worldsOf_10 rfl rfl ?_
      refine go_iload_n hc dX10_worldsOf_11 rfl rfl ?_
      refine go_iload_n hc dX10_worldsOf_12 rfl rfl ?_
      refine go_ishr hc dX10_worldsOf_13 ?_
      refine go_iconst hc dX10_worldsOf_14 ci_1 ?_
      refine go_iand hc dX10_worldsOf_15 ?_
      refine go_iconst hc dX10_worldsOf_16 ci_1 ?_
      refine go_icmp_ne (tgt := 26) hc dX10_worldsOf_17 rfl (fun hh => ?_) (fun hh => ?_)
      · rw [if_neg hh] at h
        refine go_lconst hc dX10_worldsOf_26 cl_0 ?_
        refine go_lor hc dX10_worldsOf_27 ?_
        refine go_lstore_n hc (lv1 := [.int l0, .long (l1 ||| (0 : Int64)), .null, .int l3]) dX10_worldsOf_28 rfl hL (by decide) (fun _ _ e => by cases e; rfl) rfl ?_
        refine go_iinc hc (lv1 := [.int l0, .long (l1 ||| (0 : Int64)), .null, .int (l3 + 1)]) dX10_worldsOf_29 rfl ci_1 hL (by decide) (fun _ _ e => by cases e; rfl) rfl ?_
        refine go_goto (tgt := 4) hc dX10_worldsOf_32 rfl ?_
        exact ih l0 (l1 ||| (0 : Int64)) (l3 + 1) _ h
      · rw [if_pos hh] at h
        refine go_lconst hc dX10_worldsOf_20 cl_1 ?_
        refine go_iload_n hc dX10_worldsOf_21 rfl rfl ?_
        refine go_lshl hc dX10_worldsOf_22 ?_
        refine go_goto (tgt := 27) hc dX10_worldsOf_23 rfl ?_
        refine go_lor hc dX10_worldsOf_27 ?_
        refine go_lstore_n hc (lv1 := [.int l0, .long (l1 ||| ((1 : Int64) <<< (l3.toInt64 &&& 63))), .null, .int l3]) dX10_worldsOf_28 rfl hL (by decide) (fun _ _ e => by cases e; rfl) rfl ?_
        refine go_iinc hc (lv1 := [.int l0, .long (l1 ||| ((1 : Int64) <<< (l3.toInt64 &&& 63))), .null, .int (l3 + 1)]) dX10_worldsOf_29 rfl ci_1 hL (by decide) (fun _ _ e => by cases e; rfl) rfl ?_
        refine go_goto (tgt := 4) hc dX10_worldsOf_32 rfl ?_
        exact ih l0 (l1 ||| ((1 : Int64) <<< (l3.toInt64 &&& 63))) (l3 + 1) _ h
def fX10_worldsOf (x0 : Int32) (σ : OM) : Option (Int64 × OM) :=
  fX10_worldsOf_b4 oF x0 (0 : Int64) (0 : Int32) σ
set_option maxRecDepth 100000 in
set_option maxHeartbeats 4000000 in
theorem rX10_worldsOf {N : Nat} {x0 : Int32} {σ : OM} {r0 : Int64} {σ0 : OM} (h : fX10_worldsOf x0 σ = some (r0, σ0)) (hN0 : 0 ≤ N) : oEv N MX10_worldsOf [.int x0] σ (some (.long r0)) σ0 := by
  refine oEv_of (lv := [.int x0, .null, .null, .null]) (by decide +kernel) (fun g q hq => hq) (fun g => Nat.le_of_ble_eq_true rfl) ?_
  intro K hc ho hL hN1 hr hE hz
  have hN : 0 ≤ kN K := by rw [hN1]; exact hN0
  unfold fX10_worldsOf at h
  refine go_lconst hc dX10_worldsOf_0 cl_0 ?_
  refine go_lstore_n hc (lv1 := [.int x0, .long (0 : Int64), .null, .null]) dX10_worldsOf_1 rfl hL (by decide) (fun _ _ e => by cases e; rfl) rfl ?_
  refine go_iconst hc dX10_worldsOf_2 ci_0 ?_
  refine go_istore_n hc (lv1 := [.int x0, .long (0 : Int64), .null, .int (0 : Int32)]) dX10_worldsOf_3 rfl hL (by decide) (fun _ _ e => by cases e; rfl) rfl ?_
  exact rX10_worldsOf_b4 hc ho hL hN hr hE hz oF x0 (0 : Int64) (0 : Int32) _ h
def fX10_term_b5 (rc : OM → Option (Int64 × OM)) : Nat → Int64 → OM → Option (Int64 × OM)
  | 0, _, _ => none
  | n + 1, l1, σ =>
    obi (fX10_takesWord 14 σ) (fun r1 σ2 =>
    if r1 = 0 then (
     some (l1, σ2))
    else (obi (rc σ2) (fun r4 σ5 =>
    fX10_term_b5 rc n (l1 &&& r4) σ5)))
set_option maxRecDepth 100000 in
set_option maxHeartbeats 4000000 in
theorem rX10_term_b5 {ND : Nat} {rc : OM → Option (Int64 × OM)} (hB : 6 ≤ ND) (hrc : ∀  (σ : OM) (r : Int64) (σ1 : OM), rc  σ = some (r, σ1) → oEv ND MX10_factor [.ref 81] σ (some (.long r)) σ1) {K : OK} (hc : kcc K = cX10_term) (ho : kow K = RX10) (hL : knL K = 3) (hN : ND + 1 ≤ kN K) (hr : (kme K).sig.returnType = (some .long)) {r0 : Int64} {σ0 : OM} (hE : oEnd K (some (.long r0)) σ0) (hz : kz K = 0) : ∀ (n : Nat) (l1 : Int64) (σ : OM), fX10_term_b5 rc n l1 σ = some (r0, σ0) → Go K 5 [.ref 81, .long l1, .null] [] σ := by
  intro n
  induction n with
  | zero =>
    intro l1 σ h
    cases h
  | succ n ih =>
    intro l1 σ h
    rw [fX10_term_b5] at h
    refine go_aload_n hc dX10_term_5 rfl rfl ?_
    refine go_str hc ho os_14 dX10_term_6 ?_
    obtain ⟨r1, σ2, hf3, h⟩ := obi_some h
    refine go_callVi hc ho cmX10_takesWord mlX10_113 dX10_term_8 ok_81 (As := [.ref (200 + 14)]) (rest := []) (rX10_takesWord (N := 5) (by decide) hf3 (Nat.le_refl _)) rfl (by omega) rfl (Nat.le_of_ble_eq_true rfl) (Or.inl hz) ?_
    refine go_if_eq (tgt := 24) hc dX10_term_11 rfl (fun hh => ?_) (fun hh => ?_)
    · rw [if_pos hh] at h
      refine go_lload_n hc dX10_term_24 rfl rfl ?_
      exact go_lret hc (oend_l h hE) hr dX10_term_25
    · rw [if_neg hh] at h
      refine go_lload_n hc dX10_term_14 rfl rfl ?_
      refine go_aload_n hc dX10_term_15 rfl rfl ?_
      obtain ⟨r4, σ5, hf6, h⟩ := obi_some h
      refine go_callVl hc ho cmX10_factor mlX10_178 dX10_term_16 ok_81 (As := []) (rest := [.long l1]) (hrc  _ _ _ hf6) rfl (by omega) rfl (Nat.le_of_ble_eq_true rfl) (Or.inl hz) ?_
      refine go_land hc dX10_term_19 ?_
      refine go_lstore_n hc (lv1 := [.ref 81, .long (l1 &&& r4), .null]) dX10_term_20 rfl hL (by decide) (fun _ _ e => by cases e; rfl) rfl ?_
      refine go_goto (tgt := 5) hc dX10_term_21 rfl ?_
      exact ih (l1 &&& r4) _ h
def fX10_term (rc : OM → Option (Int64 × OM)) (σ : OM) : Option (Int64 × OM) :=
  obi (rc σ) (fun r1 σ2 =>
  fX10_term_b5 rc oF r1 σ2)
set_option maxRecDepth 100000 in
set_option maxHeartbeats 4000000 in
theorem rX10_term {ND : Nat} {rc : OM → Option (Int64 × OM)} (hB : 6 ≤ ND) (hrc : ∀  (σ : OM) (r : Int64) (σ1 : OM), rc  σ = some (r, σ1) → oEv ND MX10_factor [.ref 81] σ (some (.long r)) σ1) {N : Nat} {σ : OM} {r0 : Int64} {σ0 : OM} (h : fX10_term rc σ = some (r0, σ0)) (hN0 : ND + 1 ≤ N) : oEv N MX10_term [.ref 81] σ (some (.long r0)) σ0 := by
  refine oEv_of (lv := [.ref 81, .null, .null]) (by decide +kernel) (fun g q hq => hq) (fun g => Nat.le_of_ble_eq_true rfl) ?_
  intro K hc ho hL hN1 hr hE hz
  have hN : ND + 1 ≤ kN K := by rw [hN1]; exact hN0
  unfold fX10_term at h
  refine go_aload_n hc dX10_term_0 rfl rfl ?_
  obtain ⟨r1, σ2, hf3, h⟩ := obi_some h
  refine go_callVl hc ho cmX10_factor mlX10_178 dX10_term_1 ok_81 (As := []) (rest := []) (hrc  _ _ _ hf3) rfl (by omega) rfl (Nat.le_of_ble_eq_true rfl) (Or.inl hz) ?_
  refine go_lstore_n hc (lv1 := [.ref 81, .long r1, .null]) dX10_term_4 rfl hL (by decide) (fun _ _ e => by cases e; rfl) rfl ?_
  exact rX10_term_b5 hB hrc hc ho hL hN hr hE hz oF r1 _ h
def fX10_formula_b5 (rc : OM → Option (Int64 × OM)) : Nat → Int64 → OM → Option (Int64 × OM)
  | 0, _, _ => none
  | n + 1, l1, σ =>
    obi (fX10_takesWord 15 σ) (fun r1 σ2 =>
    if r1 = 0 then (
     some (l1, σ2))
    else (obi (fX10_term rc σ2) (fun r4 σ5 =>
    fX10_formula_b5 rc n (l1 ||| r4) σ5)))
set_option maxRecDepth 100000 in
set_option maxHeartbeats 4000000 in
theorem rX10_formula_b5 {ND : Nat} {rc : OM → Option (Int64 × OM)} (hB : 6 ≤ ND) (hrc : ∀  (σ : OM) (r : Int64) (σ1 : OM), rc  σ = some (r, σ1) → oEv ND MX10_factor [.ref 81] σ (some (.long r)) σ1) {K : OK} (hc : kcc K = cX10_formula) (ho : kow K = RX10) (hL : knL K = 3) (hN : ND + 2 ≤ kN K) (hr : (kme K).sig.returnType = (some .long)) {r0 : Int64} {σ0 : OM} (hE : oEnd K (some (.long r0)) σ0) (hz : kz K = 0) : ∀ (n : Nat) (l1 : Int64) (σ : OM), fX10_formula_b5 rc n l1 σ = some (r0, σ0) → Go K 5 [.ref 81, .long l1, .null] [] σ := by
  intro n
  induction n with
  | zero =>
    intro l1 σ h
    cases h
  | succ n ih =>
    intro l1 σ h
    rw [fX10_formula_b5] at h
    refine go_aload_n hc dX10_formula_5 rfl rfl ?_
    refine go_str hc ho os_15 dX10_formula_6 ?_
    obtain ⟨r1, σ2, hf3, h⟩ := obi_some h
    refine go_callVi hc ho cmX10_takesWord mlX10_113 dX10_formula_8 ok_81 (As := [.ref (200 + 15)]) (rest := []) (rX10_takesWord (N := 5) (by decide) hf3 (Nat.le_refl _)) rfl (by omega) rfl (Nat.le_of_ble_eq_true rfl) (Or.inl hz) ?_
    refine go_if_eq (tgt := 24) hc dX10_formula_11 rfl (fun hh => ?_) (fun hh => ?_)
    · rw [if_pos hh] at h
      refine go_lload_n hc dX10_formula_24 rfl rfl ?_
      exact go_lret hc (oend_l h hE) hr dX10_formula_25
    · rw [if_neg hh] at h
      refine go_lload_n hc dX10_formula_14 rfl rfl ?_
      refine go_aload_n hc dX10_formula_15 rfl rfl ?_
      obtain ⟨r4, σ5, hf6, h⟩ := obi_some h
      refine go_callVl hc ho cmX10_term mlX10_174 dX10_formula_16 ok_81 (As := []) (rest := [.long l1]) (rX10_term hB hrc (N := ND + 1) hf6 (Nat.le_refl _)) rfl (by omega) rfl (Nat.le_of_ble_eq_true rfl) (Or.inl hz) ?_
      refine go_lor hc dX10_formula_19 ?_
      refine go_lstore_n hc (lv1 := [.ref 81, .long (l1 ||| r4), .null]) dX10_formula_20 rfl hL (by decide) (fun _ _ e => by cases e; rfl) rfl ?_
      refine go_goto (tgt := 5) hc dX10_formula_21 rfl ?_
      exact ih (l1 ||| r4) _ h
def fX10_formula (rc : OM → Option (Int64 × OM)) (σ : OM) : Option (Int64 × OM) :=
  obi (fX10_term rc σ) (fun r1 σ2 =>
  fX10_formula_b5 rc oF r1 σ2)
set_option maxRecDepth 100000 in
set_option maxHeartbeats 4000000 in
theorem rX10_formula {ND : Nat} {rc : OM → Option (Int64 × OM)} (hB : 6 ≤ ND) (hrc : ∀  (σ : OM) (r : Int64) (σ1 : OM), rc  σ = some (r, σ1) → oEv ND MX10_factor [.ref 81] σ (some (.long r)) σ1) {N : Nat} {σ : OM} {r0 : Int64} {σ0 : OM} (h : fX10_formula rc σ = some (r0, σ0)) (hN0 : ND + 2 ≤ N) : oEv N MX10_formula [.ref 81] σ (some (.long r0)) σ0 := by
  refine oEv_of (lv := [.ref 81, .null, .null]) (by decide +kernel) (fun g q hq => hq) (fun g => Nat.le_of_ble_eq_true rfl) ?_
  intro K hc ho hL hN1 hr hE hz
  have hN : ND + 2 ≤ kN K := by rw [hN1]; exact hN0
  unfold fX10_formula at h
  refine go_aload_n hc dX10_formula_0 rfl rfl ?_
  obtain ⟨r1, σ2, hf3, h⟩ := obi_some h
  refine go_callVl hc ho cmX10_term mlX10_174 dX10_formula_1 ok_81 (As := []) (rest := []) (rX10_term hB hrc (N := ND + 1) hf3 (Nat.le_refl _)) rfl (by omega) rfl (Nat.le_of_ble_eq_true rfl) (Or.inl hz) ?_
  refine go_lstore_n hc (lv1 := [.ref 81, .long r1, .null]) dX10_formula_4 rfl hL (by decide) (fun _ _ e => by cases e; rfl) rfl ?_
  exact rX10_formula_b5 hB hrc hc ho hL hN hr hE hz oF r1 _ h
def fX10_factor_b151 (rc : OM → Option (Int64 × OM)) (l1 : Int32) (σ : OM) : Option (Int64 × OM) :=
  if (mI σ 81 13) = 0 then (
   obv (fX10_pass (sI σ 81 24 ((mI σ 81 24) + (1 : Int32)))) (fun σ2 =>
   obi (fX10_worldsOf l1 σ2) (fun r4 σ5 =>
   some (r4, σ5))))
  else (some ((0 : Int64), σ))
set_option maxRecDepth 100000 in
set_option maxHeartbeats 4000000 in
theorem rX10_factor_b151 {ND : Nat} {rc : OM → Option (Int64 × OM)} (hB : 6 ≤ ND) (hrc : ∀  (σ : OM) (r : Int64) (σ1 : OM), rc  σ = some (r, σ1) → oEv ND MX10_factor [.ref 81] σ (some (.long r)) σ1) {K : OK} (hc : kcc K = cX10_factor) (ho : kow K = RX10) (hL : knL K = 3) (hN : ND + 3 ≤ kN K) (hr : (kme K).sig.returnType = (some .long)) {r0 : Int64} {σ0 : OM} (hE : oEnd K (some (.long r0)) σ0) (hz : kz K = 0) {l1 : Int32} {σ : OM} (h : fX10_factor_b151 rc l1 σ = some (r0, σ0)) : Go K 151 [.ref 81, .int l1, .null] [] σ := by
  unfold fX10_factor_b151 at h
  refine go_aload_n hc dX10_factor_151 rfl rfl ?_
  refine go_getI hc ho flX10_89 dX10_factor_152 ok_81 ?_
  refine go_if_eq (tgt := 160) hc dX10_factor_155 rfl (fun hh => ?_) (fun hh => ?_)
  · rw [if_pos hh] at h
    refine go_aload_n hc dX10_factor_160 rfl rfl ?_
    refine go_dup hc dX10_factor_161 rfl ?_
    refine go_getI hc ho flX10_192 dX10_factor_162 ok_81 ?_
    refine go_iconst hc dX10_factor_165 ci_1 ?_
    refine go_iadd hc dX10_factor_166 ?_
    refine go_putI hc ho fpX10_192 dX10_factor_167 ok_81 (fun g => oni g _) (fun _ => rfl) ?_
    refine go_aload_n hc dX10_factor_170 rfl rfl ?_
    obtain ⟨σ2, hf3, h⟩ := obv_some h
    refine go_callVv hc ho cmX10_pass mlX10_110 dX10_factor_171 ok_81 (As := []) (rest := []) (rX10_pass (N := 1) hf3 (Nat.le_refl _)) rfl (by omega) rfl (Nat.le_of_ble_eq_true rfl) (Or.inl hz) ?_
    refine go_iload_n hc dX10_factor_174 rfl rfl ?_
    obtain ⟨r4, σ5, hf6, h⟩ := obi_some h
    refine go_callSl hc ho cmX10_worldsOf mlX10_195 dX10_factor_175 (As := [.int l1]) (rest := []) (rX10_worldsOf (N := 0) hf6 (Nat.le_refl _)) rfl (by omega) rfl (Nat.le_of_ble_eq_true rfl) (Or.inl hz) ?_
    exact go_lret hc (oend_l h hE) hr dX10_factor_178
  · rw [if_neg hh] at h
    refine go_lconst hc dX10_factor_158 cl_0 ?_
    exact go_lret hc (oend_l h hE) hr dX10_factor_159
def fX10_factor_b54 (rc : OM → Option (Int64 × OM)) (σ : OM) : Option (Int64 × OM) :=
  if (mI σ 81 13) = 0 then (
   obv (fX10_pass σ) (fun σ2 =>
   obi (fX10_formula rc (sI σ2 81 25 ((mI σ2 81 25) + (1 : Int32)))) (fun r4 σ5 =>
   if (mI σ5 81 13) = 0 then (
    obi (fX10_takesSign (41 : Int32) σ5) (fun r7 σ8 =>
    if r7 = 0 then (
     obv (fX10_wrong (1 : Int32) (mI σ8 81 4) σ8) (fun σ11 =>
     some (r4, sI σ11 81 25 ((mI σ11 81 25) - (1 : Int32)))))
    else (some (r4, sI σ8 81 25 ((mI σ8 81 25) - (1 : Int32))))))
   else (some (r4, sI σ5 81 25 ((mI σ5 81 25) - (1 : Int32)))))))
  else (some ((0 : Int64), σ))
set_option maxRecDepth 100000 in
set_option maxHeartbeats 4000000 in
theorem rX10_factor_b54 {ND : Nat} {rc : OM → Option (Int64 × OM)} (hB : 6 ≤ ND) (hrc : ∀  (σ : OM) (r : Int64) (σ1 : OM), rc  σ = some (r, σ1) → oEv ND MX10_factor [.ref 81] σ (some (.long r)) σ1) {K : OK} (hc : kcc K = cX10_factor) (ho : kow K = RX10) (hL : knL K = 3) (hN : ND + 3 ≤ kN K) (hr : (kme K).sig.returnType = (some .long)) {r0 : Int64} {σ0 : OM} (hE : oEnd K (some (.long r0)) σ0) (hz : kz K = 0) {σ : OM} (h : fX10_factor_b54 rc σ = some (r0, σ0)) : Go K 54 [.ref 81, .null, .null] [] σ := by
  unfold fX10_factor_b54 at h
  refine go_aload_n hc dX10_factor_54 rfl rfl ?_
  refine go_getI hc ho flX10_89 dX10_factor_55 ok_81 ?_
  refine go_if_eq (tgt := 63) hc dX10_factor_58 rfl (fun hh => ?_) (fun hh => ?_)
  · rw [if_pos hh] at h
    refine go_aload_n hc dX10_factor_63 rfl rfl ?_
    obtain ⟨σ2, hf3, h⟩ := obv_some h
    refine go_callVv hc ho cmX10_pass mlX10_110 dX10_factor_64 ok_81 (As := []) (rest := []) (rX10_pass (N := 1) hf3 (Nat.le_refl _)) rfl (by omega) rfl (Nat.le_of_ble_eq_true rfl) (Or.inl hz) ?_
    refine go_aload_n hc dX10_factor_67 rfl rfl ?_
    refine go_dup hc dX10_factor_68 rfl ?_
    refine go_getI hc ho flX10_183 dX10_factor_69 ok_81 ?_
    refine go_iconst hc dX10_factor_72 ci_1 ?_
    refine go_iadd hc dX10_factor_73 ?_
    refine go_putI hc ho fpX10_183 dX10_factor_74 ok_81 (fun g => oni g _) (fun _ => rfl) ?_
    refine go_aload_n hc dX10_factor_77 rfl rfl ?_
    obtain ⟨r4, σ5, hf6, h⟩ := obi_some h
    refine go_callVl hc ho cmX10_formula mlX10_186 dX10_factor_78 ok_81 (As := []) (rest := []) (rX10_formula hB hrc (N := ND + 2) hf6 (Nat.le_refl _)) rfl (by omega) rfl (Nat.le_of_ble_eq_true rfl) (Or.inl hz) ?_
    refine go_lstore_n hc (lv1 := [.ref 81, .long r4, .null]) dX10_factor_81 rfl hL (by decide) (fun _ _ e => by cases e; rfl) rfl ?_
    refine go_aload_n hc dX10_factor_82 rfl rfl ?_
    refine go_getI hc ho flX10_89 dX10_factor_83 ok_81 ?_
    refine go_if_ne (tgt := 107) hc dX10_factor_86 rfl (fun hh => ?_) (fun hh => ?_)
    · rw [if_neg hh] at h
      refine go_aload_n hc dX10_factor_107 rfl rfl ?_
      refine go_dup hc dX10_factor_108 rfl ?_
      refine go_getI hc ho flX10_183 dX10_factor_109 ok_81 ?_
      refine go_iconst hc dX10_factor_112 ci_1 ?_
      refine go_isub hc dX10_factor_113 ?_
      refine go_putI hc ho fpX10_183 dX10_factor_114 ok_81 (fun g => oni g _) (fun _ => rfl) ?_
      refine go_lload_n hc dX10_factor_117 rfl rfl ?_
      exact go_lret hc (oend_l h hE) hr dX10_factor_118
    · rw [if_pos hh] at h
      refine go_aload_n hc dX10_factor_89 rfl rfl ?_
      refine go_bipush hc dX10_factor_90 cb_41 ?_
      obtain ⟨r7, σ8, hf9, h⟩ := obi_some h
      refine go_callVi hc ho cmX10_takesSign mlX10_189 dX10_factor_92 ok_81 (As := [.int (41 : Int32)]) (rest := []) (rX10_takesSign (N := 2) hf9 (Nat.le_refl _)) rfl (by omega) rfl (Nat.le_of_ble_eq_true rfl) (Or.inl hz) ?_
      refine go_if_ne (tgt := 107) hc dX10_factor_95 rfl (fun hh => ?_) (fun hh => ?_)
      · rw [if_neg hh] at h
        refine go_aload_n hc dX10_factor_107 rfl rfl ?_
        refine go_dup hc dX10_factor_108 rfl ?_
        refine go_getI hc ho flX10_183 dX10_factor_109 ok_81 ?_
        refine go_iconst hc dX10_factor_112 ci_1 ?_
        refine go_isub hc dX10_factor_113 ?_
        refine go_putI hc ho fpX10_183 dX10_factor_114 ok_81 (fun g => oni g _) (fun _ => rfl) ?_
        refine go_lload_n hc dX10_factor_117 rfl rfl ?_
        exact go_lret hc (oend_l h hE) hr dX10_factor_118
      · rw [if_pos hh] at h
        refine go_aload_n hc dX10_factor_98 rfl rfl ?_
        refine go_iconst hc dX10_factor_99 ci_1 ?_
        refine go_aload_n hc dX10_factor_100 rfl rfl ?_
        refine go_getI hc ho flX10_70 dX10_factor_101 ok_81 ?_
        obtain ⟨σ11, hf12, h⟩ := obv_some h
        refine go_callVv hc ho cmX10_wrong mlX10_116 dX10_factor_104 ok_81 (As := [.int (1 : Int32), .int (mI σ8 81 4)]) (rest := []) (rX10_wrong (N := 0) hf12 (Nat.le_refl _)) rfl (by omega) rfl (Nat.le_of_ble_eq_true rfl) (Or.inl hz) ?_
        refine go_aload_n hc dX10_factor_107 rfl rfl ?_
        refine go_dup hc dX10_factor_108 rfl ?_
        refine go_getI hc ho flX10_183 dX10_factor_109 ok_81 ?_
        refine go_iconst hc dX10_factor_112 ci_1 ?_
        refine go_isub hc dX10_factor_113 ?_
        refine go_putI hc ho fpX10_183 dX10_factor_114 ok_81 (fun g => oni g _) (fun _ => rfl) ?_
        refine go_lload_n hc dX10_factor_117 rfl rfl ?_
        exact go_lret hc (oend_l h hE) hr dX10_factor_118
  · rw [if_neg hh] at h
    refine go_lconst hc dX10_factor_61 cl_0 ?_
    exact go_lret hc (oend_l h hE) hr dX10_factor_62
def fX10_factor_s (rc : OM → Option (Int64 × OM)) (σ : OM) : Option (Int64 × OM) :=
  if (mI σ 81 13) = 0 then (
   obi (fX10_takesWord 13 σ) (fun r1 σ2 =>
   if r1 = 0 then (
    if (mI σ2 81 6) = (40 : Int32) then (
     if (mI σ2 81 25) = (8 : Int32) then (
      obv (fX10_wrong (5 : Int32) (mI σ2 81 4) σ2) (fun σ11 =>
      fX10_factor_b54 rc σ11))
     else (fX10_factor_b54 rc σ2))
    else (obi (fX10_named (0 : Int32) (5 : Int32) σ2) (fun r4 σ5 =>
    if (mI σ5 81 13) = 0 then (
     if (mI σ5 81 24) = (12 : Int32) then (
      obv (fX10_wrong (5 : Int32) (mI σ5 81 4) σ5) (fun σ8 =>
      fX10_factor_b151 rc r4 σ8))
     else (fX10_factor_b151 rc r4 σ5))
    else (fX10_factor_b151 rc r4 σ5))))
   else (obi (rc σ2) (fun r13 σ14 =>
   some ((r13 ^^^ ((-1) : Int64)), σ14)))))
  else (some ((0 : Int64), σ))
set_option maxRecDepth 100000 in
set_option maxHeartbeats 4000000 in
theorem rX10_factor_s {ND : Nat} {rc : OM → Option (Int64 × OM)} (hB : 6 ≤ ND) (hrc : ∀  (σ : OM) (r : Int64) (σ1 : OM), rc  σ = some (r, σ1) → oEv ND MX10_factor [.ref 81] σ (some (.long r)) σ1) {N : Nat} {σ : OM} {r0 : Int64} {σ0 : OM} (h : fX10_factor_s rc σ = some (r0, σ0)) (hN0 : ND + 3 ≤ N) : oEv N MX10_factor [.ref 81] σ (some (.long r0)) σ0 := by
  refine oEv_of (lv := [.ref 81, .null, .null]) (by decide +kernel) (fun g q hq => hq) (fun g => Nat.le_of_ble_eq_true rfl) ?_
  intro K hc ho hL hN1 hr hE hz
  have hN : ND + 3 ≤ kN K := by rw [hN1]; exact hN0
  unfold fX10_factor_s at h
  refine go_aload_n hc dX10_factor_0 rfl rfl ?_
  refine go_getI hc ho flX10_89 dX10_factor_1 ok_81 ?_
  refine go_if_eq (tgt := 9) hc dX10_factor_4 rfl (fun hh => ?_) (fun hh => ?_)
  · rw [if_pos hh] at h
    refine go_aload_n hc dX10_factor_9 rfl rfl ?_
    refine go_str hc ho os_13 dX10_factor_10 ?_
    obtain ⟨r1, σ2, hf3, h⟩ := obi_some h
    refine go_callVi hc ho cmX10_takesWord mlX10_113 dX10_factor_12 ok_81 (As := [.ref (200 + 13)]) (rest := []) (rX10_takesWord (N := 5) (by decide) hf3 (Nat.le_refl _)) rfl (by omega) rfl (Nat.le_of_ble_eq_true rfl) (Or.inl hz) ?_
    refine go_if_eq (tgt := 27) hc dX10_factor_15 rfl (fun hh => ?_) (fun hh => ?_)
    · rw [if_pos hh] at h
      refine go_aload_n hc dX10_factor_27 rfl rfl ?_
      refine go_getI hc ho flX10_79 dX10_factor_28 ok_81 ?_
      refine go_bipush hc dX10_factor_31 cb_40 ?_
      refine go_icmp_ne (tgt := 119) hc dX10_factor_33 rfl (fun hh => ?_) (fun hh => ?_)
      · rw [if_neg hh] at h
        refine go_aload_n hc dX10_factor_119 rfl rfl ?_
        refine go_iconst hc dX10_factor_120 ci_0 ?_
        refine go_iconst hc dX10_factor_121 ci_5 ?_
        obtain ⟨r4, σ5, hf6, h⟩ := obi_some h
        refine go_callVi hc ho cmX10_named mlX10_160 dX10_factor_122 ok_81 (As := [.int (0 : Int32), .int (5 : Int32)]) (rest := []) (rX10_named (N := 6) hf6 (Nat.le_refl _)) rfl (by omega) rfl (Nat.le_of_ble_eq_true rfl) (Or.inl hz) ?_
        refine go_istore_n hc (lv1 := [.ref 81, .int r4, .null]) dX10_factor_125 rfl hL (by decide) (fun _ _ e => by cases e; rfl) rfl ?_
        refine go_aload_n hc dX10_factor_126 rfl rfl ?_
        refine go_getI hc ho flX10_89 dX10_factor_127 ok_81 ?_
        refine go_if_ne (tgt := 151) hc dX10_factor_130 rfl (fun hh => ?_) (fun hh => ?_)
        · rw [if_neg hh] at h
          exact rX10_factor_b151 hB hrc hc ho hL hN hr hE hz h
        · rw [if_pos hh] at h
          refine go_aload_n hc dX10_factor_133 rfl rfl ?_
          refine go_getI hc ho flX10_192 dX10_factor_134 ok_81 ?_
          refine go_bipush hc dX10_factor_137 cb_12 ?_
          refine go_icmp_ne (tgt := 151) hc dX10_factor_139 rfl (fun hh => ?_) (fun hh => ?_)
          · rw [if_neg hh] at h
            exact rX10_factor_b151 hB hrc hc ho hL hN hr hE hz h
          · rw [if_pos hh] at h
            refine go_aload_n hc dX10_factor_142 rfl rfl ?_
            refine go_iconst hc dX10_factor_143 ci_5 ?_
            refine go_aload_n hc dX10_factor_144 rfl rfl ?_
            refine go_getI hc ho flX10_70 dX10_factor_145 ok_81 ?_
            obtain ⟨σ8, hf9, h⟩ := obv_some h
            refine go_callVv hc ho cmX10_wrong mlX10_116 dX10_factor_148 ok_81 (As := [.int (5 : Int32), .int (mI σ5 81 4)]) (rest := []) (rX10_wrong (N := 0) hf9 (Nat.le_refl _)) rfl (by omega) rfl (Nat.le_of_ble_eq_true rfl) (Or.inl hz) ?_
            exact rX10_factor_b151 hB hrc hc ho hL hN hr hE hz h
      · rw [if_pos hh] at h
        refine go_aload_n hc dX10_factor_36 rfl rfl ?_
        refine go_getI hc ho flX10_183 dX10_factor_37 ok_81 ?_
        refine go_bipush hc dX10_factor_40 cb_8 ?_
        refine go_icmp_ne (tgt := 54) hc dX10_factor_42 rfl (fun hh => ?_) (fun hh => ?_)
        · rw [if_neg hh] at h
          exact rX10_factor_b54 hB hrc hc ho hL hN hr hE hz h
        · rw [if_pos hh] at h
          refine go_aload_n hc dX10_factor_45 rfl rfl ?_
          refine go_iconst hc dX10_factor_46 ci_5 ?_
          refine go_aload_n hc dX10_factor_47 rfl rfl ?_
          refine go_getI hc ho flX10_70 dX10_factor_48 ok_81 ?_
          obtain ⟨σ11, hf12, h⟩ := obv_some h
          refine go_callVv hc ho cmX10_wrong mlX10_116 dX10_factor_51 ok_81 (As := [.int (5 : Int32), .int (mI σ2 81 4)]) (rest := []) (rX10_wrong (N := 0) hf12 (Nat.le_refl _)) rfl (by omega) rfl (Nat.le_of_ble_eq_true rfl) (Or.inl hz) ?_
          exact rX10_factor_b54 hB hrc hc ho hL hN hr hE hz h
    · rw [if_neg hh] at h
      refine go_aload_n hc dX10_factor_18 rfl rfl ?_
      obtain ⟨r13, σ14, hf15, h⟩ := obi_some h
      refine go_callVl hc ho cmX10_factor mlX10_178 dX10_factor_19 ok_81 (As := []) (rest := []) (hrc  _ _ _ hf15) rfl (by omega) rfl (Nat.le_of_ble_eq_true rfl) (Or.inl hz) ?_
      refine go_ldc2 hc ho klX10_181 dX10_factor_22 ?_
      refine go_lxor hc dX10_factor_25 ?_
      exact go_lret hc (oend_l h hE) hr dX10_factor_26
  · rw [if_neg hh] at h
    refine go_lconst hc dX10_factor_7 cl_0 ?_
    exact go_lret hc (oend_l h hE) hr dX10_factor_8
def fX10_factor : Nat → OM → Option (Int64 × OM)
  | 0, _ => none
  | n + 1, σ => fX10_factor_s (fX10_factor n) σ
theorem rX10_factor : ∀ (n : Nat) (σ : OM) (r0 : Int64) (σ0 : OM) (N : Nat), fX10_factor n σ = some (r0, σ0) → 6 + 3 * n ≤ N → oEv N MX10_factor [.ref 81] σ (some (.long r0)) σ0 := by
  intro n
  induction n with
  | zero =>
    intro σ r0 σ0 N h hN
    cases h
  | succ n ih =>
    intro σ r0 σ0 N h hN
    rw [fX10_factor] at h
    exact rX10_factor_s (ND := 6 + 3 * n) (Nat.le_add_right _ _) (fun σ r σ1 hh => ih σ r σ1 _ hh (Nat.le_refl _)) h (by omega)
def fX10_lawLine_b100 (l1 : Int32) (σ : OM) : Option OM :=
  obv (fX10_wrong (7 : Int32) l1 σ) (fun σ2 =>
  some (sI σ2 85 2 ((mI σ2 85 2) + (1 : Int32))))
set_option maxRecDepth 100000 in
set_option maxHeartbeats 4000000 in
theorem rX10_lawLine_b100 {K : OK} (hc : kcc K = cX10_lawLine) (ho : kow K = RX10) (hL : knL K = 5) (hN : 969 ≤ kN K) (hr : (kme K).sig.returnType = none) {σ0 : OM} (hE : oEnd K (none) σ0) (hz : kz K = 0) {l1 : Int32} {σ : OM} (h : fX10_lawLine_b100 l1 σ = some σ0) : Go K 100 [.ref 81, .int l1, .null, .null, .null] [] σ := by
  unfold fX10_lawLine_b100 at h
  refine go_aload_n hc dX10_lawLine_100 rfl rfl ?_
  refine go_bipush hc dX10_lawLine_101 cb_7 ?_
  refine go_iload_n hc dX10_lawLine_103 rfl rfl ?_
  obtain ⟨σ2, hf3, h⟩ := obv_some h
  refine go_callVv hc ho cmX10_wrong mlX10_116 dX10_lawLine_104 ok_81 (As := [.int (7 : Int32), .int l1]) (rest := []) (rX10_wrong (N := 0) hf3 (Nat.le_refl _)) rfl (Nat.le_trans (Nat.le_of_ble_eq_true rfl) hN) rfl (Nat.le_of_ble_eq_true rfl) (Or.inl hz) ?_
  refine go_aload_n hc dX10_lawLine_107 rfl rfl ?_
  refine go_getC (b := 85) rfl hc ho flX10_23 dX10_lawLine_108 ok_81 ?_
  refine go_iconst hc dX10_lawLine_111 ci_2 ?_
  refine go_dup2_11 hc dX10_lawLine_112 rfl rfl ?_
  refine go_iald hc dX10_lawLine_113 ok_85 ol_85 (by decide +kernel) cn_2 ?_
  refine go_iconst hc dX10_lawLine_114 ci_1 ?_
  refine go_iadd hc dX10_lawLine_115 ?_
  refine go_iast hc dX10_lawLine_116 ok_85 ol_85 (by decide +kernel) cn_2 ?_
  exact go_vret hc (oend_v h hE) hr dX10_lawLine_117
def fX10_lawLine_b81 (l1 : Int32) (k0 : Int32) (σ : OM) : Option OM :=
  if (lg_cmp (mL σ 87 8) (0 : Int64)) = 0 then (
   fX10_lawLine_b100 l1 σ)
  else (if k0 = 0 then (
   fX10_lawLine_b100 l1 σ)
  else (some (sI σ 85 2 ((mI σ 85 2) + (1 : Int32)))))
set_option maxRecDepth 100000 in
set_option maxHeartbeats 4000000 in
theorem rX10_lawLine_b81 {K : OK} (hc : kcc K = cX10_lawLine) (ho : kow K = RX10) (hL : knL K = 5) (hN : 969 ≤ kN K) (hr : (kme K).sig.returnType = none) {σ0 : OM} (hE : oEnd K (none) σ0) (hz : kz K = 0) {l1 : Int32} {k0 : Int32} {σ : OM} (h : fX10_lawLine_b81 l1 k0 σ = some σ0) : Go K 81 [.ref 81, .int l1, .null, .null, .null] [.int k0] σ := by
  unfold fX10_lawLine_b81 at h
  refine go_istore hc (lv1 := [.ref 81, .int l1, .null, .null, .int k0]) dX10_lawLine_81 hL (by decide) (fun _ _ e => by cases e; rfl) rfl ?_
  refine go_aload_n hc dX10_lawLine_83 rfl rfl ?_
  refine go_getC (b := 87) rfl hc ho flX10_30 dX10_lawLine_84 ok_81 ?_
  refine go_bipush hc dX10_lawLine_87 cb_8 ?_
  refine go_lald hc dX10_lawLine_89 ok_87 ol_87 (by decide +kernel) cn_8 ?_
  refine go_lconst hc dX10_lawLine_90 cl_0 ?_
  refine go_lcmp hc dX10_lawLine_91 ?_
  refine go_if_eq (tgt := 100) hc dX10_lawLine_92 rfl (fun hh => ?_) (fun hh => ?_)
  · rw [if_pos hh] at h
    refine go_mask [true, true, false, false, false] (lv1 := [.ref 81, .int l1, .null, .null, .null]) rfl ?_
    exact rX10_lawLine_b100 hc ho hL hN hr hE hz h
  · rw [if_neg hh] at h
    refine go_iload hc dX10_lawLine_95 rfl ?_
    refine go_if_ne (tgt := 107) hc dX10_lawLine_97 rfl (fun hh => ?_) (fun hh => ?_)
    · rw [if_neg hh] at h
      refine go_aload_n hc dX10_lawLine_107 rfl rfl ?_
      refine go_getC (b := 85) rfl hc ho flX10_23 dX10_lawLine_108 ok_81 ?_
      refine go_iconst hc dX10_lawLine_111 ci_2 ?_
      refine go_dup2_11 hc dX10_lawLine_112 rfl rfl ?_
      refine go_iald hc dX10_lawLine_113 ok_85 ol_85 (by decide +kernel) cn_2 ?_
      refine go_iconst hc dX10_lawLine_114 ci_1 ?_
      refine go_iadd hc dX10_lawLine_115 ?_
      refine go_iast hc dX10_lawLine_116 ok_85 ol_85 (by decide +kernel) cn_2 ?_
      exact go_vret hc (oend_v h hE) hr dX10_lawLine_117
    · rw [if_pos hh] at h
      refine go_mask [true, true, false, false, false] (lv1 := [.ref 81, .int l1, .null, .null, .null]) rfl ?_
      exact rX10_lawLine_b100 hc ho hL hN hr hE hz h
def fX10_lawLine (x0 : Int32) (σ : OM) : Option OM :=
  if (mI σ 81 13) = 0 then (
   obi (fX10_formula (fX10_factor oR) (sI (sI σ 81 24 (0 : Int32)) 81 25 (0 : Int32))) (fun r1 σ2 =>
   if (mI σ2 81 13) = 0 then (
    if (mI (sL σ2 87 8 ((mL σ2 87 8) &&& r1)) 85 10) = 0 then (
     fX10_lawLine_b81 x0 (1 : Int32) (sL σ2 87 8 ((mL σ2 87 8) &&& r1)))
    else (if (lg_cmp (((mL (sL σ2 87 8 ((mL σ2 87 8) &&& r1)) 87 8) >>> (((mI (sL σ2 87 8 ((mL σ2 87 8) &&& r1)) 85 10) - (1 : Int32)).toInt64 &&& 63)) &&& (1 : Int64)) (1 : Int64)) = 0 then (
     fX10_lawLine_b81 x0 (1 : Int32) (sL σ2 87 8 ((mL σ2 87 8) &&& r1)))
    else (fX10_lawLine_b81 x0 (0 : Int32) (sL σ2 87 8 ((mL σ2 87 8) &&& r1)))))
   else (some σ2)))
  else (some σ)
set_option maxRecDepth 100000 in
set_option maxHeartbeats 4000000 in
theorem rX10_lawLine {N : Nat} {x0 : Int32} {σ : OM} {σ0 : OM} (h : fX10_lawLine x0 σ = some σ0) (hN0 : 969 ≤ N) : oEv N MX10_lawLine [.ref 81, .int x0] σ (none) σ0 := by
  refine oEv_of (lv := [.ref 81, .int x0, .null, .null, .null]) (by decide +kernel) (fun g q hq => hq) (fun g => Nat.le_of_ble_eq_true rfl) ?_
  intro K hc ho hL hN1 hr hE hz
  have hN : 969 ≤ kN K := by rw [hN1]; exact hN0
  unfold fX10_lawLine at h
  refine go_aload_n hc dX10_lawLine_0 rfl rfl ?_
  refine go_getI hc ho flX10_89 dX10_lawLine_1 ok_81 ?_
  refine go_if_eq (tgt := 8) hc dX10_lawLine_4 rfl (fun hh => ?_) (fun hh => ?_)
  · rw [if_pos hh] at h
    refine go_aload_n hc dX10_lawLine_8 rfl rfl ?_
    refine go_iconst hc dX10_lawLine_9 ci_0 ?_
    refine go_putI hc ho fpX10_192 dX10_lawLine_10 ok_81 (fun g => oni g _) (fun _ => rfl) ?_
    refine go_aload_n hc dX10_lawLine_13 rfl rfl ?_
    refine go_iconst hc dX10_lawLine_14 ci_0 ?_
    refine go_putI hc ho fpX10_183 dX10_lawLine_15 ok_81 (fun g => oni g _) (fun _ => rfl) ?_
    refine go_aload_n hc dX10_lawLine_18 rfl rfl ?_
    obtain ⟨r1, σ2, hf3, h⟩ := obi_some h
    refine go_callVl hc ho cmX10_formula mlX10_186 dX10_lawLine_19 ok_81 (As := []) (rest := []) (rX10_formula (ND := 6 + 3 * oR) (N := 6 + 3 * oR + 2) (Nat.le_add_right _ _) (fun σ r σ1 hh => rX10_factor oR σ r σ1 _ hh (Nat.le_refl _)) hf3 (Nat.le_refl _)) rfl (by have := hN; show _ ≤ _; simp only [oR, oP] at *; omega) rfl (Nat.le_of_ble_eq_true rfl) (Or.inl hz) ?_
    refine go_lstore_n hc (lv1 := [.ref 81, .int x0, .long r1, .null, .null]) dX10_lawLine_22 rfl hL (by decide) (fun _ _ e => by cases e; rfl) rfl ?_
    refine go_aload_n hc dX10_lawLine_23 rfl rfl ?_
    refine go_getI hc ho flX10_89 dX10_lawLine_24 ok_81 ?_
    refine go_if_eq (tgt := 31) hc dX10_lawLine_27 rfl (fun hh => ?_) (fun hh => ?_)
    · rw [if_pos hh] at h
      refine go_aload_n hc dX10_lawLine_31 rfl rfl ?_
      refine go_getC (b := 87) rfl hc ho flX10_30 dX10_lawLine_32 ok_81 ?_
      refine go_bipush hc dX10_lawLine_35 cb_8 ?_
      refine go_dup2_11 hc dX10_lawLine_37 rfl rfl ?_
      refine go_lald hc dX10_lawLine_38 ok_87 ol_87 (by decide +kernel) cn_8 ?_
      refine go_lload_n hc dX10_lawLine_39 rfl rfl ?_
      refine go_land hc dX10_lawLine_40 ?_
      refine go_last hc dX10_lawLine_41 ok_87 ol_87 (by decide +kernel) cn_8 ?_
      refine go_aload_n hc dX10_lawLine_42 rfl rfl ?_
      refine go_getC (b := 85) rfl hc ho flX10_23 dX10_lawLine_43 ok_81 ?_
      refine go_bipush hc dX10_lawLine_46 cb_10 ?_
      refine go_iald hc dX10_lawLine_48 ok_85 ol_85 (by decide +kernel) cn_10 ?_
      refine go_if_eq (tgt := 76) hc dX10_lawLine_49 rfl (fun hh => ?_) (fun hh => ?_)
      · rw [if_pos hh] at h
        refine go_iconst hc dX10_lawLine_76 ci_1 ?_
        refine go_goto (tgt := 81) hc dX10_lawLine_77 rfl ?_
        refine go_mask [true, true, false, false, false] (lv1 := [.ref 81, .int x0, .null, .null, .null]) rfl ?_
        exact rX10_lawLine_b81 hc ho hL hN hr hE hz h
      · rw [if_neg hh] at h
        refine go_aload_n hc dX10_lawLine_52 rfl rfl ?_
        refine go_getC (b := 87) rfl hc ho flX10_30 dX10_lawLine_53 ok_81 ?_
        refine go_bipush hc dX10_lawLine_56 cb_8 ?_
        refine go_lald hc dX10_lawLine_58 ok_87 ol_87 (by decide +kernel) cn_8 ?_
        refine go_aload_n hc dX10_lawLine_59 rfl rfl ?_
        refine go_getC (b := 85) rfl hc ho flX10_23 dX10_lawLine_60 ok_81 ?_
        refine go_bipush hc dX10_lawLine_63 cb_10 ?_
        refine go_iald hc dX10_lawLine_65 ok_85 ol_85 (by decide +kernel) cn_10 ?_
        refine go_iconst hc dX10_lawLine_66 ci_1 ?_
        refine go_isub hc dX10_lawLine_67 ?_
        refine go_lshr hc dX10_lawLine_68 ?_
        refine go_lconst hc dX10_lawLine_69 cl_1 ?_
        refine go_land hc dX10_lawLine_70 ?_
        refine go_lconst hc dX10_lawLine_71 cl_1 ?_
        refine go_lcmp hc dX10_lawLine_72 ?_
        refine go_if_ne (tgt := 80) hc dX10_lawLine_73 rfl (fun hh => ?_) (fun hh => ?_)
        · rw [if_neg hh] at h
          refine go_iconst hc dX10_lawLine_80 ci_0 ?_
          refine go_mask [true, true, false, false, false] (lv1 := [.ref 81, .int x0, .null, .null, .null]) rfl ?_
          exact rX10_lawLine_b81 hc ho hL hN hr hE hz h
        · rw [if_pos hh] at h
          refine go_iconst hc dX10_lawLine_76 ci_1 ?_
          refine go_goto (tgt := 81) hc dX10_lawLine_77 rfl ?_
          refine go_mask [true, true, false, false, false] (lv1 := [.ref 81, .int x0, .null, .null, .null]) rfl ?_
          exact rX10_lawLine_b81 hc ho hL hN hr hE hz h
    · rw [if_neg hh] at h
      exact go_vret hc (oend_v h hE) hr dX10_lawLine_30
  · rw [if_neg hh] at h
    exact go_vret hc (oend_v h hE) hr dX10_lawLine_7
def fX10_hasBit (x0 : Int32) (x1 : Int32) (σ : OM) : Option (Int32 × OM) :=
  if ((x0 >>> (x1 &&& 31)) &&& (1 : Int32)) = (1 : Int32) then (
   some ((1 : Int32), σ))
  else (some ((0 : Int32), σ))
set_option maxRecDepth 100000 in
set_option maxHeartbeats 4000000 in
theorem rX10_hasBit {N : Nat} {x0 : Int32} {x1 : Int32} {σ : OM} {r0 : Int32} {σ0 : OM} (h : fX10_hasBit x0 x1 σ = some (r0, σ0)) (hN0 : 0 ≤ N) : oEv N MX10_hasBit [.int x0, .int x1] σ (some (.int r0)) σ0 := by
  refine oEv_of (lv := [.int x0, .int x1]) (by decide +kernel) (fun g q hq => hq) (fun g => Nat.le_of_ble_eq_true rfl) ?_
  intro K hc ho hL hN1 hr hE hz
  have hN : 0 ≤ kN K := by rw [hN1]; exact hN0
  unfold fX10_hasBit at h
  refine go_iload_n hc dX10_hasBit_0 rfl rfl ?_
  refine go_iload_n hc dX10_hasBit_1 rfl rfl ?_
  refine go_ishr hc dX10_hasBit_2 ?_
  refine go_iconst hc dX10_hasBit_3 ci_1 ?_
  refine go_iand hc dX10_hasBit_4 ?_
  refine go_iconst hc dX10_hasBit_5 ci_1 ?_
  refine go_icmp_ne (tgt := 13) hc dX10_hasBit_6 rfl (fun hh => ?_) (fun hh => ?_)
  · rw [if_neg hh] at h
    refine go_iconst hc dX10_hasBit_13 ci_0 ?_
    exact go_zret hc (oend_i h hE) hr rfl dX10_hasBit_14
  · rw [if_pos hh] at h
    refine go_iconst hc dX10_hasBit_9 ci_1 ?_
    refine go_goto (tgt := 14) hc dX10_hasBit_10 rfl ?_
    exact go_zret hc (oend_i h hE) hr rfl dX10_hasBit_14
def fX10_truthLine_b134 (l1 : Int32) (l2 : Int32) (σ : OM) : Option OM :=
  if (lg_cmp (((mL σ 87 8) >>> (l2.toInt64 &&& 63)) &&& (1 : Int64)) (0 : Int64)) = 0 then (
   obv (fX10_wrong (7 : Int32) l1 σ) (fun σ2 =>
   some (sI σ2 85 10 (l2 + (1 : Int32)))))
  else (some (sI σ 85 10 (l2 + (1 : Int32))))
set_option maxRecDepth 100000 in
set_option maxHeartbeats 4000000 in
theorem rX10_truthLine_b134 {K : OK} (hc : kcc K = cX10_truthLine) (ho : kow K = RX10) (hL : knL K = 5) (hN : 7 ≤ kN K) (hr : (kme K).sig.returnType = none) {σ0 : OM} (hE : oEnd K (none) σ0) (hz : kz K = 0) {l1 : Int32} {l2 : Int32} {σ : OM} (h : fX10_truthLine_b134 l1 l2 σ = some σ0) : Go K 134 [.ref 81, .int l1, .int l2, .null, .null] [] σ := by
  unfold fX10_truthLine_b134 at h
  refine go_aload_n hc dX10_truthLine_134 rfl rfl ?_
  refine go_getC (b := 87) rfl hc ho flX10_30 dX10_truthLine_135 ok_81 ?_
  refine go_bipush hc dX10_truthLine_138 cb_8 ?_
  refine go_lald hc dX10_truthLine_140 ok_87 ol_87 (by decide +kernel) cn_8 ?_
  refine go_iload_n hc dX10_truthLine_141 rfl rfl ?_
  refine go_lshr hc dX10_truthLine_142 ?_
  refine go_lconst hc dX10_truthLine_143 cl_1 ?_
  refine go_land hc dX10_truthLine_144 ?_
  refine go_lconst hc dX10_truthLine_145 cl_0 ?_
  refine go_lcmp hc dX10_truthLine_146 ?_
  refine go_if_ne (tgt := 157) hc dX10_truthLine_147 rfl (fun hh => ?_) (fun hh => ?_)
  · rw [if_neg hh] at h
    refine go_aload_n hc dX10_truthLine_157 rfl rfl ?_
    refine go_getC (b := 85) rfl hc ho flX10_23 dX10_truthLine_158 ok_81 ?_
    refine go_bipush hc dX10_truthLine_161 cb_10 ?_
    refine go_iload_n hc dX10_truthLine_163 rfl rfl ?_
    refine go_iconst hc dX10_truthLine_164 ci_1 ?_
    refine go_iadd hc dX10_truthLine_165 ?_
    refine go_iast hc dX10_truthLine_166 ok_85 ol_85 (by decide +kernel) cn_10 ?_
    exact go_vret hc (oend_v h hE) hr dX10_truthLine_167
  · rw [if_pos hh] at h
    refine go_aload_n hc dX10_truthLine_150 rfl rfl ?_
    refine go_bipush hc dX10_truthLine_151 cb_7 ?_
    refine go_iload_n hc dX10_truthLine_153 rfl rfl ?_
    obtain ⟨σ2, hf3, h⟩ := obv_some h
    refine go_callVv hc ho cmX10_wrong mlX10_116 dX10_truthLine_154 ok_81 (As := [.int (7 : Int32), .int l1]) (rest := []) (rX10_wrong (N := 0) hf3 (Nat.le_refl _)) rfl (Nat.le_trans (Nat.le_of_ble_eq_true rfl) hN) rfl (Nat.le_of_ble_eq_true rfl) (Or.inl hz) ?_
    refine go_aload_n hc dX10_truthLine_157 rfl rfl ?_
    refine go_getC (b := 85) rfl hc ho flX10_23 dX10_truthLine_158 ok_81 ?_
    refine go_bipush hc dX10_truthLine_161 cb_10 ?_
    refine go_iload_n hc dX10_truthLine_163 rfl rfl ?_
    refine go_iconst hc dX10_truthLine_164 ci_1 ?_
    refine go_iadd hc dX10_truthLine_165 ?_
    refine go_iast hc dX10_truthLine_166 ok_85 ol_85 (by decide +kernel) cn_10 ?_
    exact go_vret hc (oend_v h hE) hr dX10_truthLine_167
def fX10_truthLine_b105 (rc68 : Int32 → Int32 → Int32 → OM → Option OM) (l1 : Int32) (l2 : Int32) (l4 : Int32) (σ : OM) : Option OM :=
  if (mI σ 81 13) = 0 then (
   obv (fX10_pass σ) (fun σ2 =>
   obi (fX10_takesSign (44 : Int32) σ2) (fun r4 σ5 =>
   rc68 l1 (l2 ||| ((1 : Int32) <<< (l4 &&& 31))) r4 σ5)))
  else (some σ)
set_option maxRecDepth 100000 in
set_option maxHeartbeats 4000000 in
theorem rX10_truthLine_b105 {K : OK} (hc : kcc K = cX10_truthLine) (ho : kow K = RX10) (hL : knL K = 5) (hN : 7 ≤ kN K) (hr : (kme K).sig.returnType = none) {σ0 : OM} (hE : oEnd K (none) σ0) (hz : kz K = 0) {rc68 : Int32 → Int32 → Int32 → OM → Option OM} (hrc68 : ∀ (l1 : Int32) (l2 : Int32) (l3 : Int32) (σ : OM), rc68 l1 l2 l3 σ = some σ0 → Go K 68 [.ref 81, .int l1, .int l2, .int l3, .null] [] σ) {l1 : Int32} {l2 : Int32} {l4 : Int32} {σ : OM} (h : fX10_truthLine_b105 rc68 l1 l2 l4 σ = some σ0) : Go K 105 [.ref 81, .int l1, .int l2, .null, .int l4] [] σ := by
  unfold fX10_truthLine_b105 at h
  refine go_aload_n hc dX10_truthLine_105 rfl rfl ?_
  refine go_getI hc ho flX10_89 dX10_truthLine_106 ok_81 ?_
  refine go_if_eq (tgt := 113) hc dX10_truthLine_109 rfl (fun hh => ?_) (fun hh => ?_)
  · rw [if_pos hh] at h
    refine go_iload_n hc dX10_truthLine_113 rfl rfl ?_
    refine go_iconst hc dX10_truthLine_114 ci_1 ?_
    refine go_iload hc dX10_truthLine_115 rfl ?_
    refine go_ishl hc dX10_truthLine_117 ?_
    refine go_ior hc dX10_truthLine_118 ?_
    refine go_istore_n hc (lv1 := [.ref 81, .int l1, .int (l2 ||| ((1 : Int32) <<< (l4 &&& 31))), .null, .int l4]) dX10_truthLine_119 rfl hL (by decide) (fun _ _ e => by cases e; rfl) rfl ?_
    refine go_aload_n hc dX10_truthLine_120 rfl rfl ?_
    obtain ⟨σ2, hf3, h⟩ := obv_some h
    refine go_callVv hc ho cmX10_pass mlX10_110 dX10_truthLine_121 ok_81 (As := []) (rest := []) (rX10_pass (N := 1) hf3 (Nat.le_refl _)) rfl (Nat.le_trans (Nat.le_of_ble_eq_true rfl) hN) rfl (Nat.le_of_ble_eq_true rfl) (Or.inl hz) ?_
    refine go_aload_n hc dX10_truthLine_124 rfl rfl ?_
    refine go_bipush hc dX10_truthLine_125 cb_44 ?_
    obtain ⟨r4, σ5, hf6, h⟩ := obi_some h
    refine go_callVi hc ho cmX10_takesSign mlX10_189 dX10_truthLine_127 ok_81 (As := [.int (44 : Int32)]) (rest := []) (rX10_takesSign (N := 2) hf6 (Nat.le_refl _)) rfl (Nat.le_trans (Nat.le_of_ble_eq_true rfl) hN) rfl (Nat.le_of_ble_eq_true rfl) (Or.inl hz) ?_
    refine go_istore_n hc (lv1 := [.ref 81, .int l1, .int (l2 ||| ((1 : Int32) <<< (l4 &&& 31))), .int r4, .int l4]) dX10_truthLine_130 rfl hL (by decide) (fun _ _ e => by cases e; rfl) rfl ?_
    refine go_goto (tgt := 68) hc dX10_truthLine_131 rfl ?_
    refine go_mask [true, true, true, true, false] (lv1 := [.ref 81, .int l1, .int (l2 ||| ((1 : Int32) <<< (l4 &&& 31))), .int r4, .null]) rfl ?_
    exact hrc68 l1 (l2 ||| ((1 : Int32) <<< (l4 &&& 31))) r4 _ h
  · rw [if_neg hh] at h
    exact go_vret hc (oend_v h hE) hr dX10_truthLine_112
def fX10_truthLine_b68 : Nat → Int32 → Int32 → Int32 → OM → Option OM
  | 0, _, _, _, _ => none
  | n + 1, l1, l2, l3, σ =>
    if l3 = 0 then (
     fX10_truthLine_b134 l1 l2 σ)
    else (obi (fX10_named (0 : Int32) (5 : Int32) σ) (fun r1 σ2 =>
    if (mI σ2 81 13) = 0 then (
     obi (fX10_hasBit l2 r1 σ2) (fun r4 σ5 =>
     if r4 = 0 then (
      fX10_truthLine_b105 (fX10_truthLine_b68 n) l1 l2 r1 σ5)
     else (obv (fX10_wrong (3 : Int32) (mI σ5 81 4) σ5) (fun σ8 =>
     fX10_truthLine_b105 (fX10_truthLine_b68 n) l1 l2 r1 σ8))))
    else (fX10_truthLine_b105 (fX10_truthLine_b68 n) l1 l2 r1 σ2)))
set_option maxRecDepth 100000 in
set_option maxHeartbeats 4000000 in
theorem rX10_truthLine_b68 {K : OK} (hc : kcc K = cX10_truthLine) (ho : kow K = RX10) (hL : knL K = 5) (hN : 7 ≤ kN K) (hr : (kme K).sig.returnType = none) {σ0 : OM} (hE : oEnd K (none) σ0) (hz : kz K = 0) : ∀ (n : Nat) (l1 : Int32) (l2 : Int32) (l3 : Int32) (σ : OM), fX10_truthLine_b68 n l1 l2 l3 σ = some σ0 → Go K 68 [.ref 81, .int l1, .int l2, .int l3, .null] [] σ := by
  intro n
  induction n with
  | zero =>
    intro l1 l2 l3 σ h
    cases h
  | succ n ih =>
    intro l1 l2 l3 σ h
    rw [fX10_truthLine_b68] at h
    refine go_iload_n hc dX10_truthLine_68 rfl rfl ?_
    refine go_if_eq (tgt := 134) hc dX10_truthLine_69 rfl (fun hh => ?_) (fun hh => ?_)
    · rw [if_pos hh] at h
      refine go_mask [true, true, true, false, false] (lv1 := [.ref 81, .int l1, .int l2, .null, .null]) rfl ?_
      exact rX10_truthLine_b134 hc ho hL hN hr hE hz h
    · rw [if_neg hh] at h
      refine go_aload_n hc dX10_truthLine_72 rfl rfl ?_
      refine go_iconst hc dX10_truthLine_73 ci_0 ?_
      refine go_iconst hc dX10_truthLine_74 ci_5 ?_
      obtain ⟨r1, σ2, hf3, h⟩ := obi_some h
      refine go_callVi hc ho cmX10_named mlX10_160 dX10_truthLine_75 ok_81 (As := [.int (0 : Int32), .int (5 : Int32)]) (rest := []) (rX10_named (N := 6) hf3 (Nat.le_refl _)) rfl (Nat.le_trans (Nat.le_of_ble_eq_true rfl) hN) rfl (Nat.le_of_ble_eq_true rfl) (Or.inl hz) ?_
      refine go_istore hc (lv1 := [.ref 81, .int l1, .int l2, .int l3, .int r1]) dX10_truthLine_78 hL (by decide) (fun _ _ e => by cases e; rfl) rfl ?_
      refine go_aload_n hc dX10_truthLine_80 rfl rfl ?_
      refine go_getI hc ho flX10_89 dX10_truthLine_81 ok_81 ?_
      refine go_if_ne (tgt := 105) hc dX10_truthLine_84 rfl (fun hh => ?_) (fun hh => ?_)
      · rw [if_neg hh] at h
        refine go_mask [true, true, true, false, true] (lv1 := [.ref 81, .int l1, .int l2, .null, .int r1]) rfl ?_
        exact rX10_truthLine_b105 hc ho hL hN hr hE hz ih h
      · rw [if_pos hh] at h
        refine go_iload_n hc dX10_truthLine_87 rfl rfl ?_
        refine go_iload hc dX10_truthLine_88 rfl ?_
        obtain ⟨r4, σ5, hf6, h⟩ := obi_some h
        refine go_callSi hc ho cmX10_hasBit mlX10_270 dX10_truthLine_90 (As := [.int l2, .int r1]) (rest := []) (rX10_hasBit (N := 0) hf6 (Nat.le_refl _)) rfl (Nat.le_trans (Nat.le_of_ble_eq_true rfl) hN) rfl (Nat.le_of_ble_eq_true rfl) (Or.inl hz) ?_
        refine go_if_eq (tgt := 105) hc dX10_truthLine_93 rfl (fun hh => ?_) (fun hh => ?_)
        · rw [if_pos hh] at h
          refine go_mask [true, true, true, false, true] (lv1 := [.ref 81, .int l1, .int l2, .null, .int r1]) rfl ?_
          exact rX10_truthLine_b105 hc ho hL hN hr hE hz ih h
        · rw [if_neg hh] at h
          refine go_aload_n hc dX10_truthLine_96 rfl rfl ?_
          refine go_iconst hc dX10_truthLine_97 ci_3 ?_
          refine go_aload_n hc dX10_truthLine_98 rfl rfl ?_
          refine go_getI hc ho flX10_70 dX10_truthLine_99 ok_81 ?_
          obtain ⟨σ8, hf9, h⟩ := obv_some h
          refine go_callVv hc ho cmX10_wrong mlX10_116 dX10_truthLine_102 ok_81 (As := [.int (3 : Int32), .int (mI σ5 81 4)]) (rest := []) (rX10_wrong (N := 0) hf9 (Nat.le_refl _)) rfl (Nat.le_trans (Nat.le_of_ble_eq_true rfl) hN) rfl (Nat.le_of_ble_eq_true rfl) (Or.inl hz) ?_
          refine go_mask [true, true, true, false, true] (lv1 := [.ref 81, .int l1, .int l2, .null, .int r1]) rfl ?_
          exact rX10_truthLine_b105 hc ho hL hN hr hE hz ih h
def fX10_truthLine_b39 (l1 : Int32) (σ : OM) : Option OM :=
  if (mI σ 81 13) = 0 then (
   obv (fX10_pass σ) (fun σ2 =>
   obi (fX10_takesWord 5 σ2) (fun r4 σ5 =>
   if r4 = 0 then (
    fX10_truthLine_b68 oF l1 (0 : Int32) (1 : Int32) σ5)
   else (fX10_truthLine_b68 oF l1 (0 : Int32) (0 : Int32) σ5))))
  else (some σ)
set_option maxRecDepth 100000 in
set_option maxHeartbeats 4000000 in
theorem rX10_truthLine_b39 {K : OK} (hc : kcc K = cX10_truthLine) (ho : kow K = RX10) (hL : knL K = 5) (hN : 7 ≤ kN K) (hr : (kme K).sig.returnType = none) {σ0 : OM} (hE : oEnd K (none) σ0) (hz : kz K = 0) {l1 : Int32} {σ : OM} (h : fX10_truthLine_b39 l1 σ = some σ0) : Go K 39 [.ref 81, .int l1, .null, .null, .null] [] σ := by
  unfold fX10_truthLine_b39 at h
  refine go_aload_n hc dX10_truthLine_39 rfl rfl ?_
  refine go_getI hc ho flX10_89 dX10_truthLine_40 ok_81 ?_
  refine go_if_eq (tgt := 47) hc dX10_truthLine_43 rfl (fun hh => ?_) (fun hh => ?_)
  · rw [if_pos hh] at h
    refine go_aload_n hc dX10_truthLine_47 rfl rfl ?_
    obtain ⟨σ2, hf3, h⟩ := obv_some h
    refine go_callVv hc ho cmX10_pass mlX10_110 dX10_truthLine_48 ok_81 (As := []) (rest := []) (rX10_pass (N := 1) hf3 (Nat.le_refl _)) rfl (Nat.le_trans (Nat.le_of_ble_eq_true rfl) hN) rfl (Nat.le_of_ble_eq_true rfl) (Or.inl hz) ?_
    refine go_iconst hc dX10_truthLine_51 ci_0 ?_
    refine go_istore_n hc (lv1 := [.ref 81, .int l1, .int (0 : Int32), .null, .null]) dX10_truthLine_52 rfl hL (by decide) (fun _ _ e => by cases e; rfl) rfl ?_
    refine go_aload_n hc dX10_truthLine_53 rfl rfl ?_
    refine go_str hc ho os_5 dX10_truthLine_54 ?_
    obtain ⟨r4, σ5, hf6, h⟩ := obi_some h
    refine go_callVi hc ho cmX10_takesWord mlX10_113 dX10_truthLine_56 ok_81 (As := [.ref (200 + 5)]) (rest := []) (rX10_takesWord (N := 5) (by decide) hf6 (Nat.le_refl _)) rfl (Nat.le_trans (Nat.le_of_ble_eq_true rfl) hN) rfl (Nat.le_of_ble_eq_true rfl) (Or.inl hz) ?_
    refine go_if_ne (tgt := 66) hc dX10_truthLine_59 rfl (fun hh => ?_) (fun hh => ?_)
    · rw [if_neg hh] at h
      refine go_iconst hc dX10_truthLine_66 ci_0 ?_
      refine go_istore_n hc (lv1 := [.ref 81, .int l1, .int (0 : Int32), .int (0 : Int32), .null]) dX10_truthLine_67 rfl hL (by decide) (fun _ _ e => by cases e; rfl) rfl ?_
      exact rX10_truthLine_b68 hc ho hL hN hr hE hz oF l1 (0 : Int32) (0 : Int32) _ h
    · rw [if_pos hh] at h
      refine go_iconst hc dX10_truthLine_62 ci_1 ?_
      refine go_goto (tgt := 67) hc dX10_truthLine_63 rfl ?_
      refine go_istore_n hc (lv1 := [.ref 81, .int l1, .int (0 : Int32), .int (1 : Int32), .null]) dX10_truthLine_67 rfl hL (by decide) (fun _ _ e => by cases e; rfl) rfl ?_
      exact rX10_truthLine_b68 hc ho hL hN hr hE hz oF l1 (0 : Int32) (1 : Int32) _ h
  · rw [if_neg hh] at h
    exact go_vret hc (oend_v h hE) hr dX10_truthLine_46
def fX10_truthLine (x0 : Int32) (σ : OM) : Option OM :=
  if (mI σ 85 10) ≤ 0 then (
   if (mI σ 85 9) = 0 then (
    obv (fX10_wrong (6 : Int32) (mI σ 81 4) σ) (fun σ2 =>
    fX10_truthLine_b39 x0 σ2))
   else (fX10_truthLine_b39 x0 σ))
  else (obv (fX10_wrong (3 : Int32) (mI σ 81 4) σ) (fun σ5 =>
  if (mI σ5 85 9) = 0 then (
   obv (fX10_wrong (6 : Int32) (mI σ5 81 4) σ5) (fun σ8 =>
   fX10_truthLine_b39 x0 σ8))
  else (fX10_truthLine_b39 x0 σ5)))
set_option maxRecDepth 100000 in
set_option maxHeartbeats 4000000 in
theorem rX10_truthLine {N : Nat} {x0 : Int32} {σ : OM} {σ0 : OM} (h : fX10_truthLine x0 σ = some σ0) (hN0 : 7 ≤ N) : oEv N MX10_truthLine [.ref 81, .int x0] σ (none) σ0 := by
  refine oEv_of (lv := [.ref 81, .int x0, .null, .null, .null]) (by decide +kernel) (fun g q hq => hq) (fun g => Nat.le_of_ble_eq_true rfl) ?_
  intro K hc ho hL hN1 hr hE hz
  have hN : 7 ≤ kN K := by rw [hN1]; exact hN0
  unfold fX10_truthLine at h
  refine go_aload_n hc dX10_truthLine_0 rfl rfl ?_
  refine go_getC (b := 85) rfl hc ho flX10_23 dX10_truthLine_1 ok_81 ?_
  refine go_bipush hc dX10_truthLine_4 cb_10 ?_
  refine go_iald hc dX10_truthLine_6 ok_85 ol_85 (by decide +kernel) cn_10 ?_
  refine go_if_le (tgt := 19) hc dX10_truthLine_7 rfl (fun hh => ?_) (fun hh => ?_)
  · rw [if_pos hh] at h
    refine go_aload_n hc dX10_truthLine_19 rfl rfl ?_
    refine go_getC (b := 85) rfl hc ho flX10_23 dX10_truthLine_20 ok_81 ?_
    refine go_bipush hc dX10_truthLine_23 cb_9 ?_
    refine go_iald hc dX10_truthLine_25 ok_85 ol_85 (by decide +kernel) cn_9 ?_
    refine go_if_ne (tgt := 39) hc dX10_truthLine_26 rfl (fun hh => ?_) (fun hh => ?_)
    · rw [if_neg hh] at h
      exact rX10_truthLine_b39 hc ho hL hN hr hE hz h
    · rw [if_pos hh] at h
      refine go_aload_n hc dX10_truthLine_29 rfl rfl ?_
      refine go_bipush hc dX10_truthLine_30 cb_6 ?_
      refine go_aload_n hc dX10_truthLine_32 rfl rfl ?_
      refine go_getI hc ho flX10_70 dX10_truthLine_33 ok_81 ?_
      obtain ⟨σ2, hf3, h⟩ := obv_some h
      refine go_callVv hc ho cmX10_wrong mlX10_116 dX10_truthLine_36 ok_81 (As := [.int (6 : Int32), .int (mI σ 81 4)]) (rest := []) (rX10_wrong (N := 0) hf3 (Nat.le_refl _)) rfl (Nat.le_trans (Nat.le_of_ble_eq_true rfl) hN) rfl (Nat.le_of_ble_eq_true rfl) (Or.inl hz) ?_
      exact rX10_truthLine_b39 hc ho hL hN hr hE hz h
  · rw [if_neg hh] at h
    refine go_aload_n hc dX10_truthLine_10 rfl rfl ?_
    refine go_iconst hc dX10_truthLine_11 ci_3 ?_
    refine go_aload_n hc dX10_truthLine_12 rfl rfl ?_
    refine go_getI hc ho flX10_70 dX10_truthLine_13 ok_81 ?_
    obtain ⟨σ5, hf6, h⟩ := obv_some h
    refine go_callVv hc ho cmX10_wrong mlX10_116 dX10_truthLine_16 ok_81 (As := [.int (3 : Int32), .int (mI σ 81 4)]) (rest := []) (rX10_wrong (N := 0) hf6 (Nat.le_refl _)) rfl (Nat.le_trans (Nat.le_of_ble_eq_true rfl) hN) rfl (Nat.le_of_ble_eq_true rfl) (Or.inl hz) ?_
    refine go_aload_n hc dX10_truthLine_19 rfl rfl ?_
    refine go_getC (b := 85) rfl hc ho flX10_23 dX10_truthLine_20 ok_81 ?_
    refine go_bipush hc dX10_truthLine_23 cb_9 ?_
    refine go_iald hc dX10_truthLine_25 ok_85 ol_85 (by decide +kernel) cn_9 ?_
    refine go_if_ne (tgt := 39) hc dX10_truthLine_26 rfl (fun hh => ?_) (fun hh => ?_)
    · rw [if_neg hh] at h
      exact rX10_truthLine_b39 hc ho hL hN hr hE hz h
    · rw [if_pos hh] at h
      refine go_aload_n hc dX10_truthLine_29 rfl rfl ?_
      refine go_bipush hc dX10_truthLine_30 cb_6 ?_
      refine go_aload_n hc dX10_truthLine_32 rfl rfl ?_
      refine go_getI hc ho flX10_70 dX10_truthLine_33 ok_81 ?_
      obtain ⟨σ8, hf9, h⟩ := obv_some h
      refine go_callVv hc ho cmX10_wrong mlX10_116 dX10_truthLine_36 ok_81 (As := [.int (6 : Int32), .int (mI σ5 81 4)]) (rest := []) (rX10_wrong (N := 0) hf9 (Nat.le_refl _)) rfl (Nat.le_trans (Nat.le_of_ble_eq_true rfl) hN) rfl (Nat.le_of_ble_eq_true rfl) (Or.inl hz) ?_
      exact rX10_truthLine_b39 hc ho hL hN hr hE hz h
def fX10_houseLine (σ : OM) : Option OM :=
  if (mI σ 81 13) = 0 then (
   obv (fX10_newName ((6 : Int32) + (mI σ 85 3)) σ) (fun σ2 =>
   obi (fX10_after 17 (0 : Int32) (999 : Int32) σ2) (fun r4 σ5 =>
   ogd (oin ((17 : Int32) + ((4 : Int32) * (mI σ 85 3))) 279) (
   obi (fX10_after 18 (1 : Int32) (99 : Int32) (sI σ5 85 (((17 : Int32) + ((4 : Int32) * (mI σ 85 3))).toNatClampNeg) r4)) (fun r8 σ9 =>
   ogd (oin (((17 : Int32) + ((4 : Int32) * (mI σ 85 3))) + (1 : Int32)) 279) (
   obi (fX10_after 19 (0 : Int32) (99 : Int32) (sI σ9 85 ((((17 : Int32) + ((4 : Int32) * (mI σ 85 3))) + (1 : Int32)).toNatClampNeg) r8)) (fun r12 σ13 =>
   ogd (oin (((17 : Int32) + ((4 : Int32) * (mI σ 85 3))) + (2 : Int32)) 279) (
   if (mI (sI σ13 85 ((((17 : Int32) + ((4 : Int32) * (mI σ 85 3))) + (2 : Int32)).toNatClampNeg) r12) 81 13) = 0 then (
    some (sI (sI σ13 85 ((((17 : Int32) + ((4 : Int32) * (mI σ 85 3))) + (2 : Int32)).toNatClampNeg) r12) 85 3 ((mI (sI σ13 85 ((((17 : Int32) + ((4 : Int32) * (mI σ 85 3))) + (2 : Int32)).toNatClampNeg) r12) 85 3) + (1 : Int32))))
   else (some (sI σ13 85 ((((17 : Int32) + ((4 : Int32) * (mI σ 85 3))) + (2 : Int32)).toNatClampNeg) r12))))))))))
  else (some σ)
set_option maxRecDepth 100000 in
set_option maxHeartbeats 4000000 in
theorem rX10_houseLine {N : Nat} {σ : OM} {σ0 : OM} (h : fX10_houseLine σ = some σ0) (hN0 : 8 ≤ N) : oEv N MX10_houseLine [.ref 81] σ (none) σ0 := by
  refine oEv_of (lv := [.ref 81, .null]) (by decide +kernel) (fun g q hq => hq) (fun g => Nat.le_of_ble_eq_true rfl) ?_
  intro K hc ho hL hN1 hr hE hz
  have hN : 8 ≤ kN K := by rw [hN1]; exact hN0
  unfold fX10_houseLine at h
  refine go_aload_n hc dX10_houseLine_0 rfl rfl ?_
  refine go_getI hc ho flX10_89 dX10_houseLine_1 ok_81 ?_
  refine go_if_eq (tgt := 8) hc dX10_houseLine_4 rfl (fun hh => ?_) (fun hh => ?_)
  · rw [if_pos hh] at h
    refine go_bipush hc dX10_houseLine_8 cb_17 ?_
    refine go_iconst hc dX10_houseLine_10 ci_4 ?_
    refine go_aload_n hc dX10_houseLine_11 rfl rfl ?_
    refine go_getC (b := 85) rfl hc ho flX10_23 dX10_houseLine_12 ok_81 ?_
    refine go_iconst hc dX10_houseLine_15 ci_3 ?_
    refine go_iald hc dX10_houseLine_16 ok_85 ol_85 (by decide +kernel) cn_3 ?_
    refine go_imul hc dX10_houseLine_17 ?_
    refine go_iadd hc dX10_houseLine_18 ?_
    refine go_istore_n hc (lv1 := [.ref 81, .int ((17 : Int32) + ((4 : Int32) * (mI σ 85 3)))]) dX10_houseLine_19 rfl hL (by decide) (fun _ _ e => by cases e; rfl) rfl ?_
    refine go_aload_n hc dX10_houseLine_20 rfl rfl ?_
    refine go_bipush hc dX10_houseLine_21 cb_6 ?_
    refine go_aload_n hc dX10_houseLine_23 rfl rfl ?_
    refine go_getC (b := 85) rfl hc ho flX10_23 dX10_houseLine_24 ok_81 ?_
    refine go_iconst hc dX10_houseLine_27 ci_3 ?_
    refine go_iald hc dX10_houseLine_28 ok_85 ol_85 (by decide +kernel) cn_3 ?_
    refine go_iadd hc dX10_houseLine_29 ?_
    obtain ⟨σ2, hf3, h⟩ := obv_some h
    refine go_callVv hc ho cmX10_newName mlX10_265 dX10_houseLine_30 ok_81 (As := [.int ((6 : Int32) + (mI σ 85 3))]) (rest := []) (rX10_newName (N := 6) hf3 (Nat.le_refl _)) rfl (Nat.le_trans (Nat.le_of_ble_eq_true rfl) hN) rfl (Nat.le_of_ble_eq_true rfl) (Or.inl hz) ?_
    refine go_aload_n hc dX10_houseLine_33 rfl rfl ?_
    refine go_getC (b := 85) rfl hc ho flX10_23 dX10_houseLine_34 ok_81 ?_
    refine go_iload_n hc dX10_houseLine_37 rfl rfl ?_
    refine go_aload_n hc dX10_houseLine_38 rfl rfl ?_
    refine go_strW hc ho os_17 dX10_houseLine_39 ?_
    refine go_iconst hc dX10_houseLine_42 ci_0 ?_
    refine go_sipush hc dX10_houseLine_43 cs_999 ?_
    obtain ⟨r4, σ5, hf6, h⟩ := obi_some h
    refine go_callVi hc ho cmX10_after mlX10_261 dX10_houseLine_46 ok_81 (As := [.ref (200 + 17), .int (0 : Int32), .int (999 : Int32)]) (rest := [.int ((17 : Int32) + ((4 : Int32) * (mI σ 85 3))), .ref 85]) (rX10_after (N := 7) (by decide) hf6 (Nat.le_refl _)) rfl (Nat.le_trans (Nat.le_of_ble_eq_true rfl) hN) rfl (Nat.le_of_ble_eq_true rfl) (Or.inl hz) ?_
    obtain ⟨hg7, h⟩ := ogd_some h
    refine go_iast hc dX10_houseLine_49 ok_85 ol_85 hg7 rfl ?_
    refine go_aload_n hc dX10_houseLine_50 rfl rfl ?_
    refine go_getC (b := 85) rfl hc ho flX10_23 dX10_houseLine_51 ok_81 ?_
    refine go_iload_n hc dX10_houseLine_54 rfl rfl ?_
    refine go_iconst hc dX10_houseLine_55 ci_1 ?_
    refine go_iadd hc dX10_houseLine_56 ?_
    refine go_aload_n hc dX10_houseLine_57 rfl rfl ?_
    refine go_strW hc ho os_18 dX10_houseLine_58 ?_
    refine go_iconst hc dX10_houseLine_61 ci_1 ?_
    refine go_bipush hc dX10_houseLine_62 cb_99 ?_
    obtain ⟨r8, σ9, hf10, h⟩ := obi_some h
    refine go_callVi hc ho cmX10_after mlX10_261 dX10_houseLine_64 ok_81 (As := [.ref (200 + 18), .int (1 : Int32), .int (99 : Int32)]) (rest := [.int (((17 : Int32) + ((4 : Int32) * (mI σ 85 3))) + (1 : Int32)), .ref 85]) (rX10_after (N := 7) (by decide) hf10 (Nat.le_refl _)) rfl (Nat.le_trans (Nat.le_of_ble_eq_true rfl) hN) rfl (Nat.le_of_ble_eq_true rfl) (Or.inl hz) ?_
    obtain ⟨hg11, h⟩ := ogd_some h
    refine go_iast hc dX10_houseLine_67 ok_85 ol_85 hg11 rfl ?_
    refine go_aload_n hc dX10_houseLine_68 rfl rfl ?_
    refine go_getC (b := 85) rfl hc ho flX10_23 dX10_houseLine_69 ok_81 ?_
    refine go_iload_n hc dX10_houseLine_72 rfl rfl ?_
    refine go_iconst hc dX10_houseLine_73 ci_2 ?_
    refine go_iadd hc dX10_houseLine_74 ?_
    refine go_aload_n hc dX10_houseLine_75 rfl rfl ?_
    refine go_strW hc ho os_19 dX10_houseLine_76 ?_
    refine go_iconst hc dX10_houseLine_79 ci_0 ?_
    refine go_bipush hc dX10_houseLine_80 cb_99 ?_
    obtain ⟨r12, σ13, hf14, h⟩ := obi_some h
    refine go_callVi hc ho cmX10_after mlX10_261 dX10_houseLine_82 ok_81 (As := [.ref (200 + 19), .int (0 : Int32), .int (99 : Int32)]) (rest := [.int (((17 : Int32) + ((4 : Int32) * (mI σ 85 3))) + (2 : Int32)), .ref 85]) (rX10_after (N := 7) (by decide) hf14 (Nat.le_refl _)) rfl (Nat.le_trans (Nat.le_of_ble_eq_true rfl) hN) rfl (Nat.le_of_ble_eq_true rfl) (Or.inl hz) ?_
    obtain ⟨hg15, h⟩ := ogd_some h
    refine go_iast hc dX10_houseLine_85 ok_85 ol_85 hg15 rfl ?_
    refine go_aload_n hc dX10_houseLine_86 rfl rfl ?_
    refine go_getI hc ho flX10_89 dX10_houseLine_87 ok_81 ?_
    refine go_if_ne (tgt := 103) hc dX10_houseLine_90 rfl (fun hh => ?_) (fun hh => ?_)
    · rw [if_neg hh] at h
      exact go_vret hc (oend_v h hE) hr dX10_houseLine_103
    · rw [if_pos hh] at h
      refine go_aload_n hc dX10_houseLine_93 rfl rfl ?_
      refine go_getC (b := 85) rfl hc ho flX10_23 dX10_houseLine_94 ok_81 ?_
      refine go_iconst hc dX10_houseLine_97 ci_3 ?_
      refine go_dup2_11 hc dX10_houseLine_98 rfl rfl ?_
      refine go_iald hc dX10_houseLine_99 ok_85 ol_85 (by decide +kernel) cn_3 ?_
      refine go_iconst hc dX10_houseLine_100 ci_1 ?_
      refine go_iadd hc dX10_houseLine_101 ?_
      refine go_iast hc dX10_houseLine_102 ok_85 ol_85 (by decide +kernel) cn_3 ?_
      exact go_vret hc (oend_v h hE) hr dX10_houseLine_103
  · rw [if_neg hh] at h
    exact go_vret hc (oend_v h hE) hr dX10_houseLine_7
def fX10_housePassed (σ : OM) : Option (Int32 × OM) :=
  obi (fX10_named (6 : Int32) (11 : Int32) σ) (fun r1 σ2 =>
  if (mI σ2 81 13) = 0 then (
   obv (fX10_pass σ2) (fun σ5 =>
   some (r1, σ5)))
  else (some (r1, σ2)))
set_option maxRecDepth 100000 in
set_option maxHeartbeats 4000000 in
theorem rX10_housePassed {N : Nat} {σ : OM} {r0 : Int32} {σ0 : OM} (h : fX10_housePassed σ = some (r0, σ0)) (hN0 : 7 ≤ N) : oEv N MX10_housePassed [.ref 81] σ (some (.int r0)) σ0 := by
  refine oEv_of (lv := [.ref 81, .null]) (by decide +kernel) (fun g q hq => hq) (fun g => Nat.le_of_ble_eq_true rfl) ?_
  intro K hc ho hL hN1 hr hE hz
  have hN : 7 ≤ kN K := by rw [hN1]; exact hN0
  unfold fX10_housePassed at h
  refine go_aload_n hc dX10_housePassed_0 rfl rfl ?_
  refine go_bipush hc dX10_housePassed_1 cb_6 ?_
  refine go_bipush hc dX10_housePassed_3 cb_11 ?_
  obtain ⟨r1, σ2, hf3, h⟩ := obi_some h
  refine go_callVi hc ho cmX10_named mlX10_160 dX10_housePassed_5 ok_81 (As := [.int (6 : Int32), .int (11 : Int32)]) (rest := []) (rX10_named (N := 6) hf3 (Nat.le_refl _)) rfl (Nat.le_trans (Nat.le_of_ble_eq_true rfl) hN) rfl (Nat.le_of_ble_eq_true rfl) (Or.inl hz) ?_
  refine go_istore_n hc (lv1 := [.ref 81, .int r1]) dX10_housePassed_8 rfl hL (by decide) (fun _ _ e => by cases e; rfl) rfl ?_
  refine go_aload_n hc dX10_housePassed_9 rfl rfl ?_
  refine go_getI hc ho flX10_89 dX10_housePassed_10 ok_81 ?_
  refine go_if_ne (tgt := 20) hc dX10_housePassed_13 rfl (fun hh => ?_) (fun hh => ?_)
  · rw [if_neg hh] at h
    refine go_iload_n hc dX10_housePassed_20 rfl rfl ?_
    exact go_iret hc (oend_i h hE) hr dX10_housePassed_21
  · rw [if_pos hh] at h
    refine go_aload_n hc dX10_housePassed_16 rfl rfl ?_
    obtain ⟨σ5, hf6, h⟩ := obv_some h
    refine go_callVv hc ho cmX10_pass mlX10_110 dX10_housePassed_17 ok_81 (As := []) (rest := []) (rX10_pass (N := 1) hf6 (Nat.le_refl _)) rfl (Nat.le_trans (Nat.le_of_ble_eq_true rfl) hN) rfl (Nat.le_of_ble_eq_true rfl) (Or.inl hz) ?_
    refine go_iload_n hc dX10_housePassed_20 rfl rfl ?_
    exact go_iret hc (oend_i h hE) hr dX10_housePassed_21
def fX10_twinLine_b103 (l1 : Int32) (l2 : Int32) (l3 : Int32) (σ : OM) : Option OM :=
  if (mI σ 81 13) = 0 then (
   obv (fX10_pass σ) (fun σ2 =>
   ogd (oin l1 279) (
   ogd (oin (l1 + (1 : Int32)) 279) (
   some (sI (sI (sI σ2 85 l1.toNatClampNeg l2) 85 ((l1 + (1 : Int32)).toNatClampNeg) l3) 85 4 ((mI (sI (sI σ2 85 l1.toNatClampNeg l2) 85 ((l1 + (1 : Int32)).toNatClampNeg) l3) 85 4) + (1 : Int32)))))))
  else (some σ)
set_option maxRecDepth 100000 in
set_option maxHeartbeats 4000000 in
theorem rX10_twinLine_b103 {K : OK} (hc : kcc K = cX10_twinLine) (ho : kow K = RX10) (hL : knL K = 5) (hN : 8 ≤ kN K) (hr : (kme K).sig.returnType = none) {σ0 : OM} (hE : oEnd K (none) σ0) (hz : kz K = 0) {l1 : Int32} {l2 : Int32} {l3 : Int32} {σ : OM} (h : fX10_twinLine_b103 l1 l2 l3 σ = some σ0) : Go K 103 [.ref 81, .int l1, .int l2, .int l3, .null] [] σ := by
  unfold fX10_twinLine_b103 at h
  refine go_aload_n hc dX10_twinLine_103 rfl rfl ?_
  refine go_getI hc ho flX10_89 dX10_twinLine_104 ok_81 ?_
  refine go_if_eq (tgt := 111) hc dX10_twinLine_107 rfl (fun hh => ?_) (fun hh => ?_)
  · rw [if_pos hh] at h
    refine go_aload_n hc dX10_twinLine_111 rfl rfl ?_
    obtain ⟨σ2, hf3, h⟩ := obv_some h
    refine go_callVv hc ho cmX10_pass mlX10_110 dX10_twinLine_112 ok_81 (As := []) (rest := []) (rX10_pass (N := 1) hf3 (Nat.le_refl _)) rfl (Nat.le_trans (Nat.le_of_ble_eq_true rfl) hN) rfl (Nat.le_of_ble_eq_true rfl) (Or.inl hz) ?_
    refine go_aload_n hc dX10_twinLine_115 rfl rfl ?_
    refine go_getC (b := 85) rfl hc ho flX10_23 dX10_twinLine_116 ok_81 ?_
    refine go_iload_n hc dX10_twinLine_119 rfl rfl ?_
    refine go_iload_n hc dX10_twinLine_120 rfl rfl ?_
    obtain ⟨hg4, h⟩ := ogd_some h
    refine go_iast hc dX10_twinLine_121 ok_85 ol_85 hg4 rfl ?_
    refine go_aload_n hc dX10_twinLine_122 rfl rfl ?_
    refine go_getC (b := 85) rfl hc ho flX10_23 dX10_twinLine_123 ok_81 ?_
    refine go_iload_n hc dX10_twinLine_126 rfl rfl ?_
    refine go_iconst hc dX10_twinLine_127 ci_1 ?_
    refine go_iadd hc dX10_twinLine_128 ?_
    refine go_iload_n hc dX10_twinLine_129 rfl rfl ?_
    obtain ⟨hg5, h⟩ := ogd_some h
    refine go_iast hc dX10_twinLine_130 ok_85 ol_85 hg5 rfl ?_
    refine go_aload_n hc dX10_twinLine_131 rfl rfl ?_
    refine go_getC (b := 85) rfl hc ho flX10_23 dX10_twinLine_132 ok_81 ?_
    refine go_iconst hc dX10_twinLine_135 ci_4 ?_
    refine go_dup2_11 hc dX10_twinLine_136 rfl rfl ?_
    refine go_iald hc dX10_twinLine_137 ok_85 ol_85 (by decide +kernel) cn_4 ?_
    refine go_iconst hc dX10_twinLine_138 ci_1 ?_
    refine go_iadd hc dX10_twinLine_139 ?_
    refine go_iast hc dX10_twinLine_140 ok_85 ol_85 (by decide +kernel) cn_4 ?_
    exact go_vret hc (oend_v h hE) hr dX10_twinLine_141
  · rw [if_neg hh] at h
    exact go_vret hc (oend_v h hE) hr dX10_twinLine_110
def fX10_twinLine_b36 : Nat → Int32 → Int32 → Int32 → Int32 → OM → Option OM
  | 0, _, _, _, _, _ => none
  | n + 1, l1, l2, l3, l4, σ =>
    if (mI σ 85 4) ≤ l4 then (
     fX10_twinLine_b103 l1 l2 l3 σ)
    else (if (mI σ 81 13) = 0 then (
     ogd (oin ((41 : Int32) + ((2 : Int32) * l4)) 279) (
     if (mI σ 85 (((41 : Int32) + ((2 : Int32) * l4)).toNatClampNeg)) = l2 then (
      ogd (oin (((41 : Int32) + ((2 : Int32) * l4)) + (1 : Int32)) 279) (
      if (mI σ 85 ((((41 : Int32) + ((2 : Int32) * l4)) + (1 : Int32)).toNatClampNeg)) = l3 then (
       obv (fX10_wrong (3 : Int32) (mI σ 81 4) σ) (fun σ4 =>
       fX10_twinLine_b36 n l1 l2 l3 (l4 + 1) σ4))
      else (fX10_twinLine_b36 n l1 l2 l3 (l4 + 1) σ)))
     else (fX10_twinLine_b36 n l1 l2 l3 (l4 + 1) σ)))
    else (fX10_twinLine_b36 n l1 l2 l3 (l4 + 1) σ))
set_option maxRecDepth 100000 in
set_option maxHeartbeats 4000000 in
theorem rX10_twinLine_b36 {K : OK} (hc : kcc K = cX10_twinLine) (ho : kow K = RX10) (hL : knL K = 5) (hN : 8 ≤ kN K) (hr : (kme K).sig.returnType = none) {σ0 : OM} (hE : oEnd K (none) σ0) (hz : kz K = 0) : ∀ (n : Nat) (l1 : Int32) (l2 : Int32) (l3 : Int32) (l4 : Int32) (σ : OM), fX10_twinLine_b36 n l1 l2 l3 l4 σ = some σ0 → Go K 36 [.ref 81, .int l1, .int l2, .int l3, .int l4] [] σ := by
  intro n
  induction n with
  | zero =>
    intro l1 l2 l3 l4 σ h
    cases h
  | succ n ih =>
    intro l1 l2 l3 l4 σ h
    rw [fX10_twinLine_b36] at h
    refine go_iload hc dX10_twinLine_36 rfl ?_
    refine go_aload_n hc dX10_twinLine_38 rfl rfl ?_
    refine go_getC (b := 85) rfl hc ho flX10_23 dX10_twinLine_39 ok_81 ?_
    refine go_iconst hc dX10_twinLine_42 ci_4 ?_
    refine go_iald hc dX10_twinLine_43 ok_85 ol_85 (by decide +kernel) cn_4 ?_
    refine go_icmp_ge (tgt := 103) hc dX10_twinLine_44 rfl (fun hh => ?_) (fun hh => ?_)
    · rw [if_pos hh] at h
      refine go_mask [true, true, true, true, false] (lv1 := [.ref 81, .int l1, .int l2, .int l3, .null]) rfl ?_
      exact rX10_twinLine_b103 hc ho hL hN hr hE hz h
    · rw [if_neg hh] at h
      refine go_aload_n hc dX10_twinLine_47 rfl rfl ?_
      refine go_getI hc ho flX10_89 dX10_twinLine_48 ok_81 ?_
      refine go_if_ne (tgt := 97) hc dX10_twinLine_51 rfl (fun hh => ?_) (fun hh => ?_)
      · rw [if_neg hh] at h
        refine go_iinc hc (lv1 := [.ref 81, .int l1, .int l2, .int l3, .int (l4 + 1)]) dX10_twinLine_97 rfl ci_1 hL (by decide) (fun _ _ e => by cases e; rfl) rfl ?_
        refine go_goto (tgt := 36) hc dX10_twinLine_100 rfl ?_
        exact ih l1 l2 l3 (l4 + 1) _ h
      · rw [if_pos hh] at h
        refine go_aload_n hc dX10_twinLine_54 rfl rfl ?_
        refine go_getC (b := 85) rfl hc ho flX10_23 dX10_twinLine_55 ok_81 ?_
        refine go_bipush hc dX10_twinLine_58 cb_41 ?_
        refine go_iconst hc dX10_twinLine_60 ci_2 ?_
        refine go_iload hc dX10_twinLine_61 rfl ?_
        refine go_imul hc dX10_twinLine_63 ?_
        refine go_iadd hc dX10_twinLine_64 ?_
        obtain ⟨hg1, h⟩ := ogd_some h
        refine go_iald hc dX10_twinLine_65 ok_85 ol_85 hg1 rfl ?_
        refine go_iload_n hc dX10_twinLine_66 rfl rfl ?_
        refine go_icmp_ne (tgt := 97) hc dX10_twinLine_67 rfl (fun hh => ?_) (fun hh => ?_)
        · rw [if_neg hh] at h
          refine go_iinc hc (lv1 := [.ref 81, .int l1, .int l2, .int l3, .int (l4 + 1)]) dX10_twinLine_97 rfl ci_1 hL (by decide) (fun _ _ e => by cases e; rfl) rfl ?_
          refine go_goto (tgt := 36) hc dX10_twinLine_100 rfl ?_
          exact ih l1 l2 l3 (l4 + 1) _ h
        · rw [if_pos hh] at h
          refine go_aload_n hc dX10_twinLine_70 rfl rfl ?_
          refine go_getC (b := 85) rfl hc ho flX10_23 dX10_twinLine_71 ok_81 ?_
          refine go_bipush hc dX10_twinLine_74 cb_41 ?_
          refine go_iconst hc dX10_twinLine_76 ci_2 ?_
          refine go_iload hc dX10_twinLine_77 rfl ?_
          refine go_imul hc dX10_twinLine_79 ?_
          refine go_iadd hc dX10_twinLine_80 ?_
          refine go_iconst hc dX10_twinLine_81 ci_1 ?_
          refine go_iadd hc dX10_twinLine_82 ?_
          obtain ⟨hg2, h⟩ := ogd_some h
          refine go_iald hc dX10_twinLine_83 ok_85 ol_85 hg2 rfl ?_
          refine go_iload_n hc dX10_twinLine_84 rfl rfl ?_
          refine go_icmp_ne (tgt := 97) hc dX10_twinLine_85 rfl (fun hh => ?_) (fun hh => ?_)
          · rw [if_neg hh] at h
            refine go_iinc hc (lv1 := [.ref 81, .int l1, .int l2, .int l3, .int (l4 + 1)]) dX10_twinLine_97 rfl ci_1 hL (by decide) (fun _ _ e => by cases e; rfl) rfl ?_
            refine go_goto (tgt := 36) hc dX10_twinLine_100 rfl ?_
            exact ih l1 l2 l3 (l4 + 1) _ h
          · rw [if_pos hh] at h
            refine go_aload_n hc dX10_twinLine_88 rfl rfl ?_
            refine go_iconst hc dX10_twinLine_89 ci_3 ?_
            refine go_aload_n hc dX10_twinLine_90 rfl rfl ?_
            refine go_getI hc ho flX10_70 dX10_twinLine_91 ok_81 ?_
            obtain ⟨σ4, hf5, h⟩ := obv_some h
            refine go_callVv hc ho cmX10_wrong mlX10_116 dX10_twinLine_94 ok_81 (As := [.int (3 : Int32), .int (mI σ 81 4)]) (rest := []) (rX10_wrong (N := 0) hf5 (Nat.le_refl _)) rfl (Nat.le_trans (Nat.le_of_ble_eq_true rfl) hN) rfl (Nat.le_of_ble_eq_true rfl) (Or.inl hz) ?_
            refine go_iinc hc (lv1 := [.ref 81, .int l1, .int l2, .int l3, .int (l4 + 1)]) dX10_twinLine_97 rfl ci_1 hL (by decide) (fun _ _ e => by cases e; rfl) rfl ?_
            refine go_goto (tgt := 36) hc dX10_twinLine_100 rfl ?_
            exact ih l1 l2 l3 (l4 + 1) _ h
def fX10_twinLine (σ : OM) : Option OM :=
  if (mI σ 81 13) = 0 then (
   obi (fX10_housePassed σ) (fun r1 σ2 =>
   obi (fX10_numberHere (0 : Int32) (30 : Int32) σ2) (fun r4 σ5 =>
   fX10_twinLine_b36 oF ((41 : Int32) + ((2 : Int32) * (mI σ 85 4))) r1 r4 (0 : Int32) σ5)))
  else (some σ)
set_option maxRecDepth 100000 in
set_option maxHeartbeats 4000000 in
theorem rX10_twinLine {N : Nat} {σ : OM} {σ0 : OM} (h : fX10_twinLine σ = some σ0) (hN0 : 8 ≤ N) : oEv N MX10_twinLine [.ref 81] σ (none) σ0 := by
  refine oEv_of (lv := [.ref 81, .null, .null, .null, .null]) (by decide +kernel) (fun g q hq => hq) (fun g => Nat.le_of_ble_eq_true rfl) ?_
  intro K hc ho hL hN1 hr hE hz
  have hN : 8 ≤ kN K := by rw [hN1]; exact hN0
  unfold fX10_twinLine at h
  refine go_aload_n hc dX10_twinLine_0 rfl rfl ?_
  refine go_getI hc ho flX10_89 dX10_twinLine_1 ok_81 ?_
  refine go_if_eq (tgt := 8) hc dX10_twinLine_4 rfl (fun hh => ?_) (fun hh => ?_)
  · rw [if_pos hh] at h
    refine go_bipush hc dX10_twinLine_8 cb_41 ?_
    refine go_iconst hc dX10_twinLine_10 ci_2 ?_
    refine go_aload_n hc dX10_twinLine_11 rfl rfl ?_
    refine go_getC (b := 85) rfl hc ho flX10_23 dX10_twinLine_12 ok_81 ?_
    refine go_iconst hc dX10_twinLine_15 ci_4 ?_
    refine go_iald hc dX10_twinLine_16 ok_85 ol_85 (by decide +kernel) cn_4 ?_
    refine go_imul hc dX10_twinLine_17 ?_
    refine go_iadd hc dX10_twinLine_18 ?_
    refine go_istore_n hc (lv1 := [.ref 81, .int ((41 : Int32) + ((2 : Int32) * (mI σ 85 4))), .null, .null, .null]) dX10_twinLine_19 rfl hL (by decide) (fun _ _ e => by cases e; rfl) rfl ?_
    refine go_aload_n hc dX10_twinLine_20 rfl rfl ?_
    obtain ⟨r1, σ2, hf3, h⟩ := obi_some h
    refine go_callVi hc ho cmX10_housePassed mlX10_280 dX10_twinLine_21 ok_81 (As := []) (rest := []) (rX10_housePassed (N := 7) hf3 (Nat.le_refl _)) rfl (Nat.le_trans (Nat.le_of_ble_eq_true rfl) hN) rfl (Nat.le_of_ble_eq_true rfl) (Or.inl hz) ?_
    refine go_istore_n hc (lv1 := [.ref 81, .int ((41 : Int32) + ((2 : Int32) * (mI σ 85 4))), .int r1, .null, .null]) dX10_twinLine_24 rfl hL (by decide) (fun _ _ e => by cases e; rfl) rfl ?_
    refine go_aload_n hc dX10_twinLine_25 rfl rfl ?_
    refine go_iconst hc dX10_twinLine_26 ci_0 ?_
    refine go_bipush hc dX10_twinLine_27 cb_30 ?_
    obtain ⟨r4, σ5, hf6, h⟩ := obi_some h
    refine go_callVi hc ho cmX10_numberHere mlX10_164 dX10_twinLine_29 ok_81 (As := [.int (0 : Int32), .int (30 : Int32)]) (rest := []) (rX10_numberHere (N := 1) hf6 (Nat.le_refl _)) rfl (Nat.le_trans (Nat.le_of_ble_eq_true rfl) hN) rfl (Nat.le_of_ble_eq_true rfl) (Or.inl hz) ?_
    refine go_istore_n hc (lv1 := [.ref 81, .int ((41 : Int32) + ((2 : Int32) * (mI σ 85 4))), .int r1, .int r4, .null]) dX10_twinLine_32 rfl hL (by decide) (fun _ _ e => by cases e; rfl) rfl ?_
    refine go_iconst hc dX10_twinLine_33 ci_0 ?_
    refine go_istore hc (lv1 := [.ref 81, .int ((41 : Int32) + ((2 : Int32) * (mI σ 85 4))), .int r1, .int r4, .int (0 : Int32)]) dX10_twinLine_34 hL (by decide) (fun _ _ e => by cases e; rfl) rfl ?_
    exact rX10_twinLine_b36 hc ho hL hN hr hE hz oF ((41 : Int32) + ((2 : Int32) * (mI σ 85 4))) r1 r4 (0 : Int32) _ h
  · rw [if_neg hh] at h
    exact go_vret hc (oend_v h hE) hr dX10_twinLine_7
def fX10_endsLine_b49 (l1 : Int32) (σ : OM) : Option OM :=
  if (mI σ 81 13) = 0 then (
   obv (fX10_pass σ) (fun σ2 =>
   obi (fX10_number (0 : Int32) (999 : Int32) σ2) (fun r4 σ5 =>
   if (mI σ5 81 13) = 0 then (
    ogd (oin (((17 : Int32) + ((4 : Int32) * l1)) + (3 : Int32)) 279) (
    some (sI σ5 85 ((((17 : Int32) + ((4 : Int32) * l1)) + (3 : Int32)).toNatClampNeg) (r4 + (1 : Int32)))))
   else (some σ5))))
  else (some σ)
set_option maxRecDepth 100000 in
set_option maxHeartbeats 4000000 in
theorem rX10_endsLine_b49 {K : OK} (hc : kcc K = cX10_endsLine) (ho : kow K = RX10) (hL : knL K = 3) (hN : 7 ≤ kN K) (hr : (kme K).sig.returnType = none) {σ0 : OM} (hE : oEnd K (none) σ0) (hz : kz K = 0) {l1 : Int32} {σ : OM} (h : fX10_endsLine_b49 l1 σ = some σ0) : Go K 49 [.ref 81, .int l1, .null] [] σ := by
  unfold fX10_endsLine_b49 at h
  refine go_aload_n hc dX10_endsLine_49 rfl rfl ?_
  refine go_getI hc ho flX10_89 dX10_endsLine_50 ok_81 ?_
  refine go_if_eq (tgt := 57) hc dX10_endsLine_53 rfl (fun hh => ?_) (fun hh => ?_)
  · rw [if_pos hh] at h
    refine go_aload_n hc dX10_endsLine_57 rfl rfl ?_
    obtain ⟨σ2, hf3, h⟩ := obv_some h
    refine go_callVv hc ho cmX10_pass mlX10_110 dX10_endsLine_58 ok_81 (As := []) (rest := []) (rX10_pass (N := 1) hf3 (Nat.le_refl _)) rfl (Nat.le_trans (Nat.le_of_ble_eq_true rfl) hN) rfl (Nat.le_of_ble_eq_true rfl) (Or.inl hz) ?_
    refine go_aload_n hc dX10_endsLine_61 rfl rfl ?_
    refine go_iconst hc dX10_endsLine_62 ci_0 ?_
    refine go_sipush hc dX10_endsLine_63 cs_999 ?_
    obtain ⟨r4, σ5, hf6, h⟩ := obi_some h
    refine go_callVi hc ho cmX10_number mlX10_171 dX10_endsLine_66 ok_81 (As := [.int (0 : Int32), .int (999 : Int32)]) (rest := []) (rX10_number (N := 2) hf6 (Nat.le_refl _)) rfl (Nat.le_trans (Nat.le_of_ble_eq_true rfl) hN) rfl (Nat.le_of_ble_eq_true rfl) (Or.inl hz) ?_
    refine go_istore_n hc (lv1 := [.ref 81, .int l1, .int r4]) dX10_endsLine_69 rfl hL (by decide) (fun _ _ e => by cases e; rfl) rfl ?_
    refine go_aload_n hc dX10_endsLine_70 rfl rfl ?_
    refine go_getI hc ho flX10_89 dX10_endsLine_71 ok_81 ?_
    refine go_if_ne (tgt := 93) hc dX10_endsLine_74 rfl (fun hh => ?_) (fun hh => ?_)
    · rw [if_neg hh] at h
      exact go_vret hc (oend_v h hE) hr dX10_endsLine_93
    · rw [if_pos hh] at h
      refine go_aload_n hc dX10_endsLine_77 rfl rfl ?_
      refine go_getC (b := 85) rfl hc ho flX10_23 dX10_endsLine_78 ok_81 ?_
      refine go_bipush hc dX10_endsLine_81 cb_17 ?_
      refine go_iconst hc dX10_endsLine_83 ci_4 ?_
      refine go_iload_n hc dX10_endsLine_84 rfl rfl ?_
      refine go_imul hc dX10_endsLine_85 ?_
      refine go_iadd hc dX10_endsLine_86 ?_
      refine go_iconst hc dX10_endsLine_87 ci_3 ?_
      refine go_iadd hc dX10_endsLine_88 ?_
      refine go_iload_n hc dX10_endsLine_89 rfl rfl ?_
      refine go_iconst hc dX10_endsLine_90 ci_1 ?_
      refine go_iadd hc dX10_endsLine_91 ?_
      obtain ⟨hg7, h⟩ := ogd_some h
      refine go_iast hc dX10_endsLine_92 ok_85 ol_85 hg7 rfl ?_
      exact go_vret hc (oend_v h hE) hr dX10_endsLine_93
  · rw [if_neg hh] at h
    exact go_vret hc (oend_v h hE) hr dX10_endsLine_56
def fX10_endsLine (σ : OM) : Option OM :=
  if (mI σ 81 13) = 0 then (
   obi (fX10_named (6 : Int32) (11 : Int32) σ) (fun r1 σ2 =>
   if (mI σ2 81 13) = 0 then (
    ogd (oin (((17 : Int32) + ((4 : Int32) * r1)) + (3 : Int32)) 279) (
    if (mI σ2 85 ((((17 : Int32) + ((4 : Int32) * r1)) + (3 : Int32)).toNatClampNeg)) ≤ 0 then (
     fX10_endsLine_b49 r1 σ2)
    else (obv (fX10_wrong (3 : Int32) (mI σ2 81 4) σ2) (fun σ6 =>
    fX10_endsLine_b49 r1 σ6))))
   else (fX10_endsLine_b49 r1 σ2)))
  else (some σ)
set_option maxRecDepth 100000 in
set_option maxHeartbeats 4000000 in
theorem rX10_endsLine {N : Nat} {σ : OM} {σ0 : OM} (h : fX10_endsLine σ = some σ0) (hN0 : 7 ≤ N) : oEv N MX10_endsLine [.ref 81] σ (none) σ0 := by
  refine oEv_of (lv := [.ref 81, .null, .null]) (by decide +kernel) (fun g q hq => hq) (fun g => Nat.le_of_ble_eq_true rfl) ?_
  intro K hc ho hL hN1 hr hE hz
  have hN : 7 ≤ kN K := by rw [hN1]; exact hN0
  unfold fX10_endsLine at h
  refine go_aload_n hc dX10_endsLine_0 rfl rfl ?_
  refine go_getI hc ho flX10_89 dX10_endsLine_1 ok_81 ?_
  refine go_if_eq (tgt := 8) hc dX10_endsLine_4 rfl (fun hh => ?_) (fun hh => ?_)
  · rw [if_pos hh] at h
    refine go_aload_n hc dX10_endsLine_8 rfl rfl ?_
    refine go_bipush hc dX10_endsLine_9 cb_6 ?_
    refine go_bipush hc dX10_endsLine_11 cb_11 ?_
    obtain ⟨r1, σ2, hf3, h⟩ := obi_some h
    refine go_callVi hc ho cmX10_named mlX10_160 dX10_endsLine_13 ok_81 (As := [.int (6 : Int32), .int (11 : Int32)]) (rest := []) (rX10_named (N := 6) hf3 (Nat.le_refl _)) rfl (Nat.le_trans (Nat.le_of_ble_eq_true rfl) hN) rfl (Nat.le_of_ble_eq_true rfl) (Or.inl hz) ?_
    refine go_istore_n hc (lv1 := [.ref 81, .int r1, .null]) dX10_endsLine_16 rfl hL (by decide) (fun _ _ e => by cases e; rfl) rfl ?_
    refine go_aload_n hc dX10_endsLine_17 rfl rfl ?_
    refine go_getI hc ho flX10_89 dX10_endsLine_18 ok_81 ?_
    refine go_if_ne (tgt := 49) hc dX10_endsLine_21 rfl (fun hh => ?_) (fun hh => ?_)
    · rw [if_neg hh] at h
      exact rX10_endsLine_b49 hc ho hL hN hr hE hz h
    · rw [if_pos hh] at h
      refine go_aload_n hc dX10_endsLine_24 rfl rfl ?_
      refine go_getC (b := 85) rfl hc ho flX10_23 dX10_endsLine_25 ok_81 ?_
      refine go_bipush hc dX10_endsLine_28 cb_17 ?_
      refine go_iconst hc dX10_endsLine_30 ci_4 ?_
      refine go_iload_n hc dX10_endsLine_31 rfl rfl ?_
      refine go_imul hc dX10_endsLine_32 ?_
      refine go_iadd hc dX10_endsLine_33 ?_
      refine go_iconst hc dX10_endsLine_34 ci_3 ?_
      refine go_iadd hc dX10_endsLine_35 ?_
      obtain ⟨hg4, h⟩ := ogd_some h
      refine go_iald hc dX10_endsLine_36 ok_85 ol_85 hg4 rfl ?_
      refine go_if_le (tgt := 49) hc dX10_endsLine_37 rfl (fun hh => ?_) (fun hh => ?_)
      · rw [if_pos hh] at h
        exact rX10_endsLine_b49 hc ho hL hN hr hE hz h
      · rw [if_neg hh] at h
        refine go_aload_n hc dX10_endsLine_40 rfl rfl ?_
        refine go_iconst hc dX10_endsLine_41 ci_3 ?_
        refine go_aload_n hc dX10_endsLine_42 rfl rfl ?_
        refine go_getI hc ho flX10_70 dX10_endsLine_43 ok_81 ?_
        obtain ⟨σ6, hf7, h⟩ := obv_some h
        refine go_callVv hc ho cmX10_wrong mlX10_116 dX10_endsLine_46 ok_81 (As := [.int (3 : Int32), .int (mI σ2 81 4)]) (rest := []) (rX10_wrong (N := 0) hf7 (Nat.le_refl _)) rfl (Nat.le_trans (Nat.le_of_ble_eq_true rfl) hN) rfl (Nat.le_of_ble_eq_true rfl) (Or.inl hz) ?_
        exact rX10_endsLine_b49 hc ho hL hN hr hE hz h
  · rw [if_neg hh] at h
    exact go_vret hc (oend_v h hE) hr dX10_endsLine_7
def fX10_questionLine (σ : OM) : Option OM :=
  if (mI σ 81 13) = 0 then (
   obv (fX10_newName ((12 : Int32) + (mI σ 85 5)) σ) (fun σ2 =>
   obi (fX10_formula (fX10_factor oR) (sI (sI σ2 81 24 (0 : Int32)) 81 25 (0 : Int32))) (fun r4 σ5 =>
   if (mI σ5 81 13) = 0 then (
    ogd (oin (mI σ 85 5) 9) (
    some (sI (sL σ5 87 ((mI σ 85 5).toNatClampNeg) r4) 85 5 ((mI (sL σ5 87 ((mI σ 85 5).toNatClampNeg) r4) 85 5) + (1 : Int32)))))
   else (some σ5))))
  else (some σ)
set_option maxRecDepth 100000 in
set_option maxHeartbeats 4000000 in
theorem rX10_questionLine {N : Nat} {σ : OM} {σ0 : OM} (h : fX10_questionLine σ = some σ0) (hN0 : 969 ≤ N) : oEv N MX10_questionLine [.ref 81] σ (none) σ0 := by
  refine oEv_of (lv := [.ref 81, .null, .null, .null]) (by decide +kernel) (fun g q hq => hq) (fun g => Nat.le_of_ble_eq_true rfl) ?_
  intro K hc ho hL hN1 hr hE hz
  have hN : 969 ≤ kN K := by rw [hN1]; exact hN0
  unfold fX10_questionLine at h
  refine go_aload_n hc dX10_questionLine_0 rfl rfl ?_
  refine go_getI hc ho flX10_89 dX10_questionLine_1 ok_81 ?_
  refine go_if_eq (tgt := 8) hc dX10_questionLine_4 rfl (fun hh => ?_) (fun hh => ?_)
  · rw [if_pos hh] at h
    refine go_aload_n hc dX10_questionLine_8 rfl rfl ?_
    refine go_getC (b := 85) rfl hc ho flX10_23 dX10_questionLine_9 ok_81 ?_
    refine go_iconst hc dX10_questionLine_12 ci_5 ?_
    refine go_iald hc dX10_questionLine_13 ok_85 ol_85 (by decide +kernel) cn_5 ?_
    refine go_istore_n hc (lv1 := [.ref 81, .int (mI σ 85 5), .null, .null]) dX10_questionLine_14 rfl hL (by decide) (fun _ _ e => by cases e; rfl) rfl ?_
    refine go_aload_n hc dX10_questionLine_15 rfl rfl ?_
    refine go_bipush hc dX10_questionLine_16 cb_12 ?_
    refine go_iload_n hc dX10_questionLine_18 rfl rfl ?_
    refine go_iadd hc dX10_questionLine_19 ?_
    obtain ⟨σ2, hf3, h⟩ := obv_some h
    refine go_callVv hc ho cmX10_newName mlX10_265 dX10_questionLine_20 ok_81 (As := [.int ((12 : Int32) + (mI σ 85 5))]) (rest := []) (rX10_newName (N := 6) hf3 (Nat.le_refl _)) rfl (Nat.le_trans (Nat.le_of_ble_eq_true rfl) hN) rfl (Nat.le_of_ble_eq_true rfl) (Or.inl hz) ?_
    refine go_aload_n hc dX10_questionLine_23 rfl rfl ?_
    refine go_iconst hc dX10_questionLine_24 ci_0 ?_
    refine go_putI hc ho fpX10_192 dX10_questionLine_25 ok_81 (fun g => oni g _) (fun _ => rfl) ?_
    refine go_aload_n hc dX10_questionLine_28 rfl rfl ?_
    refine go_iconst hc dX10_questionLine_29 ci_0 ?_
    refine go_putI hc ho fpX10_183 dX10_questionLine_30 ok_81 (fun g => oni g _) (fun _ => rfl) ?_
    refine go_aload_n hc dX10_questionLine_33 rfl rfl ?_
    obtain ⟨r4, σ5, hf6, h⟩ := obi_some h
    refine go_callVl hc ho cmX10_formula mlX10_186 dX10_questionLine_34 ok_81 (As := []) (rest := []) (rX10_formula (ND := 6 + 3 * oR) (N := 6 + 3 * oR + 2) (Nat.le_add_right _ _) (fun σ r σ1 hh => rX10_factor oR σ r σ1 _ hh (Nat.le_refl _)) hf6 (Nat.le_refl _)) rfl (by have := hN; show _ ≤ _; simp only [oR, oP] at *; omega) rfl (Nat.le_of_ble_eq_true rfl) (Or.inl hz) ?_
    refine go_lstore_n hc (lv1 := [.ref 81, .int (mI σ 85 5), .long r4, .null]) dX10_questionLine_37 rfl hL (by decide) (fun _ _ e => by cases e; rfl) rfl ?_
    refine go_aload_n hc dX10_questionLine_38 rfl rfl ?_
    refine go_getI hc ho flX10_89 dX10_questionLine_39 ok_81 ?_
    refine go_if_eq (tgt := 46) hc dX10_questionLine_42 rfl (fun hh => ?_) (fun hh => ?_)
    · rw [if_pos hh] at h
      refine go_aload_n hc dX10_questionLine_46 rfl rfl ?_
      refine go_getC (b := 87) rfl hc ho flX10_30 dX10_questionLine_47 ok_81 ?_
      refine go_iload_n hc dX10_questionLine_50 rfl rfl ?_
      refine go_lload_n hc dX10_questionLine_51 rfl rfl ?_
      obtain ⟨hg7, h⟩ := ogd_some h
      refine go_last hc dX10_questionLine_52 ok_87 ol_87 hg7 rfl ?_
      refine go_aload_n hc dX10_questionLine_53 rfl rfl ?_
      refine go_getC (b := 85) rfl hc ho flX10_23 dX10_questionLine_54 ok_81 ?_
      refine go_iconst hc dX10_questionLine_57 ci_5 ?_
      refine go_dup2_11 hc dX10_questionLine_58 rfl rfl ?_
      refine go_iald hc dX10_questionLine_59 ok_85 ol_85 (by decide +kernel) cn_5 ?_
      refine go_iconst hc dX10_questionLine_60 ci_1 ?_
      refine go_iadd hc dX10_questionLine_61 ?_
      refine go_iast hc dX10_questionLine_62 ok_85 ol_85 (by decide +kernel) cn_5 ?_
      exact go_vret hc (oend_v h hE) hr dX10_questionLine_63
    · rw [if_neg hh] at h
      exact go_vret hc (oend_v h hE) hr dX10_questionLine_45
  · rw [if_neg hh] at h
    exact go_vret hc (oend_v h hE) hr dX10_questionLine_7
def fX10_yes (σ : OM) : Option (Int32 × OM) :=
  obi (fX10_takesWord 20 σ) (fun r1 σ2 =>
  if r1 = 0 then (
   obv (fX10_must 21 σ2) (fun σ5 =>
   some ((0 : Int32), σ5)))
  else (some ((1 : Int32), σ2)))
set_option maxRecDepth 100000 in
set_option maxHeartbeats 4000000 in
theorem rX10_yes {N : Nat} {σ : OM} {r0 : Int32} {σ0 : OM} (h : fX10_yes σ = some (r0, σ0)) (hN0 : 7 ≤ N) : oEv N MX10_yes [.ref 81] σ (some (.int r0)) σ0 := by
  refine oEv_of (lv := [.ref 81]) (by decide +kernel) (fun g q hq => hq) (fun g => Nat.le_of_ble_eq_true rfl) ?_
  intro K hc ho hL hN1 hr hE hz
  have hN : 7 ≤ kN K := by rw [hN1]; exact hN0
  unfold fX10_yes at h
  refine go_aload_n hc dX10_yes_0 rfl rfl ?_
  refine go_strW hc ho os_20 dX10_yes_1 ?_
  obtain ⟨r1, σ2, hf3, h⟩ := obi_some h
  refine go_callVi hc ho cmX10_takesWord mlX10_113 dX10_yes_4 ok_81 (As := [.ref (200 + 20)]) (rest := []) (rX10_takesWord (N := 5) (by decide) hf3 (Nat.le_refl _)) rfl (Nat.le_trans (Nat.le_of_ble_eq_true rfl) hN) rfl (Nat.le_of_ble_eq_true rfl) (Or.inl hz) ?_
  refine go_if_eq (tgt := 12) hc dX10_yes_7 rfl (fun hh => ?_) (fun hh => ?_)
  · rw [if_pos hh] at h
    refine go_aload_n hc dX10_yes_12 rfl rfl ?_
    refine go_strW hc ho os_21 dX10_yes_13 ?_
    obtain ⟨σ5, hf6, h⟩ := obv_some h
    refine go_callVv hc ho cmX10_must mlX10_167 dX10_yes_16 ok_81 (As := [.ref (200 + 21)]) (rest := []) (rX10_must (N := 6) (by decide) hf6 (Nat.le_refl _)) rfl (Nat.le_trans (Nat.le_of_ble_eq_true rfl) hN) rfl (Nat.le_of_ble_eq_true rfl) (Or.inl hz) ?_
    refine go_iconst hc dX10_yes_19 ci_0 ?_
    exact go_iret hc (oend_i h hE) hr dX10_yes_20
  · rw [if_neg hh] at h
    refine go_iconst hc dX10_yes_10 ci_1 ?_
    exact go_iret hc (oend_i h hE) hr dX10_yes_11
def fX10_toldLine_b58 (l1 : Int32) (σ : OM) : Option OM :=
  obi (fX10_yes σ) (fun r1 σ2 =>
  ogd (oin (l1 + (2 : Int32)) 279) (
  if (mI (sI σ2 85 ((l1 + (2 : Int32)).toNatClampNeg) r1) 81 13) = 0 then (
   some (sI (sI σ2 85 ((l1 + (2 : Int32)).toNatClampNeg) r1) 85 6 ((mI (sI σ2 85 ((l1 + (2 : Int32)).toNatClampNeg) r1) 85 6) + (1 : Int32))))
  else (some (sI σ2 85 ((l1 + (2 : Int32)).toNatClampNeg) r1))))
set_option maxRecDepth 100000 in
set_option maxHeartbeats 4000000 in
theorem rX10_toldLine_b58 {K : OK} (hc : kcc K = cX10_toldLine) (ho : kow K = RX10) (hL : knL K = 2) (hN : 8 ≤ kN K) (hr : (kme K).sig.returnType = none) {σ0 : OM} (hE : oEnd K (none) σ0) (hz : kz K = 0) {l1 : Int32} {σ : OM} (h : fX10_toldLine_b58 l1 σ = some σ0) : Go K 58 [.ref 81, .int l1] [] σ := by
  unfold fX10_toldLine_b58 at h
  refine go_aload_n hc dX10_toldLine_58 rfl rfl ?_
  refine go_getC (b := 85) rfl hc ho flX10_23 dX10_toldLine_59 ok_81 ?_
  refine go_iload_n hc dX10_toldLine_62 rfl rfl ?_
  refine go_iconst hc dX10_toldLine_63 ci_2 ?_
  refine go_iadd hc dX10_toldLine_64 ?_
  refine go_aload_n hc dX10_toldLine_65 rfl rfl ?_
  obtain ⟨r1, σ2, hf3, h⟩ := obi_some h
  refine go_callVi hc ho cmX10_yes mlX10_286 dX10_toldLine_66 ok_81 (As := []) (rest := [.int (l1 + (2 : Int32)), .ref 85]) (rX10_yes (N := 7) hf3 (Nat.le_refl _)) rfl (Nat.le_trans (Nat.le_of_ble_eq_true rfl) hN) rfl (Nat.le_of_ble_eq_true rfl) (Or.inl hz) ?_
  obtain ⟨hg4, h⟩ := ogd_some h
  refine go_iast hc dX10_toldLine_69 ok_85 ol_85 hg4 rfl ?_
  refine go_aload_n hc dX10_toldLine_70 rfl rfl ?_
  refine go_getI hc ho flX10_89 dX10_toldLine_71 ok_81 ?_
  refine go_if_ne (tgt := 88) hc dX10_toldLine_74 rfl (fun hh => ?_) (fun hh => ?_)
  · rw [if_neg hh] at h
    exact go_vret hc (oend_v h hE) hr dX10_toldLine_88
  · rw [if_pos hh] at h
    refine go_aload_n hc dX10_toldLine_77 rfl rfl ?_
    refine go_getC (b := 85) rfl hc ho flX10_23 dX10_toldLine_78 ok_81 ?_
    refine go_bipush hc dX10_toldLine_81 cb_6 ?_
    refine go_dup2_11 hc dX10_toldLine_83 rfl rfl ?_
    refine go_iald hc dX10_toldLine_84 ok_85 ol_85 (by decide +kernel) cn_6 ?_
    refine go_iconst hc dX10_toldLine_85 ci_1 ?_
    refine go_iadd hc dX10_toldLine_86 ?_
    refine go_iast hc dX10_toldLine_87 ok_85 ol_85 (by decide +kernel) cn_6 ?_
    exact go_vret hc (oend_v h hE) hr dX10_toldLine_88
def fX10_toldLine (σ : OM) : Option OM :=
  if (mI σ 81 13) = 0 then (
   obi (fX10_housePassed σ) (fun r1 σ2 =>
   ogd (oin ((53 : Int32) + ((3 : Int32) * (mI σ 85 6))) 279) (
   obi (fX10_named (12 : Int32) (19 : Int32) (sI σ2 85 (((53 : Int32) + ((3 : Int32) * (mI σ 85 6))).toNatClampNeg) r1)) (fun r5 σ6 =>
   ogd (oin (((53 : Int32) + ((3 : Int32) * (mI σ 85 6))) + (1 : Int32)) 279) (
   if (mI (sI σ6 85 ((((53 : Int32) + ((3 : Int32) * (mI σ 85 6))) + (1 : Int32)).toNatClampNeg) r5) 81 13) = 0 then (
    obv (fX10_pass (sI σ6 85 ((((53 : Int32) + ((3 : Int32) * (mI σ 85 6))) + (1 : Int32)).toNatClampNeg) r5)) (fun σ10 =>
    fX10_toldLine_b58 ((53 : Int32) + ((3 : Int32) * (mI σ 85 6))) σ10))
   else (fX10_toldLine_b58 ((53 : Int32) + ((3 : Int32) * (mI σ 85 6))) (sI σ6 85 ((((53 : Int32) + ((3 : Int32) * (mI σ 85 6))) + (1 : Int32)).toNatClampNeg) r5)))))))
  else (some σ)
set_option maxRecDepth 100000 in
set_option maxHeartbeats 4000000 in
theorem rX10_toldLine {N : Nat} {σ : OM} {σ0 : OM} (h : fX10_toldLine σ = some σ0) (hN0 : 8 ≤ N) : oEv N MX10_toldLine [.ref 81] σ (none) σ0 := by
  refine oEv_of (lv := [.ref 81, .null]) (by decide +kernel) (fun g q hq => hq) (fun g => Nat.le_of_ble_eq_true rfl) ?_
  intro K hc ho hL hN1 hr hE hz
  have hN : 8 ≤ kN K := by rw [hN1]; exact hN0
  unfold fX10_toldLine at h
  refine go_aload_n hc dX10_toldLine_0 rfl rfl ?_
  refine go_getI hc ho flX10_89 dX10_toldLine_1 ok_81 ?_
  refine go_if_eq (tgt := 8) hc dX10_toldLine_4 rfl (fun hh => ?_) (fun hh => ?_)
  · rw [if_pos hh] at h
    refine go_bipush hc dX10_toldLine_8 cb_53 ?_
    refine go_iconst hc dX10_toldLine_10 ci_3 ?_
    refine go_aload_n hc dX10_toldLine_11 rfl rfl ?_
    refine go_getC (b := 85) rfl hc ho flX10_23 dX10_toldLine_12 ok_81 ?_
    refine go_bipush hc dX10_toldLine_15 cb_6 ?_
    refine go_iald hc dX10_toldLine_17 ok_85 ol_85 (by decide +kernel) cn_6 ?_
    refine go_imul hc dX10_toldLine_18 ?_
    refine go_iadd hc dX10_toldLine_19 ?_
    refine go_istore_n hc (lv1 := [.ref 81, .int ((53 : Int32) + ((3 : Int32) * (mI σ 85 6)))]) dX10_toldLine_20 rfl hL (by decide) (fun _ _ e => by cases e; rfl) rfl ?_
    refine go_aload_n hc dX10_toldLine_21 rfl rfl ?_
    refine go_getC (b := 85) rfl hc ho flX10_23 dX10_toldLine_22 ok_81 ?_
    refine go_iload_n hc dX10_toldLine_25 rfl rfl ?_
    refine go_aload_n hc dX10_toldLine_26 rfl rfl ?_
    obtain ⟨r1, σ2, hf3, h⟩ := obi_some h
    refine go_callVi hc ho cmX10_housePassed mlX10_280 dX10_toldLine_27 ok_81 (As := []) (rest := [.int ((53 : Int32) + ((3 : Int32) * (mI σ 85 6))), .ref 85]) (rX10_housePassed (N := 7) hf3 (Nat.le_refl _)) rfl (Nat.le_trans (Nat.le_of_ble_eq_true rfl) hN) rfl (Nat.le_of_ble_eq_true rfl) (Or.inl hz) ?_
    obtain ⟨hg4, h⟩ := ogd_some h
    refine go_iast hc dX10_toldLine_30 ok_85 ol_85 hg4 rfl ?_
    refine go_aload_n hc dX10_toldLine_31 rfl rfl ?_
    refine go_getC (b := 85) rfl hc ho flX10_23 dX10_toldLine_32 ok_81 ?_
    refine go_iload_n hc dX10_toldLine_35 rfl rfl ?_
    refine go_iconst hc dX10_toldLine_36 ci_1 ?_
    refine go_iadd hc dX10_toldLine_37 ?_
    refine go_aload_n hc dX10_toldLine_38 rfl rfl ?_
    refine go_bipush hc dX10_toldLine_39 cb_12 ?_
    refine go_bipush hc dX10_toldLine_41 cb_19 ?_
    obtain ⟨r5, σ6, hf7, h⟩ := obi_some h
    refine go_callVi hc ho cmX10_named mlX10_160 dX10_toldLine_43 ok_81 (As := [.int (12 : Int32), .int (19 : Int32)]) (rest := [.int (((53 : Int32) + ((3 : Int32) * (mI σ 85 6))) + (1 : Int32)), .ref 85]) (rX10_named (N := 6) hf7 (Nat.le_refl _)) rfl (Nat.le_trans (Nat.le_of_ble_eq_true rfl) hN) rfl (Nat.le_of_ble_eq_true rfl) (Or.inl hz) ?_
    obtain ⟨hg8, h⟩ := ogd_some h
    refine go_iast hc dX10_toldLine_46 ok_85 ol_85 hg8 rfl ?_
    refine go_aload_n hc dX10_toldLine_47 rfl rfl ?_
    refine go_getI hc ho flX10_89 dX10_toldLine_48 ok_81 ?_
    refine go_if_ne (tgt := 58) hc dX10_toldLine_51 rfl (fun hh => ?_) (fun hh => ?_)
    · rw [if_neg hh] at h
      exact rX10_toldLine_b58 hc ho hL hN hr hE hz h
    · rw [if_pos hh] at h
      refine go_aload_n hc dX10_toldLine_54 rfl rfl ?_
      obtain ⟨σ10, hf11, h⟩ := obv_some h
      refine go_callVv hc ho cmX10_pass mlX10_110 dX10_toldLine_55 ok_81 (As := []) (rest := []) (rX10_pass (N := 1) hf11 (Nat.le_refl _)) rfl (Nat.le_trans (Nat.le_of_ble_eq_true rfl) hN) rfl (Nat.le_of_ble_eq_true rfl) (Or.inl hz) ?_
      exact rX10_toldLine_b58 hc ho hL hN hr hE hz h
  · rw [if_neg hh] at h
    exact go_vret hc (oend_v h hE) hr dX10_toldLine_7
def fX10_stoneLine (σ : OM) : Option OM :=
  if (mI σ 81 13) = 0 then (
   obi (fX10_yes σ) (fun r1 σ2 =>
   if (mI σ2 81 13) = 0 then (
    ogd (oin ((89 : Int32) + (mI σ2 85 7)) 279) (
    some (sI (sI σ2 85 (((89 : Int32) + (mI σ2 85 7)).toNatClampNeg) r1) 85 7 ((mI (sI σ2 85 (((89 : Int32) + (mI σ2 85 7)).toNatClampNeg) r1) 85 7) + (1 : Int32)))))
   else (some σ2)))
  else (some σ)
set_option maxRecDepth 100000 in
set_option maxHeartbeats 4000000 in
theorem rX10_stoneLine {N : Nat} {σ : OM} {σ0 : OM} (h : fX10_stoneLine σ = some σ0) (hN0 : 8 ≤ N) : oEv N MX10_stoneLine [.ref 81] σ (none) σ0 := by
  refine oEv_of (lv := [.ref 81, .null]) (by decide +kernel) (fun g q hq => hq) (fun g => Nat.le_of_ble_eq_true rfl) ?_
  intro K hc ho hL hN1 hr hE hz
  have hN : 8 ≤ kN K := by rw [hN1]; exact hN0
  unfold fX10_stoneLine at h
  refine go_aload_n hc dX10_stoneLine_0 rfl rfl ?_
  refine go_getI hc ho flX10_89 dX10_stoneLine_1 ok_81 ?_
  refine go_if_eq (tgt := 8) hc dX10_stoneLine_4 rfl (fun hh => ?_) (fun hh => ?_)
  · rw [if_pos hh] at h
    refine go_aload_n hc dX10_stoneLine_8 rfl rfl ?_
    obtain ⟨r1, σ2, hf3, h⟩ := obi_some h
    refine go_callVi hc ho cmX10_yes mlX10_286 dX10_stoneLine_9 ok_81 (As := []) (rest := []) (rX10_yes (N := 7) hf3 (Nat.le_refl _)) rfl (Nat.le_trans (Nat.le_of_ble_eq_true rfl) hN) rfl (Nat.le_of_ble_eq_true rfl) (Or.inl hz) ?_
    refine go_istore_n hc (lv1 := [.ref 81, .int r1]) dX10_stoneLine_12 rfl hL (by decide) (fun _ _ e => by cases e; rfl) rfl ?_
    refine go_aload_n hc dX10_stoneLine_13 rfl rfl ?_
    refine go_getI hc ho flX10_89 dX10_stoneLine_14 ok_81 ?_
    refine go_if_eq (tgt := 21) hc dX10_stoneLine_17 rfl (fun hh => ?_) (fun hh => ?_)
    · rw [if_pos hh] at h
      refine go_aload_n hc dX10_stoneLine_21 rfl rfl ?_
      refine go_getC (b := 85) rfl hc ho flX10_23 dX10_stoneLine_22 ok_81 ?_
      refine go_bipush hc dX10_stoneLine_25 cb_89 ?_
      refine go_aload_n hc dX10_stoneLine_27 rfl rfl ?_
      refine go_getC (b := 85) rfl hc ho flX10_23 dX10_stoneLine_28 ok_81 ?_
      refine go_bipush hc dX10_stoneLine_31 cb_7 ?_
      refine go_iald hc dX10_stoneLine_33 ok_85 ol_85 (by decide +kernel) cn_7 ?_
      refine go_iadd hc dX10_stoneLine_34 ?_
      refine go_iload_n hc dX10_stoneLine_35 rfl rfl ?_
      obtain ⟨hg4, h⟩ := ogd_some h
      refine go_iast hc dX10_stoneLine_36 ok_85 ol_85 hg4 rfl ?_
      refine go_aload_n hc dX10_stoneLine_37 rfl rfl ?_
      refine go_getC (b := 85) rfl hc ho flX10_23 dX10_stoneLine_38 ok_81 ?_
      refine go_bipush hc dX10_stoneLine_41 cb_7 ?_
      refine go_dup2_11 hc dX10_stoneLine_43 rfl rfl ?_
      refine go_iald hc dX10_stoneLine_44 ok_85 ol_85 (by decide +kernel) cn_7 ?_
      refine go_iconst hc dX10_stoneLine_45 ci_1 ?_
      refine go_iadd hc dX10_stoneLine_46 ?_
      refine go_iast hc dX10_stoneLine_47 ok_85 ol_85 (by decide +kernel) cn_7 ?_
      exact go_vret hc (oend_v h hE) hr dX10_stoneLine_48
    · rw [if_neg hh] at h
      exact go_vret hc (oend_v h hE) hr dX10_stoneLine_20
  · rw [if_neg hh] at h
    exact go_vret hc (oend_v h hE) hr dX10_stoneLine_7
def fX10_wedsLine_b59 (l1 : Int32) (l2 : Int32) (σ : OM) : Option OM :=
  if (mI σ 81 13) = 0 then (
   obv (fX10_pass σ) (fun σ2 =>
   ogd (oin ((93 : Int32) + l1) 279) (
   ogd (oin ((93 : Int32) + l1) 279) (
   ogd (oin ((93 : Int32) + l2) 279) (
   ogd (oin ((93 : Int32) + l2) 279) (
   some (sI (sI (sI σ2 85 (((93 : Int32) + l1).toNatClampNeg) ((mI σ2 85 (((93 : Int32) + l1).toNatClampNeg)) ||| ((1 : Int32) <<< (l2 &&& 31)))) 85 (((93 : Int32) + l2).toNatClampNeg) ((mI (sI σ2 85 (((93 : Int32) + l1).toNatClampNeg) ((mI σ2 85 (((93 : Int32) + l1).toNatClampNeg)) ||| ((1 : Int32) <<< (l2 &&& 31)))) 85 (((93 : Int32) + l2).toNatClampNeg)) ||| ((1 : Int32) <<< (l1 &&& 31)))) 85 8 ((mI (sI (sI σ2 85 (((93 : Int32) + l1).toNatClampNeg) ((mI σ2 85 (((93 : Int32) + l1).toNatClampNeg)) ||| ((1 : Int32) <<< (l2 &&& 31)))) 85 (((93 : Int32) + l2).toNatClampNeg) ((mI (sI σ2 85 (((93 : Int32) + l1).toNatClampNeg) ((mI σ2 85 (((93 : Int32) + l1).toNatClampNeg)) ||| ((1 : Int32) <<< (l2 &&& 31)))) 85 (((93 : Int32) + l2).toNatClampNeg)) ||| ((1 : Int32) <<< (l1 &&& 31)))) 85 8) + (1 : Int32)))))))))
  else (some σ)
set_option maxRecDepth 100000 in
set_option maxHeartbeats 4000000 in
theorem rX10_wedsLine_b59 {K : OK} (hc : kcc K = cX10_wedsLine) (ho : kow K = RX10) (hL : knL K = 3) (hN : 8 ≤ kN K) (hr : (kme K).sig.returnType = none) {σ0 : OM} (hE : oEnd K (none) σ0) (hz : kz K = 0) {l1 : Int32} {l2 : Int32} {σ : OM} (h : fX10_wedsLine_b59 l1 l2 σ = some σ0) : Go K 59 [.ref 81, .int l1, .int l2] [] σ := by
  unfold fX10_wedsLine_b59 at h
  refine go_aload_n hc dX10_wedsLine_59 rfl rfl ?_
  refine go_getI hc ho flX10_89 dX10_wedsLine_60 ok_81 ?_
  refine go_if_eq (tgt := 67) hc dX10_wedsLine_63 rfl (fun hh => ?_) (fun hh => ?_)
  · rw [if_pos hh] at h
    refine go_aload_n hc dX10_wedsLine_67 rfl rfl ?_
    obtain ⟨σ2, hf3, h⟩ := obv_some h
    refine go_callVv hc ho cmX10_pass mlX10_110 dX10_wedsLine_68 ok_81 (As := []) (rest := []) (rX10_pass (N := 1) hf3 (Nat.le_refl _)) rfl (Nat.le_trans (Nat.le_of_ble_eq_true rfl) hN) rfl (Nat.le_of_ble_eq_true rfl) (Or.inl hz) ?_
    refine go_aload_n hc dX10_wedsLine_71 rfl rfl ?_
    refine go_getC (b := 85) rfl hc ho flX10_23 dX10_wedsLine_72 ok_81 ?_
    refine go_bipush hc dX10_wedsLine_75 cb_93 ?_
    refine go_iload_n hc dX10_wedsLine_77 rfl rfl ?_
    refine go_iadd hc dX10_wedsLine_78 ?_
    refine go_dup2_11 hc dX10_wedsLine_79 rfl rfl ?_
    obtain ⟨hg4, h⟩ := ogd_some h
    refine go_iald hc dX10_wedsLine_80 ok_85 ol_85 hg4 rfl ?_
    refine go_iconst hc dX10_wedsLine_81 ci_1 ?_
    refine go_iload_n hc dX10_wedsLine_82 rfl rfl ?_
    refine go_ishl hc dX10_wedsLine_83 ?_
    refine go_ior hc dX10_wedsLine_84 ?_
    obtain ⟨hg5, h⟩ := ogd_some h
    refine go_iast hc dX10_wedsLine_85 ok_85 ol_85 hg5 rfl ?_
    refine go_aload_n hc dX10_wedsLine_86 rfl rfl ?_
    refine go_getC (b := 85) rfl hc ho flX10_23 dX10_wedsLine_87 ok_81 ?_
    refine go_bipush hc dX10_wedsLine_90 cb_93 ?_
    refine go_iload_n hc dX10_wedsLine_92 rfl rfl ?_
    refine go_iadd hc dX10_wedsLine_93 ?_
    refine go_dup2_11 hc dX10_wedsLine_94 rfl rfl ?_
    obtain ⟨hg6, h⟩ := ogd_some h
    refine go_iald hc dX10_wedsLine_95 ok_85 ol_85 hg6 rfl ?_
    refine go_iconst hc dX10_wedsLine_96 ci_1 ?_
    refine go_iload_n hc dX10_wedsLine_97 rfl rfl ?_
    refine go_ishl hc dX10_wedsLine_98 ?_
    refine go_ior hc dX10_wedsLine_99 ?_
    obtain ⟨hg7, h⟩ := ogd_some h
    refine go_iast hc dX10_wedsLine_100 ok_85 ol_85 hg7 rfl ?_
    refine go_aload_n hc dX10_wedsLine_101 rfl rfl ?_
    refine go_getC (b := 85) rfl hc ho flX10_23 dX10_wedsLine_102 ok_81 ?_
    refine go_bipush hc dX10_wedsLine_105 cb_8 ?_
    refine go_dup2_11 hc dX10_wedsLine_107 rfl rfl ?_
    refine go_iald hc dX10_wedsLine_108 ok_85 ol_85 (by decide +kernel) cn_8 ?_
    refine go_iconst hc dX10_wedsLine_109 ci_1 ?_
    refine go_iadd hc dX10_wedsLine_110 ?_
    refine go_iast hc dX10_wedsLine_111 ok_85 ol_85 (by decide +kernel) cn_8 ?_
    exact go_vret hc (oend_v h hE) hr dX10_wedsLine_112
  · rw [if_neg hh] at h
    exact go_vret hc (oend_v h hE) hr dX10_wedsLine_66
def fX10_wedsLine (σ : OM) : Option OM :=
  if (mI σ 81 13) = 0 then (
   obi (fX10_housePassed σ) (fun r1 σ2 =>
   obi (fX10_named (6 : Int32) (11 : Int32) σ2) (fun r4 σ5 =>
   if (mI σ5 81 13) = 0 then (
    if r1 = r4 then (
     obv (fX10_wrong (3 : Int32) (mI σ5 81 4) σ5) (fun σ8 =>
     fX10_wedsLine_b59 r1 r4 σ8))
    else (ogd (oin ((93 : Int32) + r1) 279) (
    obi (fX10_hasBit (mI σ5 85 (((93 : Int32) + r1).toNatClampNeg)) r4 σ5) (fun r11 σ12 =>
    if r11 = 0 then (
     fX10_wedsLine_b59 r1 r4 σ12)
    else (obv (fX10_wrong (3 : Int32) (mI σ12 81 4) σ12) (fun σ15 =>
    fX10_wedsLine_b59 r1 r4 σ15))))))
   else (fX10_wedsLine_b59 r1 r4 σ5))))
  else (some σ)
set_option maxRecDepth 100000 in
set_option maxHeartbeats 4000000 in
theorem rX10_wedsLine {N : Nat} {σ : OM} {σ0 : OM} (h : fX10_wedsLine σ = some σ0) (hN0 : 8 ≤ N) : oEv N MX10_wedsLine [.ref 81] σ (none) σ0 := by
  refine oEv_of (lv := [.ref 81, .null, .null]) (by decide +kernel) (fun g q hq => hq) (fun g => Nat.le_of_ble_eq_true rfl) ?_
  intro K hc ho hL hN1 hr hE hz
  have hN : 8 ≤ kN K := by rw [hN1]; exact hN0
  unfold fX10_wedsLine at h
  refine go_aload_n hc dX10_wedsLine_0 rfl rfl ?_
  refine go_getI hc ho flX10_89 dX10_wedsLine_1 ok_81 ?_
  refine go_if_eq (tgt := 8) hc dX10_wedsLine_4 rfl (fun hh => ?_) (fun hh => ?_)
  · rw [if_pos hh] at h
    refine go_aload_n hc dX10_wedsLine_8 rfl rfl ?_
    obtain ⟨r1, σ2, hf3, h⟩ := obi_some h
    refine go_callVi hc ho cmX10_housePassed mlX10_280 dX10_wedsLine_9 ok_81 (As := []) (rest := []) (rX10_housePassed (N := 7) hf3 (Nat.le_refl _)) rfl (Nat.le_trans (Nat.le_of_ble_eq_true rfl) hN) rfl (Nat.le_of_ble_eq_true rfl) (Or.inl hz) ?_
    refine go_istore_n hc (lv1 := [.ref 81, .int r1, .null]) dX10_wedsLine_12 rfl hL (by decide) (fun _ _ e => by cases e; rfl) rfl ?_
    refine go_aload_n hc dX10_wedsLine_13 rfl rfl ?_
    refine go_bipush hc dX10_wedsLine_14 cb_6 ?_
    refine go_bipush hc dX10_wedsLine_16 cb_11 ?_
    obtain ⟨r4, σ5, hf6, h⟩ := obi_some h
    refine go_callVi hc ho cmX10_named mlX10_160 dX10_wedsLine_18 ok_81 (As := [.int (6 : Int32), .int (11 : Int32)]) (rest := []) (rX10_named (N := 6) hf6 (Nat.le_refl _)) rfl (Nat.le_trans (Nat.le_of_ble_eq_true rfl) hN) rfl (Nat.le_of_ble_eq_true rfl) (Or.inl hz) ?_
    refine go_istore_n hc (lv1 := [.ref 81, .int r1, .int r4]) dX10_wedsLine_21 rfl hL (by decide) (fun _ _ e => by cases e; rfl) rfl ?_
    refine go_aload_n hc dX10_wedsLine_22 rfl rfl ?_
    refine go_getI hc ho flX10_89 dX10_wedsLine_23 ok_81 ?_
    refine go_if_ne (tgt := 59) hc dX10_wedsLine_26 rfl (fun hh => ?_) (fun hh => ?_)
    · rw [if_neg hh] at h
      exact rX10_wedsLine_b59 hc ho hL hN hr hE hz h
    · rw [if_pos hh] at h
      refine go_iload_n hc dX10_wedsLine_29 rfl rfl ?_
      refine go_iload_n hc dX10_wedsLine_30 rfl rfl ?_
      refine go_icmp_eq (tgt := 50) hc dX10_wedsLine_31 rfl (fun hh => ?_) (fun hh => ?_)
      · rw [if_pos hh] at h
        refine go_aload_n hc dX10_wedsLine_50 rfl rfl ?_
        refine go_iconst hc dX10_wedsLine_51 ci_3 ?_
        refine go_aload_n hc dX10_wedsLine_52 rfl rfl ?_
        refine go_getI hc ho flX10_70 dX10_wedsLine_53 ok_81 ?_
        obtain ⟨σ8, hf9, h⟩ := obv_some h
        refine go_callVv hc ho cmX10_wrong mlX10_116 dX10_wedsLine_56 ok_81 (As := [.int (3 : Int32), .int (mI σ5 81 4)]) (rest := []) (rX10_wrong (N := 0) hf9 (Nat.le_refl _)) rfl (Nat.le_trans (Nat.le_of_ble_eq_true rfl) hN) rfl (Nat.le_of_ble_eq_true rfl) (Or.inl hz) ?_
        exact rX10_wedsLine_b59 hc ho hL hN hr hE hz h
      · rw [if_neg hh] at h
        refine go_aload_n hc dX10_wedsLine_34 rfl rfl ?_
        refine go_getC (b := 85) rfl hc ho flX10_23 dX10_wedsLine_35 ok_81 ?_
        refine go_bipush hc dX10_wedsLine_38 cb_93 ?_
        refine go_iload_n hc dX10_wedsLine_40 rfl rfl ?_
        refine go_iadd hc dX10_wedsLine_41 ?_
        obtain ⟨hg10, h⟩ := ogd_some h
        refine go_iald hc dX10_wedsLine_42 ok_85 ol_85 hg10 rfl ?_
        refine go_iload_n hc dX10_wedsLine_43 rfl rfl ?_
        obtain ⟨r11, σ12, hf13, h⟩ := obi_some h
        refine go_callSi hc ho cmX10_hasBit mlX10_270 dX10_wedsLine_44 (As := [.int (mI σ5 85 (((93 : Int32) + r1).toNatClampNeg)), .int r4]) (rest := []) (rX10_hasBit (N := 0) hf13 (Nat.le_refl _)) rfl (Nat.le_trans (Nat.le_of_ble_eq_true rfl) hN) rfl (Nat.le_of_ble_eq_true rfl) (Or.inl hz) ?_
        refine go_if_eq (tgt := 59) hc dX10_wedsLine_47 rfl (fun hh => ?_) (fun hh => ?_)
        · rw [if_pos hh] at h
          exact rX10_wedsLine_b59 hc ho hL hN hr hE hz h
        · rw [if_neg hh] at h
          refine go_aload_n hc dX10_wedsLine_50 rfl rfl ?_
          refine go_iconst hc dX10_wedsLine_51 ci_3 ?_
          refine go_aload_n hc dX10_wedsLine_52 rfl rfl ?_
          refine go_getI hc ho flX10_70 dX10_wedsLine_53 ok_81 ?_
          obtain ⟨σ15, hf16, h⟩ := obv_some h
          refine go_callVv hc ho cmX10_wrong mlX10_116 dX10_wedsLine_56 ok_81 (As := [.int (3 : Int32), .int (mI σ12 81 4)]) (rest := []) (rX10_wrong (N := 0) hf16 (Nat.le_refl _)) rfl (Nat.le_trans (Nat.le_of_ble_eq_true rfl) hN) rfl (Nat.le_of_ble_eq_true rfl) (Or.inl hz) ?_
          exact rX10_wedsLine_b59 hc ho hL hN hr hE hz h
  · rw [if_neg hh] at h
    exact go_vret hc (oend_v h hE) hr dX10_wedsLine_7
def fX10_readLine_b301 (bk1 : Nat) (k2 : Int32) (σ : OM) : Option OM :=
  obi (fX10_begins bk1 k2 σ) (fun r1 σ2 =>
  if r1 = 0 then (
   obv (fX10_wrong (1 : Int32) (mI σ2 81 4) σ2) (fun σ5 =>
   some σ5))
  else (obv (fX10_wedsLine σ2) (fun σ8 =>
  some σ8)))
set_option maxRecDepth 100000 in
set_option maxHeartbeats 4000000 in
theorem rX10_readLine_b301 {K : OK} (hc : kcc K = cX10_readLine) (ho : kow K = RX10) (hL : knL K = 2) (hN : 970 ≤ kN K) (hr : (kme K).sig.returnType = none) {σ0 : OM} (hE : oEnd K (none) σ0) (hz : kz K = 0) {bk1 : Nat} {k2 : Int32} {σ : OM} (hbk1 : bk1 < 23) (h : fX10_readLine_b301 bk1 k2 σ = some σ0) : Go K 301 [.ref 81, .null] [.int k2, .ref (200 + bk1), .ref 81] σ := by
  unfold fX10_readLine_b301 at h
  obtain ⟨r1, σ2, hf3, h⟩ := obi_some h
  refine go_callVi hc ho cmX10_begins mlX10_224 dX10_readLine_301 ok_81 (As := [.ref (200 + bk1), .int k2]) (rest := []) (rX10_begins (N := 5) hbk1 hf3 (Nat.le_refl _)) rfl (Nat.le_trans (Nat.le_of_ble_eq_true rfl) hN) rfl (Nat.le_of_ble_eq_true rfl) (Or.inl hz) ?_
  refine go_if_eq (tgt := 314) hc dX10_readLine_304 rfl (fun hh => ?_) (fun hh => ?_)
  · rw [if_pos hh] at h
    refine go_aload_n hc dX10_readLine_314 rfl rfl ?_
    refine go_iconst hc dX10_readLine_315 ci_1 ?_
    refine go_aload_n hc dX10_readLine_316 rfl rfl ?_
    refine go_getI hc ho flX10_70 dX10_readLine_317 ok_81 ?_
    obtain ⟨σ5, hf6, h⟩ := obv_some h
    refine go_callVv hc ho cmX10_wrong mlX10_116 dX10_readLine_320 ok_81 (As := [.int (1 : Int32), .int (mI σ2 81 4)]) (rest := []) (rX10_wrong (N := 0) hf6 (Nat.le_refl _)) rfl (Nat.le_trans (Nat.le_of_ble_eq_true rfl) hN) rfl (Nat.le_of_ble_eq_true rfl) (Or.inl hz) ?_
    exact go_vret hc (oend_v h hE) hr dX10_readLine_323
  · rw [if_neg hh] at h
    refine go_aload_n hc dX10_readLine_307 rfl rfl ?_
    obtain ⟨σ8, hf9, h⟩ := obv_some h
    refine go_callVv hc ho cmX10_wedsLine mlX10_256 dX10_readLine_308 ok_81 (As := []) (rest := []) (rX10_wedsLine (N := 8) hf9 (Nat.le_refl _)) rfl (Nat.le_trans (Nat.le_of_ble_eq_true rfl) hN) rfl (Nat.le_of_ble_eq_true rfl) (Or.inl hz) ?_
    refine go_goto (tgt := 323) hc dX10_readLine_311 rfl ?_
    exact go_vret hc (oend_v h hE) hr dX10_readLine_323
def fX10_readLine_b268 (bk1 : Nat) (k2 : Int32) (σ : OM) : Option OM :=
  obi (fX10_begins bk1 k2 σ) (fun r1 σ2 =>
  if r1 = 0 then (
   if (8 : Int32) ≤ (mI σ2 85 8) then (
    fX10_readLine_b301 12 (0 : Int32) σ2)
   else (fX10_readLine_b301 12 (1 : Int32) σ2))
  else (obv (fX10_stoneLine σ2) (fun σ5 =>
  some σ5)))
set_option maxRecDepth 100000 in
set_option maxHeartbeats 4000000 in
theorem rX10_readLine_b268 {K : OK} (hc : kcc K = cX10_readLine) (ho : kow K = RX10) (hL : knL K = 2) (hN : 970 ≤ kN K) (hr : (kme K).sig.returnType = none) {σ0 : OM} (hE : oEnd K (none) σ0) (hz : kz K = 0) {bk1 : Nat} {k2 : Int32} {σ : OM} (hbk1 : bk1 < 23) (h : fX10_readLine_b268 bk1 k2 σ = some σ0) : Go K 268 [.ref 81, .null] [.int k2, .ref (200 + bk1), .ref 81] σ := by
  unfold fX10_readLine_b268 at h
  obtain ⟨r1, σ2, hf3, h⟩ := obi_some h
  refine go_callVi hc ho cmX10_begins mlX10_224 dX10_readLine_268 ok_81 (As := [.ref (200 + bk1), .int k2]) (rest := []) (rX10_begins (N := 5) hbk1 hf3 (Nat.le_refl _)) rfl (Nat.le_trans (Nat.le_of_ble_eq_true rfl) hN) rfl (Nat.le_of_ble_eq_true rfl) (Or.inl hz) ?_
  refine go_if_eq (tgt := 281) hc dX10_readLine_271 rfl (fun hh => ?_) (fun hh => ?_)
  · rw [if_pos hh] at h
    refine go_aload_n hc dX10_readLine_281 rfl rfl ?_
    refine go_str hc ho os_12 dX10_readLine_282 ?_
    refine go_aload_n hc dX10_readLine_284 rfl rfl ?_
    refine go_getC (b := 85) rfl hc ho flX10_23 dX10_readLine_285 ok_81 ?_
    refine go_bipush hc dX10_readLine_288 cb_8 ?_
    refine go_iald hc dX10_readLine_290 ok_85 ol_85 (by decide +kernel) cn_8 ?_
    refine go_bipush hc dX10_readLine_291 cb_8 ?_
    refine go_icmp_ge (tgt := 300) hc dX10_readLine_293 rfl (fun hh => ?_) (fun hh => ?_)
    · rw [if_pos hh] at h
      refine go_iconst hc dX10_readLine_300 ci_0 ?_
      exact rX10_readLine_b301 hc ho hL hN hr hE hz (by decide) h
    · rw [if_neg hh] at h
      refine go_iconst hc dX10_readLine_296 ci_1 ?_
      refine go_goto (tgt := 301) hc dX10_readLine_297 rfl ?_
      exact rX10_readLine_b301 hc ho hL hN hr hE hz (by decide) h
  · rw [if_neg hh] at h
    refine go_aload_n hc dX10_readLine_274 rfl rfl ?_
    obtain ⟨σ5, hf6, h⟩ := obv_some h
    refine go_callVv hc ho cmX10_stoneLine mlX10_253 dX10_readLine_275 ok_81 (As := []) (rest := []) (rX10_stoneLine (N := 8) hf6 (Nat.le_refl _)) rfl (Nat.le_trans (Nat.le_of_ble_eq_true rfl) hN) rfl (Nat.le_of_ble_eq_true rfl) (Or.inl hz) ?_
    refine go_goto (tgt := 323) hc dX10_readLine_278 rfl ?_
    exact go_vret hc (oend_v h hE) hr dX10_readLine_323
def fX10_readLine_b236 (bk1 : Nat) (k2 : Int32) (σ : OM) : Option OM :=
  obi (fX10_begins bk1 k2 σ) (fun r1 σ2 =>
  if r1 = 0 then (
   if (4 : Int32) ≤ (mI σ2 85 7) then (
    fX10_readLine_b268 11 (0 : Int32) σ2)
   else (fX10_readLine_b268 11 (1 : Int32) σ2))
  else (obv (fX10_toldLine σ2) (fun σ5 =>
  some σ5)))
set_option maxRecDepth 100000 in
set_option maxHeartbeats 4000000 in
theorem rX10_readLine_b236 {K : OK} (hc : kcc K = cX10_readLine) (ho : kow K = RX10) (hL : knL K = 2) (hN : 970 ≤ kN K) (hr : (kme K).sig.returnType = none) {σ0 : OM} (hE : oEnd K (none) σ0) (hz : kz K = 0) {bk1 : Nat} {k2 : Int32} {σ : OM} (hbk1 : bk1 < 23) (h : fX10_readLine_b236 bk1 k2 σ = some σ0) : Go K 236 [.ref 81, .null] [.int k2, .ref (200 + bk1), .ref 81] σ := by
  unfold fX10_readLine_b236 at h
  obtain ⟨r1, σ2, hf3, h⟩ := obi_some h
  refine go_callVi hc ho cmX10_begins mlX10_224 dX10_readLine_236 ok_81 (As := [.ref (200 + bk1), .int k2]) (rest := []) (rX10_begins (N := 5) hbk1 hf3 (Nat.le_refl _)) rfl (Nat.le_trans (Nat.le_of_ble_eq_true rfl) hN) rfl (Nat.le_of_ble_eq_true rfl) (Or.inl hz) ?_
  refine go_if_eq (tgt := 249) hc dX10_readLine_239 rfl (fun hh => ?_) (fun hh => ?_)
  · rw [if_pos hh] at h
    refine go_aload_n hc dX10_readLine_249 rfl rfl ?_
    refine go_str hc ho os_11 dX10_readLine_250 ?_
    refine go_aload_n hc dX10_readLine_252 rfl rfl ?_
    refine go_getC (b := 85) rfl hc ho flX10_23 dX10_readLine_253 ok_81 ?_
    refine go_bipush hc dX10_readLine_256 cb_7 ?_
    refine go_iald hc dX10_readLine_258 ok_85 ol_85 (by decide +kernel) cn_7 ?_
    refine go_iconst hc dX10_readLine_259 ci_4 ?_
    refine go_icmp_ge (tgt := 267) hc dX10_readLine_260 rfl (fun hh => ?_) (fun hh => ?_)
    · rw [if_pos hh] at h
      refine go_iconst hc dX10_readLine_267 ci_0 ?_
      exact rX10_readLine_b268 hc ho hL hN hr hE hz (by decide) h
    · rw [if_neg hh] at h
      refine go_iconst hc dX10_readLine_263 ci_1 ?_
      refine go_goto (tgt := 268) hc dX10_readLine_264 rfl ?_
      exact rX10_readLine_b268 hc ho hL hN hr hE hz (by decide) h
  · rw [if_neg hh] at h
    refine go_aload_n hc dX10_readLine_242 rfl rfl ?_
    obtain ⟨σ5, hf6, h⟩ := obv_some h
    refine go_callVv hc ho cmX10_toldLine mlX10_250 dX10_readLine_243 ok_81 (As := []) (rest := []) (rX10_toldLine (N := 8) hf6 (Nat.le_refl _)) rfl (Nat.le_trans (Nat.le_of_ble_eq_true rfl) hN) rfl (Nat.le_of_ble_eq_true rfl) (Or.inl hz) ?_
    refine go_goto (tgt := 323) hc dX10_readLine_246 rfl ?_
    exact go_vret hc (oend_v h hE) hr dX10_readLine_323
def fX10_readLine_b203 (bk1 : Nat) (k2 : Int32) (σ : OM) : Option OM :=
  obi (fX10_begins bk1 k2 σ) (fun r1 σ2 =>
  if r1 = 0 then (
   if (12 : Int32) ≤ (mI σ2 85 6) then (
    fX10_readLine_b236 10 (0 : Int32) σ2)
   else (fX10_readLine_b236 10 (1 : Int32) σ2))
  else (obv (fX10_questionLine σ2) (fun σ5 =>
  some σ5)))
set_option maxRecDepth 100000 in
set_option maxHeartbeats 4000000 in
theorem rX10_readLine_b203 {K : OK} (hc : kcc K = cX10_readLine) (ho : kow K = RX10) (hL : knL K = 2) (hN : 970 ≤ kN K) (hr : (kme K).sig.returnType = none) {σ0 : OM} (hE : oEnd K (none) σ0) (hz : kz K = 0) {bk1 : Nat} {k2 : Int32} {σ : OM} (hbk1 : bk1 < 23) (h : fX10_readLine_b203 bk1 k2 σ = some σ0) : Go K 203 [.ref 81, .null] [.int k2, .ref (200 + bk1), .ref 81] σ := by
  unfold fX10_readLine_b203 at h
  obtain ⟨r1, σ2, hf3, h⟩ := obi_some h
  refine go_callVi hc ho cmX10_begins mlX10_224 dX10_readLine_203 ok_81 (As := [.ref (200 + bk1), .int k2]) (rest := []) (rX10_begins (N := 5) hbk1 hf3 (Nat.le_refl _)) rfl (Nat.le_trans (Nat.le_of_ble_eq_true rfl) hN) rfl (Nat.le_of_ble_eq_true rfl) (Or.inl hz) ?_
  refine go_if_eq (tgt := 216) hc dX10_readLine_206 rfl (fun hh => ?_) (fun hh => ?_)
  · rw [if_pos hh] at h
    refine go_aload_n hc dX10_readLine_216 rfl rfl ?_
    refine go_str hc ho os_10 dX10_readLine_217 ?_
    refine go_aload_n hc dX10_readLine_219 rfl rfl ?_
    refine go_getC (b := 85) rfl hc ho flX10_23 dX10_readLine_220 ok_81 ?_
    refine go_bipush hc dX10_readLine_223 cb_6 ?_
    refine go_iald hc dX10_readLine_225 ok_85 ol_85 (by decide +kernel) cn_6 ?_
    refine go_bipush hc dX10_readLine_226 cb_12 ?_
    refine go_icmp_ge (tgt := 235) hc dX10_readLine_228 rfl (fun hh => ?_) (fun hh => ?_)
    · rw [if_pos hh] at h
      refine go_iconst hc dX10_readLine_235 ci_0 ?_
      exact rX10_readLine_b236 hc ho hL hN hr hE hz (by decide) h
    · rw [if_neg hh] at h
      refine go_iconst hc dX10_readLine_231 ci_1 ?_
      refine go_goto (tgt := 236) hc dX10_readLine_232 rfl ?_
      exact rX10_readLine_b236 hc ho hL hN hr hE hz (by decide) h
  · rw [if_neg hh] at h
    refine go_aload_n hc dX10_readLine_209 rfl rfl ?_
    obtain ⟨σ5, hf6, h⟩ := obv_some h
    refine go_callVv hc ho cmX10_questionLine mlX10_247 dX10_readLine_210 ok_81 (As := []) (rest := []) (rX10_questionLine (N := 969) hf6 (Nat.le_refl _)) rfl (Nat.le_trans (Nat.le_of_ble_eq_true rfl) hN) rfl (Nat.le_of_ble_eq_true rfl) (Or.inl hz) ?_
    refine go_goto (tgt := 323) hc dX10_readLine_213 rfl ?_
    exact go_vret hc (oend_v h hE) hr dX10_readLine_323
def fX10_readLine_b154 (bk1 : Nat) (k2 : Int32) (σ : OM) : Option OM :=
  obi (fX10_begins bk1 k2 σ) (fun r1 σ2 =>
  if r1 = 0 then (
   obi (fX10_begins 8 (1 : Int32) σ2) (fun r4 σ5 =>
   if r4 = 0 then (
    if (8 : Int32) ≤ (mI σ5 85 5) then (
     fX10_readLine_b203 9 (0 : Int32) σ5)
    else (fX10_readLine_b203 9 (1 : Int32) σ5))
   else (obv (fX10_endsLine σ5) (fun σ8 =>
   some σ8))))
  else (obv (fX10_twinLine σ2) (fun σ11 =>
  some σ11)))
set_option maxRecDepth 100000 in
set_option maxHeartbeats 4000000 in
theorem rX10_readLine_b154 {K : OK} (hc : kcc K = cX10_readLine) (ho : kow K = RX10) (hL : knL K = 2) (hN : 970 ≤ kN K) (hr : (kme K).sig.returnType = none) {σ0 : OM} (hE : oEnd K (none) σ0) (hz : kz K = 0) {bk1 : Nat} {k2 : Int32} {σ : OM} (hbk1 : bk1 < 23) (h : fX10_readLine_b154 bk1 k2 σ = some σ0) : Go K 154 [.ref 81, .null] [.int k2, .ref (200 + bk1), .ref 81] σ := by
  unfold fX10_readLine_b154 at h
  obtain ⟨r1, σ2, hf3, h⟩ := obi_some h
  refine go_callVi hc ho cmX10_begins mlX10_224 dX10_readLine_154 ok_81 (As := [.ref (200 + bk1), .int k2]) (rest := []) (rX10_begins (N := 5) hbk1 hf3 (Nat.le_refl _)) rfl (Nat.le_trans (Nat.le_of_ble_eq_true rfl) hN) rfl (Nat.le_of_ble_eq_true rfl) (Or.inl hz) ?_
  refine go_if_eq (tgt := 167) hc dX10_readLine_157 rfl (fun hh => ?_) (fun hh => ?_)
  · rw [if_pos hh] at h
    refine go_aload_n hc dX10_readLine_167 rfl rfl ?_
    refine go_str hc ho os_8 dX10_readLine_168 ?_
    refine go_iconst hc dX10_readLine_170 ci_1 ?_
    obtain ⟨r4, σ5, hf6, h⟩ := obi_some h
    refine go_callVi hc ho cmX10_begins mlX10_224 dX10_readLine_171 ok_81 (As := [.ref (200 + 8), .int (1 : Int32)]) (rest := []) (rX10_begins (N := 5) (by decide) hf6 (Nat.le_refl _)) rfl (Nat.le_trans (Nat.le_of_ble_eq_true rfl) hN) rfl (Nat.le_of_ble_eq_true rfl) (Or.inl hz) ?_
    refine go_if_eq (tgt := 184) hc dX10_readLine_174 rfl (fun hh => ?_) (fun hh => ?_)
    · rw [if_pos hh] at h
      refine go_aload_n hc dX10_readLine_184 rfl rfl ?_
      refine go_str hc ho os_9 dX10_readLine_185 ?_
      refine go_aload_n hc dX10_readLine_187 rfl rfl ?_
      refine go_getC (b := 85) rfl hc ho flX10_23 dX10_readLine_188 ok_81 ?_
      refine go_iconst hc dX10_readLine_191 ci_5 ?_
      refine go_iald hc dX10_readLine_192 ok_85 ol_85 (by decide +kernel) cn_5 ?_
      refine go_bipush hc dX10_readLine_193 cb_8 ?_
      refine go_icmp_ge (tgt := 202) hc dX10_readLine_195 rfl (fun hh => ?_) (fun hh => ?_)
      · rw [if_pos hh] at h
        refine go_iconst hc dX10_readLine_202 ci_0 ?_
        exact rX10_readLine_b203 hc ho hL hN hr hE hz (by decide) h
      · rw [if_neg hh] at h
        refine go_iconst hc dX10_readLine_198 ci_1 ?_
        refine go_goto (tgt := 203) hc dX10_readLine_199 rfl ?_
        exact rX10_readLine_b203 hc ho hL hN hr hE hz (by decide) h
    · rw [if_neg hh] at h
      refine go_aload_n hc dX10_readLine_177 rfl rfl ?_
      obtain ⟨σ8, hf9, h⟩ := obv_some h
      refine go_callVv hc ho cmX10_endsLine mlX10_244 dX10_readLine_178 ok_81 (As := []) (rest := []) (rX10_endsLine (N := 7) hf9 (Nat.le_refl _)) rfl (Nat.le_trans (Nat.le_of_ble_eq_true rfl) hN) rfl (Nat.le_of_ble_eq_true rfl) (Or.inl hz) ?_
      refine go_goto (tgt := 323) hc dX10_readLine_181 rfl ?_
      exact go_vret hc (oend_v h hE) hr dX10_readLine_323
  · rw [if_neg hh] at h
    refine go_aload_n hc dX10_readLine_160 rfl rfl ?_
    obtain ⟨σ11, hf12, h⟩ := obv_some h
    refine go_callVv hc ho cmX10_twinLine mlX10_241 dX10_readLine_161 ok_81 (As := []) (rest := []) (rX10_twinLine (N := 8) hf12 (Nat.le_refl _)) rfl (Nat.le_trans (Nat.le_of_ble_eq_true rfl) hN) rfl (Nat.le_of_ble_eq_true rfl) (Or.inl hz) ?_
    refine go_goto (tgt := 323) hc dX10_readLine_164 rfl ?_
    exact go_vret hc (oend_v h hE) hr dX10_readLine_323
def fX10_readLine_b122 (bk1 : Nat) (k2 : Int32) (σ : OM) : Option OM :=
  obi (fX10_begins bk1 k2 σ) (fun r1 σ2 =>
  if r1 = 0 then (
   if (6 : Int32) ≤ (mI σ2 85 4) then (
    fX10_readLine_b154 7 (0 : Int32) σ2)
   else (fX10_readLine_b154 7 (1 : Int32) σ2))
  else (obv (fX10_houseLine σ2) (fun σ5 =>
  some σ5)))
set_option maxRecDepth 100000 in
set_option maxHeartbeats 4000000 in
theorem rX10_readLine_b122 {K : OK} (hc : kcc K = cX10_readLine) (ho : kow K = RX10) (hL : knL K = 2) (hN : 970 ≤ kN K) (hr : (kme K).sig.returnType = none) {σ0 : OM} (hE : oEnd K (none) σ0) (hz : kz K = 0) {bk1 : Nat} {k2 : Int32} {σ : OM} (hbk1 : bk1 < 23) (h : fX10_readLine_b122 bk1 k2 σ = some σ0) : Go K 122 [.ref 81, .null] [.int k2, .ref (200 + bk1), .ref 81] σ := by
  unfold fX10_readLine_b122 at h
  obtain ⟨r1, σ2, hf3, h⟩ := obi_some h
  refine go_callVi hc ho cmX10_begins mlX10_224 dX10_readLine_122 ok_81 (As := [.ref (200 + bk1), .int k2]) (rest := []) (rX10_begins (N := 5) hbk1 hf3 (Nat.le_refl _)) rfl (Nat.le_trans (Nat.le_of_ble_eq_true rfl) hN) rfl (Nat.le_of_ble_eq_true rfl) (Or.inl hz) ?_
  refine go_if_eq (tgt := 135) hc dX10_readLine_125 rfl (fun hh => ?_) (fun hh => ?_)
  · rw [if_pos hh] at h
    refine go_aload_n hc dX10_readLine_135 rfl rfl ?_
    refine go_str hc ho os_7 dX10_readLine_136 ?_
    refine go_aload_n hc dX10_readLine_138 rfl rfl ?_
    refine go_getC (b := 85) rfl hc ho flX10_23 dX10_readLine_139 ok_81 ?_
    refine go_iconst hc dX10_readLine_142 ci_4 ?_
    refine go_iald hc dX10_readLine_143 ok_85 ol_85 (by decide +kernel) cn_4 ?_
    refine go_bipush hc dX10_readLine_144 cb_6 ?_
    refine go_icmp_ge (tgt := 153) hc dX10_readLine_146 rfl (fun hh => ?_) (fun hh => ?_)
    · rw [if_pos hh] at h
      refine go_iconst hc dX10_readLine_153 ci_0 ?_
      exact rX10_readLine_b154 hc ho hL hN hr hE hz (by decide) h
    · rw [if_neg hh] at h
      refine go_iconst hc dX10_readLine_149 ci_1 ?_
      refine go_goto (tgt := 154) hc dX10_readLine_150 rfl ?_
      exact rX10_readLine_b154 hc ho hL hN hr hE hz (by decide) h
  · rw [if_neg hh] at h
    refine go_aload_n hc dX10_readLine_128 rfl rfl ?_
    obtain ⟨σ5, hf6, h⟩ := obv_some h
    refine go_callVv hc ho cmX10_houseLine mlX10_238 dX10_readLine_129 ok_81 (As := []) (rest := []) (rX10_houseLine (N := 8) hf6 (Nat.le_refl _)) rfl (Nat.le_trans (Nat.le_of_ble_eq_true rfl) hN) rfl (Nat.le_of_ble_eq_true rfl) (Or.inl hz) ?_
    refine go_goto (tgt := 323) hc dX10_readLine_132 rfl ?_
    exact go_vret hc (oend_v h hE) hr dX10_readLine_323
def fX10_readLine_b72 (l1 : Int32) (bk1 : Nat) (k2 : Int32) (σ : OM) : Option OM :=
  obi (fX10_begins bk1 k2 σ) (fun r1 σ2 =>
  if r1 = 0 then (
   obi (fX10_isWord 4 σ2) (fun r4 σ5 =>
   if r4 = 0 then (
    if (6 : Int32) ≤ (mI σ5 85 3) then (
     fX10_readLine_b122 6 (0 : Int32) σ5)
    else (fX10_readLine_b122 6 (1 : Int32) σ5))
   else (obv (fX10_truthLine l1 σ5) (fun σ8 =>
   some σ8))))
  else (obv (fX10_lawLine l1 σ2) (fun σ11 =>
  some σ11)))
set_option maxRecDepth 100000 in
set_option maxHeartbeats 4000000 in
theorem rX10_readLine_b72 {K : OK} (hc : kcc K = cX10_readLine) (ho : kow K = RX10) (hL : knL K = 2) (hN : 970 ≤ kN K) (hr : (kme K).sig.returnType = none) {σ0 : OM} (hE : oEnd K (none) σ0) (hz : kz K = 0) {l1 : Int32} {bk1 : Nat} {k2 : Int32} {σ : OM} (hbk1 : bk1 < 23) (h : fX10_readLine_b72 l1 bk1 k2 σ = some σ0) : Go K 72 [.ref 81, .int l1] [.int k2, .ref (200 + bk1), .ref 81] σ := by
  unfold fX10_readLine_b72 at h
  obtain ⟨r1, σ2, hf3, h⟩ := obi_some h
  refine go_callVi hc ho cmX10_begins mlX10_224 dX10_readLine_72 ok_81 (As := [.ref (200 + bk1), .int k2]) (rest := []) (rX10_begins (N := 5) hbk1 hf3 (Nat.le_refl _)) rfl (Nat.le_trans (Nat.le_of_ble_eq_true rfl) hN) rfl (Nat.le_of_ble_eq_true rfl) (Or.inl hz) ?_
  refine go_if_eq (tgt := 86) hc dX10_readLine_75 rfl (fun hh => ?_) (fun hh => ?_)
  · rw [if_pos hh] at h
    refine go_aload_n hc dX10_readLine_86 rfl rfl ?_
    refine go_str hc ho os_4 dX10_readLine_87 ?_
    obtain ⟨r4, σ5, hf6, h⟩ := obi_some h
    refine go_callVi hc ho cmX10_isWord mlX10_106 dX10_readLine_89 ok_81 (As := [.ref (200 + 4)]) (rest := []) (rX10_isWord (N := 4) (by decide) hf6 (Nat.le_refl _)) rfl (Nat.le_trans (Nat.le_of_ble_eq_true rfl) hN) rfl (Nat.le_of_ble_eq_true rfl) (Or.inl hz) ?_
    refine go_if_eq (tgt := 103) hc dX10_readLine_92 rfl (fun hh => ?_) (fun hh => ?_)
    · rw [if_pos hh] at h
      refine go_aload_n hc dX10_readLine_103 rfl rfl ?_
      refine go_str hc ho os_6 dX10_readLine_104 ?_
      refine go_aload_n hc dX10_readLine_106 rfl rfl ?_
      refine go_getC (b := 85) rfl hc ho flX10_23 dX10_readLine_107 ok_81 ?_
      refine go_iconst hc dX10_readLine_110 ci_3 ?_
      refine go_iald hc dX10_readLine_111 ok_85 ol_85 (by decide +kernel) cn_3 ?_
      refine go_bipush hc dX10_readLine_112 cb_6 ?_
      refine go_icmp_ge (tgt := 121) hc dX10_readLine_114 rfl (fun hh => ?_) (fun hh => ?_)
      · rw [if_pos hh] at h
        refine go_iconst hc dX10_readLine_121 ci_0 ?_
        refine go_mask [true, false] (lv1 := [.ref 81, .null]) rfl ?_
        exact rX10_readLine_b122 hc ho hL hN hr hE hz (by decide) h
      · rw [if_neg hh] at h
        refine go_iconst hc dX10_readLine_117 ci_1 ?_
        refine go_goto (tgt := 122) hc dX10_readLine_118 rfl ?_
        refine go_mask [true, false] (lv1 := [.ref 81, .null]) rfl ?_
        exact rX10_readLine_b122 hc ho hL hN hr hE hz (by decide) h
    · rw [if_neg hh] at h
      refine go_aload_n hc dX10_readLine_95 rfl rfl ?_
      refine go_iload_n hc dX10_readLine_96 rfl rfl ?_
      obtain ⟨σ8, hf9, h⟩ := obv_some h
      refine go_callVv hc ho cmX10_truthLine mlX10_235 dX10_readLine_97 ok_81 (As := [.int l1]) (rest := []) (rX10_truthLine (N := 7) hf9 (Nat.le_refl _)) rfl (Nat.le_trans (Nat.le_of_ble_eq_true rfl) hN) rfl (Nat.le_of_ble_eq_true rfl) (Or.inl hz) ?_
      refine go_goto (tgt := 323) hc dX10_readLine_100 rfl ?_
      exact go_vret hc (oend_v h hE) hr dX10_readLine_323
  · rw [if_neg hh] at h
    refine go_aload_n hc dX10_readLine_78 rfl rfl ?_
    refine go_iload_n hc dX10_readLine_79 rfl rfl ?_
    obtain ⟨σ11, hf12, h⟩ := obv_some h
    refine go_callVv hc ho cmX10_lawLine mlX10_231 dX10_readLine_80 ok_81 (As := [.int l1]) (rest := []) (rX10_lawLine (N := 969) hf12 (Nat.le_refl _)) rfl (Nat.le_trans (Nat.le_of_ble_eq_true rfl) hN) rfl (Nat.le_of_ble_eq_true rfl) (Or.inl hz) ?_
    refine go_goto (tgt := 323) hc dX10_readLine_83 rfl ?_
    exact go_vret hc (oend_v h hE) hr dX10_readLine_323
def fX10_readLine_b40 (l1 : Int32) (bk1 : Nat) (k2 : Int32) (σ : OM) : Option OM :=
  obi (fX10_begins bk1 k2 σ) (fun r1 σ2 =>
  if r1 = 0 then (
   if (6 : Int32) ≤ (mI σ2 85 2) then (
    fX10_readLine_b72 l1 3 (0 : Int32) σ2)
   else (fX10_readLine_b72 l1 3 (1 : Int32) σ2))
  else (obv (fX10_factLine σ2) (fun σ5 =>
  some σ5)))
set_option maxRecDepth 100000 in
set_option maxHeartbeats 4000000 in
theorem rX10_readLine_b40 {K : OK} (hc : kcc K = cX10_readLine) (ho : kow K = RX10) (hL : knL K = 2) (hN : 970 ≤ kN K) (hr : (kme K).sig.returnType = none) {σ0 : OM} (hE : oEnd K (none) σ0) (hz : kz K = 0) {l1 : Int32} {bk1 : Nat} {k2 : Int32} {σ : OM} (hbk1 : bk1 < 23) (h : fX10_readLine_b40 l1 bk1 k2 σ = some σ0) : Go K 40 [.ref 81, .int l1] [.int k2, .ref (200 + bk1), .ref 81] σ := by
  unfold fX10_readLine_b40 at h
  obtain ⟨r1, σ2, hf3, h⟩ := obi_some h
  refine go_callVi hc ho cmX10_begins mlX10_224 dX10_readLine_40 ok_81 (As := [.ref (200 + bk1), .int k2]) (rest := []) (rX10_begins (N := 5) hbk1 hf3 (Nat.le_refl _)) rfl (Nat.le_trans (Nat.le_of_ble_eq_true rfl) hN) rfl (Nat.le_of_ble_eq_true rfl) (Or.inl hz) ?_
  refine go_if_eq (tgt := 53) hc dX10_readLine_43 rfl (fun hh => ?_) (fun hh => ?_)
  · rw [if_pos hh] at h
    refine go_aload_n hc dX10_readLine_53 rfl rfl ?_
    refine go_str hc ho os_3 dX10_readLine_54 ?_
    refine go_aload_n hc dX10_readLine_56 rfl rfl ?_
    refine go_getC (b := 85) rfl hc ho flX10_23 dX10_readLine_57 ok_81 ?_
    refine go_iconst hc dX10_readLine_60 ci_2 ?_
    refine go_iald hc dX10_readLine_61 ok_85 ol_85 (by decide +kernel) cn_2 ?_
    refine go_bipush hc dX10_readLine_62 cb_6 ?_
    refine go_icmp_ge (tgt := 71) hc dX10_readLine_64 rfl (fun hh => ?_) (fun hh => ?_)
    · rw [if_pos hh] at h
      refine go_iconst hc dX10_readLine_71 ci_0 ?_
      exact rX10_readLine_b72 hc ho hL hN hr hE hz (by decide) h
    · rw [if_neg hh] at h
      refine go_iconst hc dX10_readLine_67 ci_1 ?_
      refine go_goto (tgt := 72) hc dX10_readLine_68 rfl ?_
      exact rX10_readLine_b72 hc ho hL hN hr hE hz (by decide) h
  · rw [if_neg hh] at h
    refine go_aload_n hc dX10_readLine_46 rfl rfl ?_
    obtain ⟨σ5, hf6, h⟩ := obv_some h
    refine go_callVv hc ho cmX10_factLine mlX10_228 dX10_readLine_47 ok_81 (As := []) (rest := []) (rX10_factLine (N := 8) hf6 (Nat.le_refl _)) rfl (Nat.le_trans (Nat.le_of_ble_eq_true rfl) hN) rfl (Nat.le_of_ble_eq_true rfl) (Or.inl hz) ?_
    refine go_goto (tgt := 323) hc dX10_readLine_50 rfl ?_
    exact go_vret hc (oend_v h hE) hr dX10_readLine_323
def fX10_readLine (σ : OM) : Option OM :=
  obi (fX10_isWord 0 σ) (fun r1 σ2 =>
  if r1 = 0 then (
   if (6 : Int32) ≤ (mI σ2 85 1) then (
    fX10_readLine_b40 (mI σ 81 4) 2 (0 : Int32) σ2)
   else (fX10_readLine_b40 (mI σ 81 4) 2 (1 : Int32) σ2))
  else (obv (fX10_wellLine σ2) (fun σ5 =>
  some σ5)))
set_option maxRecDepth 100000 in
set_option maxHeartbeats 4000000 in
theorem rX10_readLine {N : Nat} {σ : OM} {σ0 : OM} (h : fX10_readLine σ = some σ0) (hN0 : 970 ≤ N) : oEv N MX10_readLine [.ref 81] σ (none) σ0 := by
  refine oEv_of (lv := [.ref 81, .null]) (by decide +kernel) (fun g q hq => hq) (fun g => Nat.le_of_ble_eq_true rfl) ?_
  intro K hc ho hL hN1 hr hE hz
  have hN : 970 ≤ kN K := by rw [hN1]; exact hN0
  unfold fX10_readLine at h
  refine go_aload_n hc dX10_readLine_0 rfl rfl ?_
  refine go_getI hc ho flX10_70 dX10_readLine_1 ok_81 ?_
  refine go_istore_n hc (lv1 := [.ref 81, .int (mI σ 81 4)]) dX10_readLine_4 rfl hL (by decide) (fun _ _ e => by cases e; rfl) rfl ?_
  refine go_aload_n hc dX10_readLine_5 rfl rfl ?_
  refine go_str hc ho os_0 dX10_readLine_6 ?_
  obtain ⟨r1, σ2, hf3, h⟩ := obi_some h
  refine go_callVi hc ho cmX10_isWord mlX10_106 dX10_readLine_8 ok_81 (As := [.ref (200 + 0)]) (rest := []) (rX10_isWord (N := 4) (by decide) hf3 (Nat.le_refl _)) rfl (Nat.le_trans (Nat.le_of_ble_eq_true rfl) hN) rfl (Nat.le_of_ble_eq_true rfl) (Or.inl hz) ?_
  refine go_if_eq (tgt := 21) hc dX10_readLine_11 rfl (fun hh => ?_) (fun hh => ?_)
  · rw [if_pos hh] at h
    refine go_aload_n hc dX10_readLine_21 rfl rfl ?_
    refine go_str hc ho os_2 dX10_readLine_22 ?_
    refine go_aload_n hc dX10_readLine_24 rfl rfl ?_
    refine go_getC (b := 85) rfl hc ho flX10_23 dX10_readLine_25 ok_81 ?_
    refine go_iconst hc dX10_readLine_28 ci_1 ?_
    refine go_iald hc dX10_readLine_29 ok_85 ol_85 (by decide +kernel) cn_1 ?_
    refine go_bipush hc dX10_readLine_30 cb_6 ?_
    refine go_icmp_ge (tgt := 39) hc dX10_readLine_32 rfl (fun hh => ?_) (fun hh => ?_)
    · rw [if_pos hh] at h
      refine go_iconst hc dX10_readLine_39 ci_0 ?_
      exact rX10_readLine_b40 hc ho hL hN hr hE hz (by decide) h
    · rw [if_neg hh] at h
      refine go_iconst hc dX10_readLine_35 ci_1 ?_
      refine go_goto (tgt := 40) hc dX10_readLine_36 rfl ?_
      exact rX10_readLine_b40 hc ho hL hN hr hE hz (by decide) h
  · rw [if_neg hh] at h
    refine go_aload_n hc dX10_readLine_14 rfl rfl ?_
    obtain ⟨σ5, hf6, h⟩ := obv_some h
    refine go_callVv hc ho cmX10_wellLine mlX10_221 dX10_readLine_15 ok_81 (As := []) (rest := []) (rX10_wellLine (N := 8) hf6 (Nat.le_refl _)) rfl (Nat.le_trans (Nat.le_of_ble_eq_true rfl) hN) rfl (Nat.le_of_ble_eq_true rfl) (Or.inl hz) ?_
    refine go_goto (tgt := 323) hc dX10_readLine_18 rfl ?_
    exact go_vret hc (oend_v h hE) hr dX10_readLine_323
def fX10_copy_b3 : Nat → Nat → Int32 → Nat → Int32 → Int32 → Int32 → OM → Option OM
  | 0, _, _, _, _, _, _, _ => none
  | n + 1, bl0, l1, bl2, l3, l4, l5, σ =>
    if l4 ≤ l5 then (
     some σ)
    else (ogd (oin (l1 + l5) (oln bl0)) (
    ogd (oin (l3 + l5) (oln bl2)) (
    fX10_copy_b3 n bl0 l1 bl2 l3 l4 (l5 + 1) (sI σ bl2 ((l3 + l5).toNatClampNeg) (mI σ bl0 ((l1 + l5).toNatClampNeg))))))
set_option maxRecDepth 100000 in
set_option maxHeartbeats 4000000 in
theorem rX10_copy_b3 {K : OK} (hc : kcc K = cX10_copy) (ho : kow K = RX10) (hL : knL K = 6) (hN : 0 ≤ kN K) (hr : (kme K).sig.returnType = none) {σ0 : OM} (hE : oEnd K (none) σ0) (hz : kz K = 0) : ∀ (n : Nat) (bl0 : Nat) (l1 : Int32) (bl2 : Nat) (l3 : Int32) (l4 : Int32) (l5 : Int32) (σ : OM), okd bl0 = 20 → okd bl2 = 20 → fX10_copy_b3 n bl0 l1 bl2 l3 l4 l5 σ = some σ0 → Go K 3 [.ref bl0, .int l1, .ref bl2, .int l3, .int l4, .int l5] [] σ := by
  intro n
  induction n with
  | zero =>
    intro bl0 l1 bl2 l3 l4 l5 σ hbl0 hbl2 h
    cases h
  | succ n ih =>
    intro bl0 l1 bl2 l3 l4 l5 σ hbl0 hbl2 h
    rw [fX10_copy_b3] at h
    refine go_iload hc dX10_copy_3 rfl ?_
    refine go_iload hc dX10_copy_5 rfl ?_
    refine go_icmp_ge (tgt := 28) hc dX10_copy_7 rfl (fun hh => ?_) (fun hh => ?_)
    · rw [if_pos hh] at h
      exact go_vret hc (oend_v h hE) hr dX10_copy_28
    · rw [if_neg hh] at h
      refine go_aload_n hc dX10_copy_10 rfl rfl ?_
      refine go_iload_n hc dX10_copy_11 rfl rfl ?_
      refine go_iload hc dX10_copy_12 rfl ?_
      refine go_iadd hc dX10_copy_14 ?_
      refine go_aload_n hc dX10_copy_15 rfl rfl ?_
      refine go_iload_n hc dX10_copy_16 rfl rfl ?_
      refine go_iload hc dX10_copy_17 rfl ?_
      refine go_iadd hc dX10_copy_19 ?_
      obtain ⟨hg1, h⟩ := ogd_some h
      refine go_iald hc dX10_copy_20 hbl0 rfl hg1 rfl ?_
      obtain ⟨hg2, h⟩ := ogd_some h
      refine go_iast hc dX10_copy_21 hbl2 rfl hg2 rfl ?_
      refine go_iinc hc (lv1 := [.ref bl0, .int l1, .ref bl2, .int l3, .int l4, .int (l5 + 1)]) dX10_copy_22 rfl ci_1 hL (by decide) (fun _ _ e => by cases e; rfl) rfl ?_
      refine go_goto (tgt := 3) hc dX10_copy_25 rfl ?_
      exact ih bl0 l1 bl2 l3 l4 (l5 + 1) _ hbl0 hbl2 h
def fX10_copy (ax0 : Nat) (x1 : Int32) (ax2 : Nat) (x3 : Int32) (x4 : Int32) (σ : OM) : Option OM :=
  fX10_copy_b3 oF ax0 x1 ax2 x3 x4 (0 : Int32) σ
set_option maxRecDepth 100000 in
set_option maxHeartbeats 4000000 in
theorem rX10_copy {N : Nat} {ax0 : Nat} {x1 : Int32} {ax2 : Nat} {x3 : Int32} {x4 : Int32} {σ : OM} {σ0 : OM} (hax0 : okd ax0 = 20) (hax2 : okd ax2 = 20) (h : fX10_copy ax0 x1 ax2 x3 x4 σ = some σ0) (hN0 : 0 ≤ N) : oEv N MX10_copy [.ref ax0, .int x1, .ref ax2, .int x3, .int x4] σ (none) σ0 := by
  refine oEv_of (lv := [.ref ax0, .int x1, .ref ax2, .int x3, .int x4, .null]) (by decide +kernel) (fun g q hq => hq) (fun g => Nat.le_of_ble_eq_true rfl) ?_
  intro K hc ho hL hN1 hr hE hz
  have hN : 0 ≤ kN K := by rw [hN1]; exact hN0
  unfold fX10_copy at h
  refine go_iconst hc dX10_copy_0 ci_0 ?_
  refine go_istore hc (lv1 := [.ref ax0, .int x1, .ref ax2, .int x3, .int x4, .int (0 : Int32)]) dX10_copy_1 hL (by decide) (fun _ _ e => by cases e; rfl) rfl ?_
  exact rX10_copy_b3 hc ho hL hN hr hE hz oF ax0 x1 ax2 x3 x4 (0 : Int32) _ hax0 hax2 h
def fX10_well_b311 (σ : OM) : Option (Int32 × OM) :=
  obv (fX10_copy 84 (53 : Int32) 88 (2 : Int32) ((3 : Int32) * (mI (sI (sI σ 88 0 (mI σ 84 0)) 88 1 (mI (sI σ 88 0 (mI σ 84 0)) 84 6)) 84 6)) (sI (sI σ 88 0 (mI σ 84 0)) 88 1 (mI (sI σ 88 0 (mI σ 84 0)) 84 6))) (fun σ2 =>
  obv (fX10_copy 84 (93 : Int32) 88 (62 : Int32) (6 : Int32) σ2) (fun σ5 =>
  some ((mI (sI (sI (sI σ5 81 14 (1 : Int32)) 81 22 (0 : Int32)) 81 23 (0 : Int32)) 84 3), sI (sI (sI σ5 81 14 (1 : Int32)) 81 22 (0 : Int32)) 81 23 (0 : Int32))))
set_option maxRecDepth 100000 in
set_option maxHeartbeats 4000000 in
theorem rX10_well_b311 {K : OK} (hc : kcc K = cX10_well) (ho : kow K = RX10) (hL : knL K = 5) (hN : 971 ≤ kN K) (hr : (kme K).sig.returnType = (some .int)) {r0 : Int32} {σ0 : OM} (hE : oEnd K (some (.int r0)) σ0) (hz : kz K = 0) {σ : OM} (h : fX10_well_b311 σ = some (r0, σ0)) : Go K 311 [.ref 81, .null, .null, .null, .null] [] σ := by
  unfold fX10_well_b311 at h
  refine go_aload_n hc dX10_well_311 rfl rfl ?_
  refine go_getC (b := 88) rfl hc ho flX10_33 dX10_well_312 ok_81 ?_
  refine go_iconst hc dX10_well_315 ci_0 ?_
  refine go_aload_n hc dX10_well_316 rfl rfl ?_
  refine go_getC (b := 84) rfl hc ho flX10_20 dX10_well_317 ok_81 ?_
  refine go_iconst hc dX10_well_320 ci_0 ?_
  refine go_iald hc dX10_well_321 ok_84 ol_84 (by decide +kernel) cn_0 ?_
  refine go_iast hc dX10_well_322 ok_88 ol_88 (by decide +kernel) cn_0 ?_
  refine go_aload_n hc dX10_well_323 rfl rfl ?_
  refine go_getC (b := 88) rfl hc ho flX10_33 dX10_well_324 ok_81 ?_
  refine go_iconst hc dX10_well_327 ci_1 ?_
  refine go_aload_n hc dX10_well_328 rfl rfl ?_
  refine go_getC (b := 84) rfl hc ho flX10_20 dX10_well_329 ok_81 ?_
  refine go_bipush hc dX10_well_332 cb_6 ?_
  refine go_iald hc dX10_well_334 ok_84 ol_84 (by decide +kernel) cn_6 ?_
  refine go_iast hc dX10_well_335 ok_88 ol_88 (by decide +kernel) cn_1 ?_
  refine go_aload_n hc dX10_well_336 rfl rfl ?_
  refine go_getC (b := 84) rfl hc ho flX10_20 dX10_well_337 ok_81 ?_
  refine go_bipush hc dX10_well_340 cb_53 ?_
  refine go_aload_n hc dX10_well_342 rfl rfl ?_
  refine go_getC (b := 88) rfl hc ho flX10_33 dX10_well_343 ok_81 ?_
  refine go_iconst hc dX10_well_346 ci_2 ?_
  refine go_iconst hc dX10_well_347 ci_3 ?_
  refine go_aload_n hc dX10_well_348 rfl rfl ?_
  refine go_getC (b := 84) rfl hc ho flX10_20 dX10_well_349 ok_81 ?_
  refine go_bipush hc dX10_well_352 cb_6 ?_
  refine go_iald hc dX10_well_354 ok_84 ol_84 (by decide +kernel) cn_6 ?_
  refine go_imul hc dX10_well_355 ?_
  obtain ⟨σ2, hf3, h⟩ := obv_some h
  refine go_callSv hc ho cmX10_copy mlX10_208 dX10_well_356 (As := [.ref 84, .int (53 : Int32), .ref 88, .int (2 : Int32), .int ((3 : Int32) * (mI (sI (sI σ 88 0 (mI σ 84 0)) 88 1 (mI (sI σ 88 0 (mI σ 84 0)) 84 6)) 84 6))]) (rest := []) (rX10_copy (N := 0) ok_84 ok_88 hf3 (Nat.le_refl _)) rfl (Nat.le_trans (Nat.le_of_ble_eq_true rfl) hN) rfl (Nat.le_of_ble_eq_true rfl) (Or.inl hz) ?_
  refine go_aload_n hc dX10_well_359 rfl rfl ?_
  refine go_getC (b := 84) rfl hc ho flX10_20 dX10_well_360 ok_81 ?_
  refine go_bipush hc dX10_well_363 cb_93 ?_
  refine go_aload_n hc dX10_well_365 rfl rfl ?_
  refine go_getC (b := 88) rfl hc ho flX10_33 dX10_well_366 ok_81 ?_
  refine go_bipush hc dX10_well_369 cb_62 ?_
  refine go_bipush hc dX10_well_371 cb_6 ?_
  obtain ⟨σ5, hf6, h⟩ := obv_some h
  refine go_callSv hc ho cmX10_copy mlX10_208 dX10_well_373 (As := [.ref 84, .int (93 : Int32), .ref 88, .int (62 : Int32), .int (6 : Int32)]) (rest := []) (rX10_copy (N := 0) ok_84 ok_88 hf6 (Nat.le_refl _)) rfl (Nat.le_trans (Nat.le_of_ble_eq_true rfl) hN) rfl (Nat.le_of_ble_eq_true rfl) (Or.inl hz) ?_
  refine go_aload_n hc dX10_well_376 rfl rfl ?_
  refine go_iconst hc dX10_well_377 ci_1 ?_
  refine go_putI hc ho fpX10_212 dX10_well_378 ok_81 (fun _ => rfl) (fun _ => rfl) ?_
  refine go_aload_n hc dX10_well_381 rfl rfl ?_
  refine go_iconst hc dX10_well_382 ci_0 ?_
  refine go_putI hc ho fpX10_215 dX10_well_383 ok_81 (fun g => oni g _) (fun _ => rfl) ?_
  refine go_aload_n hc dX10_well_386 rfl rfl ?_
  refine go_iconst hc dX10_well_387 ci_0 ?_
  refine go_putI hc ho fpX10_218 dX10_well_388 ok_81 (fun g => oni g _) (fun _ => rfl) ?_
  refine go_aload_n hc dX10_well_391 rfl rfl ?_
  refine go_getC (b := 84) rfl hc ho flX10_20 dX10_well_392 ok_81 ?_
  refine go_iconst hc dX10_well_395 ci_3 ?_
  refine go_iald hc dX10_well_396 ok_84 ol_84 (by decide +kernel) cn_3 ?_
  exact go_iret hc (oend_i h hE) hr dX10_well_397
def fX10_well_b290 : Nat → Int32 → OM → Option (Int32 × OM)
  | 0, _, _ => none
  | n + 1, l4, σ =>
    if (68 : Int32) ≤ l4 then (
     fX10_well_b311 σ)
    else (ogd (oin l4 68) (
    fX10_well_b290 n (l4 + 1) (sI σ 88 l4.toNatClampNeg (0 : Int32))))
set_option maxRecDepth 100000 in
set_option maxHeartbeats 4000000 in
theorem rX10_well_b290 {K : OK} (hc : kcc K = cX10_well) (ho : kow K = RX10) (hL : knL K = 5) (hN : 971 ≤ kN K) (hr : (kme K).sig.returnType = (some .int)) {r0 : Int32} {σ0 : OM} (hE : oEnd K (some (.int r0)) σ0) (hz : kz K = 0) : ∀ (n : Nat) (l4 : Int32) (σ : OM), fX10_well_b290 n l4 σ = some (r0, σ0) → Go K 290 [.ref 81, .null, .null, .null, .int l4] [] σ := by
  intro n
  induction n with
  | zero =>
    intro l4 σ h
    cases h
  | succ n ih =>
    intro l4 σ h
    rw [fX10_well_b290] at h
    refine go_iload hc dX10_well_290 rfl ?_
    refine go_bipush hc dX10_well_292 cb_68 ?_
    refine go_icmp_ge (tgt := 311) hc dX10_well_294 rfl (fun hh => ?_) (fun hh => ?_)
    · rw [if_pos hh] at h
      refine go_mask [true, false, false, false, false] (lv1 := [.ref 81, .null, .null, .null, .null]) rfl ?_
      exact rX10_well_b311 hc ho hL hN hr hE hz h
    · rw [if_neg hh] at h
      refine go_aload_n hc dX10_well_297 rfl rfl ?_
      refine go_getC (b := 88) rfl hc ho flX10_33 dX10_well_298 ok_81 ?_
      refine go_iload hc dX10_well_301 rfl ?_
      refine go_iconst hc dX10_well_303 ci_0 ?_
      obtain ⟨hg1, h⟩ := ogd_some h
      refine go_iast hc dX10_well_304 ok_88 ol_88 hg1 rfl ?_
      refine go_iinc hc (lv1 := [.ref 81, .null, .null, .null, .int (l4 + 1)]) dX10_well_305 rfl ci_1 hL (by decide) (fun _ _ e => by cases e; rfl) rfl ?_
      refine go_goto (tgt := 290) hc dX10_well_308 rfl ?_
      exact ih (l4 + 1) _ h
def fX10_well_b258 : Nat → Int64 → Int32 → OM → Option (Int32 × OM)
  | 0, _, _, _ => none
  | n + 1, l2, l4, σ =>
    if (9 : Int32) ≤ l4 then (
     fX10_well_b290 oF (0 : Int32) σ)
    else (ogd (oin l4 9) (
    ogd (oin l4 9) (
    fX10_well_b258 n l2 (l4 + 1) (sL σ 86 l4.toNatClampNeg ((mL σ 87 l4.toNatClampNeg) &&& l2)))))
set_option maxRecDepth 100000 in
set_option maxHeartbeats 4000000 in
theorem rX10_well_b258 {K : OK} (hc : kcc K = cX10_well) (ho : kow K = RX10) (hL : knL K = 5) (hN : 971 ≤ kN K) (hr : (kme K).sig.returnType = (some .int)) {r0 : Int32} {σ0 : OM} (hE : oEnd K (some (.int r0)) σ0) (hz : kz K = 0) : ∀ (n : Nat) (l2 : Int64) (l4 : Int32) (σ : OM), fX10_well_b258 n l2 l4 σ = some (r0, σ0) → Go K 258 [.ref 81, .null, .long l2, .null, .int l4] [] σ := by
  intro n
  induction n with
  | zero =>
    intro l2 l4 σ h
    cases h
  | succ n ih =>
    intro l2 l4 σ h
    rw [fX10_well_b258] at h
    refine go_iload hc dX10_well_258 rfl ?_
    refine go_bipush hc dX10_well_260 cb_9 ?_
    refine go_icmp_ge (tgt := 287) hc dX10_well_262 rfl (fun hh => ?_) (fun hh => ?_)
    · rw [if_pos hh] at h
      refine go_iconst hc dX10_well_287 ci_0 ?_
      refine go_istore hc (lv1 := [.ref 81, .null, .long l2, .null, .int (0 : Int32)]) dX10_well_288 hL (by decide) (fun _ _ e => by cases e; rfl) rfl ?_
      refine go_mask [true, false, false, false, true] (lv1 := [.ref 81, .null, .null, .null, .int (0 : Int32)]) rfl ?_
      exact rX10_well_b290 hc ho hL hN hr hE hz oF (0 : Int32) _ h
    · rw [if_neg hh] at h
      refine go_aload_n hc dX10_well_265 rfl rfl ?_
      refine go_getC (b := 86) rfl hc ho flX10_26 dX10_well_266 ok_81 ?_
      refine go_iload hc dX10_well_269 rfl ?_
      refine go_aload_n hc dX10_well_271 rfl rfl ?_
      refine go_getC (b := 87) rfl hc ho flX10_30 dX10_well_272 ok_81 ?_
      refine go_iload hc dX10_well_275 rfl ?_
      obtain ⟨hg1, h⟩ := ogd_some h
      refine go_lald hc dX10_well_277 ok_87 ol_87 hg1 rfl ?_
      refine go_lload_n hc dX10_well_278 rfl rfl ?_
      refine go_land hc dX10_well_279 ?_
      obtain ⟨hg2, h⟩ := ogd_some h
      refine go_last hc dX10_well_280 ok_86 ol_86 hg2 rfl ?_
      refine go_iinc hc (lv1 := [.ref 81, .null, .long l2, .null, .int (l4 + 1)]) dX10_well_281 rfl ci_1 hL (by decide) (fun _ _ e => by cases e; rfl) rfl ?_
      refine go_goto (tgt := 258) hc dX10_well_284 rfl ?_
      exact ih l2 (l4 + 1) _ h
def fX10_well_b229 : Nat → Int64 → Int32 → OM → Option (Int32 × OM)
  | 0, _, _, _ => none
  | n + 1, l2, l4, σ =>
    if ((1 : Int32) <<< ((mI σ 84 1) &&& 31)) ≤ l4 then (
     fX10_well_b258 oF l2 (0 : Int32) σ)
    else (fX10_well_b229 n (l2 ||| ((1 : Int64) <<< (l4.toInt64 &&& 63))) (l4 + 1) σ)
set_option maxRecDepth 100000 in
set_option maxHeartbeats 4000000 in
theorem rX10_well_b229 {K : OK} (hc : kcc K = cX10_well) (ho : kow K = RX10) (hL : knL K = 5) (hN : 971 ≤ kN K) (hr : (kme K).sig.returnType = (some .int)) {r0 : Int32} {σ0 : OM} (hE : oEnd K (some (.int r0)) σ0) (hz : kz K = 0) : ∀ (n : Nat) (l2 : Int64) (l4 : Int32) (σ : OM), fX10_well_b229 n l2 l4 σ = some (r0, σ0) → Go K 229 [.ref 81, .null, .long l2, .null, .int l4] [] σ := by
  intro n
  induction n with
  | zero =>
    intro l2 l4 σ h
    cases h
  | succ n ih =>
    intro l2 l4 σ h
    rw [fX10_well_b229] at h
    refine go_iload hc dX10_well_229 rfl ?_
    refine go_iconst hc dX10_well_231 ci_1 ?_
    refine go_aload_n hc dX10_well_232 rfl rfl ?_
    refine go_getC (b := 84) rfl hc ho flX10_20 dX10_well_233 ok_81 ?_
    refine go_iconst hc dX10_well_236 ci_1 ?_
    refine go_iald hc dX10_well_237 ok_84 ol_84 (by decide +kernel) cn_1 ?_
    refine go_ishl hc dX10_well_238 ?_
    refine go_icmp_ge (tgt := 255) hc dX10_well_239 rfl (fun hh => ?_) (fun hh => ?_)
    · rw [if_pos hh] at h
      refine go_iconst hc dX10_well_255 ci_0 ?_
      refine go_istore hc (lv1 := [.ref 81, .null, .long l2, .null, .int (0 : Int32)]) dX10_well_256 hL (by decide) (fun _ _ e => by cases e; rfl) rfl ?_
      exact rX10_well_b258 hc ho hL hN hr hE hz oF l2 (0 : Int32) _ h
    · rw [if_neg hh] at h
      refine go_lload_n hc dX10_well_242 rfl rfl ?_
      refine go_lconst hc dX10_well_243 cl_1 ?_
      refine go_iload hc dX10_well_244 rfl ?_
      refine go_lshl hc dX10_well_246 ?_
      refine go_lor hc dX10_well_247 ?_
      refine go_lstore_n hc (lv1 := [.ref 81, .null, .long (l2 ||| ((1 : Int64) <<< (l4.toInt64 &&& 63))), .null, .int l4]) dX10_well_248 rfl hL (by decide) (fun _ _ e => by cases e; rfl) rfl ?_
      refine go_iinc hc (lv1 := [.ref 81, .null, .long (l2 ||| ((1 : Int64) <<< (l4.toInt64 &&& 63))), .null, .int (l4 + 1)]) dX10_well_249 rfl ci_1 hL (by decide) (fun _ _ e => by cases e; rfl) rfl ?_
      refine go_goto (tgt := 229) hc dX10_well_252 rfl ?_
      exact ih (l2 ||| ((1 : Int64) <<< (l4.toInt64 &&& 63))) (l4 + 1) _ h
def fX10_well_b195 (σ : OM) : Option (Int32 × OM) :=
  if (mI σ 81 13) = 0 then (
   obv (fX10_copy 85 (0 : Int32) 84 (0 : Int32) (279 : Int32) σ) (fun σ2 =>
   fX10_well_b229 oF (0 : Int64) (0 : Int32) σ2))
  else (obi (fX10_no (4 : Int32) σ) (fun r4 σ5 =>
  some (r4, σ5)))
set_option maxRecDepth 100000 in
set_option maxHeartbeats 4000000 in
theorem rX10_well_b195 {K : OK} (hc : kcc K = cX10_well) (ho : kow K = RX10) (hL : knL K = 5) (hN : 971 ≤ kN K) (hr : (kme K).sig.returnType = (some .int)) {r0 : Int32} {σ0 : OM} (hE : oEnd K (some (.int r0)) σ0) (hz : kz K = 0) {σ : OM} (h : fX10_well_b195 σ = some (r0, σ0)) : Go K 195 [.ref 81, .null, .null, .null, .null] [] σ := by
  unfold fX10_well_b195 at h
  refine go_aload_n hc dX10_well_195 rfl rfl ?_
  refine go_getI hc ho flX10_89 dX10_well_196 ok_81 ?_
  refine go_if_eq (tgt := 208) hc dX10_well_199 rfl (fun hh => ?_) (fun hh => ?_)
  · rw [if_pos hh] at h
    refine go_aload_n hc dX10_well_208 rfl rfl ?_
    refine go_getC (b := 85) rfl hc ho flX10_23 dX10_well_209 ok_81 ?_
    refine go_iconst hc dX10_well_212 ci_0 ?_
    refine go_aload_n hc dX10_well_213 rfl rfl ?_
    refine go_getC (b := 84) rfl hc ho flX10_20 dX10_well_214 ok_81 ?_
    refine go_iconst hc dX10_well_217 ci_0 ?_
    refine go_sipush hc dX10_well_218 cs_279 ?_
    obtain ⟨σ2, hf3, h⟩ := obv_some h
    refine go_callSv hc ho cmX10_copy mlX10_208 dX10_well_221 (As := [.ref 85, .int (0 : Int32), .ref 84, .int (0 : Int32), .int (279 : Int32)]) (rest := []) (rX10_copy (N := 0) ok_85 ok_84 hf3 (Nat.le_refl _)) rfl (Nat.le_trans (Nat.le_of_ble_eq_true rfl) hN) rfl (Nat.le_of_ble_eq_true rfl) (Or.inl hz) ?_
    refine go_lconst hc dX10_well_224 cl_0 ?_
    refine go_lstore_n hc (lv1 := [.ref 81, .null, .long (0 : Int64), .null, .null]) dX10_well_225 rfl hL (by decide) (fun _ _ e => by cases e; rfl) rfl ?_
    refine go_iconst hc dX10_well_226 ci_0 ?_
    refine go_istore hc (lv1 := [.ref 81, .null, .long (0 : Int64), .null, .int (0 : Int32)]) dX10_well_227 hL (by decide) (fun _ _ e => by cases e; rfl) rfl ?_
    exact rX10_well_b229 hc ho hL hN hr hE hz oF (0 : Int64) (0 : Int32) _ h
  · rw [if_neg hh] at h
    refine go_aload_n hc dX10_well_202 rfl rfl ?_
    refine go_iconst hc dX10_well_203 ci_4 ?_
    obtain ⟨r4, σ5, hf6, h⟩ := obi_some h
    refine go_callVi hc ho cmX10_no mlX10_202 dX10_well_204 ok_81 (As := [.int (4 : Int32)]) (rest := []) (rX10_no (N := 0) hf6 (Nat.le_refl _)) rfl (Nat.le_trans (Nat.le_of_ble_eq_true rfl) hN) rfl (Nat.le_of_ble_eq_true rfl) (Or.inl hz) ?_
    exact go_iret hc (oend_i h hE) hr dX10_well_207
def fX10_well_b150 (σ : OM) : Option (Int32 × OM) :=
  if (mI σ 81 13) = 0 then (
   if (mI σ 85 9) = 0 then (
    obv (fX10_wrong (6 : Int32) (mI σ 81 4) σ) (fun σ2 =>
    fX10_well_b195 σ2))
   else (if (mI σ 85 1) = 0 then (
    obv (fX10_wrong (6 : Int32) (mI σ 81 4) σ) (fun σ5 =>
    fX10_well_b195 σ5))
   else (if (mI σ 85 3) = 0 then (
    obv (fX10_wrong (6 : Int32) (mI σ 81 4) σ) (fun σ8 =>
    fX10_well_b195 σ8))
   else (fX10_well_b195 σ))))
  else (fX10_well_b195 σ)
set_option maxRecDepth 100000 in
set_option maxHeartbeats 4000000 in
theorem rX10_well_b150 {K : OK} (hc : kcc K = cX10_well) (ho : kow K = RX10) (hL : knL K = 5) (hN : 971 ≤ kN K) (hr : (kme K).sig.returnType = (some .int)) {r0 : Int32} {σ0 : OM} (hE : oEnd K (some (.int r0)) σ0) (hz : kz K = 0) {σ : OM} (h : fX10_well_b150 σ = some (r0, σ0)) : Go K 150 [.ref 81, .null, .null, .null, .null] [] σ := by
  unfold fX10_well_b150 at h
  refine go_aload_n hc dX10_well_150 rfl rfl ?_
  refine go_getI hc ho flX10_89 dX10_well_151 ok_81 ?_
  refine go_if_ne (tgt := 195) hc dX10_well_154 rfl (fun hh => ?_) (fun hh => ?_)
  · rw [if_neg hh] at h
    exact rX10_well_b195 hc ho hL hN hr hE hz h
  · rw [if_pos hh] at h
    refine go_aload_n hc dX10_well_157 rfl rfl ?_
    refine go_getC (b := 85) rfl hc ho flX10_23 dX10_well_158 ok_81 ?_
    refine go_bipush hc dX10_well_161 cb_9 ?_
    refine go_iald hc dX10_well_163 ok_85 ol_85 (by decide +kernel) cn_9 ?_
    refine go_if_eq (tgt := 185) hc dX10_well_164 rfl (fun hh => ?_) (fun hh => ?_)
    · rw [if_pos hh] at h
      refine go_aload_n hc dX10_well_185 rfl rfl ?_
      refine go_bipush hc dX10_well_186 cb_6 ?_
      refine go_aload_n hc dX10_well_188 rfl rfl ?_
      refine go_getI hc ho flX10_70 dX10_well_189 ok_81 ?_
      obtain ⟨σ2, hf3, h⟩ := obv_some h
      refine go_callVv hc ho cmX10_wrong mlX10_116 dX10_well_192 ok_81 (As := [.int (6 : Int32), .int (mI σ 81 4)]) (rest := []) (rX10_wrong (N := 0) hf3 (Nat.le_refl _)) rfl (Nat.le_trans (Nat.le_of_ble_eq_true rfl) hN) rfl (Nat.le_of_ble_eq_true rfl) (Or.inl hz) ?_
      exact rX10_well_b195 hc ho hL hN hr hE hz h
    · rw [if_neg hh] at h
      refine go_aload_n hc dX10_well_167 rfl rfl ?_
      refine go_getC (b := 85) rfl hc ho flX10_23 dX10_well_168 ok_81 ?_
      refine go_iconst hc dX10_well_171 ci_1 ?_
      refine go_iald hc dX10_well_172 ok_85 ol_85 (by decide +kernel) cn_1 ?_
      refine go_if_eq (tgt := 185) hc dX10_well_173 rfl (fun hh => ?_) (fun hh => ?_)
      · rw [if_pos hh] at h
        refine go_aload_n hc dX10_well_185 rfl rfl ?_
        refine go_bipush hc dX10_well_186 cb_6 ?_
        refine go_aload_n hc dX10_well_188 rfl rfl ?_
        refine go_getI hc ho flX10_70 dX10_well_189 ok_81 ?_
        obtain ⟨σ5, hf6, h⟩ := obv_some h
        refine go_callVv hc ho cmX10_wrong mlX10_116 dX10_well_192 ok_81 (As := [.int (6 : Int32), .int (mI σ 81 4)]) (rest := []) (rX10_wrong (N := 0) hf6 (Nat.le_refl _)) rfl (Nat.le_trans (Nat.le_of_ble_eq_true rfl) hN) rfl (Nat.le_of_ble_eq_true rfl) (Or.inl hz) ?_
        exact rX10_well_b195 hc ho hL hN hr hE hz h
      · rw [if_neg hh] at h
        refine go_aload_n hc dX10_well_176 rfl rfl ?_
        refine go_getC (b := 85) rfl hc ho flX10_23 dX10_well_177 ok_81 ?_
        refine go_iconst hc dX10_well_180 ci_3 ?_
        refine go_iald hc dX10_well_181 ok_85 ol_85 (by decide +kernel) cn_3 ?_
        refine go_if_ne (tgt := 195) hc dX10_well_182 rfl (fun hh => ?_) (fun hh => ?_)
        · rw [if_neg hh] at h
          exact rX10_well_b195 hc ho hL hN hr hE hz h
        · rw [if_pos hh] at h
          refine go_aload_n hc dX10_well_185 rfl rfl ?_
          refine go_bipush hc dX10_well_186 cb_6 ?_
          refine go_aload_n hc dX10_well_188 rfl rfl ?_
          refine go_getI hc ho flX10_70 dX10_well_189 ok_81 ?_
          obtain ⟨σ8, hf9, h⟩ := obv_some h
          refine go_callVv hc ho cmX10_wrong mlX10_116 dX10_well_192 ok_81 (As := [.int (6 : Int32), .int (mI σ 81 4)]) (rest := []) (rX10_wrong (N := 0) hf9 (Nat.le_refl _)) rfl (Nat.le_trans (Nat.le_of_ble_eq_true rfl) hN) rfl (Nat.le_of_ble_eq_true rfl) (Or.inl hz) ?_
          exact rX10_well_b195 hc ho hL hN hr hE hz h
def fX10_well_b127 (σ : OM) : Option (Int32 × OM) :=
  if (mI σ 81 13) = 0 then (
   if (mI σ 81 6) = 0 then (
    fX10_well_b150 σ)
   else (obv (fX10_wrong (1 : Int32) (mI σ 81 4) σ) (fun σ2 =>
   fX10_well_b150 σ2)))
  else (fX10_well_b150 σ)
set_option maxRecDepth 100000 in
set_option maxHeartbeats 4000000 in
theorem rX10_well_b127 {K : OK} (hc : kcc K = cX10_well) (ho : kow K = RX10) (hL : knL K = 5) (hN : 971 ≤ kN K) (hr : (kme K).sig.returnType = (some .int)) {r0 : Int32} {σ0 : OM} (hE : oEnd K (some (.int r0)) σ0) (hz : kz K = 0) {σ : OM} (h : fX10_well_b127 σ = some (r0, σ0)) : Go K 127 [.ref 81, .null, .null, .null, .null] [] σ := by
  unfold fX10_well_b127 at h
  refine go_aload_n hc dX10_well_127 rfl rfl ?_
  refine go_getI hc ho flX10_89 dX10_well_128 ok_81 ?_
  refine go_if_ne (tgt := 150) hc dX10_well_131 rfl (fun hh => ?_) (fun hh => ?_)
  · rw [if_neg hh] at h
    exact rX10_well_b150 hc ho hL hN hr hE hz h
  · rw [if_pos hh] at h
    refine go_aload_n hc dX10_well_134 rfl rfl ?_
    refine go_getI hc ho flX10_79 dX10_well_135 ok_81 ?_
    refine go_if_eq (tgt := 150) hc dX10_well_138 rfl (fun hh => ?_) (fun hh => ?_)
    · rw [if_pos hh] at h
      exact rX10_well_b150 hc ho hL hN hr hE hz h
    · rw [if_neg hh] at h
      refine go_aload_n hc dX10_well_141 rfl rfl ?_
      refine go_iconst hc dX10_well_142 ci_1 ?_
      refine go_aload_n hc dX10_well_143 rfl rfl ?_
      refine go_getI hc ho flX10_70 dX10_well_144 ok_81 ?_
      obtain ⟨σ2, hf3, h⟩ := obv_some h
      refine go_callVv hc ho cmX10_wrong mlX10_116 dX10_well_147 ok_81 (As := [.int (1 : Int32), .int (mI σ 81 4)]) (rest := []) (rX10_wrong (N := 0) hf3 (Nat.le_refl _)) rfl (Nat.le_trans (Nat.le_of_ble_eq_true rfl) hN) rfl (Nat.le_of_ble_eq_true rfl) (Or.inl hz) ?_
      exact rX10_well_b150 hc ho hL hN hr hE hz h
def fX10_well_b100 : Nat → OM → Option (Int32 × OM)
  | 0, _ => none
  | n + 1, σ =>
    if (mI σ 81 13) = 0 then (
     if (mI σ 81 6) = (59 : Int32) then (
      obv (fX10_pass σ) (fun σ2 =>
      obv (fX10_readLine σ2) (fun σ5 =>
      fX10_well_b100 n σ5)))
     else (fX10_well_b127 σ))
    else (fX10_well_b127 σ)
set_option maxRecDepth 100000 in
set_option maxHeartbeats 4000000 in
theorem rX10_well_b100 {K : OK} (hc : kcc K = cX10_well) (ho : kow K = RX10) (hL : knL K = 5) (hN : 971 ≤ kN K) (hr : (kme K).sig.returnType = (some .int)) {r0 : Int32} {σ0 : OM} (hE : oEnd K (some (.int r0)) σ0) (hz : kz K = 0) : ∀ (n : Nat) (σ : OM), fX10_well_b100 n σ = some (r0, σ0) → Go K 100 [.ref 81, .null, .null, .null, .null] [] σ := by
  intro n
  induction n with
  | zero =>
    intro σ h
    cases h
  | succ n ih =>
    intro σ h
    rw [fX10_well_b100] at h
    refine go_aload_n hc dX10_well_100 rfl rfl ?_
    refine go_getI hc ho flX10_89 dX10_well_101 ok_81 ?_
    refine go_if_ne (tgt := 127) hc dX10_well_104 rfl (fun hh => ?_) (fun hh => ?_)
    · rw [if_neg hh] at h
      exact rX10_well_b127 hc ho hL hN hr hE hz h
    · rw [if_pos hh] at h
      refine go_aload_n hc dX10_well_107 rfl rfl ?_
      refine go_getI hc ho flX10_79 dX10_well_108 ok_81 ?_
      refine go_bipush hc dX10_well_111 cb_59 ?_
      refine go_icmp_ne (tgt := 127) hc dX10_well_113 rfl (fun hh => ?_) (fun hh => ?_)
      · rw [if_neg hh] at h
        exact rX10_well_b127 hc ho hL hN hr hE hz h
      · rw [if_pos hh] at h
        refine go_aload_n hc dX10_well_116 rfl rfl ?_
        obtain ⟨σ2, hf3, h⟩ := obv_some h
        refine go_callVv hc ho cmX10_pass mlX10_110 dX10_well_117 ok_81 (As := []) (rest := []) (rX10_pass (N := 1) hf3 (Nat.le_refl _)) rfl (Nat.le_trans (Nat.le_of_ble_eq_true rfl) hN) rfl (Nat.le_of_ble_eq_true rfl) (Or.inl hz) ?_
        refine go_aload_n hc dX10_well_120 rfl rfl ?_
        obtain ⟨σ5, hf6, h⟩ := obv_some h
        refine go_callVv hc ho cmX10_readLine mlX10_205 dX10_well_121 ok_81 (As := []) (rest := []) (rX10_readLine (N := 970) hf6 (Nat.le_refl _)) rfl (Nat.le_trans (Nat.le_of_ble_eq_true rfl) hN) rfl (Nat.le_of_ble_eq_true rfl) (Or.inl hz) ?_
        refine go_goto (tgt := 100) hc dX10_well_124 rfl ?_
        exact ih _ h
def fX10_well_b82 (l1 : Int32) (σ : OM) : Option (Int32 × OM) :=
  obv (fX10_pass (sI (sI σ 81 3 l1) 81 5 (0 : Int32))) (fun σ2 =>
  obv (fX10_readLine σ2) (fun σ5 =>
  fX10_well_b100 oF σ5))
set_option maxRecDepth 100000 in
set_option maxHeartbeats 4000000 in
theorem rX10_well_b82 {K : OK} (hc : kcc K = cX10_well) (ho : kow K = RX10) (hL : knL K = 5) (hN : 971 ≤ kN K) (hr : (kme K).sig.returnType = (some .int)) {r0 : Int32} {σ0 : OM} (hE : oEnd K (some (.int r0)) σ0) (hz : kz K = 0) {l1 : Int32} {σ : OM} (h : fX10_well_b82 l1 σ = some (r0, σ0)) : Go K 82 [.ref 81, .int l1, .null, .null, .null] [] σ := by
  unfold fX10_well_b82 at h
  refine go_aload_n hc dX10_well_82 rfl rfl ?_
  refine go_iload_n hc dX10_well_83 rfl rfl ?_
  refine go_putI hc ho fpX10_60 dX10_well_84 ok_81 (fun g => oni g _) (fun _ => rfl) ?_
  refine go_aload_n hc dX10_well_87 rfl rfl ?_
  refine go_iconst hc dX10_well_88 ci_0 ?_
  refine go_putI hc ho fpX10_63 dX10_well_89 ok_81 (fun g => oni g _) (fun _ => rfl) ?_
  refine go_aload_n hc dX10_well_92 rfl rfl ?_
  obtain ⟨σ2, hf3, h⟩ := obv_some h
  refine go_callVv hc ho cmX10_pass mlX10_110 dX10_well_93 ok_81 (As := []) (rest := []) (rX10_pass (N := 1) hf3 (Nat.le_refl _)) rfl (Nat.le_trans (Nat.le_of_ble_eq_true rfl) hN) rfl (Nat.le_of_ble_eq_true rfl) (Or.inl hz) ?_
  refine go_aload_n hc dX10_well_96 rfl rfl ?_
  obtain ⟨σ5, hf6, h⟩ := obv_some h
  refine go_callVv hc ho cmX10_readLine mlX10_205 dX10_well_97 ok_81 (As := []) (rest := []) (rX10_readLine (N := 970) hf6 (Nat.le_refl _)) rfl (Nat.le_trans (Nat.le_of_ble_eq_true rfl) hN) rfl (Nat.le_of_ble_eq_true rfl) (Or.inl hz) ?_
  refine go_mask [true, false, false, false, false] (lv1 := [.ref 81, .null, .null, .null, .null]) rfl ?_
  exact rX10_well_b100 hc ho hL hN hr hE hz oF _ h
def fX10_well_b61 : Nat → Int32 → Int32 → OM → Option (Int32 × OM)
  | 0, _, _, _ => none
  | n + 1, l1, l2, σ =>
    if (9 : Int32) ≤ l2 then (
     fX10_well_b82 l1 σ)
    else (ogd (oin l2 9) (
    fX10_well_b61 n l1 (l2 + 1) (sL σ 87 l2.toNatClampNeg ((-1) : Int64))))
set_option maxRecDepth 100000 in
set_option maxHeartbeats 4000000 in
theorem rX10_well_b61 {K : OK} (hc : kcc K = cX10_well) (ho : kow K = RX10) (hL : knL K = 5) (hN : 971 ≤ kN K) (hr : (kme K).sig.returnType = (some .int)) {r0 : Int32} {σ0 : OM} (hE : oEnd K (some (.int r0)) σ0) (hz : kz K = 0) : ∀ (n : Nat) (l1 : Int32) (l2 : Int32) (σ : OM), fX10_well_b61 n l1 l2 σ = some (r0, σ0) → Go K 61 [.ref 81, .int l1, .int l2, .null, .null] [] σ := by
  intro n
  induction n with
  | zero =>
    intro l1 l2 σ h
    cases h
  | succ n ih =>
    intro l1 l2 σ h
    rw [fX10_well_b61] at h
    refine go_iload_n hc dX10_well_61 rfl rfl ?_
    refine go_bipush hc dX10_well_62 cb_9 ?_
    refine go_icmp_ge (tgt := 82) hc dX10_well_64 rfl (fun hh => ?_) (fun hh => ?_)
    · rw [if_pos hh] at h
      refine go_mask [true, true, false, false, false] (lv1 := [.ref 81, .int l1, .null, .null, .null]) rfl ?_
      exact rX10_well_b82 hc ho hL hN hr hE hz h
    · rw [if_neg hh] at h
      refine go_aload_n hc dX10_well_67 rfl rfl ?_
      refine go_getC (b := 87) rfl hc ho flX10_30 dX10_well_68 ok_81 ?_
      refine go_iload_n hc dX10_well_71 rfl rfl ?_
      refine go_ldc2 hc ho klX10_181 dX10_well_72 ?_
      obtain ⟨hg1, h⟩ := ogd_some h
      refine go_last hc dX10_well_75 ok_87 ol_87 hg1 rfl ?_
      refine go_iinc hc (lv1 := [.ref 81, .int l1, .int (l2 + 1), .null, .null]) dX10_well_76 rfl ci_1 hL (by decide) (fun _ _ e => by cases e; rfl) rfl ?_
      refine go_goto (tgt := 61) hc dX10_well_79 rfl ?_
      exact ih l1 (l2 + 1) _ h
def fX10_well_b39 : Nat → Int32 → Int32 → OM → Option (Int32 × OM)
  | 0, _, _, _ => none
  | n + 1, l1, l2, σ =>
    if (279 : Int32) ≤ l2 then (
     fX10_well_b61 oF l1 (0 : Int32) σ)
    else (ogd (oin l2 279) (
    fX10_well_b39 n l1 (l2 + 1) (sI σ 85 l2.toNatClampNeg (0 : Int32))))
set_option maxRecDepth 100000 in
set_option maxHeartbeats 4000000 in
theorem rX10_well_b39 {K : OK} (hc : kcc K = cX10_well) (ho : kow K = RX10) (hL : knL K = 5) (hN : 971 ≤ kN K) (hr : (kme K).sig.returnType = (some .int)) {r0 : Int32} {σ0 : OM} (hE : oEnd K (some (.int r0)) σ0) (hz : kz K = 0) : ∀ (n : Nat) (l1 : Int32) (l2 : Int32) (σ : OM), fX10_well_b39 n l1 l2 σ = some (r0, σ0) → Go K 39 [.ref 81, .int l1, .int l2, .null, .null] [] σ := by
  intro n
  induction n with
  | zero =>
    intro l1 l2 σ h
    cases h
  | succ n ih =>
    intro l1 l2 σ h
    rw [fX10_well_b39] at h
    refine go_iload_n hc dX10_well_39 rfl rfl ?_
    refine go_sipush hc dX10_well_40 cs_279 ?_
    refine go_icmp_ge (tgt := 59) hc dX10_well_43 rfl (fun hh => ?_) (fun hh => ?_)
    · rw [if_pos hh] at h
      refine go_iconst hc dX10_well_59 ci_0 ?_
      refine go_istore_n hc (lv1 := [.ref 81, .int l1, .int (0 : Int32), .null, .null]) dX10_well_60 rfl hL (by decide) (fun _ _ e => by cases e; rfl) rfl ?_
      exact rX10_well_b61 hc ho hL hN hr hE hz oF l1 (0 : Int32) _ h
    · rw [if_neg hh] at h
      refine go_aload_n hc dX10_well_46 rfl rfl ?_
      refine go_getC (b := 85) rfl hc ho flX10_23 dX10_well_47 ok_81 ?_
      refine go_iload_n hc dX10_well_50 rfl rfl ?_
      refine go_iconst hc dX10_well_51 ci_0 ?_
      obtain ⟨hg1, h⟩ := ogd_some h
      refine go_iast hc dX10_well_52 ok_85 ol_85 hg1 rfl ?_
      refine go_iinc hc (lv1 := [.ref 81, .int l1, .int (l2 + 1), .null, .null]) dX10_well_53 rfl ci_1 hL (by decide) (fun _ _ e => by cases e; rfl) rfl ?_
      refine go_goto (tgt := 39) hc dX10_well_56 rfl ?_
      exact ih l1 (l2 + 1) _ h
def fX10_well (x0 : Int32) (σ : OM) : Option (Int32 × OM) :=
  obv (fX10_good σ) (fun σ2 =>
  obi (fX10_in x0 (0 : Int32) (mI σ2 81 2) σ2) (fun r4 σ5 =>
  if r4 = 0 then (
   obi (fX10_no (2 : Int32) σ5) (fun r7 σ8 =>
   some (r7, σ8)))
  else (fX10_well_b39 oF x0 (0 : Int32) (sI (sI (sI σ5 81 2 (0 : Int32)) 81 9 (0 : Int32)) 81 13 (0 : Int32)))))
set_option maxRecDepth 100000 in
set_option maxHeartbeats 4000000 in
theorem rX10_well {N : Nat} {x0 : Int32} {σ : OM} {r0 : Int32} {σ0 : OM} (h : fX10_well x0 σ = some (r0, σ0)) (hN0 : 971 ≤ N) : oEv N MX10_well [.ref 81, .int x0] σ (some (.int r0)) σ0 := by
  refine oEv_of (lv := [.ref 81, .int x0, .null, .null, .null]) (by decide +kernel) (fun g q hq => hq) (fun g => Nat.le_of_ble_eq_true rfl) ?_
  intro K hc ho hL hN1 hr hE hz
  have hN : 971 ≤ kN K := by rw [hN1]; exact hN0
  unfold fX10_well at h
  refine go_aload_n hc dX10_well_0 rfl rfl ?_
  obtain ⟨σ2, hf3, h⟩ := obv_some h
  refine go_callVv hc ho cmX10_good mlX10_199 dX10_well_1 ok_81 (As := []) (rest := []) (rX10_good (N := 0) hf3 (Nat.le_refl _)) rfl (Nat.le_trans (Nat.le_of_ble_eq_true rfl) hN) rfl (Nat.le_of_ble_eq_true rfl) (Or.inl hz) ?_
  refine go_iload_n hc dX10_well_4 rfl rfl ?_
  refine go_iconst hc dX10_well_5 ci_0 ?_
  refine go_aload_n hc dX10_well_6 rfl rfl ?_
  refine go_getI hc ho flX10_57 dX10_well_7 ok_81 ?_
  obtain ⟨r4, σ5, hf6, h⟩ := obi_some h
  refine go_callSi hc ho cmX10_in mlX10_156 dX10_well_10 (As := [.int x0, .int (0 : Int32), .int (mI σ2 81 2)]) (rest := []) (rX10_in (N := 0) hf6 (Nat.le_refl _)) rfl (Nat.le_trans (Nat.le_of_ble_eq_true rfl) hN) rfl (Nat.le_of_ble_eq_true rfl) (Or.inl hz) ?_
  refine go_if_ne (tgt := 22) hc dX10_well_13 rfl (fun hh => ?_) (fun hh => ?_)
  · rw [if_neg hh] at h
    refine go_aload_n hc dX10_well_22 rfl rfl ?_
    refine go_iconst hc dX10_well_23 ci_0 ?_
    refine go_putI hc ho fpX10_57 dX10_well_24 ok_81 (fun g => oni g _) (fun _ => rfl) ?_
    refine go_aload_n hc dX10_well_27 rfl rfl ?_
    refine go_iconst hc dX10_well_28 ci_0 ?_
    refine go_putI hc ho fpX10_93 dX10_well_29 ok_81 (fun g => oni g _) (fun _ => rfl) ?_
    refine go_aload_n hc dX10_well_32 rfl rfl ?_
    refine go_iconst hc dX10_well_33 ci_0 ?_
    refine go_putI hc ho fpX10_89 dX10_well_34 ok_81 (fun _ => rfl) (fun _ => rfl) ?_
    refine go_iconst hc dX10_well_37 ci_0 ?_
    refine go_istore_n hc (lv1 := [.ref 81, .int x0, .int (0 : Int32), .null, .null]) dX10_well_38 rfl hL (by decide) (fun _ _ e => by cases e; rfl) rfl ?_
    exact rX10_well_b39 hc ho hL hN hr hE hz oF x0 (0 : Int32) _ h
  · rw [if_pos hh] at h
    refine go_aload_n hc dX10_well_16 rfl rfl ?_
    refine go_iconst hc dX10_well_17 ci_2 ?_
    obtain ⟨r7, σ8, hf9, h⟩ := obi_some h
    refine go_callVi hc ho cmX10_no mlX10_202 dX10_well_18 ok_81 (As := [.int (2 : Int32)]) (rest := []) (rX10_no (N := 0) hf9 (Nat.le_refl _)) rfl (Nat.le_trans (Nat.le_of_ble_eq_true rfl) hN) rfl (Nat.le_of_ble_eq_true rfl) (Or.inl hz) ?_
    exact go_iret hc (oend_i h hE) hr dX10_well_21
def fX10_fault (σ : OM) : Option (Int32 × OM) :=
  some ((mI (sI σ 81 0 (0 : Int32)) 81 9), sI σ 81 0 (0 : Int32))
set_option maxRecDepth 100000 in
set_option maxHeartbeats 4000000 in
theorem rX10_fault {N : Nat} {σ : OM} {r0 : Int32} {σ0 : OM} (h : fX10_fault σ = some (r0, σ0)) (hN0 : 0 ≤ N) : oEv N MX10_fault [.ref 81] σ (some (.int r0)) σ0 := by
  refine oEv_of (lv := [.ref 81]) (by decide +kernel) (fun g q hq => hq) (fun g => Nat.le_of_ble_eq_true rfl) ?_
  intro K hc ho hL hN1 hr hE hz
  have hN : 0 ≤ kN K := by rw [hN1]; exact hN0
  unfold fX10_fault at h
  refine go_aload_n hc dX10_fault_0 rfl rfl ?_
  refine go_iconst hc dX10_fault_1 ci_0 ?_
  refine go_putI hc ho fpX10_51 dX10_fault_2 ok_81 (fun g => oni g _) (fun _ => rfl) ?_
  refine go_aload_n hc dX10_fault_5 rfl rfl ?_
  refine go_getI hc ho flX10_93 dX10_fault_6 ok_81 ?_
  exact go_iret hc (oend_i h hE) hr dX10_fault_9
def fX10_where (σ : OM) : Option (Int32 × OM) :=
  if (mI (sI σ 81 0 (0 : Int32)) 81 11) = (4 : Int32) then (
   some ((mI (sI σ 81 0 (0 : Int32)) 81 10), sI σ 81 0 (0 : Int32)))
  else (some (((-1) : Int32), sI σ 81 0 (0 : Int32)))
set_option maxRecDepth 100000 in
set_option maxHeartbeats 4000000 in
theorem rX10_where {N : Nat} {σ : OM} {r0 : Int32} {σ0 : OM} (h : fX10_where σ = some (r0, σ0)) (hN0 : 0 ≤ N) : oEv N MX10_where [.ref 81] σ (some (.int r0)) σ0 := by
  refine oEv_of (lv := [.ref 81]) (by decide +kernel) (fun g q hq => hq) (fun g => Nat.le_of_ble_eq_true rfl) ?_
  intro K hc ho hL hN1 hr hE hz
  have hN : 0 ≤ kN K := by rw [hN1]; exact hN0
  unfold fX10_where at h
  refine go_aload_n hc dX10_where_0 rfl rfl ?_
  refine go_iconst hc dX10_where_1 ci_0 ?_
  refine go_putI hc ho fpX10_51 dX10_where_2 ok_81 (fun g => oni g _) (fun _ => rfl) ?_
  refine go_aload_n hc dX10_where_5 rfl rfl ?_
  refine go_getI hc ho flX10_54 dX10_where_6 ok_81 ?_
  refine go_iconst hc dX10_where_9 ci_4 ?_
  refine go_icmp_ne (tgt := 20) hc dX10_where_10 rfl (fun hh => ?_) (fun hh => ?_)
  · rw [if_neg hh] at h
    refine go_iconst hc dX10_where_20 ci_m1 ?_
    exact go_iret hc (oend_i h hE) hr dX10_where_21
  · rw [if_pos hh] at h
    refine go_aload_n hc dX10_where_13 rfl rfl ?_
    refine go_getI hc ho flX10_13 dX10_where_14 ok_81 ?_
    refine go_goto (tgt := 21) hc dX10_where_17 rfl ?_
    exact go_iret hc (oend_i h hE) hr dX10_where_21
def fX10_isWorld (x0 : Int32) (σ : OM) : Option (Int32 × OM) :=
  if (mI σ 81 14) = 0 then (
   some ((0 : Int32), σ))
  else (obi (fX10_in x0 (0 : Int32) (((1 : Int32) <<< ((mI σ 84 1) &&& 31)) - (1 : Int32)) σ) (fun r1 σ2 =>
  if r1 = 0 then (
   some ((0 : Int32), σ2))
  else (some ((1 : Int32), σ2))))
set_option maxRecDepth 100000 in
set_option maxHeartbeats 4000000 in
theorem rX10_isWorld {N : Nat} {x0 : Int32} {σ : OM} {r0 : Int32} {σ0 : OM} (h : fX10_isWorld x0 σ = some (r0, σ0)) (hN0 : 1 ≤ N) : oEv N MX10_isWorld [.ref 81, .int x0] σ (some (.int r0)) σ0 := by
  refine oEv_of (lv := [.ref 81, .int x0]) (by decide +kernel) (fun g q hq => hq) (fun g => Nat.le_of_ble_eq_true rfl) ?_
  intro K hc ho hL hN1 hr hE hz
  have hN : 1 ≤ kN K := by rw [hN1]; exact hN0
  unfold fX10_isWorld at h
  refine go_aload_n hc dX10_isWorld_0 rfl rfl ?_
  refine go_getI hc ho flX10_212 dX10_isWorld_1 ok_81 ?_
  refine go_if_eq (tgt := 29) hc dX10_isWorld_4 rfl (fun hh => ?_) (fun hh => ?_)
  · rw [if_pos hh] at h
    refine go_iconst hc dX10_isWorld_29 ci_0 ?_
    exact go_zret hc (oend_i h hE) hr rfl dX10_isWorld_30
  · rw [if_neg hh] at h
    refine go_iload_n hc dX10_isWorld_7 rfl rfl ?_
    refine go_iconst hc dX10_isWorld_8 ci_0 ?_
    refine go_iconst hc dX10_isWorld_9 ci_1 ?_
    refine go_aload_n hc dX10_isWorld_10 rfl rfl ?_
    refine go_getC (b := 84) rfl hc ho flX10_20 dX10_isWorld_11 ok_81 ?_
    refine go_iconst hc dX10_isWorld_14 ci_1 ?_
    refine go_iald hc dX10_isWorld_15 ok_84 ol_84 (by decide +kernel) cn_1 ?_
    refine go_ishl hc dX10_isWorld_16 ?_
    refine go_iconst hc dX10_isWorld_17 ci_1 ?_
    refine go_isub hc dX10_isWorld_18 ?_
    obtain ⟨r1, σ2, hf3, h⟩ := obi_some h
    refine go_callSi hc ho cmX10_in mlX10_156 dX10_isWorld_19 (As := [.int x0, .int (0 : Int32), .int (((1 : Int32) <<< ((mI σ 84 1) &&& 31)) - (1 : Int32))]) (rest := []) (rX10_in (N := 0) hf3 (Nat.le_refl _)) rfl (Nat.le_trans (Nat.le_of_ble_eq_true rfl) hN) rfl (Nat.le_of_ble_eq_true rfl) (Or.inl hz) ?_
    refine go_if_eq (tgt := 29) hc dX10_isWorld_22 rfl (fun hh => ?_) (fun hh => ?_)
    · rw [if_pos hh] at h
      refine go_iconst hc dX10_isWorld_29 ci_0 ?_
      exact go_zret hc (oend_i h hE) hr rfl dX10_isWorld_30
    · rw [if_neg hh] at h
      refine go_iconst hc dX10_isWorld_25 ci_1 ?_
      refine go_goto (tgt := 30) hc dX10_isWorld_26 rfl ?_
      exact go_zret hc (oend_i h hE) hr rfl dX10_isWorld_30
def fX10_canBe (x0 : Int32) (σ : OM) : Option (Int32 × OM) :=
  obv (fX10_good σ) (fun σ2 =>
  obi (fX10_isWorld x0 σ2) (fun r4 σ5 =>
  if r4 = 0 then (
   obi (fX10_no (1 : Int32) σ5) (fun r7 σ8 =>
   some (r7, σ8)))
  else (some ((((mL σ5 86 8) >>> (x0.toInt64 &&& 63)) &&& (1 : Int64)).toInt32, σ5))))
set_option maxRecDepth 100000 in
set_option maxHeartbeats 4000000 in
theorem rX10_canBe {N : Nat} {x0 : Int32} {σ : OM} {r0 : Int32} {σ0 : OM} (h : fX10_canBe x0 σ = some (r0, σ0)) (hN0 : 2 ≤ N) : oEv N MX10_canBe [.ref 81, .int x0] σ (some (.int r0)) σ0 := by
  refine oEv_of (lv := [.ref 81, .int x0]) (by decide +kernel) (fun g q hq => hq) (fun g => Nat.le_of_ble_eq_true rfl) ?_
  intro K hc ho hL hN1 hr hE hz
  have hN : 2 ≤ kN K := by rw [hN1]; exact hN0
  unfold fX10_canBe at h
  refine go_aload_n hc dX10_canBe_0 rfl rfl ?_
  obtain ⟨σ2, hf3, h⟩ := obv_some h
  refine go_callVv hc ho cmX10_good mlX10_199 dX10_canBe_1 ok_81 (As := []) (rest := []) (rX10_good (N := 0) hf3 (Nat.le_refl _)) rfl (Nat.le_trans (Nat.le_of_ble_eq_true rfl) hN) rfl (Nat.le_of_ble_eq_true rfl) (Or.inl hz) ?_
  refine go_aload_n hc dX10_canBe_4 rfl rfl ?_
  refine go_iload_n hc dX10_canBe_5 rfl rfl ?_
  obtain ⟨r4, σ5, hf6, h⟩ := obi_some h
  refine go_callVi hc ho cmX10_isWorld mlX10_288 dX10_canBe_6 ok_81 (As := [.int x0]) (rest := []) (rX10_isWorld (N := 1) hf6 (Nat.le_refl _)) rfl (Nat.le_trans (Nat.le_of_ble_eq_true rfl) hN) rfl (Nat.le_of_ble_eq_true rfl) (Or.inl hz) ?_
  refine go_if_eq (tgt := 27) hc dX10_canBe_9 rfl (fun hh => ?_) (fun hh => ?_)
  · rw [if_pos hh] at h
    refine go_aload_n hc dX10_canBe_27 rfl rfl ?_
    refine go_iconst hc dX10_canBe_28 ci_1 ?_
    obtain ⟨r7, σ8, hf9, h⟩ := obi_some h
    refine go_callVi hc ho cmX10_no mlX10_202 dX10_canBe_29 ok_81 (As := [.int (1 : Int32)]) (rest := []) (rX10_no (N := 0) hf9 (Nat.le_refl _)) rfl (Nat.le_trans (Nat.le_of_ble_eq_true rfl) hN) rfl (Nat.le_of_ble_eq_true rfl) (Or.inl hz) ?_
    exact go_iret hc (oend_i h hE) hr dX10_canBe_32
  · rw [if_neg hh] at h
    refine go_aload_n hc dX10_canBe_12 rfl rfl ?_
    refine go_getC (b := 86) rfl hc ho flX10_26 dX10_canBe_13 ok_81 ?_
    refine go_bipush hc dX10_canBe_16 cb_8 ?_
    refine go_lald hc dX10_canBe_18 ok_86 ol_86 (by decide +kernel) cn_8 ?_
    refine go_iload_n hc dX10_canBe_19 rfl rfl ?_
    refine go_lshr hc dX10_canBe_20 ?_
    refine go_lconst hc dX10_canBe_21 cl_1 ?_
    refine go_land hc dX10_canBe_22 ?_
    refine go_l2i hc dX10_canBe_23 ?_
    refine go_goto (tgt := 32) hc dX10_canBe_24 rfl ?_
    exact go_iret hc (oend_i h hE) hr dX10_canBe_32
def fX10_ones_b4 : Nat → Int32 → Int64 → OM → Option (Int32 × OM)
  | 0, _, _, _ => none
  | n + 1, l2, l3, σ =>
    if (lg_cmp l3 (0 : Int64)) = 0 then (
     some (l2, σ))
    else (fX10_ones_b4 n (l2 + 1) (l3 &&& (l3 - (1 : Int64))) σ)
set_option maxRecDepth 100000 in
set_option maxHeartbeats 4000000 in
theorem rX10_ones_b4 {K : OK} (hc : kcc K = cX10_ones) (ho : kow K = RX10) (hL : knL K = 5) (hN : 0 ≤ kN K) (hr : (kme K).sig.returnType = (some .int)) {r0 : Int32} {σ0 : OM} (hE : oEnd K (some (.int r0)) σ0) (hz : kz K = 0) : ∀ (n : Nat) (l2 : Int32) (l3 : Int64) (σ : OM), fX10_ones_b4 n l2 l3 σ = some (r0, σ0) → Go K 4 [.null, .null, .int l2, .long l3, .null] [] σ := by
  intro n
  induction n with
  | zero =>
    intro l2 l3 σ h
    cases h
  | succ n ih =>
    intro l2 l3 σ h
    rw [fX10_ones_b4] at h
    refine go_lload_n hc dX10_ones_4 rfl rfl ?_
    refine go_lconst hc dX10_ones_5 cl_0 ?_
    refine go_lcmp hc dX10_ones_6 ?_
    refine go_if_eq (tgt := 22) hc dX10_ones_7 rfl (fun hh => ?_) (fun hh => ?_)
    · rw [if_pos hh] at h
      refine go_iload_n hc dX10_ones_22 rfl rfl ?_
      exact go_iret hc (oend_i h hE) hr dX10_ones_23
    · rw [if_neg hh] at h
      refine go_iinc hc (lv1 := [.null, .null, .int (l2 + 1), .long l3, .null]) dX10_ones_10 rfl ci_1 hL (by decide) (fun _ _ e => by cases e; rfl) rfl ?_
      refine go_lload_n hc dX10_ones_13 rfl rfl ?_
      refine go_lload_n hc dX10_ones_14 rfl rfl ?_
      refine go_lconst hc dX10_ones_15 cl_1 ?_
      refine go_lsub hc dX10_ones_16 ?_
      refine go_land hc dX10_ones_17 ?_
      refine go_lstore_n hc (lv1 := [.null, .null, .int (l2 + 1), .long (l3 &&& (l3 - (1 : Int64))), .null]) dX10_ones_18 rfl hL (by decide) (fun _ _ e => by cases e; rfl) rfl ?_
      refine go_goto (tgt := 4) hc dX10_ones_19 rfl ?_
      exact ih (l2 + 1) (l3 &&& (l3 - (1 : Int64))) _ h
def fX10_ones (x0 : Int64) (σ : OM) : Option (Int32 × OM) :=
  fX10_ones_b4 oF (0 : Int32) x0 σ
set_option maxRecDepth 100000 in
set_option maxHeartbeats 4000000 in
theorem rX10_ones {N : Nat} {x0 : Int64} {σ : OM} {r0 : Int32} {σ0 : OM} (h : fX10_ones x0 σ = some (r0, σ0)) (hN0 : 0 ≤ N) : oEv N MX10_ones [.long x0] σ (some (.int r0)) σ0 := by
  refine oEv_of (lv := [.long x0, .null, .null, .null, .null]) (by decide +kernel) (fun g q hq => hq) (fun g => Nat.le_of_ble_eq_true rfl) ?_
  intro K hc ho hL hN1 hr hE hz
  have hN : 0 ≤ kN K := by rw [hN1]; exact hN0
  unfold fX10_ones at h
  refine go_iconst hc dX10_ones_0 ci_0 ?_
  refine go_istore_n hc (lv1 := [.long x0, .null, .int (0 : Int32), .null, .null]) dX10_ones_1 rfl hL (by decide) (fun _ _ e => by cases e; rfl) rfl ?_
  refine go_lload_n hc dX10_ones_2 rfl rfl ?_
  refine go_lstore_n hc (lv1 := [.long x0, .null, .int (0 : Int32), .long x0, .null]) dX10_ones_3 rfl hL (by decide) (fun _ _ e => by cases e; rfl) rfl ?_
  refine go_mask [false, false, true, true, false] (lv1 := [.null, .null, .int (0 : Int32), .long x0, .null]) rfl ?_
  exact rX10_ones_b4 hc ho hL hN hr hE hz oF (0 : Int32) x0 _ h
def fX10_worlds (σ : OM) : Option (Int32 × OM) :=
  obv (fX10_good σ) (fun σ2 =>
  if (mI σ2 81 14) = 0 then (
   obi (fX10_no (1 : Int32) σ2) (fun r4 σ5 =>
   some (r4, σ5)))
  else (obi (fX10_ones (mL σ2 86 8) σ2) (fun r7 σ8 =>
  some (r7, σ8))))
set_option maxRecDepth 100000 in
set_option maxHeartbeats 4000000 in
theorem rX10_worlds {N : Nat} {σ : OM} {r0 : Int32} {σ0 : OM} (h : fX10_worlds σ = some (r0, σ0)) (hN0 : 1 ≤ N) : oEv N MX10_worlds [.ref 81] σ (some (.int r0)) σ0 := by
  refine oEv_of (lv := [.ref 81]) (by decide +kernel) (fun g q hq => hq) (fun g => Nat.le_of_ble_eq_true rfl) ?_
  intro K hc ho hL hN1 hr hE hz
  have hN : 1 ≤ kN K := by rw [hN1]; exact hN0
  unfold fX10_worlds at h
  refine go_aload_n hc dX10_worlds_0 rfl rfl ?_
  obtain ⟨σ2, hf3, h⟩ := obv_some h
  refine go_callVv hc ho cmX10_good mlX10_199 dX10_worlds_1 ok_81 (As := []) (rest := []) (rX10_good (N := 0) hf3 (Nat.le_refl _)) rfl (Nat.le_trans (Nat.le_of_ble_eq_true rfl) hN) rfl (Nat.le_of_ble_eq_true rfl) (Or.inl hz) ?_
  refine go_aload_n hc dX10_worlds_4 rfl rfl ?_
  refine go_getI hc ho flX10_212 dX10_worlds_5 ok_81 ?_
  refine go_if_eq (tgt := 24) hc dX10_worlds_8 rfl (fun hh => ?_) (fun hh => ?_)
  · rw [if_pos hh] at h
    refine go_aload_n hc dX10_worlds_24 rfl rfl ?_
    refine go_iconst hc dX10_worlds_25 ci_1 ?_
    obtain ⟨r4, σ5, hf6, h⟩ := obi_some h
    refine go_callVi hc ho cmX10_no mlX10_202 dX10_worlds_26 ok_81 (As := [.int (1 : Int32)]) (rest := []) (rX10_no (N := 0) hf6 (Nat.le_refl _)) rfl (Nat.le_trans (Nat.le_of_ble_eq_true rfl) hN) rfl (Nat.le_of_ble_eq_true rfl) (Or.inl hz) ?_
    exact go_iret hc (oend_i h hE) hr dX10_worlds_29
  · rw [if_neg hh] at h
    refine go_aload_n hc dX10_worlds_11 rfl rfl ?_
    refine go_getC (b := 86) rfl hc ho flX10_26 dX10_worlds_12 ok_81 ?_
    refine go_bipush hc dX10_worlds_15 cb_8 ?_
    refine go_lald hc dX10_worlds_17 ok_86 ol_86 (by decide +kernel) cn_8 ?_
    obtain ⟨r7, σ8, hf9, h⟩ := obi_some h
    refine go_callSi hc ho cmX10_ones mlX10_291 dX10_worlds_18 (As := [.long (mL σ2 86 8)]) (rest := []) (rX10_ones (N := 0) hf9 (Nat.le_refl _)) rfl (Nat.le_trans (Nat.le_of_ble_eq_true rfl) hN) rfl (Nat.le_of_ble_eq_true rfl) (Or.inl hz) ?_
    refine go_goto (tgt := 29) hc dX10_worlds_21 rfl ?_
    exact go_iret hc (oend_i h hE) hr dX10_worlds_29
def fX10_oddsOf_b4 : Nat → Int32 → Int32 → Int32 → OM → Option (Int32 × OM)
  | 0, _, _, _, _ => none
  | n + 1, l1, l2, l3, σ =>
    if (mI σ 84 1) ≤ l3 then (
     some (l2, σ))
    else (obi (fX10_hasBit l1 l3 σ) (fun r1 σ2 =>
    if r1 = 0 then (
     ogd (oin ((11 : Int32) + l3) 279) (
     fX10_oddsOf_b4 n l1 (l2 * ((10 : Int32) - (mI σ2 84 (((11 : Int32) + l3).toNatClampNeg)))) (l3 + 1) σ2))
    else (ogd (oin ((11 : Int32) + l3) 279) (
    fX10_oddsOf_b4 n l1 (l2 * (mI σ2 84 (((11 : Int32) + l3).toNatClampNeg))) (l3 + 1) σ2))))
set_option maxRecDepth 100000 in
set_option maxHeartbeats 4000000 in
theorem rX10_oddsOf_b4 {K : OK} (hc : kcc K = cX10_oddsOf) (ho : kow K = RX10) (hL : knL K = 4) (hN : 1 ≤ kN K) (hr : (kme K).sig.returnType = (some .int)) {r0 : Int32} {σ0 : OM} (hE : oEnd K (some (.int r0)) σ0) (hz : kz K = 0) : ∀ (n : Nat) (l1 : Int32) (l2 : Int32) (l3 : Int32) (σ : OM), fX10_oddsOf_b4 n l1 l2 l3 σ = some (r0, σ0) → Go K 4 [.ref 81, .int l1, .int l2, .int l3] [] σ := by
  intro n
  induction n with
  | zero =>
    intro l1 l2 l3 σ h
    cases h
  | succ n ih =>
    intro l1 l2 l3 σ h
    rw [fX10_oddsOf_b4] at h
    refine go_iload_n hc dX10_oddsOf_4 rfl rfl ?_
    refine go_aload_n hc dX10_oddsOf_5 rfl rfl ?_
    refine go_getC (b := 84) rfl hc ho flX10_20 dX10_oddsOf_6 ok_81 ?_
    refine go_iconst hc dX10_oddsOf_9 ci_1 ?_
    refine go_iald hc dX10_oddsOf_10 ok_84 ol_84 (by decide +kernel) cn_1 ?_
    refine go_icmp_ge (tgt := 55) hc dX10_oddsOf_11 rfl (fun hh => ?_) (fun hh => ?_)
    · rw [if_pos hh] at h
      refine go_iload_n hc dX10_oddsOf_55 rfl rfl ?_
      exact go_iret hc (oend_i h hE) hr dX10_oddsOf_56
    · rw [if_neg hh] at h
      refine go_iload_n hc dX10_oddsOf_14 rfl rfl ?_
      refine go_iload_n hc dX10_oddsOf_15 rfl rfl ?_
      refine go_iload_n hc dX10_oddsOf_16 rfl rfl ?_
      obtain ⟨r1, σ2, hf3, h⟩ := obi_some h
      refine go_callSi hc ho cmX10_hasBit mlX10_270 dX10_oddsOf_17 (As := [.int l1, .int l3]) (rest := [.int l2]) (rX10_hasBit (N := 0) hf3 (Nat.le_refl _)) rfl (Nat.le_trans (Nat.le_of_ble_eq_true rfl) hN) rfl (Nat.le_of_ble_eq_true rfl) (Or.inl hz) ?_
      refine go_if_eq (tgt := 35) hc dX10_oddsOf_20 rfl (fun hh => ?_) (fun hh => ?_)
      · rw [if_pos hh] at h
        refine go_bipush hc dX10_oddsOf_35 cb_10 ?_
        refine go_aload_n hc dX10_oddsOf_37 rfl rfl ?_
        refine go_getC (b := 84) rfl hc ho flX10_20 dX10_oddsOf_38 ok_81 ?_
        refine go_bipush hc dX10_oddsOf_41 cb_11 ?_
        refine go_iload_n hc dX10_oddsOf_43 rfl rfl ?_
        refine go_iadd hc dX10_oddsOf_44 ?_
        obtain ⟨hg4, h⟩ := ogd_some h
        refine go_iald hc dX10_oddsOf_45 ok_84 ol_84 hg4 rfl ?_
        refine go_isub hc dX10_oddsOf_46 ?_
        refine go_imul hc dX10_oddsOf_47 ?_
        refine go_istore_n hc (lv1 := [.ref 81, .int l1, .int (l2 * ((10 : Int32) - (mI σ2 84 (((11 : Int32) + l3).toNatClampNeg)))), .int l3]) dX10_oddsOf_48 rfl hL (by decide) (fun _ _ e => by cases e; rfl) rfl ?_
        refine go_iinc hc (lv1 := [.ref 81, .int l1, .int (l2 * ((10 : Int32) - (mI σ2 84 (((11 : Int32) + l3).toNatClampNeg)))), .int (l3 + 1)]) dX10_oddsOf_49 rfl ci_1 hL (by decide) (fun _ _ e => by cases e; rfl) rfl ?_
        refine go_goto (tgt := 4) hc dX10_oddsOf_52 rfl ?_
        exact ih l1 (l2 * ((10 : Int32) - (mI σ2 84 (((11 : Int32) + l3).toNatClampNeg)))) (l3 + 1) _ h
      · rw [if_neg hh] at h
        refine go_aload_n hc dX10_oddsOf_23 rfl rfl ?_
        refine go_getC (b := 84) rfl hc ho flX10_20 dX10_oddsOf_24 ok_81 ?_
        refine go_bipush hc dX10_oddsOf_27 cb_11 ?_
        refine go_iload_n hc dX10_oddsOf_29 rfl rfl ?_
        refine go_iadd hc dX10_oddsOf_30 ?_
        obtain ⟨hg5, h⟩ := ogd_some h
        refine go_iald hc dX10_oddsOf_31 ok_84 ol_84 hg5 rfl ?_
        refine go_goto (tgt := 47) hc dX10_oddsOf_32 rfl ?_
        refine go_imul hc dX10_oddsOf_47 ?_
        refine go_istore_n hc (lv1 := [.ref 81, .int l1, .int (l2 * (mI σ2 84 (((11 : Int32) + l3).toNatClampNeg))), .int l3]) dX10_oddsOf_48 rfl hL (by decide) (fun _ _ e => by cases e; rfl) rfl ?_
        refine go_iinc hc (lv1 := [.ref 81, .int l1, .int (l2 * (mI σ2 84 (((11 : Int32) + l3).toNatClampNeg))), .int (l3 + 1)]) dX10_oddsOf_49 rfl ci_1 hL (by decide) (fun _ _ e => by cases e; rfl) rfl ?_
        refine go_goto (tgt := 4) hc dX10_oddsOf_52 rfl ?_
        exact ih l1 (l2 * (mI σ2 84 (((11 : Int32) + l3).toNatClampNeg))) (l3 + 1) _ h
def fX10_oddsOf (x0 : Int32) (σ : OM) : Option (Int32 × OM) :=
  fX10_oddsOf_b4 oF x0 (1 : Int32) (0 : Int32) σ
set_option maxRecDepth 100000 in
set_option maxHeartbeats 4000000 in
theorem rX10_oddsOf {N : Nat} {x0 : Int32} {σ : OM} {r0 : Int32} {σ0 : OM} (h : fX10_oddsOf x0 σ = some (r0, σ0)) (hN0 : 1 ≤ N) : oEv N MX10_oddsOf [.ref 81, .int x0] σ (some (.int r0)) σ0 := by
  refine oEv_of (lv := [.ref 81, .int x0, .null, .null]) (by decide +kernel) (fun g q hq => hq) (fun g => Nat.le_of_ble_eq_true rfl) ?_
  intro K hc ho hL hN1 hr hE hz
  have hN : 1 ≤ kN K := by rw [hN1]; exact hN0
  unfold fX10_oddsOf at h
  refine go_iconst hc dX10_oddsOf_0 ci_1 ?_
  refine go_istore_n hc (lv1 := [.ref 81, .int x0, .int (1 : Int32), .null]) dX10_oddsOf_1 rfl hL (by decide) (fun _ _ e => by cases e; rfl) rfl ?_
  refine go_iconst hc dX10_oddsOf_2 ci_0 ?_
  refine go_istore_n hc (lv1 := [.ref 81, .int x0, .int (1 : Int32), .int (0 : Int32)]) dX10_oddsOf_3 rfl hL (by decide) (fun _ _ e => by cases e; rfl) rfl ?_
  exact rX10_oddsOf_b4 hc ho hL hN hr hE hz oF x0 (1 : Int32) (0 : Int32) _ h
def fX10_odds (x0 : Int32) (σ : OM) : Option (Int32 × OM) :=
  obv (fX10_good σ) (fun σ2 =>
  obi (fX10_isWorld x0 σ2) (fun r4 σ5 =>
  if r4 = 0 then (
   obi (fX10_no (1 : Int32) σ5) (fun r7 σ8 =>
   some (r7, σ8)))
  else (obi (fX10_oddsOf x0 σ5) (fun r10 σ11 =>
  some (r10, σ11)))))
set_option maxRecDepth 100000 in
set_option maxHeartbeats 4000000 in
theorem rX10_odds {N : Nat} {x0 : Int32} {σ : OM} {r0 : Int32} {σ0 : OM} (h : fX10_odds x0 σ = some (r0, σ0)) (hN0 : 2 ≤ N) : oEv N MX10_odds [.ref 81, .int x0] σ (some (.int r0)) σ0 := by
  refine oEv_of (lv := [.ref 81, .int x0]) (by decide +kernel) (fun g q hq => hq) (fun g => Nat.le_of_ble_eq_true rfl) ?_
  intro K hc ho hL hN1 hr hE hz
  have hN : 2 ≤ kN K := by rw [hN1]; exact hN0
  unfold fX10_odds at h
  refine go_aload_n hc dX10_odds_0 rfl rfl ?_
  obtain ⟨σ2, hf3, h⟩ := obv_some h
  refine go_callVv hc ho cmX10_good mlX10_199 dX10_odds_1 ok_81 (As := []) (rest := []) (rX10_good (N := 0) hf3 (Nat.le_refl _)) rfl (Nat.le_trans (Nat.le_of_ble_eq_true rfl) hN) rfl (Nat.le_of_ble_eq_true rfl) (Or.inl hz) ?_
  refine go_aload_n hc dX10_odds_4 rfl rfl ?_
  refine go_iload_n hc dX10_odds_5 rfl rfl ?_
  obtain ⟨r4, σ5, hf6, h⟩ := obi_some h
  refine go_callVi hc ho cmX10_isWorld mlX10_288 dX10_odds_6 ok_81 (As := [.int x0]) (rest := []) (rX10_isWorld (N := 1) hf6 (Nat.le_refl _)) rfl (Nat.le_trans (Nat.le_of_ble_eq_true rfl) hN) rfl (Nat.le_of_ble_eq_true rfl) (Or.inl hz) ?_
  refine go_if_eq (tgt := 20) hc dX10_odds_9 rfl (fun hh => ?_) (fun hh => ?_)
  · rw [if_pos hh] at h
    refine go_aload_n hc dX10_odds_20 rfl rfl ?_
    refine go_iconst hc dX10_odds_21 ci_1 ?_
    obtain ⟨r7, σ8, hf9, h⟩ := obi_some h
    refine go_callVi hc ho cmX10_no mlX10_202 dX10_odds_22 ok_81 (As := [.int (1 : Int32)]) (rest := []) (rX10_no (N := 0) hf9 (Nat.le_refl _)) rfl (Nat.le_trans (Nat.le_of_ble_eq_true rfl) hN) rfl (Nat.le_of_ble_eq_true rfl) (Or.inl hz) ?_
    exact go_iret hc (oend_i h hE) hr dX10_odds_25
  · rw [if_neg hh] at h
    refine go_aload_n hc dX10_odds_12 rfl rfl ?_
    refine go_iload_n hc dX10_odds_13 rfl rfl ?_
    obtain ⟨r10, σ11, hf12, h⟩ := obi_some h
    refine go_callVi hc ho cmX10_oddsOf mlX10_295 dX10_odds_14 ok_81 (As := [.int x0]) (rest := []) (rX10_oddsOf (N := 1) hf12 (Nat.le_refl _)) rfl (Nat.le_trans (Nat.le_of_ble_eq_true rfl) hN) rfl (Nat.le_of_ble_eq_true rfl) (Or.inl hz) ?_
    refine go_goto (tgt := 25) hc dX10_odds_17 rfl ?_
    exact go_iret hc (oend_i h hE) hr dX10_odds_25
def fX10_isQuestion (x0 : Int32) (σ : OM) : Option (Int32 × OM) :=
  if (mI σ 81 14) = 0 then (
   some ((0 : Int32), σ))
  else (obi (fX10_in x0 (0 : Int32) ((mI σ 84 5) - (1 : Int32)) σ) (fun r1 σ2 =>
  if r1 = 0 then (
   some ((0 : Int32), σ2))
  else (some ((1 : Int32), σ2))))
set_option maxRecDepth 100000 in
set_option maxHeartbeats 4000000 in
theorem rX10_isQuestion {N : Nat} {x0 : Int32} {σ : OM} {r0 : Int32} {σ0 : OM} (h : fX10_isQuestion x0 σ = some (r0, σ0)) (hN0 : 1 ≤ N) : oEv N MX10_isQuestion [.ref 81, .int x0] σ (some (.int r0)) σ0 := by
  refine oEv_of (lv := [.ref 81, .int x0]) (by decide +kernel) (fun g q hq => hq) (fun g => Nat.le_of_ble_eq_true rfl) ?_
  intro K hc ho hL hN1 hr hE hz
  have hN : 1 ≤ kN K := by rw [hN1]; exact hN0
  unfold fX10_isQuestion at h
  refine go_aload_n hc dX10_isQuestion_0 rfl rfl ?_
  refine go_getI hc ho flX10_212 dX10_isQuestion_1 ok_81 ?_
  refine go_if_eq (tgt := 27) hc dX10_isQuestion_4 rfl (fun hh => ?_) (fun hh => ?_)
  · rw [if_pos hh] at h
    refine go_iconst hc dX10_isQuestion_27 ci_0 ?_
    exact go_zret hc (oend_i h hE) hr rfl dX10_isQuestion_28
  · rw [if_neg hh] at h
    refine go_iload_n hc dX10_isQuestion_7 rfl rfl ?_
    refine go_iconst hc dX10_isQuestion_8 ci_0 ?_
    refine go_aload_n hc dX10_isQuestion_9 rfl rfl ?_
    refine go_getC (b := 84) rfl hc ho flX10_20 dX10_isQuestion_10 ok_81 ?_
    refine go_iconst hc dX10_isQuestion_13 ci_5 ?_
    refine go_iald hc dX10_isQuestion_14 ok_84 ol_84 (by decide +kernel) cn_5 ?_
    refine go_iconst hc dX10_isQuestion_15 ci_1 ?_
    refine go_isub hc dX10_isQuestion_16 ?_
    obtain ⟨r1, σ2, hf3, h⟩ := obi_some h
    refine go_callSi hc ho cmX10_in mlX10_156 dX10_isQuestion_17 (As := [.int x0, .int (0 : Int32), .int ((mI σ 84 5) - (1 : Int32))]) (rest := []) (rX10_in (N := 0) hf3 (Nat.le_refl _)) rfl (Nat.le_trans (Nat.le_of_ble_eq_true rfl) hN) rfl (Nat.le_of_ble_eq_true rfl) (Or.inl hz) ?_
    refine go_if_eq (tgt := 27) hc dX10_isQuestion_20 rfl (fun hh => ?_) (fun hh => ?_)
    · rw [if_pos hh] at h
      refine go_iconst hc dX10_isQuestion_27 ci_0 ?_
      exact go_zret hc (oend_i h hE) hr rfl dX10_isQuestion_28
    · rw [if_neg hh] at h
      refine go_iconst hc dX10_isQuestion_23 ci_1 ?_
      refine go_goto (tgt := 28) hc dX10_isQuestion_24 rfl ?_
      exact go_zret hc (oend_i h hE) hr rfl dX10_isQuestion_28
def fX10_isSo (x0 : Int32) (x1 : Int32) (σ : OM) : Option (Int32 × OM) :=
  obv (fX10_good σ) (fun σ2 =>
  obi (fX10_isQuestion x0 σ2) (fun r4 σ5 =>
  if r4 = 0 then (
   obi (fX10_no (1 : Int32) σ5) (fun r7 σ8 =>
   some (r7, σ8)))
  else (obi (fX10_isWorld x1 σ5) (fun r10 σ11 =>
  if r10 = 0 then (
   obi (fX10_no (1 : Int32) σ11) (fun r13 σ14 =>
   some (r13, σ14)))
  else (ogd (oin x0 9) (
  some ((((mL σ11 86 x0.toNatClampNeg) >>> (x1.toInt64 &&& 63)) &&& (1 : Int64)).toInt32, σ11)))))))
set_option maxRecDepth 100000 in
set_option maxHeartbeats 4000000 in
theorem rX10_isSo {N : Nat} {x0 : Int32} {x1 : Int32} {σ : OM} {r0 : Int32} {σ0 : OM} (h : fX10_isSo x0 x1 σ = some (r0, σ0)) (hN0 : 2 ≤ N) : oEv N MX10_isSo [.ref 81, .int x0, .int x1] σ (some (.int r0)) σ0 := by
  refine oEv_of (lv := [.ref 81, .int x0, .int x1]) (by decide +kernel) (fun g q hq => hq) (fun g => Nat.le_of_ble_eq_true rfl) ?_
  intro K hc ho hL hN1 hr hE hz
  have hN : 2 ≤ kN K := by rw [hN1]; exact hN0
  unfold fX10_isSo at h
  refine go_aload_n hc dX10_isSo_0 rfl rfl ?_
  obtain ⟨σ2, hf3, h⟩ := obv_some h
  refine go_callVv hc ho cmX10_good mlX10_199 dX10_isSo_1 ok_81 (As := []) (rest := []) (rX10_good (N := 0) hf3 (Nat.le_refl _)) rfl (Nat.le_trans (Nat.le_of_ble_eq_true rfl) hN) rfl (Nat.le_of_ble_eq_true rfl) (Or.inl hz) ?_
  refine go_aload_n hc dX10_isSo_4 rfl rfl ?_
  refine go_iload_n hc dX10_isSo_5 rfl rfl ?_
  obtain ⟨r4, σ5, hf6, h⟩ := obi_some h
  refine go_callVi hc ho cmX10_isQuestion mlX10_298 dX10_isSo_6 ok_81 (As := [.int x0]) (rest := []) (rX10_isQuestion (N := 1) hf6 (Nat.le_refl _)) rfl (Nat.le_trans (Nat.le_of_ble_eq_true rfl) hN) rfl (Nat.le_of_ble_eq_true rfl) (Or.inl hz) ?_
  refine go_if_eq (tgt := 34) hc dX10_isSo_9 rfl (fun hh => ?_) (fun hh => ?_)
  · rw [if_pos hh] at h
    refine go_aload_n hc dX10_isSo_34 rfl rfl ?_
    refine go_iconst hc dX10_isSo_35 ci_1 ?_
    obtain ⟨r7, σ8, hf9, h⟩ := obi_some h
    refine go_callVi hc ho cmX10_no mlX10_202 dX10_isSo_36 ok_81 (As := [.int (1 : Int32)]) (rest := []) (rX10_no (N := 0) hf9 (Nat.le_refl _)) rfl (Nat.le_trans (Nat.le_of_ble_eq_true rfl) hN) rfl (Nat.le_of_ble_eq_true rfl) (Or.inl hz) ?_
    exact go_iret hc (oend_i h hE) hr dX10_isSo_39
  · rw [if_neg hh] at h
    refine go_aload_n hc dX10_isSo_12 rfl rfl ?_
    refine go_iload_n hc dX10_isSo_13 rfl rfl ?_
    obtain ⟨r10, σ11, hf12, h⟩ := obi_some h
    refine go_callVi hc ho cmX10_isWorld mlX10_288 dX10_isSo_14 ok_81 (As := [.int x1]) (rest := []) (rX10_isWorld (N := 1) hf12 (Nat.le_refl _)) rfl (Nat.le_trans (Nat.le_of_ble_eq_true rfl) hN) rfl (Nat.le_of_ble_eq_true rfl) (Or.inl hz) ?_
    refine go_if_eq (tgt := 34) hc dX10_isSo_17 rfl (fun hh => ?_) (fun hh => ?_)
    · rw [if_pos hh] at h
      refine go_aload_n hc dX10_isSo_34 rfl rfl ?_
      refine go_iconst hc dX10_isSo_35 ci_1 ?_
      obtain ⟨r13, σ14, hf15, h⟩ := obi_some h
      refine go_callVi hc ho cmX10_no mlX10_202 dX10_isSo_36 ok_81 (As := [.int (1 : Int32)]) (rest := []) (rX10_no (N := 0) hf15 (Nat.le_refl _)) rfl (Nat.le_trans (Nat.le_of_ble_eq_true rfl) hN) rfl (Nat.le_of_ble_eq_true rfl) (Or.inl hz) ?_
      exact go_iret hc (oend_i h hE) hr dX10_isSo_39
    · rw [if_neg hh] at h
      refine go_aload_n hc dX10_isSo_20 rfl rfl ?_
      refine go_getC (b := 86) rfl hc ho flX10_26 dX10_isSo_21 ok_81 ?_
      refine go_iload_n hc dX10_isSo_24 rfl rfl ?_
      obtain ⟨hg16, h⟩ := ogd_some h
      refine go_lald hc dX10_isSo_25 ok_86 ol_86 hg16 rfl ?_
      refine go_iload_n hc dX10_isSo_26 rfl rfl ?_
      refine go_lshr hc dX10_isSo_27 ?_
      refine go_lconst hc dX10_isSo_28 cl_1 ?_
      refine go_land hc dX10_isSo_29 ?_
      refine go_l2i hc dX10_isSo_30 ?_
      refine go_goto (tgt := 39) hc dX10_isSo_31 rfl ?_
      exact go_iret hc (oend_i h hE) hr dX10_isSo_39
def fX10_weight_b5 : Nat → Int64 → Int64 → Int32 → OM → Option (Int64 × OM)
  | 0, _, _, _, _ => none
  | n + 1, l1, l3, l5, σ =>
    if (64 : Int32) ≤ l5 then (
     some (l3, σ))
    else (if (lg_cmp ((l1 >>> (l5.toInt64 &&& 63)) &&& (1 : Int64)) (1 : Int64)) = 0 then (
     obi (fX10_oddsOf l5 σ) (fun r1 σ2 =>
     fX10_weight_b5 n l1 (l3 + r1.toInt64) (l5 + 1) σ2))
    else (fX10_weight_b5 n l1 (l3 + (0 : Int64)) (l5 + 1) σ))
set_option maxRecDepth 100000 in
set_option maxHeartbeats 4000000 in
theorem rX10_weight_b5 {K : OK} (hc : kcc K = cX10_weight) (ho : kow K = RX10) (hL : knL K = 6) (hN : 2 ≤ kN K) (hr : (kme K).sig.returnType = (some .long)) {r0 : Int64} {σ0 : OM} (hE : oEnd K (some (.long r0)) σ0) (hz : kz K = 0) : ∀ (n : Nat) (l1 : Int64) (l3 : Int64) (l5 : Int32) (σ : OM), fX10_weight_b5 n l1 l3 l5 σ = some (r0, σ0) → Go K 5 [.ref 81, .long l1, .null, .long l3, .null, .int l5] [] σ := by
  intro n
  induction n with
  | zero =>
    intro l1 l3 l5 σ h
    cases h
  | succ n ih =>
    intro l1 l3 l5 σ h
    rw [fX10_weight_b5] at h
    refine go_iload hc dX10_weight_5 rfl ?_
    refine go_bipush hc dX10_weight_7 cb_64 ?_
    refine go_icmp_ge (tgt := 43) hc dX10_weight_9 rfl (fun hh => ?_) (fun hh => ?_)
    · rw [if_pos hh] at h
      refine go_lload_n hc dX10_weight_43 rfl rfl ?_
      exact go_lret hc (oend_l h hE) hr dX10_weight_44
    · rw [if_neg hh] at h
      refine go_lload_n hc dX10_weight_12 rfl rfl ?_
      refine go_lload_n hc dX10_weight_13 rfl rfl ?_
      refine go_iload hc dX10_weight_14 rfl ?_
      refine go_lshr hc dX10_weight_16 ?_
      refine go_lconst hc dX10_weight_17 cl_1 ?_
      refine go_land hc dX10_weight_18 ?_
      refine go_lconst hc dX10_weight_19 cl_1 ?_
      refine go_lcmp hc dX10_weight_20 ?_
      refine go_if_ne (tgt := 34) hc dX10_weight_21 rfl (fun hh => ?_) (fun hh => ?_)
      · rw [if_neg hh] at h
        refine go_lconst hc dX10_weight_34 cl_0 ?_
        refine go_ladd hc dX10_weight_35 ?_
        refine go_lstore_n hc (lv1 := [.ref 81, .long l1, .null, .long (l3 + (0 : Int64)), .null, .int l5]) dX10_weight_36 rfl hL (by decide) (fun _ _ e => by cases e; rfl) rfl ?_
        refine go_iinc hc (lv1 := [.ref 81, .long l1, .null, .long (l3 + (0 : Int64)), .null, .int (l5 + 1)]) dX10_weight_37 rfl ci_1 hL (by decide) (fun _ _ e => by cases e; rfl) rfl ?_
        refine go_goto (tgt := 5) hc dX10_weight_40 rfl ?_
        exact ih l1 (l3 + (0 : Int64)) (l5 + 1) _ h
      · rw [if_pos hh] at h
        refine go_aload_n hc dX10_weight_24 rfl rfl ?_
        refine go_iload hc dX10_weight_25 rfl ?_
        obtain ⟨r1, σ2, hf3, h⟩ := obi_some h
        refine go_callVi hc ho cmX10_oddsOf mlX10_295 dX10_weight_27 ok_81 (As := [.int l5]) (rest := [.long l3]) (rX10_oddsOf (N := 1) hf3 (Nat.le_refl _)) rfl (Nat.le_trans (Nat.le_of_ble_eq_true rfl) hN) rfl (Nat.le_of_ble_eq_true rfl) (Or.inl hz) ?_
        refine go_i2l hc dX10_weight_30 ?_
        refine go_goto (tgt := 35) hc dX10_weight_31 rfl ?_
        refine go_ladd hc dX10_weight_35 ?_
        refine go_lstore_n hc (lv1 := [.ref 81, .long l1, .null, .long (l3 + r1.toInt64), .null, .int l5]) dX10_weight_36 rfl hL (by decide) (fun _ _ e => by cases e; rfl) rfl ?_
        refine go_iinc hc (lv1 := [.ref 81, .long l1, .null, .long (l3 + r1.toInt64), .null, .int (l5 + 1)]) dX10_weight_37 rfl ci_1 hL (by decide) (fun _ _ e => by cases e; rfl) rfl ?_
        refine go_goto (tgt := 5) hc dX10_weight_40 rfl ?_
        exact ih l1 (l3 + r1.toInt64) (l5 + 1) _ h
def fX10_weight (x0 : Int64) (σ : OM) : Option (Int64 × OM) :=
  fX10_weight_b5 oF x0 (0 : Int64) (0 : Int32) σ
set_option maxRecDepth 100000 in
set_option maxHeartbeats 4000000 in
theorem rX10_weight {N : Nat} {x0 : Int64} {σ : OM} {r0 : Int64} {σ0 : OM} (h : fX10_weight x0 σ = some (r0, σ0)) (hN0 : 2 ≤ N) : oEv N MX10_weight [.ref 81, .long x0] σ (some (.long r0)) σ0 := by
  refine oEv_of (lv := [.ref 81, .long x0, .null, .null, .null, .null]) (by decide +kernel) (fun g q hq => hq) (fun g => Nat.le_of_ble_eq_true rfl) ?_
  intro K hc ho hL hN1 hr hE hz
  have hN : 2 ≤ kN K := by rw [hN1]; exact hN0
  unfold fX10_weight at h
  refine go_lconst hc dX10_weight_0 cl_0 ?_
  refine go_lstore_n hc (lv1 := [.ref 81, .long x0, .null, .long (0 : Int64), .null, .null]) dX10_weight_1 rfl hL (by decide) (fun _ _ e => by cases e; rfl) rfl ?_
  refine go_iconst hc dX10_weight_2 ci_0 ?_
  refine go_istore hc (lv1 := [.ref 81, .long x0, .null, .long (0 : Int64), .null, .int (0 : Int32)]) dX10_weight_3 hL (by decide) (fun _ _ e => by cases e; rfl) rfl ?_
  exact rX10_weight_b5 hc ho hL hN hr hE hz oF x0 (0 : Int64) (0 : Int32) _ h
def fX10_lowest_b31 (l0 : Int64) (l2 : Int64) (l4 : Int32) (l5 : Int64) (σ : OM) : Option (Int64 × OM) :=
  if l4 = 0 then (
   ogd (decide (¬ l5 = 0)) (
   some ((l0 / l5), σ)))
  else (ogd (decide (¬ l5 = 0)) (
  some ((l2 / l5), σ)))
set_option maxRecDepth 100000 in
set_option maxHeartbeats 4000000 in
theorem rX10_lowest_b31 {K : OK} (hc : kcc K = cX10_lowest) (ho : kow K = RX10) (hL : knL K = 11) (hN : 0 ≤ kN K) (hr : (kme K).sig.returnType = (some .long)) {r0 : Int64} {σ0 : OM} (hE : oEnd K (some (.long r0)) σ0) (hz : kz K = 0) {l0 : Int64} {l2 : Int64} {l4 : Int32} {l5 : Int64} {σ : OM} (h : fX10_lowest_b31 l0 l2 l4 l5 σ = some (r0, σ0)) : Go K 31 [.long l0, .null, .long l2, .null, .int l4, .long l5, .null, .null, .null, .null, .null] [] σ := by
  unfold fX10_lowest_b31 at h
  refine go_iload hc dX10_lowest_31 rfl ?_
  refine go_if_eq (tgt := 40) hc dX10_lowest_33 rfl (fun hh => ?_) (fun hh => ?_)
  · rw [if_pos hh] at h
    refine go_lload_n hc dX10_lowest_40 rfl rfl ?_
    refine go_lload hc dX10_lowest_41 rfl ?_
    obtain ⟨hg1, h⟩ := ogd_some h
    refine go_ldiv hc dX10_lowest_43 (of_decide_eq_true hg1) ?_
    exact go_lret hc (oend_l h hE) hr dX10_lowest_44
  · rw [if_neg hh] at h
    refine go_lload_n hc dX10_lowest_36 rfl rfl ?_
    refine go_goto (tgt := 41) hc dX10_lowest_37 rfl ?_
    refine go_lload hc dX10_lowest_41 rfl ?_
    obtain ⟨hg2, h⟩ := ogd_some h
    refine go_ldiv hc dX10_lowest_43 (of_decide_eq_true hg2) ?_
    exact go_lret hc (oend_l h hE) hr dX10_lowest_44
def fX10_lowest_b6 : Nat → Int64 → Int64 → Int32 → Int64 → Int64 → OM → Option (Int64 × OM)
  | 0, _, _, _, _, _, _ => none
  | n + 1, l0, l2, l4, l5, l7, σ =>
    if (lg_cmp l7 (0 : Int64)) = 0 then (
     fX10_lowest_b31 l0 l2 l4 l5 σ)
    else (ogd (decide (¬ l7 = 0)) (
    fX10_lowest_b6 n l0 l2 l4 l7 (l5 - l5 / l7 * l7) σ))
set_option maxRecDepth 100000 in
set_option maxHeartbeats 4000000 in
theorem rX10_lowest_b6 {K : OK} (hc : kcc K = cX10_lowest) (ho : kow K = RX10) (hL : knL K = 11) (hN : 0 ≤ kN K) (hr : (kme K).sig.returnType = (some .long)) {r0 : Int64} {σ0 : OM} (hE : oEnd K (some (.long r0)) σ0) (hz : kz K = 0) : ∀ (n : Nat) (l0 : Int64) (l2 : Int64) (l4 : Int32) (l5 : Int64) (l7 : Int64) (σ : OM), fX10_lowest_b6 n l0 l2 l4 l5 l7 σ = some (r0, σ0) → Go K 6 [.long l0, .null, .long l2, .null, .int l4, .long l5, .null, .long l7, .null, .null, .null] [] σ := by
  intro n
  induction n with
  | zero =>
    intro l0 l2 l4 l5 l7 σ h
    cases h
  | succ n ih =>
    intro l0 l2 l4 l5 l7 σ h
    rw [fX10_lowest_b6] at h
    refine go_lload hc dX10_lowest_6 rfl ?_
    refine go_lconst hc dX10_lowest_8 cl_0 ?_
    refine go_lcmp hc dX10_lowest_9 ?_
    refine go_if_eq (tgt := 31) hc dX10_lowest_10 rfl (fun hh => ?_) (fun hh => ?_)
    · rw [if_pos hh] at h
      refine go_mask [true, false, true, false, true, true, false, false, false, false, false] (lv1 := [.long l0, .null, .long l2, .null, .int l4, .long l5, .null, .null, .null, .null, .null]) rfl ?_
      exact rX10_lowest_b31 hc ho hL hN hr hE hz h
    · rw [if_neg hh] at h
      refine go_lload hc dX10_lowest_13 rfl ?_
      refine go_lload hc dX10_lowest_15 rfl ?_
      obtain ⟨hg1, h⟩ := ogd_some h
      refine go_lrem hc dX10_lowest_17 (of_decide_eq_true hg1) ?_
      refine go_lstore hc (lv1 := [.long l0, .null, .long l2, .null, .int l4, .long l5, .null, .long l7, .null, .long (l5 - l5 / l7 * l7), .null]) dX10_lowest_18 hL (by decide) (fun _ _ e => by cases e; rfl) rfl ?_
      refine go_lload hc dX10_lowest_20 rfl ?_
      refine go_lstore hc (lv1 := [.long l0, .null, .long l2, .null, .int l4, .long l7, .null, .long l7, .null, .long (l5 - l5 / l7 * l7), .null]) dX10_lowest_22 hL (by decide) (fun _ _ e => by cases e; rfl) rfl ?_
      refine go_lload hc dX10_lowest_24 rfl ?_
      refine go_lstore hc (lv1 := [.long l0, .null, .long l2, .null, .int l4, .long l7, .null, .long (l5 - l5 / l7 * l7), .null, .long (l5 - l5 / l7 * l7), .null]) dX10_lowest_26 hL (by decide) (fun _ _ e => by cases e; rfl) rfl ?_
      refine go_goto (tgt := 6) hc dX10_lowest_28 rfl ?_
      refine go_mask [true, false, true, false, true, true, false, true, false, false, false] (lv1 := [.long l0, .null, .long l2, .null, .int l4, .long l7, .null, .long (l5 - l5 / l7 * l7), .null, .null, .null]) rfl ?_
      exact ih l0 l2 l4 l7 (l5 - l5 / l7 * l7) _ h
def fX10_lowest (x0 : Int64) (x1 : Int64) (x2 : Int32) (σ : OM) : Option (Int64 × OM) :=
  fX10_lowest_b6 oF x0 x1 x2 x1 x0 σ
set_option maxRecDepth 100000 in
set_option maxHeartbeats 4000000 in
theorem rX10_lowest {N : Nat} {x0 : Int64} {x1 : Int64} {x2 : Int32} {σ : OM} {r0 : Int64} {σ0 : OM} (h : fX10_lowest x0 x1 x2 σ = some (r0, σ0)) (hN0 : 0 ≤ N) : oEv N MX10_lowest [.long x0, .long x1, .int x2] σ (some (.long r0)) σ0 := by
  refine oEv_of (lv := [.long x0, .null, .long x1, .null, .int x2, .null, .null, .null, .null, .null, .null]) (by decide +kernel) (fun g q hq => hq) (fun g => Nat.le_of_ble_eq_true rfl) ?_
  intro K hc ho hL hN1 hr hE hz
  have hN : 0 ≤ kN K := by rw [hN1]; exact hN0
  unfold fX10_lowest at h
  refine go_lload_n hc dX10_lowest_0 rfl rfl ?_
  refine go_lstore hc (lv1 := [.long x0, .null, .long x1, .null, .int x2, .long x1, .null, .null, .null, .null, .null]) dX10_lowest_1 hL (by decide) (fun _ _ e => by cases e; rfl) rfl ?_
  refine go_lload_n hc dX10_lowest_3 rfl rfl ?_
  refine go_lstore hc (lv1 := [.long x0, .null, .long x1, .null, .int x2, .long x1, .null, .long x0, .null, .null, .null]) dX10_lowest_4 hL (by decide) (fun _ _ e => by cases e; rfl) rfl ?_
  exact rX10_lowest_b6 hc ho hL hN hr hE hz oF x0 x1 x2 x1 x0 _ h
def fX10_chance (x0 : Int32) (x1 : Int32) (σ : OM) : Option (Int64 × OM) :=
  obv (fX10_good σ) (fun σ2 =>
  obi (fX10_isQuestion x0 σ2) (fun r4 σ5 =>
  if r4 = 0 then (
   obi (fX10_no (1 : Int32) σ5) (fun r7 σ8 =>
   some (r7.toInt64, σ8)))
  else (ogd (oin x0 9) (
  obi (fX10_weight ((mL σ5 86 8) &&& (mL σ5 86 x0.toNatClampNeg)) σ5) (fun r11 σ12 =>
  obi (fX10_weight (mL σ12 86 8) σ12) (fun r14 σ15 =>
  obi (fX10_lowest r11 r14 x1 σ15) (fun r17 σ18 =>
  some (r17, σ18))))))))
set_option maxRecDepth 100000 in
set_option maxHeartbeats 4000000 in
theorem rX10_chance {N : Nat} {x0 : Int32} {x1 : Int32} {σ : OM} {r0 : Int64} {σ0 : OM} (h : fX10_chance x0 x1 σ = some (r0, σ0)) (hN0 : 3 ≤ N) : oEv N MX10_chance [.ref 81, .int x0, .int x1] σ (some (.long r0)) σ0 := by
  refine oEv_of (lv := [.ref 81, .int x0, .int x1]) (by decide +kernel) (fun g q hq => hq) (fun g => Nat.le_of_ble_eq_true rfl) ?_
  intro K hc ho hL hN1 hr hE hz
  have hN : 3 ≤ kN K := by rw [hN1]; exact hN0
  unfold fX10_chance at h
  refine go_aload_n hc dX10_chance_0 rfl rfl ?_
  obtain ⟨σ2, hf3, h⟩ := obv_some h
  refine go_callVv hc ho cmX10_good mlX10_199 dX10_chance_1 ok_81 (As := []) (rest := []) (rX10_good (N := 0) hf3 (Nat.le_refl _)) rfl (Nat.le_trans (Nat.le_of_ble_eq_true rfl) hN) rfl (Nat.le_of_ble_eq_true rfl) (Or.inl hz) ?_
  refine go_aload_n hc dX10_chance_4 rfl rfl ?_
  refine go_iload_n hc dX10_chance_5 rfl rfl ?_
  obtain ⟨r4, σ5, hf6, h⟩ := obi_some h
  refine go_callVi hc ho cmX10_isQuestion mlX10_298 dX10_chance_6 ok_81 (As := [.int x0]) (rest := []) (rX10_isQuestion (N := 1) hf6 (Nat.le_refl _)) rfl (Nat.le_trans (Nat.le_of_ble_eq_true rfl) hN) rfl (Nat.le_of_ble_eq_true rfl) (Or.inl hz) ?_
  refine go_if_eq (tgt := 48) hc dX10_chance_9 rfl (fun hh => ?_) (fun hh => ?_)
  · rw [if_pos hh] at h
    refine go_aload_n hc dX10_chance_48 rfl rfl ?_
    refine go_iconst hc dX10_chance_49 ci_1 ?_
    obtain ⟨r7, σ8, hf9, h⟩ := obi_some h
    refine go_callVi hc ho cmX10_no mlX10_202 dX10_chance_50 ok_81 (As := [.int (1 : Int32)]) (rest := []) (rX10_no (N := 0) hf9 (Nat.le_refl _)) rfl (Nat.le_trans (Nat.le_of_ble_eq_true rfl) hN) rfl (Nat.le_of_ble_eq_true rfl) (Or.inl hz) ?_
    refine go_i2l hc dX10_chance_53 ?_
    exact go_lret hc (oend_l h hE) hr dX10_chance_54
  · rw [if_neg hh] at h
    refine go_aload_n hc dX10_chance_12 rfl rfl ?_
    refine go_aload_n hc dX10_chance_13 rfl rfl ?_
    refine go_getC (b := 86) rfl hc ho flX10_26 dX10_chance_14 ok_81 ?_
    refine go_bipush hc dX10_chance_17 cb_8 ?_
    refine go_lald hc dX10_chance_19 ok_86 ol_86 (by decide +kernel) cn_8 ?_
    refine go_aload_n hc dX10_chance_20 rfl rfl ?_
    refine go_getC (b := 86) rfl hc ho flX10_26 dX10_chance_21 ok_81 ?_
    refine go_iload_n hc dX10_chance_24 rfl rfl ?_
    obtain ⟨hg10, h⟩ := ogd_some h
    refine go_lald hc dX10_chance_25 ok_86 ol_86 hg10 rfl ?_
    refine go_land hc dX10_chance_26 ?_
    obtain ⟨r11, σ12, hf13, h⟩ := obi_some h
    refine go_callVl hc ho cmX10_weight mlX10_301 dX10_chance_27 ok_81 (As := [.long ((mL σ5 86 8) &&& (mL σ5 86 x0.toNatClampNeg))]) (rest := []) (rX10_weight (N := 2) hf13 (Nat.le_refl _)) rfl (Nat.le_trans (Nat.le_of_ble_eq_true rfl) hN) rfl (Nat.le_of_ble_eq_true rfl) (Or.inl hz) ?_
    refine go_aload_n hc dX10_chance_30 rfl rfl ?_
    refine go_aload_n hc dX10_chance_31 rfl rfl ?_
    refine go_getC (b := 86) rfl hc ho flX10_26 dX10_chance_32 ok_81 ?_
    refine go_bipush hc dX10_chance_35 cb_8 ?_
    refine go_lald hc dX10_chance_37 ok_86 ol_86 (by decide +kernel) cn_8 ?_
    obtain ⟨r14, σ15, hf16, h⟩ := obi_some h
    refine go_callVl hc ho cmX10_weight mlX10_301 dX10_chance_38 ok_81 (As := [.long (mL σ12 86 8)]) (rest := [.long r11]) (rX10_weight (N := 2) hf16 (Nat.le_refl _)) rfl (Nat.le_trans (Nat.le_of_ble_eq_true rfl) hN) rfl (Nat.le_of_ble_eq_true rfl) (Or.inl hz) ?_
    refine go_iload_n hc dX10_chance_41 rfl rfl ?_
    obtain ⟨r17, σ18, hf19, h⟩ := obi_some h
    refine go_callSl hc ho cmX10_lowest mlX10_305 dX10_chance_42 (As := [.long r11, .long r14, .int x1]) (rest := []) (rX10_lowest (N := 0) hf19 (Nat.le_refl _)) rfl (Nat.le_trans (Nat.le_of_ble_eq_true rfl) hN) rfl (Nat.le_of_ble_eq_true rfl) (Or.inl hz) ?_
    refine go_goto (tgt := 54) hc dX10_chance_45 rfl ?_
    exact go_lret hc (oend_l h hE) hr dX10_chance_54
def fX10_alike_b22 : Nat → Int32 → Int32 → Int32 → OM → Option (Int32 × OM)
  | 0, _, _, _, _ => none
  | n + 1, l1, l2, l3, σ =>
    if (mI σ 84 5) ≤ l3 then (
     some (l2, σ))
    else (ogd (oin l3 9) (
    ogd (oin l1 9) (
    if (lg_cmp (((mL σ 86 l3.toNatClampNeg) ^^^ (mL σ 86 l1.toNatClampNeg)) &&& (mL σ 86 8)) (0 : Int64)) = 0 then (
     fX10_alike_b22 n l1 (l2 ||| ((1 : Int32) <<< (l3 &&& 31))) (l3 + 1) σ)
    else (fX10_alike_b22 n l1 (l2 ||| (0 : Int32)) (l3 + 1) σ))))
set_option maxRecDepth 100000 in
set_option maxHeartbeats 4000000 in
theorem rX10_alike_b22 {K : OK} (hc : kcc K = cX10_alike) (ho : kow K = RX10) (hL : knL K = 4) (hN : 2 ≤ kN K) (hr : (kme K).sig.returnType = (some .int)) {r0 : Int32} {σ0 : OM} (hE : oEnd K (some (.int r0)) σ0) (hz : kz K = 0) : ∀ (n : Nat) (l1 : Int32) (l2 : Int32) (l3 : Int32) (σ : OM), fX10_alike_b22 n l1 l2 l3 σ = some (r0, σ0) → Go K 22 [.ref 81, .int l1, .int l2, .int l3] [] σ := by
  intro n
  induction n with
  | zero =>
    intro l1 l2 l3 σ h
    cases h
  | succ n ih =>
    intro l1 l2 l3 σ h
    rw [fX10_alike_b22] at h
    refine go_iload_n hc dX10_alike_22 rfl rfl ?_
    refine go_aload_n hc dX10_alike_23 rfl rfl ?_
    refine go_getC (b := 84) rfl hc ho flX10_20 dX10_alike_24 ok_81 ?_
    refine go_iconst hc dX10_alike_27 ci_5 ?_
    refine go_iald hc dX10_alike_28 ok_84 ol_84 (by decide +kernel) cn_5 ?_
    refine go_icmp_ge (tgt := 74) hc dX10_alike_29 rfl (fun hh => ?_) (fun hh => ?_)
    · rw [if_pos hh] at h
      refine go_iload_n hc dX10_alike_74 rfl rfl ?_
      exact go_iret hc (oend_i h hE) hr dX10_alike_75
    · rw [if_neg hh] at h
      refine go_iload_n hc dX10_alike_32 rfl rfl ?_
      refine go_aload_n hc dX10_alike_33 rfl rfl ?_
      refine go_getC (b := 86) rfl hc ho flX10_26 dX10_alike_34 ok_81 ?_
      refine go_iload_n hc dX10_alike_37 rfl rfl ?_
      obtain ⟨hg1, h⟩ := ogd_some h
      refine go_lald hc dX10_alike_38 ok_86 ol_86 hg1 rfl ?_
      refine go_aload_n hc dX10_alike_39 rfl rfl ?_
      refine go_getC (b := 86) rfl hc ho flX10_26 dX10_alike_40 ok_81 ?_
      refine go_iload_n hc dX10_alike_43 rfl rfl ?_
      obtain ⟨hg2, h⟩ := ogd_some h
      refine go_lald hc dX10_alike_44 ok_86 ol_86 hg2 rfl ?_
      refine go_lxor hc dX10_alike_45 ?_
      refine go_aload_n hc dX10_alike_46 rfl rfl ?_
      refine go_getC (b := 86) rfl hc ho flX10_26 dX10_alike_47 ok_81 ?_
      refine go_bipush hc dX10_alike_50 cb_8 ?_
      refine go_lald hc dX10_alike_52 ok_86 ol_86 (by decide +kernel) cn_8 ?_
      refine go_land hc dX10_alike_53 ?_
      refine go_lconst hc dX10_alike_54 cl_0 ?_
      refine go_lcmp hc dX10_alike_55 ?_
      refine go_if_ne (tgt := 65) hc dX10_alike_56 rfl (fun hh => ?_) (fun hh => ?_)
      · rw [if_neg hh] at h
        refine go_iconst hc dX10_alike_65 ci_0 ?_
        refine go_ior hc dX10_alike_66 ?_
        refine go_istore_n hc (lv1 := [.ref 81, .int l1, .int (l2 ||| (0 : Int32)), .int l3]) dX10_alike_67 rfl hL (by decide) (fun _ _ e => by cases e; rfl) rfl ?_
        refine go_iinc hc (lv1 := [.ref 81, .int l1, .int (l2 ||| (0 : Int32)), .int (l3 + 1)]) dX10_alike_68 rfl ci_1 hL (by decide) (fun _ _ e => by cases e; rfl) rfl ?_
        refine go_goto (tgt := 22) hc dX10_alike_71 rfl ?_
        exact ih l1 (l2 ||| (0 : Int32)) (l3 + 1) _ h
      · rw [if_pos hh] at h
        refine go_iconst hc dX10_alike_59 ci_1 ?_
        refine go_iload_n hc dX10_alike_60 rfl rfl ?_
        refine go_ishl hc dX10_alike_61 ?_
        refine go_goto (tgt := 66) hc dX10_alike_62 rfl ?_
        refine go_ior hc dX10_alike_66 ?_
        refine go_istore_n hc (lv1 := [.ref 81, .int l1, .int (l2 ||| ((1 : Int32) <<< (l3 &&& 31))), .int l3]) dX10_alike_67 rfl hL (by decide) (fun _ _ e => by cases e; rfl) rfl ?_
        refine go_iinc hc (lv1 := [.ref 81, .int l1, .int (l2 ||| ((1 : Int32) <<< (l3 &&& 31))), .int (l3 + 1)]) dX10_alike_68 rfl ci_1 hL (by decide) (fun _ _ e => by cases e; rfl) rfl ?_
        refine go_goto (tgt := 22) hc dX10_alike_71 rfl ?_
        exact ih l1 (l2 ||| ((1 : Int32) <<< (l3 &&& 31))) (l3 + 1) _ h
def fX10_alike (x0 : Int32) (σ : OM) : Option (Int32 × OM) :=
  obv (fX10_good σ) (fun σ2 =>
  obi (fX10_isQuestion x0 σ2) (fun r4 σ5 =>
  if r4 = 0 then (
   obi (fX10_no (1 : Int32) σ5) (fun r7 σ8 =>
   some (r7, σ8)))
  else (fX10_alike_b22 oF x0 (0 : Int32) (0 : Int32) σ5)))
set_option maxRecDepth 100000 in
set_option maxHeartbeats 4000000 in
theorem rX10_alike {N : Nat} {x0 : Int32} {σ : OM} {r0 : Int32} {σ0 : OM} (h : fX10_alike x0 σ = some (r0, σ0)) (hN0 : 2 ≤ N) : oEv N MX10_alike [.ref 81, .int x0] σ (some (.int r0)) σ0 := by
  refine oEv_of (lv := [.ref 81, .int x0, .null, .null]) (by decide +kernel) (fun g q hq => hq) (fun g => Nat.le_of_ble_eq_true rfl) ?_
  intro K hc ho hL hN1 hr hE hz
  have hN : 2 ≤ kN K := by rw [hN1]; exact hN0
  unfold fX10_alike at h
  refine go_aload_n hc dX10_alike_0 rfl rfl ?_
  obtain ⟨σ2, hf3, h⟩ := obv_some h
  refine go_callVv hc ho cmX10_good mlX10_199 dX10_alike_1 ok_81 (As := []) (rest := []) (rX10_good (N := 0) hf3 (Nat.le_refl _)) rfl (Nat.le_trans (Nat.le_of_ble_eq_true rfl) hN) rfl (Nat.le_of_ble_eq_true rfl) (Or.inl hz) ?_
  refine go_aload_n hc dX10_alike_4 rfl rfl ?_
  refine go_iload_n hc dX10_alike_5 rfl rfl ?_
  obtain ⟨r4, σ5, hf6, h⟩ := obi_some h
  refine go_callVi hc ho cmX10_isQuestion mlX10_298 dX10_alike_6 ok_81 (As := [.int x0]) (rest := []) (rX10_isQuestion (N := 1) hf6 (Nat.le_refl _)) rfl (Nat.le_trans (Nat.le_of_ble_eq_true rfl) hN) rfl (Nat.le_of_ble_eq_true rfl) (Or.inl hz) ?_
  refine go_if_ne (tgt := 18) hc dX10_alike_9 rfl (fun hh => ?_) (fun hh => ?_)
  · rw [if_neg hh] at h
    refine go_iconst hc dX10_alike_18 ci_0 ?_
    refine go_istore_n hc (lv1 := [.ref 81, .int x0, .int (0 : Int32), .null]) dX10_alike_19 rfl hL (by decide) (fun _ _ e => by cases e; rfl) rfl ?_
    refine go_iconst hc dX10_alike_20 ci_0 ?_
    refine go_istore_n hc (lv1 := [.ref 81, .int x0, .int (0 : Int32), .int (0 : Int32)]) dX10_alike_21 rfl hL (by decide) (fun _ _ e => by cases e; rfl) rfl ?_
    exact rX10_alike_b22 hc ho hL hN hr hE hz oF x0 (0 : Int32) (0 : Int32) _ h
  · rw [if_pos hh] at h
    refine go_aload_n hc dX10_alike_12 rfl rfl ?_
    refine go_iconst hc dX10_alike_13 ci_1 ?_
    obtain ⟨r7, σ8, hf9, h⟩ := obi_some h
    refine go_callVi hc ho cmX10_no mlX10_202 dX10_alike_14 ok_81 (As := [.int (1 : Int32)]) (rest := []) (rX10_no (N := 0) hf9 (Nat.le_refl _)) rfl (Nat.le_trans (Nat.le_of_ble_eq_true rfl) hN) rfl (Nat.le_of_ble_eq_true rfl) (Or.inl hz) ?_
    exact go_iret hc (oend_i h hE) hr dX10_alike_17
def fX10_implies (x0 : Int32) (x1 : Int32) (σ : OM) : Option (Int32 × OM) :=
  obv (fX10_good σ) (fun σ2 =>
  obi (fX10_isQuestion x0 σ2) (fun r4 σ5 =>
  if r4 = 0 then (
   obi (fX10_no (1 : Int32) σ5) (fun r7 σ8 =>
   some (r7, σ8)))
  else (obi (fX10_isQuestion x1 σ5) (fun r10 σ11 =>
  if r10 = 0 then (
   obi (fX10_no (1 : Int32) σ11) (fun r15 σ16 =>
   some (r15, σ16)))
  else (ogd (oin x0 9) (
  ogd (oin x1 9) (
  if (lg_cmp (((mL σ11 86 8) &&& (mL σ11 86 x0.toNatClampNeg)) &&& ((mL σ11 86 x1.toNatClampNeg) ^^^ ((-1) : Int64))) (0 : Int64)) = 0 then (
   some ((1 : Int32), σ11))
  else (some ((0 : Int32), σ11)))))))))
set_option maxRecDepth 100000 in
set_option maxHeartbeats 4000000 in
theorem rX10_implies {N : Nat} {x0 : Int32} {x1 : Int32} {σ : OM} {r0 : Int32} {σ0 : OM} (h : fX10_implies x0 x1 σ = some (r0, σ0)) (hN0 : 2 ≤ N) : oEv N MX10_implies [.ref 81, .int x0, .int x1] σ (some (.int r0)) σ0 := by
  refine oEv_of (lv := [.ref 81, .int x0, .int x1]) (by decide +kernel) (fun g q hq => hq) (fun g => Nat.le_of_ble_eq_true rfl) ?_
  intro K hc ho hL hN1 hr hE hz
  have hN : 2 ≤ kN K := by rw [hN1]; exact hN0
  unfold fX10_implies at h
  refine go_aload_n hc dX10_implies_0 rfl rfl ?_
  obtain ⟨σ2, hf3, h⟩ := obv_some h
  refine go_callVv hc ho cmX10_good mlX10_199 dX10_implies_1 ok_81 (As := []) (rest := []) (rX10_good (N := 0) hf3 (Nat.le_refl _)) rfl (Nat.le_trans (Nat.le_of_ble_eq_true rfl) hN) rfl (Nat.le_of_ble_eq_true rfl) (Or.inl hz) ?_
  refine go_aload_n hc dX10_implies_4 rfl rfl ?_
  refine go_iload_n hc dX10_implies_5 rfl rfl ?_
  obtain ⟨r4, σ5, hf6, h⟩ := obi_some h
  refine go_callVi hc ho cmX10_isQuestion mlX10_298 dX10_implies_6 ok_81 (As := [.int x0]) (rest := []) (rX10_isQuestion (N := 1) hf6 (Nat.le_refl _)) rfl (Nat.le_trans (Nat.le_of_ble_eq_true rfl) hN) rfl (Nat.le_of_ble_eq_true rfl) (Or.inl hz) ?_
  refine go_if_eq (tgt := 20) hc dX10_implies_9 rfl (fun hh => ?_) (fun hh => ?_)
  · rw [if_pos hh] at h
    refine go_aload_n hc dX10_implies_20 rfl rfl ?_
    refine go_iconst hc dX10_implies_21 ci_1 ?_
    obtain ⟨r7, σ8, hf9, h⟩ := obi_some h
    refine go_callVi hc ho cmX10_no mlX10_202 dX10_implies_22 ok_81 (As := [.int (1 : Int32)]) (rest := []) (rX10_no (N := 0) hf9 (Nat.le_refl _)) rfl (Nat.le_trans (Nat.le_of_ble_eq_true rfl) hN) rfl (Nat.le_of_ble_eq_true rfl) (Or.inl hz) ?_
    exact go_iret hc (oend_i h hE) hr dX10_implies_25
  · rw [if_neg hh] at h
    refine go_aload_n hc dX10_implies_12 rfl rfl ?_
    refine go_iload_n hc dX10_implies_13 rfl rfl ?_
    obtain ⟨r10, σ11, hf12, h⟩ := obi_some h
    refine go_callVi hc ho cmX10_isQuestion mlX10_298 dX10_implies_14 ok_81 (As := [.int x1]) (rest := []) (rX10_isQuestion (N := 1) hf12 (Nat.le_refl _)) rfl (Nat.le_trans (Nat.le_of_ble_eq_true rfl) hN) rfl (Nat.le_of_ble_eq_true rfl) (Or.inl hz) ?_
    refine go_if_ne (tgt := 26) hc dX10_implies_17 rfl (fun hh => ?_) (fun hh => ?_)
    · rw [if_neg hh] at h
      refine go_aload_n hc dX10_implies_26 rfl rfl ?_
      refine go_getC (b := 86) rfl hc ho flX10_26 dX10_implies_27 ok_81 ?_
      refine go_bipush hc dX10_implies_30 cb_8 ?_
      refine go_lald hc dX10_implies_32 ok_86 ol_86 (by decide +kernel) cn_8 ?_
      refine go_aload_n hc dX10_implies_33 rfl rfl ?_
      refine go_getC (b := 86) rfl hc ho flX10_26 dX10_implies_34 ok_81 ?_
      refine go_iload_n hc dX10_implies_37 rfl rfl ?_
      obtain ⟨hg13, h⟩ := ogd_some h
      refine go_lald hc dX10_implies_38 ok_86 ol_86 hg13 rfl ?_
      refine go_land hc dX10_implies_39 ?_
      refine go_aload_n hc dX10_implies_40 rfl rfl ?_
      refine go_getC (b := 86) rfl hc ho flX10_26 dX10_implies_41 ok_81 ?_
      refine go_iload_n hc dX10_implies_44 rfl rfl ?_
      obtain ⟨hg14, h⟩ := ogd_some h
      refine go_lald hc dX10_implies_45 ok_86 ol_86 hg14 rfl ?_
      refine go_ldc2 hc ho klX10_181 dX10_implies_46 ?_
      refine go_lxor hc dX10_implies_49 ?_
      refine go_land hc dX10_implies_50 ?_
      refine go_lconst hc dX10_implies_51 cl_0 ?_
      refine go_lcmp hc dX10_implies_52 ?_
      refine go_if_ne (tgt := 60) hc dX10_implies_53 rfl (fun hh => ?_) (fun hh => ?_)
      · rw [if_neg hh] at h
        refine go_iconst hc dX10_implies_60 ci_0 ?_
        exact go_iret hc (oend_i h hE) hr dX10_implies_61
      · rw [if_pos hh] at h
        refine go_iconst hc dX10_implies_56 ci_1 ?_
        refine go_goto (tgt := 61) hc dX10_implies_57 rfl ?_
        exact go_iret hc (oend_i h hE) hr dX10_implies_61
    · rw [if_pos hh] at h
      refine go_aload_n hc dX10_implies_20 rfl rfl ?_
      refine go_iconst hc dX10_implies_21 ci_1 ?_
      obtain ⟨r15, σ16, hf17, h⟩ := obi_some h
      refine go_callVi hc ho cmX10_no mlX10_202 dX10_implies_22 ok_81 (As := [.int (1 : Int32)]) (rest := []) (rX10_no (N := 0) hf17 (Nat.le_refl _)) rfl (Nat.le_trans (Nat.le_of_ble_eq_true rfl) hN) rfl (Nat.le_of_ble_eq_true rfl) (Or.inl hz) ?_
      exact go_iret hc (oend_i h hE) hr dX10_implies_25
def fX10_answerSet_b30 (l1 : Int32) (k0 : Int32) (σ : OM) : Option (Int64 × OM) :=
  ogd (oin (((2 : Int32) + ((3 : Int32) * l1)) + (1 : Int32)) 68) (
  ogd (oin (mI σ 88 ((((2 : Int32) + ((3 : Int32) * l1)) + (1 : Int32)).toNatClampNeg)) 9) (
  if k0 = 0 then (
   some (((mL σ 86 ((mI σ 88 ((((2 : Int32) + ((3 : Int32) * l1)) + (1 : Int32)).toNatClampNeg)).toNatClampNeg)) ^^^ ((-1) : Int64)), σ))
  else (some ((mL σ 86 ((mI σ 88 ((((2 : Int32) + ((3 : Int32) * l1)) + (1 : Int32)).toNatClampNeg)).toNatClampNeg)), σ))))
set_option maxRecDepth 100000 in
set_option maxHeartbeats 4000000 in
theorem rX10_answerSet_b30 {K : OK} (hc : kcc K = cX10_answerSet) (ho : kow K = RX10) (hL : knL K = 6) (hN : 0 ≤ kN K) (hr : (kme K).sig.returnType = (some .long)) {r0 : Int64} {σ0 : OM} (hE : oEnd K (some (.long r0)) σ0) (hz : kz K = 0) {l1 : Int32} {k0 : Int32} {σ : OM} (h : fX10_answerSet_b30 l1 k0 σ = some (r0, σ0)) : Go K 30 [.ref 81, .int l1, .null, .null, .null, .null] [.int k0] σ := by
  unfold fX10_answerSet_b30 at h
  refine go_istore_n hc (lv1 := [.ref 81, .int l1, .null, .int k0, .null, .null]) dX10_answerSet_30 rfl hL (by decide) (fun _ _ e => by cases e; rfl) rfl ?_
  refine go_aload_n hc dX10_answerSet_31 rfl rfl ?_
  refine go_getC (b := 86) rfl hc ho flX10_26 dX10_answerSet_32 ok_81 ?_
  refine go_aload_n hc dX10_answerSet_35 rfl rfl ?_
  refine go_getC (b := 88) rfl hc ho flX10_33 dX10_answerSet_36 ok_81 ?_
  refine go_iconst hc dX10_answerSet_39 ci_2 ?_
  refine go_iconst hc dX10_answerSet_40 ci_3 ?_
  refine go_iload_n hc dX10_answerSet_41 rfl rfl ?_
  refine go_imul hc dX10_answerSet_42 ?_
  refine go_iadd hc dX10_answerSet_43 ?_
  refine go_iconst hc dX10_answerSet_44 ci_1 ?_
  refine go_iadd hc dX10_answerSet_45 ?_
  obtain ⟨hg1, h⟩ := ogd_some h
  refine go_iald hc dX10_answerSet_46 ok_88 ol_88 hg1 rfl ?_
  obtain ⟨hg2, h⟩ := ogd_some h
  refine go_lald hc dX10_answerSet_47 ok_86 ol_86 hg2 rfl ?_
  refine go_lstore hc (lv1 := [.ref 81, .int l1, .null, .int k0, .long (mL σ 86 ((mI σ 88 ((((2 : Int32) + ((3 : Int32) * l1)) + (1 : Int32)).toNatClampNeg)).toNatClampNeg)), .null]) dX10_answerSet_48 hL (by decide) (fun _ _ e => by cases e; rfl) rfl ?_
  refine go_iload_n hc dX10_answerSet_50 rfl rfl ?_
  refine go_if_eq (tgt := 59) hc dX10_answerSet_51 rfl (fun hh => ?_) (fun hh => ?_)
  · rw [if_pos hh] at h
    refine go_lload hc dX10_answerSet_59 rfl ?_
    refine go_ldc2 hc ho klX10_181 dX10_answerSet_61 ?_
    refine go_lxor hc dX10_answerSet_64 ?_
    exact go_lret hc (oend_l h hE) hr dX10_answerSet_65
  · rw [if_neg hh] at h
    refine go_lload hc dX10_answerSet_54 rfl ?_
    refine go_goto (tgt := 65) hc dX10_answerSet_56 rfl ?_
    exact go_lret hc (oend_l h hE) hr dX10_answerSet_65
def fX10_answerSet (x0 : Int32) (x1 : Int32) (σ : OM) : Option (Int64 × OM) :=
  ogd (oin (((2 : Int32) + ((3 : Int32) * x0)) + (2 : Int32)) 68) (
  if (mI σ 88 ((((2 : Int32) + ((3 : Int32) * x0)) + (2 : Int32)).toNatClampNeg)) = (1 : Int32) then (
   if (1 : Int32) = x1 then (
    fX10_answerSet_b30 x0 (0 : Int32) σ)
   else (fX10_answerSet_b30 x0 (1 : Int32) σ))
  else (if (0 : Int32) = x1 then (
   fX10_answerSet_b30 x0 (0 : Int32) σ)
  else (fX10_answerSet_b30 x0 (1 : Int32) σ)))
set_option maxRecDepth 100000 in
set_option maxHeartbeats 4000000 in
theorem rX10_answerSet {N : Nat} {x0 : Int32} {x1 : Int32} {σ : OM} {r0 : Int64} {σ0 : OM} (h : fX10_answerSet x0 x1 σ = some (r0, σ0)) (hN0 : 0 ≤ N) : oEv N MX10_answerSet [.ref 81, .int x0, .int x1] σ (some (.long r0)) σ0 := by
  refine oEv_of (lv := [.ref 81, .int x0, .int x1, .null, .null, .null]) (by decide +kernel) (fun g q hq => hq) (fun g => Nat.le_of_ble_eq_true rfl) ?_
  intro K hc ho hL hN1 hr hE hz
  have hN : 0 ≤ kN K := by rw [hN1]; exact hN0
  unfold fX10_answerSet at h
  refine go_aload_n hc dX10_answerSet_0 rfl rfl ?_
  refine go_getC (b := 88) rfl hc ho flX10_33 dX10_answerSet_1 ok_81 ?_
  refine go_iconst hc dX10_answerSet_4 ci_2 ?_
  refine go_iconst hc dX10_answerSet_5 ci_3 ?_
  refine go_iload_n hc dX10_answerSet_6 rfl rfl ?_
  refine go_imul hc dX10_answerSet_7 ?_
  refine go_iadd hc dX10_answerSet_8 ?_
  refine go_iconst hc dX10_answerSet_9 ci_2 ?_
  refine go_iadd hc dX10_answerSet_10 ?_
  obtain ⟨hg1, h⟩ := ogd_some h
  refine go_iald hc dX10_answerSet_11 ok_88 ol_88 hg1 rfl ?_
  refine go_iconst hc dX10_answerSet_12 ci_1 ?_
  refine go_icmp_ne (tgt := 20) hc dX10_answerSet_13 rfl (fun hh => ?_) (fun hh => ?_)
  · rw [if_neg hh] at h
    refine go_iconst hc dX10_answerSet_20 ci_0 ?_
    refine go_iload_n hc dX10_answerSet_21 rfl rfl ?_
    refine go_icmp_eq (tgt := 29) hc dX10_answerSet_22 rfl (fun hh => ?_) (fun hh => ?_)
    · rw [if_pos hh] at h
      refine go_iconst hc dX10_answerSet_29 ci_0 ?_
      refine go_mask [true, true, false, false, false, false] (lv1 := [.ref 81, .int x0, .null, .null, .null, .null]) rfl ?_
      exact rX10_answerSet_b30 hc ho hL hN hr hE hz h
    · rw [if_neg hh] at h
      refine go_iconst hc dX10_answerSet_25 ci_1 ?_
      refine go_goto (tgt := 30) hc dX10_answerSet_26 rfl ?_
      refine go_mask [true, true, false, false, false, false] (lv1 := [.ref 81, .int x0, .null, .null, .null, .null]) rfl ?_
      exact rX10_answerSet_b30 hc ho hL hN hr hE hz h
  · rw [if_pos hh] at h
    refine go_iconst hc dX10_answerSet_16 ci_1 ?_
    refine go_goto (tgt := 21) hc dX10_answerSet_17 rfl ?_
    refine go_iload_n hc dX10_answerSet_21 rfl rfl ?_
    refine go_icmp_eq (tgt := 29) hc dX10_answerSet_22 rfl (fun hh => ?_) (fun hh => ?_)
    · rw [if_pos hh] at h
      refine go_iconst hc dX10_answerSet_29 ci_0 ?_
      refine go_mask [true, true, false, false, false, false] (lv1 := [.ref 81, .int x0, .null, .null, .null, .null]) rfl ?_
      exact rX10_answerSet_b30 hc ho hL hN hr hE hz h
    · rw [if_neg hh] at h
      refine go_iconst hc dX10_answerSet_25 ci_1 ?_
      refine go_goto (tgt := 30) hc dX10_answerSet_26 rfl ?_
      refine go_mask [true, true, false, false, false, false] (lv1 := [.ref 81, .int x0, .null, .null, .null, .null]) rfl ?_
      exact rX10_answerSet_b30 hc ho hL hN hr hE hz h
def fX10_leftBy_b12 : Nat → Int32 → Int32 → Int32 → Int64 → Int32 → OM → Option (Int64 × OM)
  | 0, _, _, _, _, _, _ => none
  | n + 1, l1, l2, l3, l4, l6, σ =>
    if l3 ≤ l6 then (
     some (l4, σ))
    else (ogd (oin ((2 : Int32) + ((3 : Int32) * l6)) 68) (
    obi (fX10_hasBit l1 (mI σ 88 (((2 : Int32) + ((3 : Int32) * l6)).toNatClampNeg)) σ) (fun r2 σ3 =>
    if r2 = 0 then (
     fX10_leftBy_b12 n l1 l2 l3 l4 (l6 + 1) σ3)
    else (ogd (oin ((2 : Int32) + ((3 : Int32) * l6)) 68) (
    obi (fX10_hasBit l2 (mI σ3 88 (((2 : Int32) + ((3 : Int32) * l6)).toNatClampNeg)) σ3) (fun r6 σ7 =>
    obi (fX10_answerSet l6 r6 σ7) (fun r9 σ10 =>
    fX10_leftBy_b12 n l1 l2 l3 (l4 &&& r9) (l6 + 1) σ10)))))))
set_option maxRecDepth 100000 in
set_option maxHeartbeats 4000000 in
theorem rX10_leftBy_b12 {K : OK} (hc : kcc K = cX10_leftBy) (ho : kow K = RX10) (hL : knL K = 7) (hN : 1 ≤ kN K) (hr : (kme K).sig.returnType = (some .long)) {r0 : Int64} {σ0 : OM} (hE : oEnd K (some (.long r0)) σ0) (hz : kz K = 0) : ∀ (n : Nat) (l1 : Int32) (l2 : Int32) (l3 : Int32) (l4 : Int64) (l6 : Int32) (σ : OM), fX10_leftBy_b12 n l1 l2 l3 l4 l6 σ = some (r0, σ0) → Go K 12 [.ref 81, .int l1, .int l2, .int l3, .long l4, .null, .int l6] [] σ := by
  intro n
  induction n with
  | zero =>
    intro l1 l2 l3 l4 l6 σ h
    cases h
  | succ n ih =>
    intro l1 l2 l3 l4 l6 σ h
    rw [fX10_leftBy_b12] at h
    refine go_iload hc dX10_leftBy_12 rfl ?_
    refine go_iload_n hc dX10_leftBy_14 rfl rfl ?_
    refine go_icmp_ge (tgt := 68) hc dX10_leftBy_15 rfl (fun hh => ?_) (fun hh => ?_)
    · rw [if_pos hh] at h
      refine go_lload hc dX10_leftBy_68 rfl ?_
      exact go_lret hc (oend_l h hE) hr dX10_leftBy_70
    · rw [if_neg hh] at h
      refine go_iload_n hc dX10_leftBy_18 rfl rfl ?_
      refine go_aload_n hc dX10_leftBy_19 rfl rfl ?_
      refine go_getC (b := 88) rfl hc ho flX10_33 dX10_leftBy_20 ok_81 ?_
      refine go_iconst hc dX10_leftBy_23 ci_2 ?_
      refine go_iconst hc dX10_leftBy_24 ci_3 ?_
      refine go_iload hc dX10_leftBy_25 rfl ?_
      refine go_imul hc dX10_leftBy_27 ?_
      refine go_iadd hc dX10_leftBy_28 ?_
      obtain ⟨hg1, h⟩ := ogd_some h
      refine go_iald hc dX10_leftBy_29 ok_88 ol_88 hg1 rfl ?_
      obtain ⟨r2, σ3, hf4, h⟩ := obi_some h
      refine go_callSi hc ho cmX10_hasBit mlX10_270 dX10_leftBy_30 (As := [.int l1, .int (mI σ 88 (((2 : Int32) + ((3 : Int32) * l6)).toNatClampNeg))]) (rest := []) (rX10_hasBit (N := 0) hf4 (Nat.le_refl _)) rfl (Nat.le_trans (Nat.le_of_ble_eq_true rfl) hN) rfl (Nat.le_of_ble_eq_true rfl) (Or.inl hz) ?_
      refine go_if_eq (tgt := 62) hc dX10_leftBy_33 rfl (fun hh => ?_) (fun hh => ?_)
      · rw [if_pos hh] at h
        refine go_iinc hc (lv1 := [.ref 81, .int l1, .int l2, .int l3, .long l4, .null, .int (l6 + 1)]) dX10_leftBy_62 rfl ci_1 hL (by decide) (fun _ _ e => by cases e; rfl) rfl ?_
        refine go_goto (tgt := 12) hc dX10_leftBy_65 rfl ?_
        exact ih l1 l2 l3 l4 (l6 + 1) _ h
      · rw [if_neg hh] at h
        refine go_lload hc dX10_leftBy_36 rfl ?_
        refine go_aload_n hc dX10_leftBy_38 rfl rfl ?_
        refine go_iload hc dX10_leftBy_39 rfl ?_
        refine go_iload_n hc dX10_leftBy_41 rfl rfl ?_
        refine go_aload_n hc dX10_leftBy_42 rfl rfl ?_
        refine go_getC (b := 88) rfl hc ho flX10_33 dX10_leftBy_43 ok_81 ?_
        refine go_iconst hc dX10_leftBy_46 ci_2 ?_
        refine go_iconst hc dX10_leftBy_47 ci_3 ?_
        refine go_iload hc dX10_leftBy_48 rfl ?_
        refine go_imul hc dX10_leftBy_50 ?_
        refine go_iadd hc dX10_leftBy_51 ?_
        obtain ⟨hg5, h⟩ := ogd_some h
        refine go_iald hc dX10_leftBy_52 ok_88 ol_88 hg5 rfl ?_
        obtain ⟨r6, σ7, hf8, h⟩ := obi_some h
        refine go_callSi hc ho cmX10_hasBit mlX10_270 dX10_leftBy_53 (As := [.int l2, .int (mI σ3 88 (((2 : Int32) + ((3 : Int32) * l6)).toNatClampNeg))]) (rest := [.int l6, .ref 81, .long l4]) (rX10_hasBit (N := 0) hf8 (Nat.le_refl _)) rfl (Nat.le_trans (Nat.le_of_ble_eq_true rfl) hN) rfl (Nat.le_of_ble_eq_true rfl) (Or.inl hz) ?_
        obtain ⟨r9, σ10, hf11, h⟩ := obi_some h
        refine go_callVl hc ho cmX10_answerSet mlX10_309 dX10_leftBy_56 ok_81 (As := [.int l6, .int r6]) (rest := [.long l4]) (rX10_answerSet (N := 0) hf11 (Nat.le_refl _)) rfl (Nat.le_trans (Nat.le_of_ble_eq_true rfl) hN) rfl (Nat.le_of_ble_eq_true rfl) (Or.inl hz) ?_
        refine go_land hc dX10_leftBy_59 ?_
        refine go_lstore hc (lv1 := [.ref 81, .int l1, .int l2, .int l3, .long (l4 &&& r9), .null, .int l6]) dX10_leftBy_60 hL (by decide) (fun _ _ e => by cases e; rfl) rfl ?_
        refine go_iinc hc (lv1 := [.ref 81, .int l1, .int l2, .int l3, .long (l4 &&& r9), .null, .int (l6 + 1)]) dX10_leftBy_62 rfl ci_1 hL (by decide) (fun _ _ e => by cases e; rfl) rfl ?_
        refine go_goto (tgt := 12) hc dX10_leftBy_65 rfl ?_
        exact ih l1 l2 l3 (l4 &&& r9) (l6 + 1) _ h
def fX10_leftBy (x0 : Int32) (x1 : Int32) (x2 : Int32) (σ : OM) : Option (Int64 × OM) :=
  fX10_leftBy_b12 oF x0 x1 x2 (mL σ 86 8) (0 : Int32) σ
set_option maxRecDepth 100000 in
set_option maxHeartbeats 4000000 in
theorem rX10_leftBy {N : Nat} {x0 : Int32} {x1 : Int32} {x2 : Int32} {σ : OM} {r0 : Int64} {σ0 : OM} (h : fX10_leftBy x0 x1 x2 σ = some (r0, σ0)) (hN0 : 1 ≤ N) : oEv N MX10_leftBy [.ref 81, .int x0, .int x1, .int x2] σ (some (.long r0)) σ0 := by
  refine oEv_of (lv := [.ref 81, .int x0, .int x1, .int x2, .null, .null, .null]) (by decide +kernel) (fun g q hq => hq) (fun g => Nat.le_of_ble_eq_true rfl) ?_
  intro K hc ho hL hN1 hr hE hz
  have hN : 1 ≤ kN K := by rw [hN1]; exact hN0
  unfold fX10_leftBy at h
  refine go_aload_n hc dX10_leftBy_0 rfl rfl ?_
  refine go_getC (b := 86) rfl hc ho flX10_26 dX10_leftBy_1 ok_81 ?_
  refine go_bipush hc dX10_leftBy_4 cb_8 ?_
  refine go_lald hc dX10_leftBy_6 ok_86 ol_86 (by decide +kernel) cn_8 ?_
  refine go_lstore hc (lv1 := [.ref 81, .int x0, .int x1, .int x2, .long (mL σ 86 8), .null, .null]) dX10_leftBy_7 hL (by decide) (fun _ _ e => by cases e; rfl) rfl ?_
  refine go_iconst hc dX10_leftBy_9 ci_0 ?_
  refine go_istore hc (lv1 := [.ref 81, .int x0, .int x1, .int x2, .long (mL σ 86 8), .null, .int (0 : Int32)]) dX10_leftBy_10 hL (by decide) (fun _ _ e => by cases e; rfl) rfl ?_
  exact rX10_leftBy_b12 hc ho hL hN hr hE hz oF x0 x1 x2 (mL σ 86 8) (0 : Int32) _ h
def fX10_canLie (x0 : Int32) (σ : OM) : Option (Int32 × OM) :=
  obi (fX10_leftBy (63 : Int32) x0 (mI σ 88 1) σ) (fun r1 σ2 =>
  if (lg_cmp r1 (0 : Int64)) = 0 then (
   some ((0 : Int32), σ2))
  else (some ((1 : Int32), σ2)))
set_option maxRecDepth 100000 in
set_option maxHeartbeats 4000000 in
theorem rX10_canLie {N : Nat} {x0 : Int32} {σ : OM} {r0 : Int32} {σ0 : OM} (h : fX10_canLie x0 σ = some (r0, σ0)) (hN0 : 2 ≤ N) : oEv N MX10_canLie [.ref 81, .int x0] σ (some (.int r0)) σ0 := by
  refine oEv_of (lv := [.ref 81, .int x0]) (by decide +kernel) (fun g q hq => hq) (fun g => Nat.le_of_ble_eq_true rfl) ?_
  intro K hc ho hL hN1 hr hE hz
  have hN : 2 ≤ kN K := by rw [hN1]; exact hN0
  unfold fX10_canLie at h
  refine go_aload_n hc dX10_canLie_0 rfl rfl ?_
  refine go_bipush hc dX10_canLie_1 cb_63 ?_
  refine go_iload_n hc dX10_canLie_3 rfl rfl ?_
  refine go_aload_n hc dX10_canLie_4 rfl rfl ?_
  refine go_getC (b := 88) rfl hc ho flX10_33 dX10_canLie_5 ok_81 ?_
  refine go_iconst hc dX10_canLie_8 ci_1 ?_
  refine go_iald hc dX10_canLie_9 ok_88 ol_88 (by decide +kernel) cn_1 ?_
  obtain ⟨r1, σ2, hf3, h⟩ := obi_some h
  refine go_callVl hc ho cmX10_leftBy mlX10_313 dX10_canLie_10 ok_81 (As := [.int (63 : Int32), .int x0, .int (mI σ 88 1)]) (rest := []) (rX10_leftBy (N := 1) hf3 (Nat.le_refl _)) rfl (Nat.le_trans (Nat.le_of_ble_eq_true rfl) hN) rfl (Nat.le_of_ble_eq_true rfl) (Or.inl hz) ?_
  refine go_lconst hc dX10_canLie_13 cl_0 ?_
  refine go_lcmp hc dX10_canLie_14 ?_
  refine go_if_eq (tgt := 22) hc dX10_canLie_15 rfl (fun hh => ?_) (fun hh => ?_)
  · rw [if_pos hh] at h
    refine go_iconst hc dX10_canLie_22 ci_0 ?_
    exact go_zret hc (oend_i h hE) hr rfl dX10_canLie_23
  · rw [if_neg hh] at h
    refine go_iconst hc dX10_canLie_18 ci_1 ?_
    refine go_goto (tgt := 23) hc dX10_canLie_19 rfl ?_
    exact go_zret hc (oend_i h hE) hr rfl dX10_canLie_23
def fX10_liarsOf_b5 : Nat → Int32 → Int32 → OM → Option (Int32 × OM)
  | 0, _, _, _ => none
  | n + 1, l1, l2, σ =>
    if ((1 : Int32) <<< ((mI σ 84 3) &&& 31)) ≤ l2 then (
     some (l1, σ))
    else (if l1 = ((-2) : Int32) then (
     obi (fX10_canLie l2 σ) (fun r1 σ2 =>
     if r1 = 0 then (
      fX10_liarsOf_b5 n l1 (l2 + 1) σ2)
     else (fX10_liarsOf_b5 n l2 (l2 + 1) σ2)))
    else (obi (fX10_ones l2.toInt64 σ) (fun r4 σ5 =>
    obi (fX10_ones l1.toInt64 σ5) (fun r7 σ8 =>
    if r7 ≤ r4 then (
     fX10_liarsOf_b5 n l1 (l2 + 1) σ8)
    else (obi (fX10_canLie l2 σ8) (fun r10 σ11 =>
    if r10 = 0 then (
     fX10_liarsOf_b5 n l1 (l2 + 1) σ11)
    else (fX10_liarsOf_b5 n l2 (l2 + 1) σ11)))))))
set_option maxRecDepth 100000 in
set_option maxHeartbeats 4000000 in
theorem rX10_liarsOf_b5 {K : OK} (hc : kcc K = cX10_liarsOf) (ho : kow K = RX10) (hL : knL K = 3) (hN : 3 ≤ kN K) (hr : (kme K).sig.returnType = (some .int)) {r0 : Int32} {σ0 : OM} (hE : oEnd K (some (.int r0)) σ0) (hz : kz K = 0) : ∀ (n : Nat) (l1 : Int32) (l2 : Int32) (σ : OM), fX10_liarsOf_b5 n l1 l2 σ = some (r0, σ0) → Go K 5 [.ref 81, .int l1, .int l2] [] σ := by
  intro n
  induction n with
  | zero =>
    intro l1 l2 σ h
    cases h
  | succ n ih =>
    intro l1 l2 σ h
    rw [fX10_liarsOf_b5] at h
    refine go_iload_n hc dX10_liarsOf_5 rfl rfl ?_
    refine go_iconst hc dX10_liarsOf_6 ci_1 ?_
    refine go_aload_n hc dX10_liarsOf_7 rfl rfl ?_
    refine go_getC (b := 84) rfl hc ho flX10_20 dX10_liarsOf_8 ok_81 ?_
    refine go_iconst hc dX10_liarsOf_11 ci_3 ?_
    refine go_iald hc dX10_liarsOf_12 ok_84 ol_84 (by decide +kernel) cn_3 ?_
    refine go_ishl hc dX10_liarsOf_13 ?_
    refine go_icmp_ge (tgt := 52) hc dX10_liarsOf_14 rfl (fun hh => ?_) (fun hh => ?_)
    · rw [if_pos hh] at h
      refine go_iload_n hc dX10_liarsOf_52 rfl rfl ?_
      exact go_iret hc (oend_i h hE) hr dX10_liarsOf_53
    · rw [if_neg hh] at h
      refine go_iload_n hc dX10_liarsOf_17 rfl rfl ?_
      refine go_bipush hc dX10_liarsOf_18 cb_m2 ?_
      refine go_icmp_eq (tgt := 36) hc dX10_liarsOf_20 rfl (fun hh => ?_) (fun hh => ?_)
      · rw [if_pos hh] at h
        refine go_aload_n hc dX10_liarsOf_36 rfl rfl ?_
        refine go_iload_n hc dX10_liarsOf_37 rfl rfl ?_
        obtain ⟨r1, σ2, hf3, h⟩ := obi_some h
        refine go_callVi hc ho cmX10_canLie mlX10_317 dX10_liarsOf_38 ok_81 (As := [.int l2]) (rest := []) (rX10_canLie (N := 2) hf3 (Nat.le_refl _)) rfl (Nat.le_trans (Nat.le_of_ble_eq_true rfl) hN) rfl (Nat.le_of_ble_eq_true rfl) (Or.inl hz) ?_
        refine go_if_eq (tgt := 46) hc dX10_liarsOf_41 rfl (fun hh => ?_) (fun hh => ?_)
        · rw [if_pos hh] at h
          refine go_iinc hc (lv1 := [.ref 81, .int l1, .int (l2 + 1)]) dX10_liarsOf_46 rfl ci_1 hL (by decide) (fun _ _ e => by cases e; rfl) rfl ?_
          refine go_goto (tgt := 5) hc dX10_liarsOf_49 rfl ?_
          exact ih l1 (l2 + 1) _ h
        · rw [if_neg hh] at h
          refine go_iload_n hc dX10_liarsOf_44 rfl rfl ?_
          refine go_istore_n hc (lv1 := [.ref 81, .int l2, .int l2]) dX10_liarsOf_45 rfl hL (by decide) (fun _ _ e => by cases e; rfl) rfl ?_
          refine go_iinc hc (lv1 := [.ref 81, .int l2, .int (l2 + 1)]) dX10_liarsOf_46 rfl ci_1 hL (by decide) (fun _ _ e => by cases e; rfl) rfl ?_
          refine go_goto (tgt := 5) hc dX10_liarsOf_49 rfl ?_
          exact ih l2 (l2 + 1) _ h
      · rw [if_neg hh] at h
        refine go_iload_n hc dX10_liarsOf_23 rfl rfl ?_
        refine go_i2l hc dX10_liarsOf_24 ?_
        obtain ⟨r4, σ5, hf6, h⟩ := obi_some h
        refine go_callSi hc ho cmX10_ones mlX10_291 dX10_liarsOf_25 (As := [.long l2.toInt64]) (rest := []) (rX10_ones (N := 0) hf6 (Nat.le_refl _)) rfl (Nat.le_trans (Nat.le_of_ble_eq_true rfl) hN) rfl (Nat.le_of_ble_eq_true rfl) (Or.inl hz) ?_
        refine go_iload_n hc dX10_liarsOf_28 rfl rfl ?_
        refine go_i2l hc dX10_liarsOf_29 ?_
        obtain ⟨r7, σ8, hf9, h⟩ := obi_some h
        refine go_callSi hc ho cmX10_ones mlX10_291 dX10_liarsOf_30 (As := [.long l1.toInt64]) (rest := [.int r4]) (rX10_ones (N := 0) hf9 (Nat.le_refl _)) rfl (Nat.le_trans (Nat.le_of_ble_eq_true rfl) hN) rfl (Nat.le_of_ble_eq_true rfl) (Or.inl hz) ?_
        refine go_icmp_ge (tgt := 46) hc dX10_liarsOf_33 rfl (fun hh => ?_) (fun hh => ?_)
        · rw [if_pos hh] at h
          refine go_iinc hc (lv1 := [.ref 81, .int l1, .int (l2 + 1)]) dX10_liarsOf_46 rfl ci_1 hL (by decide) (fun _ _ e => by cases e; rfl) rfl ?_
          refine go_goto (tgt := 5) hc dX10_liarsOf_49 rfl ?_
          exact ih l1 (l2 + 1) _ h
        · rw [if_neg hh] at h
          refine go_aload_n hc dX10_liarsOf_36 rfl rfl ?_
          refine go_iload_n hc dX10_liarsOf_37 rfl rfl ?_
          obtain ⟨r10, σ11, hf12, h⟩ := obi_some h
          refine go_callVi hc ho cmX10_canLie mlX10_317 dX10_liarsOf_38 ok_81 (As := [.int l2]) (rest := []) (rX10_canLie (N := 2) hf12 (Nat.le_refl _)) rfl (Nat.le_trans (Nat.le_of_ble_eq_true rfl) hN) rfl (Nat.le_of_ble_eq_true rfl) (Or.inl hz) ?_
          refine go_if_eq (tgt := 46) hc dX10_liarsOf_41 rfl (fun hh => ?_) (fun hh => ?_)
          · rw [if_pos hh] at h
            refine go_iinc hc (lv1 := [.ref 81, .int l1, .int (l2 + 1)]) dX10_liarsOf_46 rfl ci_1 hL (by decide) (fun _ _ e => by cases e; rfl) rfl ?_
            refine go_goto (tgt := 5) hc dX10_liarsOf_49 rfl ?_
            exact ih l1 (l2 + 1) _ h
          · rw [if_neg hh] at h
            refine go_iload_n hc dX10_liarsOf_44 rfl rfl ?_
            refine go_istore_n hc (lv1 := [.ref 81, .int l2, .int l2]) dX10_liarsOf_45 rfl hL (by decide) (fun _ _ e => by cases e; rfl) rfl ?_
            refine go_iinc hc (lv1 := [.ref 81, .int l2, .int (l2 + 1)]) dX10_liarsOf_46 rfl ci_1 hL (by decide) (fun _ _ e => by cases e; rfl) rfl ?_
            refine go_goto (tgt := 5) hc dX10_liarsOf_49 rfl ?_
            exact ih l2 (l2 + 1) _ h
def fX10_liarsOf (σ : OM) : Option (Int32 × OM) :=
  fX10_liarsOf_b5 oF ((-2) : Int32) (0 : Int32) σ
set_option maxRecDepth 100000 in
set_option maxHeartbeats 4000000 in
theorem rX10_liarsOf {N : Nat} {σ : OM} {r0 : Int32} {σ0 : OM} (h : fX10_liarsOf σ = some (r0, σ0)) (hN0 : 3 ≤ N) : oEv N MX10_liarsOf [.ref 81] σ (some (.int r0)) σ0 := by
  refine oEv_of (lv := [.ref 81, .null, .null]) (by decide +kernel) (fun g q hq => hq) (fun g => Nat.le_of_ble_eq_true rfl) ?_
  intro K hc ho hL hN1 hr hE hz
  have hN : 3 ≤ kN K := by rw [hN1]; exact hN0
  unfold fX10_liarsOf at h
  refine go_bipush hc dX10_liarsOf_0 cb_m2 ?_
  refine go_istore_n hc (lv1 := [.ref 81, .int ((-2) : Int32), .null]) dX10_liarsOf_2 rfl hL (by decide) (fun _ _ e => by cases e; rfl) rfl ?_
  refine go_iconst hc dX10_liarsOf_3 ci_0 ?_
  refine go_istore_n hc (lv1 := [.ref 81, .int ((-2) : Int32), .int (0 : Int32)]) dX10_liarsOf_4 rfl hL (by decide) (fun _ _ e => by cases e; rfl) rfl ?_
  exact rX10_liarsOf_b5 hc ho hL hN hr hE hz oF ((-2) : Int32) (0 : Int32) _ h
def fX10_liars (σ : OM) : Option (Int32 × OM) :=
  obv (fX10_good σ) (fun σ2 =>
  if (mI σ2 81 14) = 0 then (
   obi (fX10_no (1 : Int32) σ2) (fun r4 σ5 =>
   some (r4, σ5)))
  else (obi (fX10_liarsOf σ2) (fun r7 σ8 =>
  some (r7, σ8))))
set_option maxRecDepth 100000 in
set_option maxHeartbeats 4000000 in
theorem rX10_liars {N : Nat} {σ : OM} {r0 : Int32} {σ0 : OM} (h : fX10_liars σ = some (r0, σ0)) (hN0 : 4 ≤ N) : oEv N MX10_liars [.ref 81] σ (some (.int r0)) σ0 := by
  refine oEv_of (lv := [.ref 81]) (by decide +kernel) (fun g q hq => hq) (fun g => Nat.le_of_ble_eq_true rfl) ?_
  intro K hc ho hL hN1 hr hE hz
  have hN : 4 ≤ kN K := by rw [hN1]; exact hN0
  unfold fX10_liars at h
  refine go_aload_n hc dX10_liars_0 rfl rfl ?_
  obtain ⟨σ2, hf3, h⟩ := obv_some h
  refine go_callVv hc ho cmX10_good mlX10_199 dX10_liars_1 ok_81 (As := []) (rest := []) (rX10_good (N := 0) hf3 (Nat.le_refl _)) rfl (Nat.le_trans (Nat.le_of_ble_eq_true rfl) hN) rfl (Nat.le_of_ble_eq_true rfl) (Or.inl hz) ?_
  refine go_aload_n hc dX10_liars_4 rfl rfl ?_
  refine go_getI hc ho flX10_212 dX10_liars_5 ok_81 ?_
  refine go_if_eq (tgt := 18) hc dX10_liars_8 rfl (fun hh => ?_) (fun hh => ?_)
  · rw [if_pos hh] at h
    refine go_aload_n hc dX10_liars_18 rfl rfl ?_
    refine go_iconst hc dX10_liars_19 ci_1 ?_
    obtain ⟨r4, σ5, hf6, h⟩ := obi_some h
    refine go_callVi hc ho cmX10_no mlX10_202 dX10_liars_20 ok_81 (As := [.int (1 : Int32)]) (rest := []) (rX10_no (N := 0) hf6 (Nat.le_refl _)) rfl (Nat.le_trans (Nat.le_of_ble_eq_true rfl) hN) rfl (Nat.le_of_ble_eq_true rfl) (Or.inl hz) ?_
    exact go_iret hc (oend_i h hE) hr dX10_liars_23
  · rw [if_neg hh] at h
    refine go_aload_n hc dX10_liars_11 rfl rfl ?_
    obtain ⟨r7, σ8, hf9, h⟩ := obi_some h
    refine go_callVi hc ho cmX10_liarsOf mlX10_320 dX10_liars_12 ok_81 (As := []) (rest := []) (rX10_liarsOf (N := 3) hf9 (Nat.le_refl _)) rfl (Nat.le_trans (Nat.le_of_ble_eq_true rfl) hN) rfl (Nat.le_of_ble_eq_true rfl) (Or.inl hz) ?_
    refine go_goto (tgt := 23) hc dX10_liars_15 rfl ?_
    exact go_iret hc (oend_i h hE) hr dX10_liars_23
def fX10_sets_b21 : Nat → Int32 → Int32 → OM → Option (Int32 × OM)
  | 0, _, _, _ => none
  | n + 1, l1, l2, σ =>
    if ((1 : Int32) <<< ((mI σ 84 3) &&& 31)) ≤ l2 then (
     some (l1, σ))
    else (obi (fX10_canLie l2 σ) (fun r1 σ2 =>
    if r1 = 0 then (
     fX10_sets_b21 n (l1 + (0 : Int32)) (l2 + 1) σ2)
    else (fX10_sets_b21 n (l1 + (1 : Int32)) (l2 + 1) σ2)))
set_option maxRecDepth 100000 in
set_option maxHeartbeats 4000000 in
theorem rX10_sets_b21 {K : OK} (hc : kcc K = cX10_sets) (ho : kow K = RX10) (hL : knL K = 3) (hN : 3 ≤ kN K) (hr : (kme K).sig.returnType = (some .int)) {r0 : Int32} {σ0 : OM} (hE : oEnd K (some (.int r0)) σ0) (hz : kz K = 0) : ∀ (n : Nat) (l1 : Int32) (l2 : Int32) (σ : OM), fX10_sets_b21 n l1 l2 σ = some (r0, σ0) → Go K 21 [.ref 81, .int l1, .int l2] [] σ := by
  intro n
  induction n with
  | zero =>
    intro l1 l2 σ h
    cases h
  | succ n ih =>
    intro l1 l2 σ h
    rw [fX10_sets_b21] at h
    refine go_iload_n hc dX10_sets_21 rfl rfl ?_
    refine go_iconst hc dX10_sets_22 ci_1 ?_
    refine go_aload_n hc dX10_sets_23 rfl rfl ?_
    refine go_getC (b := 84) rfl hc ho flX10_20 dX10_sets_24 ok_81 ?_
    refine go_iconst hc dX10_sets_27 ci_3 ?_
    refine go_iald hc dX10_sets_28 ok_84 ol_84 (by decide +kernel) cn_3 ?_
    refine go_ishl hc dX10_sets_29 ?_
    refine go_icmp_ge (tgt := 55) hc dX10_sets_30 rfl (fun hh => ?_) (fun hh => ?_)
    · rw [if_pos hh] at h
      refine go_iload_n hc dX10_sets_55 rfl rfl ?_
      exact go_iret hc (oend_i h hE) hr dX10_sets_56
    · rw [if_neg hh] at h
      refine go_iload_n hc dX10_sets_33 rfl rfl ?_
      refine go_aload_n hc dX10_sets_34 rfl rfl ?_
      refine go_iload_n hc dX10_sets_35 rfl rfl ?_
      obtain ⟨r1, σ2, hf3, h⟩ := obi_some h
      refine go_callVi hc ho cmX10_canLie mlX10_317 dX10_sets_36 ok_81 (As := [.int l2]) (rest := [.int l1]) (rX10_canLie (N := 2) hf3 (Nat.le_refl _)) rfl (Nat.le_trans (Nat.le_of_ble_eq_true rfl) hN) rfl (Nat.le_of_ble_eq_true rfl) (Or.inl hz) ?_
      refine go_if_eq (tgt := 46) hc dX10_sets_39 rfl (fun hh => ?_) (fun hh => ?_)
      · rw [if_pos hh] at h
        refine go_iconst hc dX10_sets_46 ci_0 ?_
        refine go_iadd hc dX10_sets_47 ?_
        refine go_istore_n hc (lv1 := [.ref 81, .int (l1 + (0 : Int32)), .int l2]) dX10_sets_48 rfl hL (by decide) (fun _ _ e => by cases e; rfl) rfl ?_
        refine go_iinc hc (lv1 := [.ref 81, .int (l1 + (0 : Int32)), .int (l2 + 1)]) dX10_sets_49 rfl ci_1 hL (by decide) (fun _ _ e => by cases e; rfl) rfl ?_
        refine go_goto (tgt := 21) hc dX10_sets_52 rfl ?_
        exact ih (l1 + (0 : Int32)) (l2 + 1) _ h
      · rw [if_neg hh] at h
        refine go_iconst hc dX10_sets_42 ci_1 ?_
        refine go_goto (tgt := 47) hc dX10_sets_43 rfl ?_
        refine go_iadd hc dX10_sets_47 ?_
        refine go_istore_n hc (lv1 := [.ref 81, .int (l1 + (1 : Int32)), .int l2]) dX10_sets_48 rfl hL (by decide) (fun _ _ e => by cases e; rfl) rfl ?_
        refine go_iinc hc (lv1 := [.ref 81, .int (l1 + (1 : Int32)), .int (l2 + 1)]) dX10_sets_49 rfl ci_1 hL (by decide) (fun _ _ e => by cases e; rfl) rfl ?_
        refine go_goto (tgt := 21) hc dX10_sets_52 rfl ?_
        exact ih (l1 + (1 : Int32)) (l2 + 1) _ h
def fX10_sets (σ : OM) : Option (Int32 × OM) :=
  obv (fX10_good σ) (fun σ2 =>
  if (mI σ2 81 14) = 0 then (
   obi (fX10_no (1 : Int32) σ2) (fun r4 σ5 =>
   some (r4, σ5)))
  else (fX10_sets_b21 oF (0 : Int32) (0 : Int32) σ2))
set_option maxRecDepth 100000 in
set_option maxHeartbeats 4000000 in
theorem rX10_sets {N : Nat} {σ : OM} {r0 : Int32} {σ0 : OM} (h : fX10_sets σ = some (r0, σ0)) (hN0 : 3 ≤ N) : oEv N MX10_sets [.ref 81] σ (some (.int r0)) σ0 := by
  refine oEv_of (lv := [.ref 81, .null, .null]) (by decide +kernel) (fun g q hq => hq) (fun g => Nat.le_of_ble_eq_true rfl) ?_
  intro K hc ho hL hN1 hr hE hz
  have hN : 3 ≤ kN K := by rw [hN1]; exact hN0
  unfold fX10_sets at h
  refine go_aload_n hc dX10_sets_0 rfl rfl ?_
  obtain ⟨σ2, hf3, h⟩ := obv_some h
  refine go_callVv hc ho cmX10_good mlX10_199 dX10_sets_1 ok_81 (As := []) (rest := []) (rX10_good (N := 0) hf3 (Nat.le_refl _)) rfl (Nat.le_trans (Nat.le_of_ble_eq_true rfl) hN) rfl (Nat.le_of_ble_eq_true rfl) (Or.inl hz) ?_
  refine go_aload_n hc dX10_sets_4 rfl rfl ?_
  refine go_getI hc ho flX10_212 dX10_sets_5 ok_81 ?_
  refine go_if_ne (tgt := 17) hc dX10_sets_8 rfl (fun hh => ?_) (fun hh => ?_)
  · rw [if_neg hh] at h
    refine go_iconst hc dX10_sets_17 ci_0 ?_
    refine go_istore_n hc (lv1 := [.ref 81, .int (0 : Int32), .null]) dX10_sets_18 rfl hL (by decide) (fun _ _ e => by cases e; rfl) rfl ?_
    refine go_iconst hc dX10_sets_19 ci_0 ?_
    refine go_istore_n hc (lv1 := [.ref 81, .int (0 : Int32), .int (0 : Int32)]) dX10_sets_20 rfl hL (by decide) (fun _ _ e => by cases e; rfl) rfl ?_
    exact rX10_sets_b21 hc ho hL hN hr hE hz oF (0 : Int32) (0 : Int32) _ h
  · rw [if_pos hh] at h
    refine go_aload_n hc dX10_sets_11 rfl rfl ?_
    refine go_iconst hc dX10_sets_12 ci_1 ?_
    obtain ⟨r4, σ5, hf6, h⟩ := obi_some h
    refine go_callVi hc ho cmX10_no mlX10_202 dX10_sets_13 ok_81 (As := [.int (1 : Int32)]) (rest := []) (rX10_no (N := 0) hf6 (Nat.le_refl _)) rfl (Nat.le_trans (Nat.le_of_ble_eq_true rfl) hN) rfl (Nat.le_of_ble_eq_true rfl) (Or.inl hz) ?_
    exact go_iret hc (oend_i h hE) hr dX10_sets_16
