def oXE : String := "java/util/NoSuchElementException"
def oXN : List String := ["java/lang/RuntimeException", "java/lang/Exception"]
theorem oxk : Cond.classLink RX9 322 oXE ∈ otb := otb_5 218 rfl rfl
theorem oxi : Cond.initialized oXE ∈ otb := otb_1 22 rfl rfl
abbrev oXrx : ByteArray := prog_27_method_4_code
abbrev oXA : List Cond := Bundle.ownAtomsX RX9 326 oXE 13 oXrx oXN
theorem oxa_ot : ∀ w ∈ Cond.classLink RX9 322 oXE :: Cond.initialized oXE :: oXA.filter vx_no, vx_ot w = true := by decide +kernel
def oxB : List Cond := [.declares (Bundle.initS "java/lang/RuntimeException"), .declares (Bundle.initS "java/lang/Exception"), .declares (Bundle.initS "java/lang/Throwable"), .castable oXE oXE]
theorem oxa_B : ∀ w ∈ (oXA.filter vx_no).filter (fun w => !goodWord w), w ∈ oxB := by decide +kernel

theorem oxa_1 : ∀ w ∈ Bundle.throwableAtoms, vx_no w = true → goodWord w = true → w ∈ otb := List.forall_mem_cons.mpr ⟨fun _ _ => otb_1 19 rfl rfl, List.forall_mem_cons.mpr ⟨fun _ _ => otb_6 0 rfl rfl, List.forall_mem_cons.mpr ⟨fun _ _ => otb_6 9 rfl rfl, List.forall_mem_cons.mpr ⟨fun _ _ => otb_6 11 rfl rfl, List.forall_mem_cons.mpr ⟨fun _ _ => otb_6 14 rfl rfl, List.forall_mem_cons.mpr ⟨fun _ _ => otb_6 16 rfl rfl, List.forall_mem_cons.mpr ⟨fun _ _ => otb_6 1 rfl rfl, List.forall_mem_cons.mpr ⟨fun _ _ => otb_6 2 rfl rfl, List.forall_mem_cons.mpr ⟨fun _ _ => otb_1 29 rfl rfl, List.forall_mem_cons.mpr ⟨fun _ _ => otb_1 30 rfl rfl, List.forall_mem_cons.mpr ⟨fun _ _ => otb_6 3 rfl rfl, List.forall_mem_cons.mpr ⟨fun _ _ => otb_6 8 rfl rfl, List.forall_mem_cons.mpr ⟨fun _ _ => otb_6 12 rfl rfl, List.forall_mem_cons.mpr ⟨fun _ _ => otb_6 32 rfl rfl, List.forall_mem_cons.mpr ⟨fun _ _ => otb_5 230 rfl rfl, List.forall_mem_cons.mpr ⟨fun _ _ => otb_6 33 rfl rfl, List.forall_mem_cons.mpr ⟨fun _ _ => otb_5 232 rfl rfl, List.forall_mem_cons.mpr ⟨fun _ _ => otb_6 34 rfl rfl, List.forall_mem_cons.mpr ⟨fun _ _ => otb_5 234 rfl rfl, List.forall_mem_cons.mpr ⟨fun _ _ => otb_6 4 rfl rfl, List.forall_mem_cons.mpr ⟨fun h => absurd h (by decide +kernel), List.forall_mem_cons.mpr ⟨fun _ _ => otb_6 6 rfl rfl, List.forall_mem_cons.mpr ⟨fun h => absurd h (by decide +kernel), List.forall_mem_cons.mpr ⟨fun _ _ => otb_5 236 rfl rfl, fun _ h => absurd h List.not_mem_nil⟩⟩⟩⟩⟩⟩⟩⟩⟩⟩⟩⟩⟩⟩⟩⟩⟩⟩⟩⟩⟩⟩⟩⟩
theorem oxa_2 : ∀ w ∈ Bundle.throwableSAtoms, vx_no w = true → goodWord w = true → w ∈ otb := List.forall_mem_cons.mpr ⟨fun _ _ => otb_6 28 rfl rfl, List.forall_mem_cons.mpr ⟨fun _ _ => otb_6 29 rfl rfl, List.forall_mem_cons.mpr ⟨fun _ _ => otb_6 31 rfl rfl, List.forall_mem_cons.mpr ⟨fun _ _ => otb_5 236 rfl rfl, fun _ h => absurd h List.not_mem_nil⟩⟩⟩⟩
theorem oxa_30 : ∀ w ∈ Bundle.passSAtoms "java/util/NoSuchElementException" "java/lang/RuntimeException" 13 oXrx, vx_no w = true → goodWord w = true → w ∈ otb := List.forall_mem_cons.mpr ⟨fun _ _ => otb_6 19 rfl rfl, List.forall_mem_cons.mpr ⟨fun _ _ => otb_6 20 rfl rfl, List.forall_mem_cons.mpr ⟨fun _ _ => otb_6 21 rfl rfl, List.forall_mem_cons.mpr ⟨fun _ _ => otb_6 22 rfl rfl, List.forall_mem_cons.mpr ⟨fun _ h => absurd h (by decide +kernel), fun _ h => absurd h List.not_mem_nil⟩⟩⟩⟩⟩
theorem oxa_31 : ∀ w ∈ Bundle.passSAtoms "java/lang/RuntimeException" "java/lang/Exception" 7 Bundle.six, vx_no w = true → goodWord w = true → w ∈ otb := List.forall_mem_cons.mpr ⟨fun _ _ => otb_6 22 rfl rfl, List.forall_mem_cons.mpr ⟨fun _ _ => otb_6 23 rfl rfl, List.forall_mem_cons.mpr ⟨fun _ _ => otb_6 24 rfl rfl, List.forall_mem_cons.mpr ⟨fun _ _ => otb_6 25 rfl rfl, List.forall_mem_cons.mpr ⟨fun _ h => absurd h (by decide +kernel), fun _ h => absurd h List.not_mem_nil⟩⟩⟩⟩⟩
theorem oxa_32 : ∀ w ∈ Bundle.passSAtoms "java/lang/Exception" "java/lang/Throwable" 7 Bundle.six, vx_no w = true → goodWord w = true → w ∈ otb := List.forall_mem_cons.mpr ⟨fun _ _ => otb_6 25 rfl rfl, List.forall_mem_cons.mpr ⟨fun _ _ => otb_6 26 rfl rfl, List.forall_mem_cons.mpr ⟨fun _ _ => otb_6 27 rfl rfl, List.forall_mem_cons.mpr ⟨fun _ _ => otb_6 28 rfl rfl, List.forall_mem_cons.mpr ⟨fun _ h => absurd h (by decide +kernel), fun _ h => absurd h List.not_mem_nil⟩⟩⟩⟩⟩
theorem oxa_G : ∀ w ∈ (oXA.filter vx_no).filter goodWord, w ∈ otb := by
  have h : ∀ w ∈ Bundle.ownAtomsX RX9 326 oXE 13 oXrx oXN, vx_no w = true → goodWord w = true → w ∈ otb := by
    unfold Bundle.ownAtomsX
    exact List.forall_mem_append.mpr ⟨List.forall_mem_append.mpr ⟨List.forall_mem_append.mpr ⟨oxa_1, oxa_2⟩, List.forall_mem_append.mpr ⟨oxa_30, List.forall_mem_append.mpr ⟨oxa_31, oxa_32⟩⟩⟩, List.forall_mem_cons.mpr ⟨fun _ _ => otb_6 18 rfl rfl, List.forall_mem_cons.mpr ⟨fun _ _ => otb_5 219 rfl rfl, List.forall_mem_cons.mpr ⟨fun _ h => absurd h (by decide +kernel), List.forall_mem_cons.mpr ⟨fun _ _ => otb_5 227 rfl rfl, List.forall_mem_cons.mpr ⟨fun _ _ => otb_5 228 rfl rfl, List.forall_mem_cons.mpr ⟨fun _ _ => otb_5 229 rfl rfl, List.forall_mem_cons.mpr ⟨fun _ _ => otb_5 231 rfl rfl, List.forall_mem_cons.mpr ⟨fun _ _ => otb_5 233 rfl rfl, List.forall_mem_cons.mpr ⟨fun _ _ => otb_5 235 rfl rfl, List.forall_mem_cons.mpr ⟨fun h => absurd h (by decide +kernel), List.forall_mem_cons.mpr ⟨fun h => absurd h (by decide +kernel), List.forall_mem_cons.mpr ⟨fun _ _ => otb_5 239 rfl rfl, List.forall_mem_cons.mpr ⟨fun _ _ => otb_5 238 rfl rfl, List.forall_mem_cons.mpr ⟨fun _ _ => otb_5 237 rfl rfl, fun _ h => absurd h List.not_mem_nil⟩⟩⟩⟩⟩⟩⟩⟩⟩⟩⟩⟩⟩⟩⟩
  intro w hw
  have h1 := List.mem_filter.mp hw
  have h2 := List.mem_filter.mp h1.1
  exact h w h2.1 h2.2 h1.2
def oQx (g : OG) (r0 : Int32) (σ0 : OM) : Array Value → State → Outcome → State → Prop := fun a st oc t => oQ g (some (.int r0)) σ0 a st oc t ∧ ¬ r0 = -1
def oXC (g : OG) (r0 : Int32) (σ0 : OM) : String → State → State → Prop := fun E st t => E = oXE ∧ r0 = -1 ∧ va_P (oDD g) vwCl (owl g σ0) t.heap ∧ va_F (oA g) st t
def oEndX (K : OK) (r0 : Int32) (σ0 : OM) : Prop := kQ K = vx_MQ (kbe K) (oQx (kg K) r0 σ0) (oXC (kg K) r0 σ0) (kar K) (ks K) 1 6 (oA (kg K))
theorem oendx {K : OK} {r r0 : Int32} {σ σ0 : OM} (h : some (r, σ) = some (r0, σ0)) (hE : oEndX K r0 σ0) : oEndX K r σ := by cases h; exact hE
def oXc (K : OK) : Prop := kce K = 0 ∧ ksl K = 0 ∧ kz K = 0 ∧ ky K = 0 ∧ (kl K).stackTraces = false ∧ 6 ≤ (kR K).frames ∧ 100 ≤ (kR K).locals ∧ 1 ≤ (kR K).cells ∧ 6 ≤ (kR K).slots
theorem oXc_k {K : OK} (h : oXc K) (σ : OM) : kk1 K σ = 0 ∧ kk2 K σ = 0 := by
  unfold kk1 kk2
  rw [h.1, h.2.1, h.2.2.1, h.2.2.2.1, Nat.zero_mul]
  exact ⟨rfl, rfl⟩
theorem go_iretx {K : OK} {cc : ByteArray} {pc : Nat} {lv : List Value} {σ : OM} {r : Int32} (hc : kcc K = cc) (hX : oXc K) (hE : oEndX K r σ) (hr : (kme K).sig.returnType = some .int) (hne : ¬ r = -1) (d : decode cc pc = .ok (.ireturn, 1)) : Go K pc lv [.int r] σ := fun ok hk1 hk2 H locs ls hW hS hl => by
  rw [hE, (oXc_k hX σ).1, (oXc_k hX σ).2]
  refine W.widen (k := 1) (n := 6) (by omega) (by omega) ?_
  exact vx_ret (W.iret ok.1 (ok.2.1.trans hc) hr (fun t ht _ => ⟨⟨rfl, by rw [ht]; exact hW, hS.F ht⟩, hne⟩) hS.2.2 d ok.2.2.2.2.2.2.2.1)
theorem go_thr {K : OK} {lv : List Value} {σ : OM} (hc : kcc K = cX9_led) (ho : kow K = RX9) (hX : oXc K) (hnt : ∀ x ∈ (kc K).exceptionTable.toList, False) (hL : knL K = 4) (hE : oEndX K (-1) σ) : Go K 48 lv [] σ := fun ok hk1 hk2 H locs ls hW hS hl => by
  rw [hE, (oXc_k hX σ).1, (oXc_k hX σ).2]
  have hX2 := ok.2.2.2.2.2.2.1.2.2
  have hstr := hX2.2.2.2.2.2.1 22 _ os_22
  have hat : ∀ w ∈ oXA.filter vx_no, w.before (kar K) (ks K) = true := by
    refine vx_hat (fun w hw => ok.2.2.2.2.1 w (oxa_G w hw)) oxa_B ?_
    have hn : ∀ w ∈ onest, va_Nw w (ks K) := ok.2.2.2.2.2.2.1.2.1
    have hin : ∀ w ∈ oxB, w ∈ onest := by
      have h : ∀ w ∈ oxB, w ∈ tables_1 := by decide +kernel
      intro w hw
      refine List.mem_filter.mpr ⟨h w hw, ?_⟩
      have h2 : ∀ w ∈ oxB, oisN w = true := by decide +kernel
      exact h2 w hw
    intro w hw
    have h3 := hn w (hin w hw)
    have h4 : w.onTables = true := by
      have h5 : ∀ w ∈ oxB, w.onTables = true := by decide +kernel
      exact h5 w hw
    exact va_Nw.use h4 h3
  refine ox_throw (ix := 13) (rx := oXrx) (names := oXN) (cls := oXE) (ik := 322) (is := 324) (ic := 326) (text := "no such wasted answer") (sa := (kg K).1 222) (A := oA (kg K)) ok.1 (ok.2.1.trans hc) hX.2.2.2.2.1 (by decide +kernel) (by decide +kernel) (by decide +kernel) (by decide +kernel) (ho ▸ ok.2.2.2.1) (by decide +kernel) (by decide +kernel) (ok.2.2.2.2.1 _ oxk) (ok.2.2.2.2.1 _ oxi) hstr hat oxa_ot hX2.2.2.2.2.2.2.2.1 hX2.2.2.2.2.2.2.2.2 hS (by rw [ok.2.2.1]; exact hl.1)
    dX9_led_48 dX9_led_51 dX9_led_52 dX9_led_55 dX9_led_58 (fun x hx => (hnt x hx).elim) (by show 2 + 3 < _; have := hX.2.2.2.2.2.1; omega) (by show 0 + (13 * (2 + 1) + 43) ≤ _; have := hX.2.2.2.2.2.2.1; omega) (by have := hX.2.2.2.2.2.2.2.1; omega) (by have := hX.2.2.2.2.2.2.2.2; omega) ok.2.2.2.2.2.2.2.1
    (fun t _ hz hk => ⟨rfl, rfl, va_P.kept hW (fun i q hq => hk q.1 ((hW i q hq).lt)), ⟨Nat.le_trans hS.1 hz, fun q h1 h2 => (hk q (Nat.lt_of_lt_of_le h1 hS.1)).trans (hS.2.1 q h1 h2)⟩⟩) hS.2.2 (Nat.le_refl _) (Nat.le_refl _)
def fX9_led_b48 (σ : OM) : Option (Int32 × OM) :=
  some ((-1 : Int32), σ)
set_option maxRecDepth 100000 in
set_option maxHeartbeats 4000000 in
theorem rX9_led_b48 {K : OK} (hc : kcc K = cX9_led) (ho : kow K = RX9) (hL : knL K = 4) (hN : 4 ≤ kN K) (hr : (kme K).sig.returnType = (some .int)) {r0 : Int32} {σ0 : OM} (hE : oEndX K r0 σ0) (hX : oXc K) (hnt : ∀ x ∈ (kc K).exceptionTable.toList, False) (hz : kz K = 0) {σ : OM} (h : fX9_led_b48 σ = some (r0, σ0)) : Go K 48 [.null, .null, .null, .null] [] σ := by
  unfold fX9_led_b48 at h
  exact go_thr hc ho hX hnt hL (oendx h hE)
def fX9_led_b4 : Nat → Int32 → Int32 → Int32 → OM → Option (Int32 × OM)
  | 0, _, _, _, _ => none
  | n + 1, l1, l2, l3, σ =>
    ogd (decide (okd (mR σ 0 0) = 8)) (
    if (mI σ ((mR σ 0 0) + 5) 0) ≤ l3 then (
     fX9_led_b48 σ)
    else (ogd (decide (okd (mR σ 0 0) = 8)) (
    obi (fX3_takenBy (mR σ 0 0) l3 σ) (fun r3 σ4 =>
    if r3 = 0 then (
     if l2 = l1 then (
      ogd (decide (¬ l3 = -1)) (some (l3, σ4)))
     else (fX9_led_b4 n l1 (l2 + 1) (l3 + 1) σ4))
    else (fX9_led_b4 n l1 l2 (l3 + 1) σ4)))))
set_option maxRecDepth 100000 in
set_option maxHeartbeats 4000000 in
theorem rX9_led_b4 {K : OK} (hc : kcc K = cX9_led) (ho : kow K = RX9) (hL : knL K = 4) (hN : 4 ≤ kN K) (hr : (kme K).sig.returnType = (some .int)) {r0 : Int32} {σ0 : OM} (hE : oEndX K r0 σ0) (hX : oXc K) (hnt : ∀ x ∈ (kc K).exceptionTable.toList, False) (hz : kz K = 0) : ∀ (n : Nat) (l1 : Int32) (l2 : Int32) (l3 : Int32) (σ : OM), fX9_led_b4 n l1 l2 l3 σ = some (r0, σ0) → Go K 4 [.ref 0, .int l1, .int l2, .int l3] [] σ := by
  intro n
  induction n with
  | zero =>
    intro l1 l2 l3 σ h
    cases h
  | succ n ih =>
    intro l1 l2 l3 σ h
    rw [fX9_led_b4] at h
    refine go_iload_n hc dX9_led_4 rfl rfl ?_
    refine go_aload_n hc dX9_led_5 rfl rfl ?_
    obtain ⟨hg1, h⟩ := ogd_some h
    refine go_getR hc ho flX9_10 dX9_led_6 ok_0 ?_
    refine go_getC (b := (mR σ 0 0) + 5) (ow_c0_1 (of_decide_eq_true hg1)) hc ho flX9_170 dX9_led_9 (of_decide_eq_true hg1) ?_
    refine go_getI hc ho flX9_231 dX9_led_12 (ow_k5 (of_decide_eq_true hg1)) ?_
    refine go_icmp_ge (tgt := 48) hc dX9_led_15 rfl (fun hh => ?_) (fun hh => ?_)
    · rw [if_pos hh] at h
      refine go_mask [false, false, false, false] (lv1 := [.null, .null, .null, .null]) rfl ?_
      exact rX9_led_b48 hc ho hL hN hr hE hX hnt hz h
    · rw [if_neg hh] at h
      refine go_aload_n hc dX9_led_18 rfl rfl ?_
      obtain ⟨hg2, h⟩ := ogd_some h
      refine go_getR hc ho flX9_10 dX9_led_19 ok_0 ?_
      refine go_getC (b := (mR σ 0 0) + 10) (ow_c0_2 (of_decide_eq_true hg2)) hc ho flX9_149 dX9_led_22 (of_decide_eq_true hg2) ?_
      refine go_iload_n hc dX9_led_25 rfl rfl ?_
      obtain ⟨r3, σ4, hf5, h⟩ := obi_some h
      refine go_callVi hc ho cmX3_takenBy mlX9_225 dX9_led_26 (ow_k10 (of_decide_eq_true hg2)) (As := [.int l3]) (rest := []) (rX3_takenBy (N := 3) (of_decide_eq_true hg2) hf5 (Nat.le_refl _)) rfl (Nat.le_trans (Nat.le_of_ble_eq_true rfl) hN) rfl (Nat.le_of_ble_eq_true rfl) (Or.inl hz) ?_
      refine go_if_ne (tgt := 42) hc dX9_led_29 rfl (fun hh => ?_) (fun hh => ?_)
      · rw [if_neg hh] at h
        refine go_iinc hc (lv1 := [.ref 0, .int l1, .int l2, .int (l3 + 1)]) dX9_led_42 rfl ci_1 hL (by decide) (fun _ _ e => by cases e; rfl) rfl ?_
        refine go_goto (tgt := 4) hc dX9_led_45 rfl ?_
        exact ih l1 l2 (l3 + 1) _ h
      · rw [if_pos hh] at h
        refine go_iload_n hc dX9_led_32 rfl rfl ?_
        refine go_iload_n hc dX9_led_33 rfl rfl ?_
        refine go_icmp_ne (tgt := 39) hc dX9_led_34 rfl (fun hh => ?_) (fun hh => ?_)
        · rw [if_neg hh] at h
          refine go_iinc hc (lv1 := [.ref 0, .int l1, .int (l2 + 1), .int l3]) dX9_led_39 rfl ci_1 hL (by decide) (fun _ _ e => by cases e; rfl) rfl ?_
          refine go_iinc hc (lv1 := [.ref 0, .int l1, .int (l2 + 1), .int (l3 + 1)]) dX9_led_42 rfl ci_1 hL (by decide) (fun _ _ e => by cases e; rfl) rfl ?_
          refine go_goto (tgt := 4) hc dX9_led_45 rfl ?_
          exact ih l1 (l2 + 1) (l3 + 1) _ h
        · rw [if_pos hh] at h
          refine go_iload_n hc dX9_led_37 rfl rfl ?_
          obtain ⟨hg6, h⟩ := ogd_some h
          exact go_iretx hc hX (oendx h hE) hr (of_decide_eq_true hg6) dX9_led_38
def fX9_led (x0 : Int32) (σ : OM) : Option (Int32 × OM) :=
  fX9_led_b4 oF x0 (0 : Int32) (0 : Int32) σ
set_option maxRecDepth 100000 in
set_option maxHeartbeats 4000000 in
theorem rX9_led_0 {K : OK} (hc : kcc K = cX9_led) (ho : kow K = RX9) (hL : knL K = 4) (hN : 4 ≤ kN K) (hr : (kme K).sig.returnType = (some .int)) {r0 : Int32} {σ0 : OM} (hE : oEndX K r0 σ0) (hX : oXc K) (hnt : ∀ x ∈ (kc K).exceptionTable.toList, False) (hz : kz K = 0) {x0 : Int32} {σ : OM} (h : fX9_led x0 σ = some (r0, σ0)) : Go K 0 [.ref 0, .int x0, .null, .null] [] σ := by
  unfold fX9_led at h
  refine go_iconst hc dX9_led_0 ci_0 ?_
  refine go_istore_n hc (lv1 := [.ref 0, .int x0, .int (0 : Int32), .null]) dX9_led_1 rfl hL (by decide) (fun _ _ e => by cases e; rfl) rfl ?_
  refine go_iconst hc dX9_led_2 ci_0 ?_
  refine go_istore_n hc (lv1 := [.ref 0, .int x0, .int (0 : Int32), .int (0 : Int32)]) dX9_led_3 rfl hL (by decide) (fun _ _ e => by cases e; rfl) rfl ?_
  exact rX9_led_b4 hc ho hL hN hr hE hX hnt hz oF x0 (0 : Int32) (0 : Int32) _ h
def oRx : Room := { frames := 7, cells := 1, slots := 6, locals := 448 }
theorem rX9_led (l : Launch) (hl : l.stackTraces = false) (g : OG) {x0 : Int32} {σ : OM} {r0 : Int32} {σ0 : OM} (h : fX9_led x0 σ = some (r0, σ0)) : vx_Met l MX9_led.1 (ows MX9_led) oRx (va_Pc ([.ref 0, .int x0].map (otr g)) (oPc g σ)) (oQx g r0 σ0) (oXC g r0 σ0) 1 6 (oA g) := by
  refine vx_ofW (cc := cX9_led) (maxL := 4) (ret := some .int) (by decide +kernel) rfl ?_
  intro p e s m args below meth c s₁ B hml hnt hv
  obtain ⟨rfl, hG, hK, hP⟩ := hv
  have hts := atoms_spec (ws := ows MX9_led) B.pre
  have hown : s.vm.findClass RX9 = some m.cls := findClass_of_methodNamed B.named
  have hE := lv_entry ([.ref 0, .int x0].map (otr g)) (n := 4) (Nat.le_of_ble_eq_true rfl)
  rw [lg_entry_eq]
  have z1 : ∀ σ9 : OM, 0 + 0 * mR σ9 96 0 = 0 := fun σ9 => by rw [Nat.zero_mul]
  have key := rX9_led_0 (K := (p, l, e, 7, s, m, ([.ref 0, .int x0].map (otr g)).toArray, below, meth, c, g, cX9_led, RX9, 4, vx_MQ below (oQx g r0 σ0) (oXC g r0 σ0) ([.ref 0, .int x0].map (otr g)).toArray s 1 6 (oA g), oRx, 0, 0, 0, 0)) rfl rfl rfl (Nat.le_of_ble_eq_true rfl) B.returns rfl ⟨rfl, rfl, rfl, rfl, hl, Nat.le_of_ble_eq_true rfl, Nat.le_of_ble_eq_true rfl, Nat.le_of_ble_eq_true rfl, Nat.le_of_ble_eq_true rfl⟩ hnt rfl h
    ⟨B.exec, B.bytes, hml, hown, fun w hw => hts w (List.mem_cons_of_mem _ hw), hG, hK, B.notSynchronized, Nat.le_refl _, Nat.le_refl _, fun _ => rfl⟩
    (by show 0 + 0 * mR σ 96 0 ≤ 1; rw [z1 σ]; omega) (by show 0 + 0 * mR σ 96 0 ≤ 6; rw [z1 σ]; omega) s.heap [] _ hP va_S.rf (lv_mono hE (fun q hq => hq))
  have key2 : W p l e oRx s m ([.ref 0, .int x0].map (otr g)).toArray below meth c s.heap [] (0 + 0 * mR σ 96 0) (0 + 0 * mR σ 96 0) (vx_MQ below (oQx g r0 σ0) (oXC g r0 σ0) ([.ref 0, .int x0].map (otr g)).toArray s 1 6 (oA g)) (F0 m 0 _ []) := key
  rw [z1 σ] at key2
  exact key2
