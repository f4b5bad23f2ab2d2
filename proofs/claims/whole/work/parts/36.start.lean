theorem inst9 : Cond.instantiable RX9 (onf 9) ∈ otb := otb_1 24 rfl rfl
theorem inst10 : Cond.instantiable RX10 (onf 10) ∈ otb := otb_6 44 rfl rfl
theorem init9 : Cond.initialized RX9 ∈ otb := otb_1 1 rfl rfl
theorem init10 : Cond.initialized RX10 ∈ otb := otb_1 11 rfl rfl
theorem clL_8 : Cond.classLink RL 8 RX9 ∈ otb := otb_1 23 rfl rfl
theorem clL_16 : Cond.classLink RL 16 RX10 ∈ otb := otb_6 43 rfl rfl
theorem mlL_15 : Cond.methodLink RL 15 MX9_init.1 ∈ otb := otb_1 25 rfl rfl
theorem mlL_18 : Cond.methodLink RL 18 MX10_init.1 ∈ otb := otb_6 45 rfl rfl
theorem start_K {args : Array Value} {s : State} (hts : ∀ w ∈ lw_tbl, w.before args s = true) : ∃ (dC : Nat → ClassId) (dI : Nat → Nat → Nat) (cA9 : Nat → ClassId), ∀ (ad : Nat → Nat) (sz : Nat), oKc (ad, dC, dI, cA9, sz) s := by
  have ho : ∀ w ∈ otb, w.before args s = true := fun w hw => hts w (List.mem_filter.mp hw).1
  obtain ⟨c0, i0, k0⟩ := u_known (C := RX0) (T := TX0) (N := onf 0) (n := onf 0) ho inX0 (ho _ inst0)
  obtain ⟨c1, i1, k1⟩ := u_known (C := RX1) (T := TX1) (N := onf 1) (n := onf 1) ho inX1 (ho _ inst1)
  obtain ⟨c2, i2, k2⟩ := u_known (C := RX2) (T := TX2) (N := onf 2) (n := onf 2) ho inX2 (ho _ inst2)
  obtain ⟨c3, i3, k3⟩ := u_known (C := RX3) (T := TX3) (N := onf 3) (n := onf 3) ho inX3 (ho _ inst3)
  obtain ⟨c4, i4, k4⟩ := u_known (C := RX4) (T := TX4) (N := onf 4) (n := onf 4) ho inX4 (ho _ inst4)
  obtain ⟨c5, i5, k5⟩ := u_known (C := RX5) (T := TX5) (N := onf 5) (n := onf 5) ho inX5 (ho _ inst5)
  obtain ⟨c6, i6, k6⟩ := u_known (C := RX6) (T := TX6) (N := onf 6) (n := onf 6) ho inX6 (ho _ inst6)
  obtain ⟨c7, i7, k7⟩ := u_known (C := RX7) (T := TX7) (N := onf 7) (n := onf 7) ho inX7 (ho _ inst7)
  obtain ⟨c8, i8, k8⟩ := u_known (C := RX8) (T := TX8) (N := onf 8) (n := onf 8) ho inX8 (ho _ inst8)
  obtain ⟨c9, i9, k9⟩ := u_known (C := RX9) (T := TX9) (N := onf 9) (n := onf 9) ho inX9 (ho _ inst9)
  obtain ⟨c10, i10, k10⟩ := u_known (C := RX10) (T := TX10) (N := onf 10) (n := onf 10) ho inX10 (ho _ inst10)
  obtain ⟨a0, ka0, co0, f0, g0, h0⟩ := Cond.arrayClass_spec (ho _ oa_i)
  obtain ⟨a1, ka1, co1, f1, g1, h1⟩ := Cond.arrayClass_spec (ho _ oa_l)
  obtain ⟨a2, ka2, co2, f2, g2, h2⟩ := Cond.arrayClass_spec (ho _ oa_b)
  obtain ⟨a3, ka3, co3, f3, g3, h3⟩ := Cond.arrayClass_spec (ho _ oa_z)
  have hn : ∀ w ∈ tables_1, w.before args s = true := fun w hw => hts w (List.mem_append_right _ hw)
  have hao4 : va_AO RX1 s := va_AO.of (hn _ (List.mem_of_getElem? (i := 176) (by decide +kernel)))
  have hao5 : va_AO RX7 s := va_AO.of (hn _ (List.mem_of_getElem? (i := 394) (by decide +kernel)))
  obtain ⟨co4, a4, ka4, p4, -, g4, h4, f4⟩ := Cond.arrayOver_spec hao4
  obtain ⟨co5, a5, ka5, p5, -, g5, h5, f5⟩ := Cond.arrayOver_spec hao5
  refine ⟨fun k => [c0, c1, c2, c3, c4, c5, c6, c7, c8, c9, c10].getD k c0, fun k => [i0, i1, i2, i3, i4, i5, i6, i7, i8, i9, i10].getD k i0, fun k => [a0, a1, a2, a3, a4, a5].getD k a0, fun ad sz => ⟨⟨?_, ?_⟩, ?_, hao4, hao5⟩⟩
  · intro k q hq
    match k, hq with
    | 0, hq => cases hq; exact k0
    | 1, hq => cases hq; exact k1
    | 2, hq => cases hq; exact k2
    | 3, hq => cases hq; exact k3
    | 4, hq => cases hq; exact k4
    | 5, hq => cases hq; exact k5
    | 6, hq => cases hq; exact k6
    | 7, hq => cases hq; exact k7
    | 8, hq => cases hq; exact k8
    | 9, hq => cases hq; exact k9
    | 10, hq => cases hq; exact k10
    | k + 11, hq => simp [vwCl] at hq
  · intro k q hq
    match k, hq with
    | 0, hq => cases hq; exact ⟨fun n z => ⟨fun k h => (by cases h), ka0, g0, co0, h0⟩, f0⟩
    | 1, hq => cases hq; exact ⟨fun n z => ⟨fun k h => (by cases h), ka1, g1, co1, h1⟩, f1⟩
    | 2, hq => cases hq; exact ⟨fun n z => ⟨fun k h => (by cases h), ka2, g2, co2, h2⟩, f2⟩
    | 3, hq => cases hq; exact ⟨fun n z => ⟨fun k h => (by cases h), ka3, g3, co3, h3⟩, f3⟩
    | 4, hq => cases hq; exact ⟨fun n z => ⟨fun k h => (by cases h), ka4, g4, co4, h4⟩, ka4, co4, g4, h4, p4, f4⟩
    | 5, hq => cases hq; exact ⟨fun n z => ⟨fun k h => (by cases h), ka5, g5, co5, h5⟩, ka5, co5, g5, h5, p5, f5⟩
    | k + 6, hq => simp [oty] at hq
  · intro w hw
    have h1 := List.mem_filter.mp hw
    have h2 := hn w h1.1
    cases w <;> first | exact va_Nw.of rfl h2 | cases h1.2
def ofl : List Cond := flatC (Jvm.Cond.and given_1 narrow_1)
def otm (i : Nat) : Term := .string ((ostL.getD i ("", 0, "")).1) ((ostL.getD i ("", 0, "")).2.1)
def onp : List (Nat × Nat) := [(22, 0), (22, 1), (0, 1), (22, 2), (0, 2), (1, 2), (22, 3), (0, 3), (1, 3), (2, 3), (22, 4), (0, 4), (1, 4), (2, 4), (3, 4), (22, 5), (0, 5), (1, 5), (2, 5), (3, 5), (4, 5), (22, 6), (0, 6), (1, 6), (2, 6), (3, 6), (4, 6), (5, 6), (22, 7), (0, 7), (1, 7), (2, 7), (3, 7), (4, 7), (5, 7), (6, 7), (22, 8), (0, 8), (1, 8), (2, 8), (3, 8), (4, 8), (5, 8), (6, 8), (7, 8), (22, 9), (0, 9), (1, 9), (2, 9), (3, 9), (4, 9), (5, 9), (6, 9), (7, 9), (8, 9), (22, 10), (0, 10), (1, 10), (2, 10), (3, 10), (4, 10), (5, 10), (6, 10), (7, 10), (8, 10), (9, 10), (22, 11), (0, 11), (1, 11), (2, 11), (3, 11), (4, 11), (5, 11), (6, 11), (7, 11), (8, 11), (9, 11), (10, 11), (22, 12), (0, 12), (1, 12), (2, 12), (3, 12), (4, 12), (5, 12), (6, 12), (7, 12), (8, 12), (9, 12), (10, 12), (11, 12), (22, 13), (0, 13), (1, 13), (2, 13), (3, 13), (4, 13), (5, 13), (6, 13), (7, 13), (8, 13), (9, 13), (10, 13), (11, 13), (12, 13), (22, 14), (0, 14), (1, 14), (2, 14), (3, 14), (4, 14), (5, 14), (6, 14), (7, 14), (8, 14), (9, 14), (10, 14), (11, 14), (12, 14), (13, 14), (22, 15), (0, 15), (1, 15), (2, 15), (3, 15), (4, 15), (5, 15), (6, 15), (7, 15), (8, 15), (9, 15), (10, 15), (11, 15), (12, 15), (13, 15), (14, 15), (22, 16), (0, 16), (1, 16), (2, 16), (3, 16), (4, 16), (5, 16), (6, 16), (7, 16), (8, 16), (9, 16), (10, 16), (11, 16), (12, 16), (13, 16), (14, 16), (15, 16), (22, 17), (0, 17), (1, 17), (2, 17), (3, 17), (4, 17), (5, 17), (6, 17), (7, 17), (8, 17), (9, 17), (10, 17), (11, 17), (12, 17), (13, 17), (14, 17), (15, 17), (16, 17), (22, 18), (0, 18), (1, 18), (2, 18), (3, 18), (4, 18), (5, 18), (6, 18), (7, 18), (8, 18), (9, 18), (10, 18), (11, 18), (12, 18), (13, 18), (14, 18), (15, 18), (16, 18), (17, 18), (22, 19), (0, 19), (1, 19), (2, 19), (3, 19), (4, 19), (5, 19), (6, 19), (7, 19), (8, 19), (9, 19), (10, 19), (11, 19), (12, 19), (13, 19), (14, 19), (15, 19), (16, 19), (17, 19), (18, 19), (22, 20), (0, 20), (1, 20), (2, 20), (3, 20), (4, 20), (5, 20), (6, 20), (7, 20), (8, 20), (9, 20), (10, 20), (11, 20), (12, 20), (13, 20), (14, 20), (15, 20), (16, 20), (17, 20), (18, 20), (19, 20), (22, 21), (0, 21), (1, 21), (2, 21), (3, 21), (4, 21), (5, 21), (6, 21), (7, 21), (8, 21), (9, 21), (10, 21), (11, 21), (12, 21), (13, 21), (14, 21), (15, 21), (16, 21), (17, 21), (18, 21), (19, 21), (20, 21)]
def oisne : Cond → Bool
  | .not (.eq (.string _ _) (.string _ _)) => true
  | _ => false
theorem onp_eq : ofl.filter oisne = onp.map (fun p => Cond.not (Cond.eq (otm p.1) (otm p.2))) := by decide +kernel
theorem onp_in {i j : Nat} (h : (i, j) ∈ onp) : Cond.not (Cond.eq (otm i) (otm j)) ∈ ofl :=
  (List.mem_filter.mp (onp_eq ▸ List.mem_map.mpr ⟨(i, j), h, rfl⟩ : Cond.not (Cond.eq (otm i) (otm j)) ∈ ofl.filter oisne)).1
theorem onp_al0 : ∀ i : Nat, i < 23 → ∀ j : Nat, j < 23 → (i == j || (onp.contains (i, j) || onp.contains (j, i))) = true := by decide +kernel
theorem onp_all (i : Nat) (hi : i < 23) (j : Nat) (hj : j < 23) (hij : i ≠ j) : (i, j) ∈ onp ∨ (j, i) ∈ onp := by
  have h := onp_al0 i hi j hj
  rw [beq_false_of_ne hij, Bool.false_or, Bool.or_eq_true] at h
  exact h.imp (fun h => List.contains_iff_mem.mp h) (fun h => List.contains_iff_mem.mp h)
theorem start_X {args : Array Value} {s : State} (hgv : (Jvm.Cond.and given_1 narrow_1).before args s = true) (hts : ∀ w ∈ lw_tbl, w.before args s = true) : ∃ ext : Nat → Nat, ∀ (ad : Nat → Nat) (dC : Nat → ClassId) (dI : Nat → Nat → Nat) (cA9 : Nat → ClassId), (∀ i, 101 ≤ i → ad i = ext i) → oX (ad, dC, dI, cA9, s.heap.size) s s.heap := by
  have hs : ∀ w ∈ ofl, w.before args s = true := flat_of_before _ hgv
  have hn : ∀ w ∈ tables_1, w.before args s = true := fun w hw => hts w (List.mem_append_right _ hw)
  have hA : ∀ a : Nat, a < s.heap.size → ¬ (fun q => s.heap.size ≤ q) a := fun a h => Nat.not_le.mpr h
  obtain ⟨t1, e1, T1⟩ := va_Tof (A := fun q => s.heap.size ≤ q) (tm := .static "OneAnswer$Tape" "KEPT_WORDS" "[J") (ty := .long) (N := 15) (f := fun j => .long (okw j)) (by decide) (hs _ (by decide +kernel)) (va_eqt (hs _ (by decide +kernel))) (fun j hj => va_eqtl (hs _ ((by decide +kernel : ∀ j, j < 15 → Cond.eq (.elem (.static "OneAnswer$Tape" "KEPT_WORDS" "[J") (.int (Int32.ofNat j))) (.long (okw j)) ∈ ofl) j hj))) hA
  obtain ⟨t2, e2, T2⟩ := va_Tof (A := fun q => s.heap.size ≤ q) (tm := .static "OneAnswer$Land" "HOLDS" "[J") (ty := .long) (N := 6) (f := fun j => .long (oho j)) (by decide) (hs _ (by decide +kernel)) (va_eqt (hs _ (by decide +kernel))) (fun j hj => va_eqtl (hs _ ((by decide +kernel : ∀ j, j < 6 → Cond.eq (.elem (.static "OneAnswer$Land" "HOLDS" "[J") (.int (Int32.ofNat j))) (.long (oho j)) ∈ ofl) j hj))) hA
  obtain ⟨t3, e3, T3⟩ := va_Tof (A := fun q => s.heap.size ≤ q) (tm := .static "OneAnswer$Reader" "LINE_ROOM" "[I") (ty := .int) (N := 11) (f := fun j => .int (olr j)) (by decide) (hs _ (by decide +kernel)) (va_eqt (hs _ (by decide +kernel))) (fun j hj => va_eqt (hs _ ((by decide +kernel : ∀ j, j < 11 → Cond.eq (.elem (.static "OneAnswer$Reader" "LINE_ROOM" "[I") (.int (Int32.ofNat j))) (.int (olr j)) ∈ ofl) j hj))) hA
  have Z1 := va_Zof (A := fun q => s.heap.size ≤ q) (hn _ (List.mem_of_getElem? (i := 505) (by decide +kernel)) : (Cond.laysStatic "OneAnswer$Tape" "KEPT_WORDS" "[J").before args s = true) (hn _ (List.mem_of_getElem? (i := 7) (by decide +kernel)) : (Cond.initialized "OneAnswer$Tape").before args s = true) e1 hA
  have Z2 := va_Zof (A := fun q => s.heap.size ≤ q) (hn _ (List.mem_of_getElem? (i := 593) (by decide +kernel)) : (Cond.laysStatic "OneAnswer$Land" "HOLDS" "[J").before args s = true) (hn _ (List.mem_of_getElem? (i := 3) (by decide +kernel)) : (Cond.initialized "OneAnswer$Land").before args s = true) e2 hA
  have Z3 := va_Zof (A := fun q => s.heap.size ≤ q) (hn _ (List.mem_of_getElem? (i := 527) (by decide +kernel)) : (Cond.laysStatic "OneAnswer$Reader" "LINE_ROOM" "[I").before args s = true) (hn _ (List.mem_of_getElem? (i := 8) (by decide +kernel)) : (Cond.initialized "OneAnswer$Reader").before args s = true) e3 hA
  have Z4 := va_Zof (A := fun q => s.heap.size ≤ q) (v := .int 1) (hn _ (List.mem_of_getElem? (i := 1396) (by decide +kernel)) : (Cond.laysStatic "java/lang/String" "COMPACT_STRINGS" "Z").before args s = true) (hn _ (List.mem_of_getElem? (i := 14) (by decide +kernel)) : (Cond.initialized "java/lang/String").before args s = true) (va_eqt (hs _ (by decide +kernel))) hA
  have Z5 := vx_Zqof (A := fun q => s.heap.size ≤ q) (hn _ (List.mem_of_getElem? (i := 1412) (by decide +kernel)) : (Cond.laysStatic "jdk/internal/util/Preconditions" "SIOOBE_FORMATTER" "Ljava/util/function/BiFunction;").before args s = true) (hn _ (List.mem_of_getElem? (i := 16) (by decide +kernel)) : (Cond.initialized "jdk/internal/util/Preconditions").before args s = true) (hs _ (by decide +kernel)) hA
  have Z6 := vx_Zqof (A := fun q => s.heap.size ≤ q) (hn _ (List.mem_of_getElem? (i := 1205) (by decide +kernel)) : (Cond.laysStatic "java/lang/Throwable" "UNASSIGNED_STACK" "[Ljava/lang/StackTraceElement;").before args s = true) (hn _ (List.mem_of_getElem? (i := 19) (by decide +kernel)) : (Cond.initialized "java/lang/Throwable").before args s = true) (hs _ (by decide +kernel)) hA
  have Z7 := vx_Zqof (A := fun q => s.heap.size ≤ q) (hn _ (List.mem_of_getElem? (i := 1207) (by decide +kernel)) : (Cond.laysStatic "java/lang/Throwable" "SUPPRESSED_SENTINEL" "Ljava/util/List;").before args s = true) (hn _ (List.mem_of_getElem? (i := 19) (by decide +kernel)) : (Cond.initialized "java/lang/Throwable").before args s = true) (hs _ (by decide +kernel)) hA
  obtain ⟨adK, adV, S1, S2⟩ := vk_Sof (A := fun q => s.heap.size ≤ q) (N := 23) (tm := otm) (len := oslL) (byt := osbL) (by decide +kernel) (fun i hi => hs _ ((by decide +kernel : ∀ i, i < 23 → Cond.exactly (otm i) "java/lang/String" ∈ ofl) i hi)) (fun i hi => hs _ ((by decide +kernel : ∀ i, i < 23 → Cond.eq (.field (otm i) "java/lang/String" "coder" "B") (.int 0) ∈ ofl) i hi))
    (fun i hi => hs _ ((by decide +kernel : ∀ i, i < 23 → Cond.arrayOf (.field (otm i) "java/lang/String" "value" "[B") .byte ∈ ofl) i hi)) (fun i hi => hs _ ((by decide +kernel : ∀ i, i < 23 → Cond.eq (.length (.field (otm i) "java/lang/String" "value" "[B")) (.int (Int32.ofNat (oslL.getD i 0))) ∈ ofl) i hi))
    (fun i hi j hj => hs _ ((by decide +kernel : ∀ i, i < 23 → ∀ j, j < oslL.getD i 0 → Cond.eq (.elem (.field (otm i) "java/lang/String" "value" "[B") (.int (Int32.ofNat j))) (.int ((osbL.getD i []).getD j 0)) ∈ ofl) i hi j hj))
    (fun i j hi hj hij => (onp_all i hi j hj hij).imp (fun h => hs _ (onp_in h)) (fun h => hs _ (onp_in h))) hA
  obtain ⟨t4, T4⟩ : ∃ t4 : Nat, va_Z "jdk/internal/util/Preconditions" "SIOOBE_FORMATTER" "Ljava/util/function/BiFunction;" .null (fun q => s.heap.size ≤ q) s s.heap ∨ va_Z "jdk/internal/util/Preconditions" "SIOOBE_FORMATTER" "Ljava/util/function/BiFunction;" (.ref t4) (fun q => s.heap.size ≤ q) s s.heap := by
    rcases Z5.1 with h | ⟨t, h⟩
    · exact ⟨0, Or.inl h⟩
    · exact ⟨t, Or.inr h⟩
  refine ⟨fun i => if i = 101 then t1 else if i = 102 then t2 else if i = 103 then t3 else if i = 104 then t4 else if i < 300 then adK (i - 200) else adV (i - 300), fun ad dC dI cA9 had => ?_⟩
  have x1 : ad 101 = t1 := had 101 (by omega)
  have x2 : ad 102 = t2 := had 102 (by omega)
  have x3 : ad 103 = t3 := had 103 (by omega)
  have x4 : ad 104 = t4 := had 104 (by omega)
  have x5 : ∀ i, i < 23 → ad (200 + i) = adK i := fun i hi => by
    rw [had (200 + i) (by omega)]
    show (if 200 + i = 101 then t1 else if 200 + i = 102 then t2 else if 200 + i = 103 then t3 else if 200 + i = 104 then t4 else if 200 + i < 300 then adK (200 + i - 200) else adV (200 + i - 300)) = adK i
    rw [if_neg (by omega), if_neg (by omega), if_neg (by omega), if_neg (by omega), if_pos (by omega)]
    rw [Nat.add_sub_cancel_left]
  have x6 : ∀ i, i < 23 → ad (300 + i) = adV i := fun i hi => by
    rw [had (300 + i) (by omega)]
    show (if 300 + i = 101 then t1 else if 300 + i = 102 then t2 else if 300 + i = 103 then t3 else if 300 + i = 104 then t4 else if 300 + i < 300 then adK (300 + i - 200) else adV (300 + i - 300)) = adV i
    rw [if_neg (by omega), if_neg (by omega), if_neg (by omega), if_neg (by omega), if_neg (by omega)]
    rw [Nat.add_sub_cancel_left]
  refine ⟨⟨?_, ?_⟩, ⟨?_, ?_⟩, ⟨?_, ?_⟩, Z4, ?_, ?_, ?_, Z6, Z7⟩
  · show va_Z _ _ _ (.ref (ad 101)) _ _ _; rw [x1]; exact Z1
  · show va_T _ (ad 101) _ _ _ _ _; rw [x1]; exact T1
  · show va_Z _ _ _ (.ref (ad 102)) _ _ _; rw [x2]; exact Z2
  · show va_T _ (ad 102) _ _ _ _ _; rw [x2]; exact T2
  · show va_Z _ _ _ (.ref (ad 103)) _ _ _; rw [x3]; exact Z3
  · show va_T _ (ad 103) _ _ _ _ _; rw [x3]; exact T3
  · refine ⟨fun i hi => ?_, fun i j hi hj e => ?_⟩
    · have h1 := S1.1 i hi
      rw [← x5 i hi, ← x6 i hi] at h1
      exact h1
    · have e9 : ad (200 + i) = ad (200 + j) := e
      rw [x5 i hi, x5 j hj] at e9
      exact S1.2 i j hi hj e9
  · intro i q hq
    have hi : i < 23 := (List.getElem?_eq_some_iff.mp hq).1
    have hsr : ∀ i, i < 23 → ∀ q : String × Nat × String, ostL[i]? = some q → Cond.stringRef q.1 q.2.1 q.2.2 ∈ tables_1 := by
      have h0 : ∀ i, i < 23 → Cond.stringRef (ostL.getD i ("", 0, "")).1 (ostL.getD i ("", 0, "")).2.1 (ostL.getD i ("", 0, "")).2.2 ∈ tables_1 := by decide +kernel
      intro i hi q hq
      have h1 := h0 i hi
      rw [List.getD_eq_getElem?_getD, hq] at h1
      exact h1
    have h2 := S2 i hi
    have h3 : otm i = Term.string q.1 q.2.1 := by
      unfold otm
      rw [List.getD_eq_getElem?_getD, hq]
      rfl
    rw [h3, ← x5 i hi] at h2
    exact vk_R.of (hn _ (hsr i hi q hq)) h2
  · show va_Z _ _ _ .null _ _ _ ∨ va_Z _ _ _ (.ref (ad 104)) _ _ _
    rw [x4]; exact T4
