/-- the memory at the loop's first beginning -/
def os0 : OM := (fun a j => if a = 81 ∧ j = 10 then -1 else 0, fun _ _ => 0, fun a j => if a = 0 ∧ j = 0 then 1 else if a = 0 ∧ j = 1 then 22 else if a = 48 ∧ j = 1 then 22 else if a = 56 ∧ j = 0 then 2 else 0)
/-- what is left to show: the law's loop as a function of its script comes to 1 -/
def oPure : Prop := ∀ (xs : Nat → Int32) (L : Nat), L ≤ 3072 → ∃ σ' : OM, fL_law_b23 xs L oF 0 os0 = some ((1 : Int32), σ')
def oadf (ad9 ad10 : Nat → Nat) (qo b : Nat) (ext : Nat → Nat) (i : Nat) : Nat := if i < 81 then ad9 i else if i < 94 then ad10 (i - 81) else if i = 94 then qo else if i = 100 then b else ext i
theorem arrV_ext {cI : ClassId} {N : Nat} {f f' : Nat → Value} (h : ∀ j, j < N → f j = f' j) : arrV cI N f = arrV cI N f' := by
  unfold arrV
  congr 1
  apply Array.ext
  · simp
  · intro i h1 h2
    simp only [Array.getElem_ofFn]
    exact h i (by simpa using h1)
theorem vp_ext_r {cI : ClassId} {N : Nat} {f f' : Nat → Option Nat} (h : ∀ j, j < N → f j = f' j) : vp_cell cI (N, .inr (.inr (.inr (.inr f)))) = vp_cell cI (N, .inr (.inr (.inr (.inr f')))) := by
  show arrV cI N (fun j => va_rf (f j)) = arrV cI N (fun j => va_rf (f' j))
  exact arrV_ext (fun j hj => congrArg va_rf (h j hj))
def owst (g : OG) (ad9 ad10 : Nat → Nat) (qo : Nat) : va_W := (wX9 g ad9 ++ wX10 g ad10) ++ [(qo, .inl (g.2.2.2.1 1, 1, .inr (.inl (fun _ => 0))))]
section
variable {ad9 ad10 ext : Nat → Nat} {qo b sz : Nat} {dC : Nat → ClassId} {dI : Nat → Nat → Nat} {cA9 : Nat → ClassId}
set_option maxRecDepth 100000 in
theorem owst_fst : (owst (oadf ad9 ad10 qo b ext, dC, dI, cA9, sz) ad9 ad10 qo).map Prod.fst = (List.range 95).map (oadf ad9 ad10 qo b ext) := rfl
set_option maxRecDepth 100000 in
theorem owst_at : ∀ a, a < 95 → ∀ e : Nat × va_E, (owst (oadf ad9 ad10 qo b ext, dC, dI, cA9, sz) ad9 ad10 qo)[a]? = some e → ∀ H : Heap, va_at (oDD (oadf ad9 ad10 qo b ext, dC, dI, cA9, sz)) vwCl e H → va_at (oDD (oadf ad9 ad10 qo b ext, dC, dI, cA9, sz)) vwCl (oadf ad9 ad10 qo b ext a, oct (oadf ad9 ad10 qo b ext, dC, dI, cA9, sz) os0 a) H := by
  intro a ha e he H h
  match a, ha, he with
  | 0, _, he => cases he; exact h
  | 1, _, he => cases he; exact h
  | 2, _, he => cases he; exact h
  | 3, _, he => cases he; exact h
  | 4, _, he => cases he; exact h
  | 5, _, he => cases he; exact h
  | 6, _, he => cases he; exact h
  | 7, _, he => cases he; exact h
  | 8, _, he => cases he; exact h
  | 9, _, he => cases he; exact h
  | 10, _, he => cases he; exact h
  | 11, _, he => cases he; exact h
  | 12, _, he => cases he; exact h
  | 13, _, he => cases he; exact h
  | 14, _, he => 
    cases he
    refine Eq.trans h ?_
    refine congrArg some ?_
    refine vp_ext_r (cI := cA9 4) (N := 6) (f' := fun j => some (oadf ad9 ad10 qo b ext (ocr 14 j))) (fun j hj => ?_)
    match j, hj with
    | 0, _ => rfl
    | 1, _ => rfl
    | 2, _ => rfl
    | 3, _ => rfl
    | 4, _ => rfl
    | 5, _ => rfl
    | j + 6, hj => exact absurd hj (by show ¬ (j + 6 < 6); omega)
  | 15, _, he => cases he; exact h
  | 16, _, he => cases he; exact h
  | 17, _, he => cases he; exact h
  | 18, _, he => cases he; exact h
  | 19, _, he => cases he; exact h
  | 20, _, he => cases he; exact h
  | 21, _, he => cases he; exact h
  | 22, _, he => cases he; exact h
  | 23, _, he => cases he; exact h
  | 24, _, he => cases he; exact h
  | 25, _, he => cases he; exact h
  | 26, _, he => cases he; exact h
  | 27, _, he => cases he; exact h
  | 28, _, he => cases he; exact h
  | 29, _, he => cases he; exact h
  | 30, _, he => cases he; exact h
  | 31, _, he => cases he; exact h
  | 32, _, he => cases he; exact h
  | 33, _, he => cases he; exact h
  | 34, _, he => cases he; exact h
  | 35, _, he => 
    cases he
    refine Eq.trans h ?_
    refine congrArg some ?_
    refine vp_ext_r (cI := cA9 4) (N := 6) (f' := fun j => some (oadf ad9 ad10 qo b ext (ocr 35 j))) (fun j hj => ?_)
    match j, hj with
    | 0, _ => rfl
    | 1, _ => rfl
    | 2, _ => rfl
    | 3, _ => rfl
    | 4, _ => rfl
    | 5, _ => rfl
    | j + 6, hj => exact absurd hj (by show ¬ (j + 6 < 6); omega)
  | 36, _, he => cases he; exact h
  | 37, _, he => cases he; exact h
  | 38, _, he => cases he; exact h
  | 39, _, he => cases he; exact h
  | 40, _, he => cases he; exact h
  | 41, _, he => cases he; exact h
  | 42, _, he => cases he; exact h
  | 43, _, he => cases he; exact h
  | 44, _, he => cases he; exact h
  | 45, _, he => cases he; exact h
  | 46, _, he => cases he; exact h
  | 47, _, he => cases he; exact h
  | 48, _, he => cases he; exact h
  | 49, _, he => cases he; exact h
  | 50, _, he => cases he; exact h
  | 51, _, he => cases he; exact h
  | 52, _, he => cases he; exact h
  | 53, _, he => cases he; exact h
  | 54, _, he => cases he; exact h
  | 55, _, he => cases he; exact h
  | 56, _, he => cases he; exact h
  | 57, _, he => cases he; exact h
  | 58, _, he => cases he; exact h
  | 59, _, he => cases he; exact h
  | 60, _, he => cases he; exact h
  | 61, _, he => cases he; exact h
  | 62, _, he => cases he; exact h
  | 63, _, he => cases he; exact h
  | 64, _, he => cases he; exact h
  | 65, _, he => 
    cases he
    refine Eq.trans h ?_
    refine congrArg some ?_
    refine vp_ext_r (cI := cA9 5) (N := 3) (f' := fun j => some (oadf ad9 ad10 qo b ext (ocr 65 j))) (fun j hj => ?_)
    match j, hj with
    | 0, _ => rfl
    | 1, _ => rfl
    | 2, _ => rfl
    | j + 3, hj => exact absurd hj (by show ¬ (j + 3 < 3); omega)
  | 66, _, he => cases he; exact h
  | 67, _, he => cases he; exact h
  | 68, _, he => cases he; exact h
  | 69, _, he => cases he; exact h
  | 70, _, he => cases he; exact h
  | 71, _, he => cases he; exact h
  | 72, _, he => cases he; exact h
  | 73, _, he => cases he; exact h
  | 74, _, he => cases he; exact h
  | 75, _, he => cases he; exact h
  | 76, _, he => cases he; exact h
  | 77, _, he => cases he; exact h
  | 78, _, he => cases he; exact h
  | 79, _, he => cases he; exact h
  | 80, _, he => cases he; exact h
  | 81, _, he => cases he; exact h
  | 82, _, he => cases he; exact h
  | 83, _, he => cases he; exact h
  | 84, _, he => cases he; exact h
  | 85, _, he => cases he; exact h
  | 86, _, he => cases he; exact h
  | 87, _, he => cases he; exact h
  | 88, _, he => cases he; exact h
  | 89, _, he => cases he; exact h
  | 90, _, he => cases he; exact h
  | 91, _, he => cases he; exact h
  | 92, _, he => cases he; exact h
  | 93, _, he => cases he; exact h
  | 94, _, he => cases he; exact h
  | a + 95, ha, _ => exact absurd ha (by omega)
theorem owst_P {H : Heap} (hP : va_P (oDD (oadf ad9 ad10 qo b ext, dC, dI, cA9, sz)) vwCl (owst (oadf ad9 ad10 qo b ext, dC, dI, cA9, sz) ad9 ad10 qo) H) : va_P (oDD (oadf ad9 ad10 qo b ext, dC, dI, cA9, sz)) vwCl (owl (oadf ad9 ad10 qo b ext, dC, dI, cA9, sz) os0) H := by
  intro k q hq
  have hk : k < 95 := by
    have h1 := (List.getElem?_eq_some_iff.mp hq).1
    simpa [owl] using h1
  rw [owl_at _ _ hk] at hq
  cases hq
  have h2 : k < (owst (oadf ad9 ad10 qo b ext, dC, dI, cA9, sz) ad9 ad10 qo).length := hk
  exact owst_at k hk _ (List.getElem?_eq_getElem h2) H (hP k _ (List.getElem?_eq_getElem h2))
theorem owst_G {A : Nat → Prop} (hA : ∀ q, A q → sz ≤ q) (hD : va_D A (owst (oadf ad9 ad10 qo b ext, dC, dI, cA9, sz) ad9 ad10 qo)) : oG (oadf ad9 ad10 qo b ext, dC, dI, cA9, sz) := by
  have h0 : ∀ a, a < 95 → ∃ e : Nat × va_E, (owst (oadf ad9 ad10 qo b ext, dC, dI, cA9, sz) ad9 ad10 qo)[a]? = some e ∧ e.1 = oadf ad9 ad10 qo b ext a := by
    intro a ha
    have h1 : ((owst (oadf ad9 ad10 qo b ext, dC, dI, cA9, sz) ad9 ad10 qo).map Prod.fst)[a]? = some (oadf ad9 ad10 qo b ext a) := by
      rw [owst_fst, List.getElem?_map, List.getElem?_range ha]; rfl
    rw [List.getElem?_map] at h1
    cases hw : (owst (oadf ad9 ad10 qo b ext, dC, dI, cA9, sz) ad9 ad10 qo)[a]? with
    | none => rw [hw] at h1; cases h1
    | some e => rw [hw] at h1; exact ⟨e, rfl, Option.some.inj h1⟩
  refine ⟨fun a c ha hc he => ?_, fun a ha => ?_⟩
  · obtain ⟨e1, g1, f1⟩ := h0 a ha
    obtain ⟨e2, g2, f2⟩ := h0 c hc
    exact hD.1 a c e1 e2 g1 g2 (by rw [f1, f2]; exact he)
  · obtain ⟨e1, g1, f1⟩ := h0 a ha
    show sz ≤ oadf ad9 ad10 qo b ext a
    rw [← f1]
    exact hA _ (hD.2 a e1 g1)
end
set_option maxHeartbeats 4000000 in
set_option maxRecDepth 100000 in
/-- from the entry, for every script of at most 3072 ints, the law comes to its end with true -/
theorem whole_start (hpure : oPure) {p : Program} {e : Env} {s : State} {m : MethodId} {below : List Frame} {meth : Method} {c : Code} (l : Launch) (htr : l.stackTraces = false) {b L : Nat} {xs : Nat → Int32} (hL : L ≤ 3072) (C0 : lw_At p s m meth c b L xs) : W p l e room_1 s m #[Value.ref b] below meth c s.heap [] 0 0 (lw_Z below #[Value.ref b] s) (entryFrame m ([Value.ref b] : List Value).toArray 7) := by
  obtain ⟨hx, hcd, hret, hml, hown, hts, hX, hbl, hlk, hgv⟩ := C0
  obtain ⟨σ', hσ⟩ := hpure xs L hL
  obtain ⟨dC, dI, cA9, hKc⟩ := start_K hts
  obtain ⟨ext, hXx⟩ := start_X hgv hts
  have ho : ∀ w ∈ otb, w.before #[Value.ref b] s = true := fun w hw => hts w (List.mem_filter.mp hw).1
  have hE := lv_entry [Value.ref b] (n := 7) (Nat.le_of_ble_eq_true rfl)
  rw [lg_entry_eq]
  obtain ⟨F, hF⟩ : ∃ F : Array Slot → CK, F = fun ls => (p, l, e, room_1, s, m, #[Value.ref b], below, meth, c, (fun _ => 0, dC, dI, cA9, s.heap.size), fun q => s.heap.size ≤ q, code, RL, 7, lw_Z below #[Value.ref b] s, ls, [Value.ref b]) := ⟨_, rfl⟩
  have hok : ∀ ls, lv_has ls 7 (lv_args 0 [Value.ref b]) → cOk (F ls) := fun ls hls => by
    rw [hF]
    exact ⟨hx, hcd, hml, hown, ho, hKc _ _, fun q hq => hq, hlk, Or.inl rfl, hls, Nat.le_of_ble_eq_true rfl, Nat.le_of_ble_eq_true rfl⟩
  have hc : ∀ ls, ccc (F ls) = cL_law := fun ls => by rw [hF]
  have hoo : ∀ ls, cow (F ls) = RL := fun ls => by rw [hF]
  have hR : ∀ ls, cR (F ls) = room_1 := fun ls => by rw [hF]
  have hcl : ∀ ls, cls (F ls) = ls := fun ls => by rw [hF]
  have hg : ∀ ls, cg (F ls) = (fun _ => 0, dC, dI, cA9, s.heap.size) := fun ls => by rw [hF]
  -- the last stretch
  have hEnd : ∀ (ad9 ad10 : Nat → Nat) (qo : Nat) (ls : Array Slot), lv_has ls 7 [(3, Value.ref qo), (2, Value.ref (ad10 0)), (1, Value.ref (ad9 0)), (0, Value.ref b)] → Gc (F ls) 20 [] (owst (fun _ => 0, dC, dI, cA9, s.heap.size) ad9 ad10 qo) 95 24592 := by
    intro ad9 ad10 qo ls hls
    refine gc_iconst (hc ls) dL_law_20 ci_0 ?_
    intro ok H locs hP hD hS
    refine lv_istore (i := 4) ok.1 (ok.2.1.trans (hc ls)) dL_law_21 (nL := 7) (lv := [(3, Value.ref qo), (2, Value.ref (ad10 0)), (1, Value.ref (ad9 0)), (0, Value.ref b)]) (by rw [hcl]; exact hls) (by decide) rfl (fun ls1 hl1 => ?_)
    rw [hF] at ok hP hD hS ⊢
    have hGg : oG (oadf ad9 ad10 qo b ext, dC, dI, cA9, s.heap.size) := owst_G (A := fun q => s.heap.size ≤ q) (fun q h => h) hD
    have hKn : oKn (oadf ad9 ad10 qo b ext, dC, dI, cA9, s.heap.size) s s.heap := by
      have h1 := hKc (oadf ad9 ad10 qo b ext) s.heap.size
      refine ⟨h1.1, h1.2.1, hXx (oadf ad9 ad10 qo b ext) dC dI cA9 (fun i hi => ?_)⟩
      unfold oadf
      rw [if_neg (by omega), if_neg (by omega), if_neg (by omega), if_neg (by omega)]
    have hgo := rL_law_b23 (K := (p, l, e, 1300, s, m, #[Value.ref b], below, meth, c, (oadf ad9 ad10 qo b ext, dC, dI, cA9, s.heap.size), code, RL, 7, lw_Z below #[Value.ref b] s, room_1, 95, 24592, 1, 6)) rfl rfl rfl (Nat.le_refl _) (xs := xs) (L := L) ⟨hX, hbl, fun h => absurd (show s.heap.size ≤ b from h) (by omega)⟩ ⟨rfl, rfl, rfl, Nat.le_of_ble_eq_true rfl, Nat.le_of_ble_eq_true rfl, htr, hret, rfl, b, rfl, rfl⟩ oF 0 os0 hσ
    have hg2 := hgo ⟨hx, hcd, hml, hown, ho, hGg, hKn, hlk, Nat.le_of_ble_eq_true rfl, Nat.le_of_ble_eq_true rfl, fun h => Nat.noConfusion (show Nat.succ 0 = 0 from h)⟩ (Nat.le_of_ble_eq_true rfl) (Nat.le_of_ble_eq_true rfl) H locs ls1 (owst_P hP) hS (lv_mono hl1 (fun q hq => by
      have h9 : q ∈ [(0, Value.ref b), (1, Value.ref (ad9 0)), (2, Value.ref (ad10 0)), (3, Value.ref qo), (4, Value.int 0)] := hq
      show q ∈ [(4, Value.int 0), (3, Value.ref qo), (2, Value.ref (ad10 0)), (1, Value.ref (ad9 0)), (0, Value.ref b)]
      simp only [List.mem_cons, List.not_mem_nil, or_false] at h9 ⊢
      rcases h9 with h | h | h | h | h <;> simp [h]))
    exact hg2
  have h3 : ∀ (ad9 ad10 : Nat → Nat) (ls : Array Slot), lv_has ls 7 [(2, Value.ref (ad10 0)), (1, Value.ref (ad9 0)), (0, Value.ref b)] → Gc (F ls) 16 [] (wX9 (fun _ => 0, dC, dI, cA9, s.heap.size) ad9 ++ wX10 (fun _ => 0, dC, dI, cA9, s.heap.size) ad10) 94 24591 := by
    intro ad9 ad10 ls hls
    refine gc_iconst (hc ls) dL_law_16 ci_1 ?_
    refine gc_newl (N1 := 1) (hc ls) oa_l dL_law_17 (by decide) (by decide +kernel) (by decide) (by rw [hR]; exact Nat.le_of_ble_eq_true rfl) (by rw [hR]; exact Nat.le_of_ble_eq_true rfl) (fun qo => ?_)
    intro ok H locs hP hD hS
    refine lv_astore_n (i := 3) ok.1 (ok.2.1.trans (hc ls)) dL_law_19 rfl (nL := 7) (lv := [(2, Value.ref (ad10 0)), (1, Value.ref (ad9 0)), (0, Value.ref b)]) (by rw [hcl]; exact hls) (by decide) rfl (fun ls1 hl1 => ?_)
    have hl2 : lv_has ls1 7 [(3, Value.ref qo), (2, Value.ref (ad10 0)), (1, Value.ref (ad9 0)), (0, Value.ref b)] := hl1
    have hk := hEnd ad9 ad10 qo ls1 hl2 (hok ls1 (lv_mono hl2 (fun q hq => List.mem_cons_of_mem _ (List.mem_cons_of_mem _ (List.mem_cons_of_mem _ hq)))))
    rw [hF] at hk hP hD hS ⊢
    exact hk H locs hP hD hS
  have h2 : ∀ (ad9 : Nat → Nat) (ls : Array Slot), lv_has ls 7 [(1, Value.ref (ad9 0)), (0, Value.ref b)] → Gc (F ls) 8 [] (wX9 (fun _ => 0, dC, dI, cA9, s.heap.size) ad9) 81 8861 := by
    intro ad9 ls hls
    refine gc_new (hc ls) (hoo ls) nfX10 clL_16 inst10 init10 (fs := [.int 0, .null, .int 0, .int 0, .int 0, .int 0, .int 0, .int 0, .int 0, .int 0, .int 0, .int 0, .null, .int 0, .int 0, .null, .null, .null, .null, .null, .null, .null, .int 0, .int 0, .int 0, .int 0, .null, .null, .int 0, .null]) (by decide +kernel) dL_law_8 (by rw [hR]; exact Nat.le_of_ble_eq_true rfl) (by rw [hR]; exact Nat.le_of_ble_eq_true rfl) (fun q1 => ?_)
    refine gc_dup (hc ls) dL_law_11 rfl ?_
    refine gc_call (k := 82) (n := 8891) (args := []) (rest := [.ref q1]) (hc ls) (hoo ls) ciX10_init rfl mlL_18 dL_law_12 ctX10 rfl (by rw [hR]; exact Nat.le_of_ble_eq_true rfl) (by rw [hR]; exact Nat.le_of_ble_eq_true rfl) rfl (Nat.le_of_ble_eq_true rfl) (by rw [hR]; exact Nat.le_of_ble_eq_true rfl) (by rw [hR]; exact Nat.le_of_ble_eq_true rfl) (fun ad10 had => ?_)
    subst had
    intro ok H locs hP hD hS
    refine lv_astore_n (i := 2) ok.1 (ok.2.1.trans (hc ls)) dL_law_15 rfl (nL := 7) (lv := [(1, Value.ref (ad9 0)), (0, Value.ref b)]) (by rw [hcl]; exact hls) (by decide) rfl (fun ls1 hl1 => ?_)
    have hl2 : lv_has ls1 7 [(2, Value.ref (ad10 0)), (1, Value.ref (ad9 0)), (0, Value.ref b)] := hl1
    have hk := h3 ad9 ad10 ls1 hl2 (hok ls1 (lv_mono hl2 (fun q hq => List.mem_cons_of_mem _ (List.mem_cons_of_mem _ hq))))
    rw [hF] at hk hP hD hS ⊢
    exact hk H locs hP hD hS
  have h1 : ∀ ls : Array Slot, lv_has ls 7 (lv_args 0 [Value.ref b]) → Gc (F ls) 0 [] [] 0 0 := by
    intro ls hls
    refine gc_new (hc ls) (hoo ls) nfX9 clL_8 inst9 init9 (fs := [.null, .null, .null, .null, .null, .null, .null, .int 0, .int 0, .int 0, .int 0, .int 0]) (by decide +kernel) dL_law_0 (by rw [hR]; exact Nat.le_of_ble_eq_true rfl) (by rw [hR]; exact Nat.le_of_ble_eq_true rfl) (fun q0 => ?_)
    refine gc_dup (hc ls) dL_law_3 rfl ?_
    refine gc_call (k := 1) (n := 12) (ws := []) (args := []) (rest := [.ref q0]) (hc ls) (hoo ls) ciX9_init rfl mlL_15 dL_law_4 ctX9 rfl (by rw [hR]; exact Nat.le_of_ble_eq_true rfl) (by rw [hR]; exact Nat.le_of_ble_eq_true rfl) rfl (Nat.le_of_ble_eq_true rfl) (by rw [hR]; exact Nat.le_of_ble_eq_true rfl) (by rw [hR]; exact Nat.le_of_ble_eq_true rfl) (fun ad9 had => ?_)
    subst had
    intro ok H locs hP hD hS
    refine lv_astore_n (i := 1) ok.1 (ok.2.1.trans (hc ls)) dL_law_7 rfl (nL := 7) (lv := [(0, Value.ref b)]) (by rw [hcl]; exact hls) (by decide) rfl (fun ls1 hl1 => ?_)
    have hl2 : lv_has ls1 7 [(1, Value.ref (ad9 0)), (0, Value.ref b)] := hl1
    have hk := h2 ad9 ls1 hl2 (hok ls1 (lv_mono hl2 (fun q hq => List.mem_cons_of_mem _ hq)))
    rw [hF] at hk hP hD hS ⊢
    exact hk H locs hP hD hS
  have hk := h1 _ hE (hok _ hE)
  rw [hF] at hk
  have hn0 : ∀ (A : Nat → Prop), va_D A [] := fun A => ⟨fun i j p q hp => by simp at hp, fun k q hq => by simp at hq⟩
  have hn1 : ∀ (D : va_G), va_P D vwCl [] s.heap := fun D k q hq => by simp at hq
  exact hk s.heap [] (hn1 _) (hn0 _) va_S.rf
set_option maxHeartbeats 4000000 in
theorem lw_walk (hpure : oPure) (l : Launch) (htr : l.stackTraces = false) (b : Addr) (xs : List Int32) : MetFree l x (headSpec (Jvm.Cond.code x code maxLocals ret :: tables_1) room_1) (lw_P b xs) (fun _ _ _ _ _ => True) lw_Q := by
  refine MetFree.of_bodyS (code := code) (maxLocals := maxLocals) (ret := ret) (by decide) ?_ ?_
  · intro args s m h hn
    obtain ⟨meth, c, h1, h2, h3, h4, h5, h6, -, -⟩ := Cond.code_spec hn (atoms_spec (ws := Jvm.Cond.code x code maxLocals ret :: tables_1) h _ List.mem_cons_self)
    exact ⟨meth, c, h1, h2, h3, h4, h5, h6⟩
  · intro p e s m args below meth c s₁ B hml0 hP _
    obtain ⟨rfl, hx, hbd, hgv⟩ := hP
    obtain ⟨scr, harrAt, hlist, hof, hsmall⟩ := hx
    obtain ⟨hcb, hkn, -, -⟩ := State.arrayAt?_spec harrAt
    have hown : s.vm.findClass R_law = some m.cls := findClass_of_methodNamed B.named
    have hts0 : ∀ c ∈ (Jvm.Cond.code x code maxLocals ret :: tables_1), c.before #[Value.ref b] s = true := atoms_spec (ws := Jvm.Cond.code x code maxLocals ret :: tables_1) B.pre
    have hts : ∀ w ∈ lw_tbl, w.before #[Value.ref b] s = true := k2_hts_sels lw_privs (fun w hw => hts0 w (List.mem_cons_of_mem _ hw)) lw_privs_ok
    have hml : c.maxLocals = 7 := B.maxLocals_eq (hts0 _ List.mem_cons_self)
    have X₀ : Stand p l e room_1 s m #[Value.ref b] below meth c s₁ [] 0 0 := Stand.of_body B
    have hh0 : s₁.heap = s.heap := by rw [B.state]; rfl
    have hsz : scr.slots.size = xs.length := by rw [← Array.length_toList, hlist, List.length_map]
    have hval : ∀ j : Nat, j < xs.length → scr.slots[j]? = some (.int (xs.getD j 0)) := fun j hj => by
      rw [← Array.getElem?_toList, hlist]
      simp [hj]
    have hbl : b < s.heap.size := (Array.getElem?_eq_some_iff.mp hcb).1
    have hX : va_X b xs.length (fun j => xs.getD j 0) s s.heap := ⟨scr, hcb, hof, hkn, hsz, hval⟩
    have K : W p l e room_1 s m #[Value.ref b] below meth c s₁.heap [] 0 0 (lw_Z below #[Value.ref b] s) (entryFrame m ([Value.ref b] : List Value).toArray 7) := by
      rw [hh0]
      exact whole_start hpure l htr hbd ⟨B.exec, B.bytes, B.returns, hml, hown, hts, hX, hbl, B.notSynchronized, hgv⟩
    obtain ⟨t, a1, o, b1, b2, b3⟩ := K s₁ rfl X₀
    exact ⟨t, o, a1, b1, b2, b3⟩
theorem lw_pre_spec {args : Array Value} {s : State} (h : (Jvm.Cond.and given_1 narrow_1).before args s = true) (hr : rest_1_c.before args s = true) : ∃ (b : Addr) (xs : List Int32), lw_P b xs args s := by
  have hs := flat_of_before _ h
  have hq := flat_of_before _ hr
  have hc : (Cond.count 1).before args s = true := hs _ (by decide +kernel)
  have harr : (Cond.arrayOf (.arg 0) .int).before args s = true := hs _ (by decide +kernel)
  have hle : (Cond.le (.length (.arg 0)) (.int 3072)).before args s = true := hs _ (by decide +kernel)
  have hlen : (Cond.isInt (.length (.arg 0))).before args s = true := hq _ (by decide +kernel)
  have hall : (Cond.all (.arg 0) (.isInt (.elem (.arg 0) (.index 0)))).before args s = true := hq _ (by decide +kernel)
  obtain ⟨b, xs, hb, hx⟩ := State.ints_of_pre rfl harr hlen hall
  have hsm : xs.length < 2 ^ 31 := hx.choose_spec.2.2.2
  have hev : (Term.length (.arg 0)).eval args s none [] s = some (.int xs.length.toInt32) := hx.length_eval hb
  have hv := Cond.le_ints hev (show (Term.int 3072).eval args s none [] s = some (.int 3072) from rfl)
  have hd : xs.length.toInt32 ≤ 3072 := by
    simpa [Cond.before, Cond.holds, hv] using hle
  have hN : xs.length ≤ 3072 := (Int32.ofNat_le_ofNat hsm (by decide)).mp (show Int32.ofNat xs.length ≤ Int32.ofNat 3072 from hd)
  exact ⟨b, xs, Cond.one_arg hc (show args[0]? = some (.ref b) from hb), hx, hN, h⟩
theorem lw_comes (hpure : oPure) (l : Launch) (htr : l.stackTraces = false) : Comes l x (Jvm.Cond.code x code maxLocals ret :: tables_1) room_1 (fun tb e args s => Calls_1 tb e args s ∧ rest_1 tb e args s ∧ Pre_1 tb e args s)
    (fun _ _ args s o t => lw_Q args s o t) := by
  intro p e ha hc hk s m args below hf hfit hheap happ hpre
  obtain ⟨b, xs, hP⟩ := lw_pre_spec hpre.2.2 hpre.2.1
  obtain ⟨k, o, h1, h2, h3, hQ⟩ := lw_walk hpure l htr b xs p e ha hc hk s m args below hf ((Spec.applies_iff_loose hf).mp happ).1 hP trivial
  exact ⟨k, o, h1, h2, h3, hQ⟩
theorem lw_frame {s t : State} {o : Outcome} {args : Array Value} (h : Framed s o t [] 601024 7293034) :
    Framed s o t (fieldLocs frame_1_writes args s ++ arrayLocs frame_1_arrays args s ++ staticLocs frame_1_statics s) 601024 7293034 := h
theorem lw_limb (hpure : oPure) (L : Cond) (hL : ∀ (args : Array Value) (s t : State), L.after args s (.returned (some (.int 1))) t = true) :
    ArmFor flags0 classFile x code maxLocals ret World_1 tables_1 room_1 Calls_1 rest_1 Pre_1
      (fun tb e a s o t => postC L tb e a s o t ∧ Framed s o t (fieldLocs frame_1_writes a s ++ arrayLocs frame_1_arrays a s ++ staticLocs frame_1_statics s) 601024 7293034) := by
  intro l hfl _ _ p e ha hc hk s m args below hf hfit hheap happ hpre
  obtain ⟨k, o, h1, h2, h3, rfl, hF⟩ := lw_comes hpure l (by unfold Launch.stackTraces; rw [hfl]; decide +kernel) p e ha hc hk s m args below hf hfit hheap happ hpre
  exact ⟨k, _, h1, h2, h3, hL args s _, lw_frame hF⟩
theorem vc_of (hpure : oPure) : Claimed_1_1 ∧ Claimed_1_2 := ⟨lw_limb hpure limb_1_1 (fun args s t => by simp [limb_1_1, Cond.after, Cond.holds, Cond.value]), lw_limb hpure limb_1_2 (fun args s t => Cond.after_iff.mpr (by
  first | (rw [show limb_1_2 = Cond.eq .result (.int 1) from rfl, Cond.eq_ints (x := 1) (y := 1) rfl rfl]; simp; done) | (simp [limb_1_2, Cond.value, Term.eval]; done)))⟩
