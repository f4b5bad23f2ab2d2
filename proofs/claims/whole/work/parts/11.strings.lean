theorem rJ3_checkIndex_8e157 {N : Nat} {x0 x1 : Int32} {v : Value} {σ : OM} (hv : v = .null ∨ v = .ref 104) (h0 : ¬ x0 < 0) (h1 : x0 < x1) : oEv N MJ3_checkIndex_8e157 [.int x0, .int x1, v] σ (some (.int x0)) σ := by
  refine oEv_of (lv := [.int x0, .int x1, .null]) (by decide +kernel) ?_ ?_ ?_
  · intro g q hq
    have h2 : q ∈ [(0, Value.int x0), (1, Value.int x1)] := hq
    rcases List.mem_cons.mp h2 with h | h
    · rw [h]; exact List.mem_cons_self
    · rcases List.mem_cons.mp h with h | h
      · rw [h]; exact List.mem_cons_of_mem _ List.mem_cons_self
      · cases h
  · intro g
    rcases hv with rfl | rfl <;> exact Nat.le_of_ble_eq_true rfl
  intro K hc ho hL hN1 hr hE hz
  refine go_iload_n hc dJ3_checkIndex_8e157_0 rfl rfl ?_
  refine go_if_lt (tgt := 9) hc dJ3_checkIndex_8e157_1 rfl (fun hh => absurd hh h0) (fun hh => ?_)
  refine go_iload_n hc dJ3_checkIndex_8e157_4 rfl rfl ?_
  refine go_iload_n hc dJ3_checkIndex_8e157_5 rfl rfl ?_
  refine go_icmp_lt (tgt := 16) hc dJ3_checkIndex_8e157_6 rfl (fun hh => ?_) (fun hh => absurd h1 hh)
  refine go_iload_n hc dJ3_checkIndex_8e157_16 rfl rfl ?_
  exact go_iret hc hE hr dJ3_checkIndex_8e157_17
def fJ0_checkIndex_df160 (x0 x1 : Int32) (σ : OM) : Option OM := ogd (decide (¬ x0 < 0) && decide (x0 < x1)) (some σ)
theorem rJ0_checkIndex_df160 {N : Nat} {x0 x1 : Int32} {σ σ0 : OM} (h : fJ0_checkIndex_df160 x0 x1 σ = some σ0) (hN0 : 1 ≤ N) : oEv N MJ0_checkIndex_df160 [.int x0, .int x1] σ none σ0 := by
  refine oEv_of (lv := [.int x0, .int x1]) (by decide +kernel) (fun g q hq => hq) (fun g => Nat.le_of_ble_eq_true rfl) ?_
  intro K hc ho hL hN1 hr hE hz
  have hN : 1 ≤ kN K := by rw [hN1]; exact hN0
  unfold fJ0_checkIndex_df160 at h
  obtain ⟨hg, h⟩ := ogd_some h
  rw [Bool.and_eq_true] at hg
  have h0 := of_decide_eq_true hg.1
  have h1 := of_decide_eq_true hg.2
  refine go_iload_n hc dJ0_checkIndex_df160_0 rfl rfl ?_
  refine go_iload_n hc dJ0_checkIndex_df160_1 rfl rfl ?_
  refine go_siob hc ho fsJ0_1053 dJ0_checkIndex_df160_2 ?_ ?_
  · refine go_callSi hc ho cmJ3_checkIndex_8e157 mlJ0_1059 dJ0_checkIndex_df160_5 (As := [.int x0, .int x1, .null]) (rest := []) (rJ3_checkIndex_8e157 (N := 0) (Or.inl rfl) h0 h1) rfl hN rfl (Nat.le_of_ble_eq_true rfl) (Or.inl hz) ?_
    refine go_pop hc dJ0_checkIndex_df160_8 rfl ?_
    exact go_vret hc (oend_v h hE) hr dJ0_checkIndex_df160_9
  · refine go_callSi hc ho cmJ3_checkIndex_8e157 mlJ0_1059 dJ0_checkIndex_df160_5 (As := [.int x0, .int x1, .ref 104]) (rest := []) (rJ3_checkIndex_8e157 (N := 0) (Or.inr rfl) h0 h1) rfl hN rfl (Nat.le_of_ble_eq_true rfl) (Or.inl hz) ?_
    refine go_pop hc dJ0_checkIndex_df160_8 rfl ?_
    exact go_vret hc (oend_v h hE) hr dJ0_checkIndex_df160_9
