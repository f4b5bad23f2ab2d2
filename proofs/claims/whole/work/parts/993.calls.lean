/-! the law, call by call -/
section
variable {xs : Nat → Int32} {L i n : Nat} {σ : OM}
theorem oiL {a : Nat} (h : a < L) (hL : L ≤ 3072) : oin (oi a) L = true := by rw [oin_oi (by omega), decide_eq_true h]
theorem o1 (i : Nat) : oi i + (1 : Int32) = oi (i + 1) := oi_add i 1
theorem o2 (i : Nat) : oi i + (2 : Int32) = oi (i + 2) := oi_add i 2
theorem o3 (i : Nat) : oi i + (3 : Int32) = oi (i + 3) := oi_add i 3
theorem o4 (i : Nat) : oi i + (4 : Int32) = oi (i + 4) := oi_add i 4
theorem o5 (i : Nat) : oi i + (5 : Int32) = oi (i + 5) := oi_add i 5
theorem lw_0 (hL : L ≤ 3072) (hi : i + 6 ≤ L) (hn : n < 600) (h : Inv n σ) : ∃ σ', Inv (n + 1) σ' ∧ ∀ rc : Int32 → OM → Option (Int32 × OM), fL_law_b268 xs L rc (oi i) σ = rc (oi i + 6) σ' := by
  obtain ⟨r, σ1, σ2, e1, e2, e3, e4, e5⟩ := m_feed n (xs (i + 1)) (xs (i + 2)) (xs (i + 3)) (xs (i + 4)) (xs (i + 5)) σ h
  refine ⟨σ2, e3, fun rc => ?_⟩
  have j1 : oin (oi (i + 1)) L = true := oiL (by omega) hL
  have j2 : oin (oi (i + 2)) L = true := oiL (by omega) hL
  have j3 : oin (oi (i + 3)) L = true := oiL (by omega) hL
  have j4 : oin (oi (i + 4)) L = true := oiL (by omega) hL
  have j5 : oin (oi (i + 5)) L = true := oiL (by omega) hL
  unfold fL_law_b268
  rw [o1, o2, o3, o4, o5, oi_nat (a := i + 1) (by omega), oi_nat (a := i + 2) (by omega), oi_nat (a := i + 3) (by omega), oi_nat (a := i + 4) (by omega), oi_nat (a := i + 5) (by omega), ogd_t j1, ogd_t j2, ogd_t j3, ogd_t j4, ogd_t j5, e1, obi_s, ogd_d e4, ogd_t j1, ogd_t j2, ogd_t j3, ogd_t j4, ogd_t j5, e2, obi_s, ogd_d e5, if_pos rfl]
theorem lw_1 (hL : L ≤ 3072) (hi : i + 6 ≤ L) (hn : n < 600) (h : Inv n σ) : ∃ σ', Inv (n + 1) σ' ∧ ∀ rc : Int32 → OM → Option (Int32 × OM), fL_law_b341 xs L rc (oi i) σ = rc (oi i + 6) σ' := by
  obtain ⟨r, σ1, σ2, e1, e2, e3, e4, e5⟩ := m_well n (xs (i + 1)) σ h
  refine ⟨σ2, e3, fun rc => ?_⟩
  have j1 : oin (oi (i + 1)) L = true := oiL (by omega) hL
  unfold fL_law_b341
  rw [o1, oi_nat (a := i + 1) (by omega), ogd_t j1, e1, obi_s, ogd_d e4, ogd_t j1, e2, obi_s, ogd_d e5, if_pos rfl]
theorem lw_2 (hL : L ≤ 3072) (hi : i + 6 ≤ L) (hn : n < 600) (h : Inv n σ) : ∃ σ', Inv (n + 1) σ' ∧ ∀ rc : Int32 → OM → Option (Int32 × OM), fL_law_b366 xs L rc (oi i) σ = rc (oi i + 6) σ' := by
  obtain ⟨r, σ1, σ2, e1, e2, e3, e4, e5⟩ := m_fault n  σ h
  refine ⟨σ2, e3, fun rc => ?_⟩
  unfold fL_law_b366
  rw [e1, obi_s, ogd_d e4, e2, obi_s, ogd_d e5, if_pos rfl]
theorem lw_3 (hL : L ≤ 3072) (hi : i + 6 ≤ L) (hn : n < 600) (h : Inv n σ) : ∃ σ', Inv (n + 1) σ' ∧ ∀ rc : Int32 → OM → Option (Int32 × OM), fL_law_b379 xs L rc (oi i) σ = rc (oi i + 6) σ' := by
  obtain ⟨r, σ1, σ2, e1, e2, e3, e4, e5⟩ := m_where n  σ h
  refine ⟨σ2, e3, fun rc => ?_⟩
  unfold fL_law_b379
  rw [e1, obi_s, ogd_d e4, e2, obi_s, ogd_d e5, if_pos rfl]
theorem lw_4 (hL : L ≤ 3072) (hi : i + 6 ≤ L) (hn : n < 600) (h : Inv n σ) : ∃ σ', Inv (n + 1) σ' ∧ ∀ rc : Int32 → OM → Option (Int32 × OM), fL_law_b392 xs L rc (oi i) σ = rc (oi i + 6) σ' := by
  obtain ⟨r, σ1, σ2, e1, e2, e3, e4, e5⟩ := m_canBe n (xs (i + 1)) σ h
  refine ⟨σ2, e3, fun rc => ?_⟩
  have j1 : oin (oi (i + 1)) L = true := oiL (by omega) hL
  unfold fL_law_b392
  rw [o1, oi_nat (a := i + 1) (by omega), ogd_t j1, e1, obi_s, ogd_d e4, ogd_t j1, e2, obi_s, ogd_d e5, if_pos rfl]
theorem lw_5 (hL : L ≤ 3072) (hi : i + 6 ≤ L) (hn : n < 600) (h : Inv n σ) : ∃ σ', Inv (n + 1) σ' ∧ ∀ rc : Int32 → OM → Option (Int32 × OM), fL_law_b417 xs L rc (oi i) σ = rc (oi i + 6) σ' := by
  obtain ⟨r, σ1, σ2, e1, e2, e3, e4, e5⟩ := m_worlds n  σ h
  refine ⟨σ2, e3, fun rc => ?_⟩
  unfold fL_law_b417
  rw [e1, obi_s, ogd_d e4, e2, obi_s, ogd_d e5, if_pos rfl]
theorem lw_6 (hL : L ≤ 3072) (hi : i + 6 ≤ L) (hn : n < 600) (h : Inv n σ) : ∃ σ', Inv (n + 1) σ' ∧ ∀ rc : Int32 → OM → Option (Int32 × OM), fL_law_b430 xs L rc (oi i) σ = rc (oi i + 6) σ' := by
  obtain ⟨r, σ1, σ2, e1, e2, e3, e4, e5⟩ := m_odds n (xs (i + 1)) σ h
  refine ⟨σ2, e3, fun rc => ?_⟩
  have j1 : oin (oi (i + 1)) L = true := oiL (by omega) hL
  unfold fL_law_b430
  rw [o1, oi_nat (a := i + 1) (by omega), ogd_t j1, e1, obi_s, ogd_d e4, ogd_t j1, e2, obi_s, ogd_d e5, if_pos rfl]
theorem lw_7 (hL : L ≤ 3072) (hi : i + 6 ≤ L) (hn : n < 600) (h : Inv n σ) : ∃ σ', Inv (n + 1) σ' ∧ ∀ rc : Int32 → OM → Option (Int32 × OM), fL_law_b455 xs L rc (oi i) σ = rc (oi i + 6) σ' := by
  obtain ⟨r, σ1, σ2, e1, e2, e3, e4, e5⟩ := m_isSo n (xs (i + 1)) (xs (i + 2)) σ h
  refine ⟨σ2, e3, fun rc => ?_⟩
  have j1 : oin (oi (i + 1)) L = true := oiL (by omega) hL
  have j2 : oin (oi (i + 2)) L = true := oiL (by omega) hL
  unfold fL_law_b455
  rw [o1, o2, oi_nat (a := i + 1) (by omega), oi_nat (a := i + 2) (by omega), ogd_t j1, ogd_t j2, e1, obi_s, ogd_d e4, ogd_t j1, ogd_t j2, e2, obi_s, ogd_d e5, if_pos rfl]
theorem lw_8 (hL : L ≤ 3072) (hi : i + 6 ≤ L) (hn : n < 600) (h : Inv n σ) : ∃ σ', Inv (n + 1) σ' ∧ ∀ rc : Int32 → OM → Option (Int32 × OM), fL_law_b492 xs L rc (oi i) σ = rc (oi i + 6) σ' := by
  have j1 : oin (oi (i + 1)) L = true := oiL (by omega) hL
  have j2 : oin (oi (i + 2)) L = true := oiL (by omega) hL
  by_cases q : xs (i + 2) = 0
  · obtain ⟨r, σ1, σ2, e1, e2, e3, e4, e5⟩ := m_chance n (xs (i + 1)) false σ h
    rw [show b2 false = 0 from rfl] at e1 e2
    refine ⟨σ2, e3, fun rc => ?_⟩
    unfold fL_law_b492
    rw [o1, o2, oi_nat (a := i + 1) (by omega), oi_nat (a := i + 2) (by omega), ogd_t j1, ogd_t j2, if_pos q, e1, obi_s, ogd_d e4, ogd_t j1, ogd_t j2, if_pos q, e2, obi_s, ogd_d e5, if_pos ((cmp_eq _ _).mpr rfl)]
  · obtain ⟨r, σ1, σ2, e1, e2, e3, e4, e5⟩ := m_chance n (xs (i + 1)) true σ h
    rw [show b2 true = 1 from rfl] at e1 e2
    refine ⟨σ2, e3, fun rc => ?_⟩
    unfold fL_law_b492
    rw [o1, o2, oi_nat (a := i + 1) (by omega), oi_nat (a := i + 2) (by omega), ogd_t j1, ogd_t j2, if_neg q, e1, obi_s, ogd_d e4, ogd_t j1, ogd_t j2, if_neg q, e2, obi_s, ogd_d e5, if_pos ((cmp_eq _ _).mpr rfl)]
theorem lw_9 (hL : L ≤ 3072) (hi : i + 6 ≤ L) (hn : n < 600) (h : Inv n σ) : ∃ σ', Inv (n + 1) σ' ∧ ∀ rc : Int32 → OM → Option (Int32 × OM), fL_law_b546 xs L rc (oi i) σ = rc (oi i + 6) σ' := by
  obtain ⟨r, σ1, σ2, e1, e2, e3, e4, e5⟩ := m_alike n (xs (i + 1)) σ h
  refine ⟨σ2, e3, fun rc => ?_⟩
  have j1 : oin (oi (i + 1)) L = true := oiL (by omega) hL
  unfold fL_law_b546
  rw [o1, oi_nat (a := i + 1) (by omega), ogd_t j1, e1, obi_s, ogd_d e4, ogd_t j1, e2, obi_s, ogd_d e5, if_pos rfl]
theorem lw_10 (hL : L ≤ 3072) (hi : i + 6 ≤ L) (hn : n < 600) (h : Inv n σ) : ∃ σ', Inv (n + 1) σ' ∧ ∀ rc : Int32 → OM → Option (Int32 × OM), fL_law_b571 xs L rc (oi i) σ = rc (oi i + 6) σ' := by
  obtain ⟨r, σ1, σ2, e1, e2, e3, e4, e5⟩ := m_implies n (xs (i + 1)) (xs (i + 2)) σ h
  refine ⟨σ2, e3, fun rc => ?_⟩
  have j1 : oin (oi (i + 1)) L = true := oiL (by omega) hL
  have j2 : oin (oi (i + 2)) L = true := oiL (by omega) hL
  unfold fL_law_b571
  rw [o1, o2, oi_nat (a := i + 1) (by omega), oi_nat (a := i + 2) (by omega), ogd_t j1, ogd_t j2, e1, obi_s, ogd_d e4, ogd_t j1, ogd_t j2, e2, obi_s, ogd_d e5, if_pos rfl]
theorem lw_11 (hL : L ≤ 3072) (hi : i + 6 ≤ L) (hn : n < 600) (h : Inv n σ) : ∃ σ', Inv (n + 1) σ' ∧ ∀ rc : Int32 → OM → Option (Int32 × OM), fL_law_b608 xs L rc (oi i) σ = rc (oi i + 6) σ' := by
  obtain ⟨r, σ1, σ2, e1, e2, e3, e4, e5⟩ := m_liars n  σ h
  refine ⟨σ2, e3, fun rc => ?_⟩
  unfold fL_law_b608
  rw [e1, obi_s, ogd_d e4, e2, obi_s, ogd_d e5, if_pos rfl]
theorem lw_12 (hL : L ≤ 3072) (hi : i + 6 ≤ L) (hn : n < 600) (h : Inv n σ) : ∃ σ', Inv (n + 1) σ' ∧ ∀ rc : Int32 → OM → Option (Int32 × OM), fL_law_b621 xs L rc (oi i) σ = rc (oi i + 6) σ' := by
  obtain ⟨r, σ1, σ2, e1, e2, e3, e4, e5⟩ := m_sets n  σ h
  refine ⟨σ2, e3, fun rc => ?_⟩
  unfold fL_law_b621
  rw [e1, obi_s, ogd_d e4, e2, obi_s, ogd_d e5, if_pos rfl]
theorem lw_13 (hL : L ≤ 3072) (hi : i + 6 ≤ L) (hn : n < 600) (h : Inv n σ) : ∃ σ', Inv (n + 1) σ' ∧ ∀ rc : Int32 → OM → Option (Int32 × OM), fL_law_b634 xs L rc (oi i) σ = rc (oi i + 6) σ' := by
  obtain ⟨r, σ1, σ2, e1, e2, e3, e4, e5⟩ := m_lies n (xs (i + 1)) σ h
  refine ⟨σ2, e3, fun rc => ?_⟩
  have j1 : oin (oi (i + 1)) L = true := oiL (by omega) hL
  unfold fL_law_b634
  rw [o1, oi_nat (a := i + 1) (by omega), ogd_t j1, e1, obi_s, ogd_d e4, ogd_t j1, e2, obi_s, ogd_d e5, if_pos rfl]
theorem lw_14 (hL : L ≤ 3072) (hi : i + 6 ≤ L) (hn : n < 600) (h : Inv n σ) : ∃ σ', Inv (n + 1) σ' ∧ ∀ rc : Int32 → OM → Option (Int32 × OM), fL_law_b659 xs L rc (oi i) σ = rc (oi i + 6) σ' := by
  obtain ⟨r, σ1, σ2, e1, e2, e3, e4, e5⟩ := m_kin n (xs (i + 1)) σ h
  refine ⟨σ2, e3, fun rc => ?_⟩
  have j1 : oin (oi (i + 1)) L = true := oiL (by omega) hL
  unfold fL_law_b659
  rw [o1, oi_nat (a := i + 1) (by omega), ogd_t j1, e1, obi_s, ogd_d e4, ogd_t j1, e2, obi_s, ogd_d e5, if_pos rfl]
theorem lw_15 (hL : L ≤ 3072) (hi : i + 6 ≤ L) (hn : n < 600) (h : Inv n σ) : ∃ σ', Inv (n + 1) σ' ∧ ∀ rc : Int32 → OM → Option (Int32 × OM), fL_law_b684 xs L rc (oi i) σ = rc (oi i + 6) σ' := by
  obtain ⟨r, σ1, σ2, e1, e2, e3, e4, e5⟩ := m_left n (xs (i + 1)) σ h
  refine ⟨σ2, e3, fun rc => ?_⟩
  have j1 : oin (oi (i + 1)) L = true := oiL (by omega) hL
  unfold fL_law_b684
  rw [o1, oi_nat (a := i + 1) (by omega), ogd_t j1, e1, obi_s, ogd_d e4, ogd_t j1, e2, obi_s, ogd_d e5, if_pos rfl]
theorem lw_16 (hL : L ≤ 3072) (hi : i + 6 ≤ L) (hn : n < 600) (h : Inv n σ) : ∃ σ', Inv (n + 1) σ' ∧ ∀ rc : Int32 → OM → Option (Int32 × OM), fL_law_b709 xs L rc (oi i) σ = rc (oi i + 6) σ' := by
  obtain ⟨r, σ1, σ2, e1, e2, e3, e4, e5⟩ := m_known n (xs (i + 1)) (xs (i + 2)) σ h
  refine ⟨σ2, e3, fun rc => ?_⟩
  have j1 : oin (oi (i + 1)) L = true := oiL (by omega) hL
  have j2 : oin (oi (i + 2)) L = true := oiL (by omega) hL
  unfold fL_law_b709
  rw [o1, o2, oi_nat (a := i + 1) (by omega), oi_nat (a := i + 2) (by omega), ogd_t j1, ogd_t j2, e1, obi_s, ogd_d e4, ogd_t j1, ogd_t j2, e2, obi_s, ogd_d e5, if_pos rfl]
theorem lw_17 (hL : L ≤ 3072) (hi : i + 6 ≤ L) (hn : n < 600) (h : Inv n σ) : ∃ σ', Inv (n + 1) σ' ∧ ∀ rc : Int32 → OM → Option (Int32 × OM), fL_law_b746 xs L rc (oi i) σ = rc (oi i + 6) σ' := by
  obtain ⟨r, σ1, σ2, e1, e2, e3, e4, e5⟩ := m_fact n (xs (i + 1)) (xs (i + 2)) σ h
  refine ⟨σ2, e3, fun rc => ?_⟩
  have j1 : oin (oi (i + 1)) L = true := oiL (by omega) hL
  have j2 : oin (oi (i + 2)) L = true := oiL (by omega) hL
  unfold fL_law_b746
  rw [o1, o2, oi_nat (a := i + 1) (by omega), oi_nat (a := i + 2) (by omega), ogd_t j1, ogd_t j2, e1, obi_s, ogd_d e4, ogd_t j1, ogd_t j2, e2, obi_s, ogd_d e5, if_pos rfl]
theorem lw_18 (hL : L ≤ 3072) (hi : i + 6 ≤ L) (hn : n < 600) (h : Inv n σ) : ∃ σ', Inv (n + 1) σ' ∧ ∀ rc : Int32 → OM → Option (Int32 × OM), fL_law_b783 xs L rc (oi i) σ = rc (oi i + 6) σ' := by
  obtain ⟨r, σ1, σ2, e1, e2, e3, e4, e5⟩ := m_knownByAll n (xs (i + 1)) σ h
  refine ⟨σ2, e3, fun rc => ?_⟩
  have j1 : oin (oi (i + 1)) L = true := oiL (by omega) hL
  unfold fL_law_b783
  rw [o1, oi_nat (a := i + 1) (by omega), ogd_t j1, e1, obi_s, ogd_d e4, ogd_t j1, e2, obi_s, ogd_d e5, if_pos rfl]
theorem lw_19 (hL : L ≤ 3072) (hi : i + 6 ≤ L) (hn : n < 600) (h : Inv n σ) : ∃ σ', Inv (n + 1) σ' ∧ ∀ rc : Int32 → OM → Option (Int32 × OM), fL_law_b808 xs L rc (oi i) σ = rc (oi i + 6) σ' := by
  obtain ⟨r, σ1, σ2, e1, e2, e3, e4, e5⟩ := m_onlyTogether n  σ h
  refine ⟨σ2, e3, fun rc => ?_⟩
  unfold fL_law_b808
  rw [e1, obi_s, ogd_d e4, e2, obi_s, ogd_d e5, if_pos rfl]
theorem lw_20 (hL : L ≤ 3072) (hi : i + 6 ≤ L) (hn : n < 600) (h : Inv n σ) : ∃ σ', Inv (n + 1) σ' ∧ ∀ rc : Int32 → OM → Option (Int32 × OM), fL_law_b821 xs L rc (oi i) σ = rc (oi i + 6) σ' := by
  obtain ⟨r, σ1, σ2, e1, e2, e3, e4, e5⟩ := m_bestWedding n  σ h
  refine ⟨σ2, e3, fun rc => ?_⟩
  unfold fL_law_b821
  rw [e1, obi_s, ogd_d e4, e2, obi_s, ogd_d e5, if_pos rfl]
theorem lw_21 (hL : L ≤ 3072) (hi : i + 6 ≤ L) (hn : n < 600) (h : Inv n σ) : ∃ σ', Inv (n + 1) σ' ∧ ∀ rc : Int32 → OM → Option (Int32 × OM), fL_law_b834 xs L rc (oi i) σ = rc (oi i + 6) σ' := by
  obtain ⟨r, σ1, σ2, e1, e2, e3, e4, e5⟩ := m_likeliest n (xs (i + 1)) σ h
  refine ⟨σ2, e3, fun rc => ?_⟩
  have j1 : oin (oi (i + 1)) L = true := oiL (by omega) hL
  unfold fL_law_b834
  rw [o1, oi_nat (a := i + 1) (by omega), ogd_t j1, e1, obi_s, ogd_d e4, ogd_t j1, e2, obi_s, ogd_d e5, if_pos rfl]
theorem lw_22 (hL : L ≤ 3072) (hi : i + 6 ≤ L) (hn : n < 600) (h : Inv n σ) : ∃ σ', Inv (n + 1) σ' ∧ ∀ rc : Int32 → OM → Option (Int32 × OM), fL_law_b859 xs L rc (oi i) σ = rc (oi i + 6) σ' := by
  have j1 : oin (oi (i + 1)) L = true := oiL (by omega) hL
  have j2 : oin (oi (i + 2)) L = true := oiL (by omega) hL
  have j3 : oin (oi (i + 3)) L = true := oiL (by omega) hL
  by_cases q : xs (i + 3) = 0
  · obtain ⟨r, σ1, σ2, e1, e2, e3, e4, e5⟩ := m_chanceOf n (xs (i + 1)) (xs (i + 2)) false σ h
    rw [show b2 false = 0 from rfl] at e1 e2
    refine ⟨σ2, e3, fun rc => ?_⟩
    unfold fL_law_b859
    rw [o1, o2, o3, oi_nat (a := i + 1) (by omega), oi_nat (a := i + 2) (by omega), oi_nat (a := i + 3) (by omega), ogd_t j1, ogd_t j2, ogd_t j3, if_pos q, e1, obi_s, ogd_d e4, ogd_t j1, ogd_t j2, ogd_t j3, if_pos q, e2, obi_s, ogd_d e5, if_pos ((cmp_eq _ _).mpr rfl)]
  · obtain ⟨r, σ1, σ2, e1, e2, e3, e4, e5⟩ := m_chanceOf n (xs (i + 1)) (xs (i + 2)) true σ h
    rw [show b2 true = 1 from rfl] at e1 e2
    refine ⟨σ2, e3, fun rc => ?_⟩
    unfold fL_law_b859
    rw [o1, o2, o3, oi_nat (a := i + 1) (by omega), oi_nat (a := i + 2) (by omega), oi_nat (a := i + 3) (by omega), ogd_t j1, ogd_t j2, ogd_t j3, if_neg q, e1, obi_s, ogd_d e4, ogd_t j1, ogd_t j2, ogd_t j3, if_neg q, e2, obi_s, ogd_d e5, if_pos ((cmp_eq _ _).mpr rfl)]
theorem lw_23 (hL : L ≤ 3072) (hi : i + 6 ≤ L) (hn : n < 600) (h : Inv n σ) : ∃ σ', Inv (n + 1) σ' ∧ ∀ rc : Int32 → OM → Option (Int32 × OM), fL_law_b925 xs L rc (oi i) σ = rc (oi i + 6) σ' := by
  have j1 : oin (oi (i + 1)) L = true := oiL (by omega) hL
  have j2 : oin (oi (i + 2)) L = true := oiL (by omega) hL
  have j3 : oin (oi (i + 3)) L = true := oiL (by omega) hL
  by_cases q : xs (i + 3) = 0
  · obtain ⟨r, σ1, σ2, e1, e2, e3, e4, e5⟩ := m_wouldKnow n (xs (i + 1)) (xs (i + 2)) false σ h
    rw [show b2 false = 0 from rfl] at e1 e2
    refine ⟨σ2, e3, fun rc => ?_⟩
    unfold fL_law_b925
    rw [o1, o2, o3, oi_nat (a := i + 1) (by omega), oi_nat (a := i + 2) (by omega), oi_nat (a := i + 3) (by omega), ogd_t j1, ogd_t j2, ogd_t j3, if_pos q, e1, obi_s, ogd_d e4, ogd_t j1, ogd_t j2, ogd_t j3, if_pos q, e2, obi_s, ogd_d e5, if_pos rfl]
  · obtain ⟨r, σ1, σ2, e1, e2, e3, e4, e5⟩ := m_wouldKnow n (xs (i + 1)) (xs (i + 2)) true σ h
    rw [show b2 true = 1 from rfl] at e1 e2
    refine ⟨σ2, e3, fun rc => ?_⟩
    unfold fL_law_b925
    rw [o1, o2, o3, oi_nat (a := i + 1) (by omega), oi_nat (a := i + 2) (by omega), oi_nat (a := i + 3) (by omega), ogd_t j1, ogd_t j2, ogd_t j3, if_neg q, e1, obi_s, ogd_d e4, ogd_t j1, ogd_t j2, ogd_t j3, if_neg q, e2, obi_s, ogd_d e5, if_pos rfl]
theorem lw_24 (hL : L ≤ 3072) (hi : i + 6 ≤ L) (hn : n < 600) (h : Inv n σ) : ∃ σ', Inv (n + 1) σ' ∧ ∀ rc : Int32 → OM → Option (Int32 × OM), fL_law_b990 xs L rc (oi i) σ = rc (oi i + 6) σ' := by
  obtain ⟨r, σ1, σ2, e1, e2, e3, e4, e5⟩ := m_needless n (xs (i + 1)) σ h
  refine ⟨σ2, e3, fun rc => ?_⟩
  have j1 : oin (oi (i + 1)) L = true := oiL (by omega) hL
  unfold fL_law_b990
  rw [o1, oi_nat (a := i + 1) (by omega), ogd_t j1, e1, obi_s, ogd_d e4, ogd_t j1, e2, obi_s, ogd_d e5, if_pos rfl]
theorem lw_25 (hL : L ≤ 3072) (hi : i + 6 ≤ L) (hn : n < 600) (h : Inv n σ) : ∃ σ', Inv (n + 1) σ' ∧ ∀ rc : Int32 → OM → Option (Int32 × OM), fL_law_b1015 xs L rc (oi i) σ = rc (oi i + 6) σ' := by
  obtain ⟨r, σ1, σ2, e1, e2, e3, e4, e5⟩ := m_told n (xs (i + 1)) (xs (i + 2)) σ h
  refine ⟨σ2, e3, fun rc => ?_⟩
  have j1 : oin (oi (i + 1)) L = true := oiL (by omega) hL
  have j2 : oin (oi (i + 2)) L = true := oiL (by omega) hL
  unfold fL_law_b1015
  rw [o1, o2, oi_nat (a := i + 1) (by omega), oi_nat (a := i + 2) (by omega), ogd_t j1, ogd_t j2, e1, obi_s, ogd_d e4, ogd_t j1, ogd_t j2, e2, obi_s, ogd_d e5, if_pos rfl]
theorem lw_26 (hL : L ≤ 3072) (hi : i + 6 ≤ L) (hn : n < 600) (h : Inv n σ) : ∃ σ', Inv (n + 1) σ' ∧ ∀ rc : Int32 → OM → Option (Int32 × OM), fL_law_b1052 xs L rc (oi i) σ = rc (oi i + 6) σ' := by
  obtain ⟨r, σ1, σ2, e1, e2, e3, e4, e5⟩ := m_clashes n  σ h
  refine ⟨σ2, e3, fun rc => ?_⟩
  unfold fL_law_b1052
  rw [e1, obi_s, ogd_d e4, e2, obi_s, ogd_d e5, if_pos rfl]
theorem lw_27 (hL : L ≤ 3072) (hi : i + 6 ≤ L) (hn : n < 600) (h : Inv n σ) : ∃ σ', Inv (n + 1) σ' ∧ ∀ rc : Int32 → OM → Option (Int32 × OM), fL_law_b1065 xs L rc (oi i) σ = rc (oi i + 6) σ' := by
  obtain ⟨r, σ1, σ2, e1, e2, e3, e4, e5⟩ := m_takes n (xs (i + 1)) σ h
  refine ⟨σ2, e3, fun rc => ?_⟩
  have j1 : oin (oi (i + 1)) L = true := oiL (by omega) hL
  unfold fL_law_b1065
  rw [o1, oi_nat (a := i + 1) (by omega), ogd_t j1, e1, obi_s, ogd_d e4, ogd_t j1, e2, obi_s, ogd_d e5, if_pos rfl]
theorem lw_28 (hL : L ≤ 3072) (hi : i + 6 ≤ L) (hn : n < 600) (h : Inv n σ) : ∃ σ', Inv (n + 1) σ' ∧ ∀ rc : Int32 → OM → Option (Int32 × OM), fL_law_b1090 xs L rc (oi i) σ = rc (oi i + 6) σ' := by
  obtain ⟨r, σ1, σ2, e1, e2, e3, e4, e5⟩ := m_graves n (xs (i + 1)) σ h
  refine ⟨σ2, e3, fun rc => ?_⟩
  have j1 : oin (oi (i + 1)) L = true := oiL (by omega) hL
  unfold fL_law_b1090
  rw [o1, oi_nat (a := i + 1) (by omega), ogd_t j1, e1, obi_s, ogd_d e4, ogd_t j1, e2, obi_s, ogd_d e5, if_pos rfl]
theorem lw_29 (hL : L ≤ 3072) (hi : i + 6 ≤ L) (hn : n < 600) (h : Inv n σ) : ∃ σ', Inv (n + 1) σ' ∧ ∀ rc : Int32 → OM → Option (Int32 × OM), fL_law_b1115 xs L rc (oi i) σ = rc (oi i + 6) σ' := by
  obtain ⟨r, σ1, σ2, e1, e2, e3, e4, e5⟩ := m_could n (xs (i + 1)) σ h
  refine ⟨σ2, e3, fun rc => ?_⟩
  have j1 : oin (oi (i + 1)) L = true := oiL (by omega) hL
  unfold fL_law_b1115
  rw [o1, oi_nat (a := i + 1) (by omega), ogd_t j1, e1, obi_s, ogd_d e4, ogd_t j1, e2, obi_s, ogd_d e5, if_pos rfl]
theorem lw_30 (hL : L ≤ 3072) (hi : i + 6 ≤ L) (hn : n < 600) (h : Inv n σ) : ∃ σ', Inv (n + 1) σ' ∧ ∀ rc : Int32 → OM → Option (Int32 × OM), fL_law_b1140 xs L rc (oi i) σ = rc (oi i + 6) σ' := by
  obtain ⟨r, σ1, σ2, e1, e2, e3, e4, e5⟩ := m_surely n (xs (i + 1)) σ h
  refine ⟨σ2, e3, fun rc => ?_⟩
  have j1 : oin (oi (i + 1)) L = true := oiL (by omega) hL
  unfold fL_law_b1140
  rw [o1, oi_nat (a := i + 1) (by omega), ogd_t j1, e1, obi_s, ogd_d e4, ogd_t j1, e2, obi_s, ogd_d e5, if_pos rfl]
theorem lw_31 (hL : L ≤ 3072) (hi : i + 6 ≤ L) (hn : n < 600) (h : Inv n σ) : ∃ σ', Inv (n + 1) σ' ∧ ∀ rc : Int32 → OM → Option (Int32 × OM), fL_law_b1165 xs L rc (oi i) σ = rc (oi i + 6) σ' := by
  obtain ⟨r, σ1, σ2, e1, e2, e3, e4, e5⟩ := m_best n (xs (i + 1)) σ h
  refine ⟨σ2, e3, fun rc => ?_⟩
  have j1 : oin (oi (i + 1)) L = true := oiL (by omega) hL
  unfold fL_law_b1165
  rw [o1, oi_nat (a := i + 1) (by omega), ogd_t j1, e1, obi_s, ogd_d e4, ogd_t j1, e2, obi_s, ogd_d e5, if_pos rfl]
theorem lw_32 (hL : L ≤ 3072) (hi : i + 6 ≤ L) (hn : n < 600) (h : Inv n σ) : ∃ σ', Inv (n + 1) σ' ∧ ∀ rc : Int32 → OM → Option (Int32 × OM), fL_law_b1190 xs L rc (oi i) σ = rc (oi i + 6) σ' := by
  obtain ⟨r, σ1, σ2, e1, e2, e3, e4, e5⟩ := m_bestLeft n (xs (i + 1)) σ h
  refine ⟨σ2, e3, fun rc => ?_⟩
  have j1 : oin (oi (i + 1)) L = true := oiL (by omega) hL
  unfold fL_law_b1190
  rw [o1, oi_nat (a := i + 1) (by omega), ogd_t j1, e1, obi_s, ogd_d e4, ogd_t j1, e2, obi_s, ogd_d e5, if_pos rfl]
theorem lw_33 (hL : L ≤ 3072) (hi : i + 6 ≤ L) (hn : n < 600) (h : Inv n σ) : ∃ σ', Inv (n + 1) σ' ∧ ∀ rc : Int32 → OM → Option (Int32 × OM), fL_law_b1215 xs L rc (oi i) σ = rc (oi i + 6) σ' := by
  have j1 : oin (oi (i + 1)) L = true := oiL (by omega) hL
  have j2 : oin (oi (i + 2)) L = true := oiL (by omega) hL
  have j3 : oin (oi (i + 3)) L = true := oiL (by omega) hL
  by_cases q : xs (i + 3) = 0
  · obtain ⟨r, σ1, σ2, e1, e2, e3, e4, e5⟩ := m_leftMean n (xs (i + 1)) (xs (i + 2)) false σ h
    rw [show b2 false = 0 from rfl] at e1 e2
    refine ⟨σ2, e3, fun rc => ?_⟩
    unfold fL_law_b1215
    rw [o1, o2, o3, oi_nat (a := i + 1) (by omega), oi_nat (a := i + 2) (by omega), oi_nat (a := i + 3) (by omega), ogd_t j1, ogd_t j2, ogd_t j3, if_pos q, e1, obi_s, ogd_d e4, ogd_t j1, ogd_t j2, ogd_t j3, if_pos q, e2, obi_s, ogd_d e5, if_pos ((cmp_eq _ _).mpr rfl)]
  · obtain ⟨r, σ1, σ2, e1, e2, e3, e4, e5⟩ := m_leftMean n (xs (i + 1)) (xs (i + 2)) true σ h
    rw [show b2 true = 1 from rfl] at e1 e2
    refine ⟨σ2, e3, fun rc => ?_⟩
    unfold fL_law_b1215
    rw [o1, o2, o3, oi_nat (a := i + 1) (by omega), oi_nat (a := i + 2) (by omega), oi_nat (a := i + 3) (by omega), ogd_t j1, ogd_t j2, ogd_t j3, if_neg q, e1, obi_s, ogd_d e4, ogd_t j1, ogd_t j2, ogd_t j3, if_neg q, e2, obi_s, ogd_d e5, if_pos ((cmp_eq _ _).mpr rfl)]
theorem lw_34 (hL : L ≤ 3072) (hi : i + 6 ≤ L) (hn : n < 600) (h : Inv n σ) : ∃ σ', Inv (n + 1) σ' ∧ ∀ rc : Int32 → OM → Option (Int32 × OM), fL_law_b1281 xs L rc (oi i) σ = rc (oi i + 6) σ' := by
  obtain ⟨r, σ1, σ2, e1, e2, e3, e4, e5⟩ := m_tells n  σ h
  refine ⟨σ2, e3, fun rc => ?_⟩
  unfold fL_law_b1281
  rw [e1, obi_s, ogd_d e4, e2, obi_s, ogd_d e5, if_pos rfl]
theorem lw_35 (hL : L ≤ 3072) (hi : i + 6 ≤ L) (hn : n < 600) (h : Inv n σ) : ∃ σ', Inv (n + 1) σ' ∧ ∀ rc : Int32 → OM → Option (Int32 × OM), fL_law_b1294 xs L rc (oi i) σ = rc (oi i + 6) σ' := by
  obtain ⟨r, σ1, σ2, e1, e2, e3, e4, e5⟩ := m_fewest n (by omega) (xs (i + 1)) (xs (i + 2)) σ h
  refine ⟨σ2, e3, fun rc => ?_⟩
  have j1 : oin (oi (i + 1)) L = true := oiL (by omega) hL
  have j2 : oin (oi (i + 2)) L = true := oiL (by omega) hL
  unfold fL_law_b1294
  rw [o1, o2, oi_nat (a := i + 1) (by omega), oi_nat (a := i + 2) (by omega), ogd_t j1, ogd_t j2, e1, obi_s, ogd_d e4, ogd_t j1, ogd_t j2, e2, obi_s, ogd_d e5, if_pos rfl]
theorem lw_36 (hL : L ≤ 3072) (hi : i + 6 ≤ L) (hn : n < 600) (h : Inv n σ) : ∃ σ', Inv (n + 1) σ' ∧ ∀ rc : Int32 → OM → Option (Int32 × OM), fL_law_b1331 xs L rc (oi i) σ = rc (oi i + 6) σ' := by
  obtain ⟨r, σ1, σ2, e1, e2, e3, e4, e5⟩ := m_first n (by omega) (xs (i + 1)) (xs (i + 2)) σ h
  refine ⟨σ2, e3, fun rc => ?_⟩
  have j1 : oin (oi (i + 1)) L = true := oiL (by omega) hL
  have j2 : oin (oi (i + 2)) L = true := oiL (by omega) hL
  unfold fL_law_b1331
  rw [o1, o2, oi_nat (a := i + 1) (by omega), oi_nat (a := i + 2) (by omega), ogd_t j1, ogd_t j2, e1, obi_s, ogd_d e4, ogd_t j1, ogd_t j2, e2, obi_s, ogd_d e5, if_pos rfl]
theorem lw_37 (hL : L ≤ 3072) (hi : i + 6 ≤ L) (hn : n < 600) (h : Inv n σ) : ∃ σ', Inv (n + 1) σ' ∧ ∀ rc : Int32 → OM → Option (Int32 × OM), fL_law_b1368 xs L rc (oi i) σ = rc (oi i + 6) σ' := by
  have j1 : oin (oi (i + 1)) L = true := oiL (by omega) hL
  have j2 : oin (oi (i + 2)) L = true := oiL (by omega) hL
  have j3 : oin (oi (i + 3)) L = true := oiL (by omega) hL
  by_cases q : xs (i + 3) = 0
  · obtain ⟨r, σ1, σ2, e1, e2, e3, e4, e5⟩ := m_mean n (by omega) (xs (i + 1)) (xs (i + 2)) false σ h
    rw [show b2 false = 0 from rfl] at e1 e2
    refine ⟨σ2, e3, fun rc => ?_⟩
    unfold fL_law_b1368
    rw [o1, o2, o3, oi_nat (a := i + 1) (by omega), oi_nat (a := i + 2) (by omega), oi_nat (a := i + 3) (by omega), ogd_t j1, ogd_t j2, ogd_t j3, if_pos q, e1, obi_s, ogd_d e4, ogd_t j1, ogd_t j2, ogd_t j3, if_pos q, e2, obi_s, ogd_d e5, if_pos ((cmp_eq _ _).mpr rfl)]
  · obtain ⟨r, σ1, σ2, e1, e2, e3, e4, e5⟩ := m_mean n (by omega) (xs (i + 1)) (xs (i + 2)) true σ h
    rw [show b2 true = 1 from rfl] at e1 e2
    refine ⟨σ2, e3, fun rc => ?_⟩
    unfold fL_law_b1368
    rw [o1, o2, o3, oi_nat (a := i + 1) (by omega), oi_nat (a := i + 2) (by omega), oi_nat (a := i + 3) (by omega), ogd_t j1, ogd_t j2, ogd_t j3, if_neg q, e1, obi_s, ogd_d e4, ogd_t j1, ogd_t j2, ogd_t j3, if_neg q, e2, obi_s, ogd_d e5, if_pos ((cmp_eq _ _).mpr rfl)]
theorem lw_38 (hL : L ≤ 3072) (hi : i + 6 ≤ L) (hn : n < 600) (h : Inv n σ) : ∃ σ', Inv (n + 1) σ' ∧ ∀ rc : Int32 → OM → Option (Int32 × OM), fL_law_b1434 xs L rc (oi i) σ = rc (oi i + 6) σ' := by
  obtain ⟨r, σ1, σ2, e1, e2, e3, e4, e5⟩ := m_asking n (xs (i + 1)) (xs (i + 2)) σ h
  refine ⟨σ2, e3, fun rc => ?_⟩
  have j1 : oin (oi (i + 1)) L = true := oiL (by omega) hL
  have j2 : oin (oi (i + 2)) L = true := oiL (by omega) hL
  unfold fL_law_b1434
  rw [o1, o2, oi_nat (a := i + 1) (by omega), oi_nat (a := i + 2) (by omega), ogd_t j1, ogd_t j2, e1, obi_s, ogd_d e4, ogd_t j1, ogd_t j2, e2, obi_s, ogd_d e5, if_pos rfl]
theorem lw_39 (hL : L ≤ 3072) (hi : i + 6 ≤ L) (hn : n < 600) (h : Inv n σ) : ∃ σ', Inv (n + 1) σ' ∧ ∀ rc : Int32 → OM → Option (Int32 × OM), fL_law_b1471 xs L rc (oi i) σ = rc (oi i + 6) σ' := by
  obtain ⟨r, σ1, σ2, e1, e2, e3, e4, e5⟩ := m_next n (xs (i + 1)) σ h
  refine ⟨σ2, e3, fun rc => ?_⟩
  have j1 : oin (oi (i + 1)) L = true := oiL (by omega) hL
  unfold fL_law_b1471
  rw [o1, oi_nat (a := i + 1) (by omega), ogd_t j1, e1, obi_s, ogd_d e4, ogd_t j1, e2, obi_s, ogd_d e5, if_pos rfl]
theorem lw_40 (hL : L ≤ 3072) (hi : i + 6 ≤ L) (hn : n < 600) (h : Inv n σ) : ∃ σ', Inv (n + 1) σ' ∧ ∀ rc : Int32 → OM → Option (Int32 × OM), fL_law_b1496 xs L rc (oi i) σ = rc (oi i + 6) σ' := by
  obtain ⟨r, σ1, σ2, e1, e2, e3, e4, e5⟩ := m_turnOf n (xs (i + 1)) σ h
  refine ⟨σ2, e3, fun rc => ?_⟩
  have j1 : oin (oi (i + 1)) L = true := oiL (by omega) hL
  unfold fL_law_b1496
  rw [o1, oi_nat (a := i + 1) (by omega), ogd_t j1, e1, obi_s, ogd_d e4, ogd_t j1, e2, obi_s, ogd_d e5, if_pos rfl]
theorem lw_41 (hL : L ≤ 3072) (hi : i + 6 ≤ L) (hn : n < 600) (h : Inv n σ) : ∃ σ', Inv (n + 1) σ' ∧ ∀ rc : Int32 → OM → Option (Int32 × OM), fL_law_b1521 xs L rc (oi i) σ = rc (oi i + 6) σ' := by
  obtain ⟨r, σ1, σ2, e1, e2, e3, e4, e5⟩ := m_turnsTo n (xs (i + 1)) σ h
  refine ⟨σ2, e3, fun rc => ?_⟩
  have j1 : oin (oi (i + 1)) L = true := oiL (by omega) hL
  unfold fL_law_b1521
  rw [o1, oi_nat (a := i + 1) (by omega), ogd_t j1, e1, obi_s, ogd_d e4, ogd_t j1, e2, obi_s, ogd_d e5, if_pos rfl]
theorem lw_42 (hL : L ≤ 3072) (hi : i + 6 ≤ L) (hn : n < 600) (h : Inv n σ) : ∃ σ', Inv (n + 1) σ' ∧ ∀ rc : Int32 → OM → Option (Int32 × OM), fL_law_b1546 xs L rc (oi i) σ = rc (oi i + 6) σ' := by
  obtain ⟨r, σ1, σ2, e1, e2, e3, e4, e5⟩ := m_births n (xs (i + 1)) (xs (i + 2)) (xs (i + 3)) σ h
  refine ⟨σ2, e3, fun rc => ?_⟩
  have j1 : oin (oi (i + 1)) L = true := oiL (by omega) hL
  have j2 : oin (oi (i + 2)) L = true := oiL (by omega) hL
  have j3 : oin (oi (i + 3)) L = true := oiL (by omega) hL
  unfold fL_law_b1546
  rw [o1, o2, o3, oi_nat (a := i + 1) (by omega), oi_nat (a := i + 2) (by omega), oi_nat (a := i + 3) (by omega), ogd_t j1, ogd_t j2, ogd_t j3, e1, obi_s, ogd_d e4, ogd_t j1, ogd_t j2, ogd_t j3, e2, obi_s, ogd_d e5, if_pos rfl]
theorem lw_43 (hL : L ≤ 3072) (hi : i + 6 ≤ L) (hn : n < 600) (h : Inv n σ) : ∃ σ', Inv (n + 1) σ' ∧ ∀ rc : Int32 → OM → Option (Int32 × OM), fL_law_b1595 xs L rc (oi i) σ = rc (oi i + 6) σ' := by
  obtain ⟨r, σ1, σ2, e1, e2, e3, e4, e5⟩ := m_ask n (xs (i + 1)) (xs (i + 2)) σ h
  refine ⟨σ2, e3, fun rc => ?_⟩
  have j1 : oin (oi (i + 1)) L = true := oiL (by omega) hL
  have j2 : oin (oi (i + 2)) L = true := oiL (by omega) hL
  unfold fL_law_b1595
  rw [o1, o2, oi_nat (a := i + 1) (by omega), oi_nat (a := i + 2) (by omega), ogd_t j1, ogd_t j2, e1, obi_s, ogd_d e4, ogd_t j1, ogd_t j2, e2, obi_s, ogd_d e5, if_pos rfl]
theorem lw_44 (hL : L ≤ 3072) (hi : i + 6 ≤ L) (hn : n < 600) (h : Inv n σ) : ∃ σ', Inv (n + 1) σ' ∧ ∀ rc : Int32 → OM → Option (Int32 × OM), fL_law_b1632 xs L rc (oi i) σ = rc (oi i + 6) σ' := by
  obtain ⟨r, σ1, σ2, e1, e2, e3, e4, e5⟩ := m_lie n (xs (i + 1)) (xs (i + 2)) σ h
  refine ⟨σ2, e3, fun rc => ?_⟩
  have j1 : oin (oi (i + 1)) L = true := oiL (by omega) hL
  have j2 : oin (oi (i + 2)) L = true := oiL (by omega) hL
  unfold fL_law_b1632
  rw [o1, o2, oi_nat (a := i + 1) (by omega), oi_nat (a := i + 2) (by omega), ogd_t j1, ogd_t j2, e1, obi_s, ogd_d e4, ogd_t j1, ogd_t j2, e2, obi_s, ogd_d e5, if_pos rfl]
theorem lw_45 (hL : L ≤ 3072) (hi : i + 6 ≤ L) (hn : n < 600) (h : Inv n σ) : ∃ σ', Inv (n + 1) σ' ∧ ∀ rc : Int32 → OM → Option (Int32 × OM), fL_law_b1669 xs L rc (oi i) σ = rc (oi i + 6) σ' := by
  obtain ⟨r, σ1, σ2, e1, e2, e3, e4, e5⟩ := m_wed n (xs (i + 1)) (xs (i + 2)) σ h
  refine ⟨σ2, e3, fun rc => ?_⟩
  have j1 : oin (oi (i + 1)) L = true := oiL (by omega) hL
  have j2 : oin (oi (i + 2)) L = true := oiL (by omega) hL
  unfold fL_law_b1669
  rw [o1, o2, oi_nat (a := i + 1) (by omega), oi_nat (a := i + 2) (by omega), ogd_t j1, ogd_t j2, e1, obi_s, ogd_d e4, ogd_t j1, ogd_t j2, e2, obi_s, ogd_d e5, if_pos rfl]
theorem lw_46 (hL : L ≤ 3072) (hi : i + 6 ≤ L) (hn : n < 600) (h : Inv n σ) : ∃ σ', Inv (n + 1) σ' ∧ ∀ rc : Int32 → OM → Option (Int32 × OM), fL_law_b1706 xs L rc (oi i) σ = rc (oi i + 6) σ' := by
  obtain ⟨r, σ1, σ2, e1, e2, e3, e4, e5⟩ := m_years n (xs (i + 1)) σ h
  refine ⟨σ2, e3, fun rc => ?_⟩
  have j1 : oin (oi (i + 1)) L = true := oiL (by omega) hL
  unfold fL_law_b1706
  rw [o1, oi_nat (a := i + 1) (by omega), ogd_t j1, e1, obi_s, ogd_d e4, ogd_t j1, e2, obi_s, ogd_d e5, if_pos rfl]
theorem lw_47 (hL : L ≤ 3072) (hi : i + 6 ≤ L) (hn : n < 600) (h : Inv n σ) : ∃ σ', Inv (n + 1) σ' ∧ ∀ rc : Int32 → OM → Option (Int32 × OM), fL_law_b1731 xs L rc (oi i) σ = rc (oi i + 6) σ' := by
  obtain ⟨r, σ1, σ2, e1, e2, e3, e4, e5⟩ := m_undo n  σ h
  refine ⟨σ2, e3, fun rc => ?_⟩
  unfold fL_law_b1731
  rw [e1, obi_s, ogd_d e4, e2, obi_s, ogd_d e5, if_pos rfl]
theorem lw_48 (hL : L ≤ 3072) (hi : i + 6 ≤ L) (hn : n < 600) (h : Inv n σ) : ∃ σ', Inv (n + 1) σ' ∧ ∀ rc : Int32 → OM → Option (Int32 × OM), fL_law_b1744 xs L rc (oi i) σ = rc (oi i + 6) σ' := by
  obtain ⟨r, σ1, σ2, e1, e2, e3, e4, e5⟩ := m_image n  σ h
  refine ⟨σ2, e3, fun rc => ?_⟩
  unfold fL_law_b1744
  rw [e1, obi_s, ogd_d e4, e2, obi_s, ogd_d e5, if_pos rfl]
theorem lw_49 (hL : L ≤ 3072) (hi : i + 6 ≤ L) (hn : n < 600) (h : Inv n σ) : ∃ σ', Inv (n + 1) σ' ∧ ∀ rc : Int32 → OM → Option (Int32 × OM), fL_law_b1757 xs L rc (oi i) σ = rc (oi i + 6) σ' := by
  obtain ⟨r, σ1, σ2, e1, e2, e3, e4, e5⟩ := m_back n (xs (i + 1)) σ h
  refine ⟨σ2, e3, fun rc => ?_⟩
  have j1 : oin (oi (i + 1)) L = true := oiL (by omega) hL
  unfold fL_law_b1757
  rw [o1, oi_nat (a := i + 1) (by omega), ogd_t j1, e1, obi_s, ogd_d e4, ogd_t j1, e2, obi_s, ogd_d e5, if_pos rfl]
theorem lw_50 (hL : L ≤ 3072) (hi : i + 6 ≤ L) (hn : n < 600) (h : Inv n σ) : ∃ σ', Inv (n + 1) σ' ∧ ∀ rc : Int32 → OM → Option (Int32 × OM), fL_law_b1782 xs L rc (oi i) σ = rc (oi i + 6) σ' := by
  obtain ⟨r2, r6, σ3, σ7, e1, e2, e3, e4, e5, e6, e7⟩ := m_led hn (xs (i + 1)) h
  refine ⟨σ7, e7, fun rc => ?_⟩
  have j1 : oin (oi (i + 1)) L = true := oiL (by omega) hL
  unfold fL_law_b1782 fX10_thrown
  rw [o1, oi_nat (a := i + 1) (by omega), ogd_t j1, e1, obi_s, ogd_t j1, e2, obi_s, ogd_d e3, obi_s, ogd_d rfl, e4, if_pos rfl]
  by_cases q : r2 = 0
  · rw [if_pos q, if_pos ((cmp_eq _ _).mpr (e5 q))]
  · rw [if_neg q]
theorem lw_51 (hL : L ≤ 3072) (hi : i + 6 ≤ L) (hn : n < 600) (h : Inv n σ) : ∃ σ', Inv (n + 1) σ' ∧ ∀ rc : Int32 → OM → Option (Int32 × OM), fL_law_b1838 xs L rc (oi i) σ = rc (oi i + 6) σ' := by
  obtain ⟨r, σ1, σ2, e1, e2, e3, e4, e5⟩ := m_size n (xs (i + 1)) σ h
  refine ⟨σ2, e3, fun rc => ?_⟩
  have j1 : oin (oi (i + 1)) L = true := oiL (by omega) hL
  unfold fL_law_b1838
  rw [o1, oi_nat (a := i + 1) (by omega), ogd_t j1, e1, obi_s, ogd_d e4, ogd_t j1, e2, obi_s, ogd_d e5, if_pos rfl]
theorem lw_52 (hL : L ≤ 3072) (hi : i + 6 ≤ L) (hn : n < 600) (h : Inv n σ) : ∃ σ', Inv (n + 1) σ' ∧ ∀ rc : Int32 → OM → Option (Int32 × OM), fL_law_b1863 xs L rc (oi i) σ = rc (oi i + 6) σ' := by
  obtain ⟨r, σ1, σ2, e1, e2, e3, e4, e5⟩ := m_trouble n  σ h
  refine ⟨σ2, e3, fun rc => ?_⟩
  unfold fL_law_b1863
  rw [e1, obi_s, ogd_d e4, e2, obi_s, ogd_d e5, if_pos rfl]
end
