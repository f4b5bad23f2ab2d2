/-! well -/
theorem okW_sym {w w' : Nat} (h : okW w w') : okW w' w := by unfold okW at h ⊢; omega
def wnP (w : Nat) : Nat → Nat → Prop := fun a j => (w ≤ a ∧ a ≤ w + 20) ∨ (a = 0 ∧ (j = 7 ∨ j = 8)) ∨ (a = 81 ∧ (j = 14 ∨ j = 22 ∨ j = 23)) ∨ a = 84 ∨ (61 ≤ a ∧ a ≤ 80) ∨ a = 88 ∨ a = 89 ∨ a = 90
theorem WN_fr {σ σ2 : OM} {w : Nat} (hw : w = 1 ∨ w = 22) {P : Nat → Nat → Prop} {Q : Nat → Prop} (hf : Fr P Q σ σ2) (hP : ∀ a j, P a j → ¬ wnP w a j) (hQ : ∀ a, Q a → a ≠ 86 ∧ ¬ (w ≤ a ∧ a ≤ w + 20)) (h : WI σ w ∨ NW σ w) : WI σ2 w ∨ NW σ2 w := by
  have hI : ∀ a j, wnP w a j → mI σ2 a j = mI σ a j := fun a j q => hf.1 a j (fun p => hP a j p q)
  have hL : ∀ j, mL σ2 86 j = mL σ 86 j := fun j => hf.2.1 86 j (fun p => (hQ 86 p).1 rfl)
  rcases h with hW | hN
  · left
    obtain ⟨w1, w2, w3, w4, w5'⟩ := hW
    have h88 : mI σ2 88 = mI σ 88 := funext fun j => hI 88 j (by unfold wnP; omega)
    unfold WI
    rw [show mI σ2 84 = mI σ 84 from funext fun j => hI 84 j (by unfold wnP; omega), show mL σ2 86 = mL σ 86 from funext hL, h88]
    refine ⟨?_, ?_, ⟨CX_fr hf (fun a j q g => hP a j q (by unfold wnP; omega)) (fun a q => by have := hQ a q; omega) w3.1, CM_congr (fun j => hI _ _ (by unfold wnP; omega)) w3.2⟩, ?_, ?_⟩
    · rw [hI _ _ (by unfold wnP; omega)]; exact w1
    · rw [hI _ _ (by unfold wnP; omega)]; exact w2
    · obtain ⟨c, u1, u2, u3, u4, u5⟩ := w4
      have hu : ∀ k, uRow σ2 c k = uRow σ c k := fun k => by
        unfold uRow
        rw [h88]
        split
        · exact funext fun j => hI 89 _ (by unfold wnP; omega)
        · rfl
      refine ⟨c, u1, ?_, ?_, fun k hk' => ?_, fun k hk' => ?_⟩
      · rw [hI _ _ (by unfold wnP; omega)]; exact u2
      · rw [hI _ _ (by unfold wnP; omega)]; exact u3
      · rw [hu]; exact u4 k hk'
      · rw [hu, hu, hI _ _ (by unfold wnP; omega), hI _ _ (by unfold wnP; omega), hI _ _ (by unfold wnP; omega)]; exact u5 k hk'
    · obtain ⟨m, m1, m2, m3, m4⟩ := w5'
      refine ⟨m, m1, ?_, ?_, fun i hi' => ?_⟩
      · rw [hI _ _ (by unfold wnP; omega)]; exact m2
      · rw [hI _ _ (by unfold wnP; omega)]; exact m3
      · rw [show kRow σ2 i = kRow σ i from funext fun j => hI 90 _ (by unfold wnP; omega)]
        exact ⟨(m4 i hi').1, CT_congr (fun a j q => hI a j (by unfold wnP; omega)) (m4 i hi').2⟩
  · right
    obtain ⟨⟨a1, a2, a3, a4, a5, a6⟩, b1, b2', b3, b4, b5, b6, b7, b8, b9, b10⟩ := hN
    refine ⟨⟨?_, ?_, ?_, ?_, ?_, ?_⟩, ?_, ?_, ?_, ?_, ?_, ?_, ?_, ?_, ?_, ?_⟩
    · rw [hI _ _ (by unfold wnP; omega)]; exact a1
    · rw [hI _ _ (by unfold wnP; omega)]; exact a2
    · rw [hI _ _ (by unfold wnP; omega)]; exact a3
    · rw [hI _ _ (by unfold wnP; omega)]; exact a4
    · rw [hI _ _ (by unfold wnP; omega)]; exact a5
    · rw [hI _ _ (by unfold wnP; omega)]; exact a6
    · rw [hI _ _ (by unfold wnP; omega)]; exact b1
    · rw [hI _ _ (by unfold wnP; omega)]; exact b2'
    · rw [hI _ _ (by unfold wnP; omega)]; exact b3
    · rw [hI _ _ (by unfold wnP; omega)]; exact b4
    · rw [hI _ _ (by unfold wnP; omega)]; exact b5
    · rw [hI _ _ (by unfold wnP; omega)]; exact b6
    · rw [hI _ _ (by unfold wnP; omega)]; exact b7
    · rw [hI _ _ (by unfold wnP; omega)]; exact b8
    · rw [hI _ _ (by unfold wnP; omega)]; exact b9
    · rw [hI _ _ (by unfold wnP; omega)]; exact b10
/-- what the reference does before it reads -/
def zpre (σ : OM) : OM := sI (sI (sI (gd σ) 81 2 0) 81 9 0) 81 13 0
theorem zpre_fr (σ : OM) : Fr (fun a j => a = 81 ∧ (j = 0 ∨ j = 2 ∨ j = 9 ∨ j = 11 ∨ j = 13)) noL σ (zpre σ) := fr_I (fr_I (fr_I (fr_I (fr_I (fr_rfl _ _ _) ⟨rfl, by omega⟩) ⟨rfl, by omega⟩) ⟨rfl, by omega⟩) ⟨rfl, by omega⟩) ⟨rfl, by omega⟩
theorem zpre_v (σ : OM) : mI (zpre σ) 81 2 = 0 ∧ mI (zpre σ) 81 9 = 0 ∧ mI (zpre σ) 81 13 = 0 ∧ mI (zpre σ) 81 11 = 0 := by
  unfold zpre gd
  refine ⟨?_, ?_, mI_at, ?_⟩
  · rw [mI_sI, if_neg (by omega), mI_sI, if_neg (by omega), mI_at]
  · rw [mI_sI, if_neg (by omega), mI_at]
  · rw [mI_sI, if_neg (by omega), mI_sI, if_neg (by omega), mI_sI, if_neg (by omega), mI_at]
theorem wr_go {σ : OM} {L T : Nat} (hT : T ≤ 900) (hL : L ≤ T) (h2 : mI σ 81 2 = oi T) : fX10_well (oi L) σ = fX10_well_b39 oF (oi L) 0 (zpre σ) := by
  unfold fX10_well fX10_good fX10_in
  rw [obv_s]
  have e : mI (sI (sI σ 81 0 0) 81 11 0) 81 2 = oi T := by rw [mI_sI, if_neg (by omega), mI_sI, if_neg (by omega)]; exact h2
  rw [e, if_neg (oi_nneg (by omega)), if_neg (show ¬ oi T < oi L from fun q => absurd ((oi_lt (by omega) (by omega)).mp q) (by omega)), obi_s, if_neg (show ¬ (1 : Int32) = 0 by decide)]
  rfl
theorem wr_no {σ : OM} {x : Int32} (h : x < 0 ∨ mI σ 81 2 < x) : fX10_well x σ = some (-1, ft 2 (gd σ)) := by
  unfold fX10_well fX10_good fX10_in
  rw [obv_s]
  have e : mI (sI (sI σ 81 0 0) 81 11 0) 81 2 = mI σ 81 2 := by rw [mI_sI, if_neg (by omega), mI_sI, if_neg (by omega)]
  rw [e]
  have hn : ft 2 (gd σ) = sI (gd σ) 81 11 2 := by unfold ft; rw [if_neg (by decide)]
  rw [hn]
  by_cases e0 : x < 0
  · rw [if_pos e0, obi_s, if_pos rfl]; rfl
  · rw [if_neg e0, if_pos (h.resolve_left e0), obi_s, if_pos rfl]; rfl
def zaf (σ6 : OM) : OM := sI (sI (sI σ6 43 1 0) 0 10 (mI σ6 48 2)) 0 11 (mI σ6 48 3)
theorem wc_go {σ σ6 : OM} {L T : Nat} (hT : T ≤ 900) (hL : L ≤ T) (h2 : mI σ 43 1 = oi T) (hk : okd (mR σ 0 1) = 8) (h : fX5_read (mR σ 0 1) (oi L) σ = some σ6) (hk0 : okd (mR σ6 0 0) = 8) (hk1 : okd (mR σ6 0 1) = 8) : fX9_well (oi L) σ = if mI σ6 48 2 = 0 then some (mI σ6 (mR σ6 0 1) 4, sI (sI (sI (sI (sR (sR (zaf σ6) 0 0 (mR σ6 0 1)) 0 1 (mR σ6 0 0)) 0 7 1) 0 8 0) 61 3 0) 0 9 0) else some (-1, sI (zaf σ6) 0 9 4) := by
  unfold fX9_well
  rw [if_neg (oi_nneg (by omega)), h2, if_pos ((oi_le (by omega) (by omega)).mpr hL), ogd_d hk, h, obv_s]
  have e1 : mI (sI σ6 43 1 0) 48 2 = mI σ6 48 2 := by rw [mI_sI, if_neg (by omega)]
  rw [e1]
  have e2 : mI (sI (sI σ6 43 1 0) 0 10 (mI σ6 48 2)) 48 3 = mI σ6 48 3 := by rw [mI_sI, if_neg (by omega), mI_sI, if_neg (by omega)]
  rw [e2]
  have e3 : mI (sI (sI (sI σ6 43 1 0) 0 10 (mI σ6 48 2)) 0 11 (mI σ6 48 3)) 0 10 = mI σ6 48 2 := by rw [mI_sI, if_neg (by omega), mI_at]
  rw [e3]
  by_cases e : mI σ6 48 2 = 0
  · rw [if_pos e, if_pos e]
    have r0 : mR (sI (sI (sI σ6 43 1 0) 0 10 (mI σ6 48 2)) 0 11 (mI σ6 48 3)) = mR σ6 := rfl
    rw [r0, ogd_d hk0, ogd_d hk1]
    unfold fX0_clear fX9_answer
    rw [obv_s]
    show ogd (decide (okd (mR (sI (sI (sI (sR (sR (zaf σ6) 0 0 (mR σ6 0 1)) 0 1 (mR σ6 0 0)) 0 7 1) 0 8 0) 61 3 0) 0 0) = 8)) (obi (some (mI (sI (sI (sI (sR (sR (zaf σ6) 0 0 (mR σ6 0 1)) 0 1 (mR σ6 0 0)) 0 7 1) 0 8 0) 61 3 0) (mR (sI (sI (sI (sR (sR (zaf σ6) 0 0 (mR σ6 0 1)) 0 1 (mR σ6 0 0)) 0 7 1) 0 8 0) 61 3 0) 0 0) 4, sI (sI (sI (sI (sR (sR (zaf σ6) 0 0 (mR σ6 0 1)) 0 1 (mR σ6 0 0)) 0 7 1) 0 8 0) 61 3 0) 0 9 0)) (fun r14 σ15 => some (r14, σ15))) = _
    have r1 : mR (sI (sI (sI (sR (sR (zaf σ6) 0 0 (mR σ6 0 1)) 0 1 (mR σ6 0 0)) 0 7 1) 0 8 0) 61 3 0) 0 0 = mR σ6 0 1 := by
      show mR (sR (sR (zaf σ6) 0 0 (mR σ6 0 1)) 0 1 (mR σ6 0 0)) 0 0 = _
      rw [mR_sR, if_neg (by decide), mR_sR, if_pos (by decide)]
    rw [r1, ogd_d hk1, obi_s]
    have r2 : mI (sI (sI (sI (sR (sR (zaf σ6) 0 0 (mR σ6 0 1)) 0 1 (mR σ6 0 0)) 0 7 1) 0 8 0) 61 3 0) (mR σ6 0 1) 4 = mI σ6 (mR σ6 0 1) 4 := by
      rw [mI_sI, if_neg (by omega), mI_sI, if_neg (by omega), mI_sI, if_neg (by omega), mI_sR, mI_sR]
      unfold zaf
      rw [mI_sI, if_neg (by omega), mI_sI, if_neg (by omega), mI_sI, if_neg (by omega)]
    rw [r2]
  · rw [if_neg e, if_neg e]; rfl
theorem m_well (n : Nat) (x : Int32) : okC n (fX9_well x) (fX10_well x) := by
  intro σ hi
  have hi0 := hi
  obtain ⟨⟨c1, ⟨T, t1, t2, t3, t4⟩, c3, c4⟩, ⟨p, p1, p2, p3⟩, ⟨r1, r2⟩, hD⟩ := hi
  have hno : x < 0 ∨ oi T < x → ∃ r σ1 σ2, fX9_well x σ = some (r, σ1) ∧ fX10_well x σ1 = some (r, σ2) ∧ Inv (n + 1) σ2 ∧ mR σ1 96 0 = mR σ 96 0 ∧ mR σ2 96 0 = mR σ1 96 0 := fun h => by
    refine refd hi0 2 (-1) (by decide) ?_ ?_
    · unfold fX9_well fX9_refuse
      by_cases e : x < 0
      · rw [if_pos e, obi_s]
      · rw [if_neg e, t2, if_neg (fun q => by have h2 := h.resolve_left e; rw [Int32.lt_iff_toInt_lt] at h2; rw [Int32.le_iff_toInt_le] at q; omega), obi_s]
    · refine wr_no ?_
      rw [mI_sI, if_neg (by omega), t3]; exact h
  rcases oi_cases x with hx | ⟨L, hL, rfl⟩
  · exact hno (Or.inl hx)
  by_cases hLT : L ≤ T
  · clear hno
    generalize hw0 : mR σ 0 0 = w at c1 c4
    generalize hw1 : mR σ 0 1 = w' at c1
    have hw := okW_lt c1
    have hw' := okW_lt (okW_sym c1)
    have hkw := okW_kd c1
    have hkw' := okW_kd (okW_sym c1)
    have hne : (w = 1 ∧ w' = 22) ∨ (w = 22 ∧ w' = 1) := c1
    have hb : ∀ j, j < T → nn (mI σ 82 j) < 256 ∧ mI σ 44 j = sgb (nn (mI σ 82 j)) := fun j hj => by
      obtain ⟨b, b1, b2', b3⟩ := t4 j hj
      rw [b2', nn_oi (by omega)]; exact ⟨b1, b3⟩
    have hb82 : ∀ j, j < T → mI σ 82 j = oi (nn (mI σ 82 j)) := fun j hj => by
      obtain ⟨b, b1, b2', b3⟩ := t4 j hj
      rw [b2', nn_oi (by omega)]
    obtain ⟨σ6, _, _, e1, _, ⟨e2, _⟩, _⟩ := zfull (σ := σ) (τ := zpre σ) (f := fun j => nn (mI σ 82 j)) (L := L) (T := T) (w := w') hw' hkw' t1 t2 hLT hb (fun j hj => by rw [(zpre_fr σ).1 82 j (by omega)]; exact hb82 j hj) (zpre_v σ).2.2.1 (zpre_v σ).2.1
    have hm0 : mR σ6 0 0 = w := by rw [e2.2.2, mR_sR, if_neg (by decide)]; exact hw0
    have hm1 : mR σ6 0 1 = w' := by rw [e2.2.2, mR_sR, if_neg (by decide)]; exact hw1
    have hm96 : mR σ6 96 0 = mR σ 96 0 := by rw [e2.2.2, mR_sR, if_neg (by decide)]
    have hcl := wc_go (σ6 := σ6) t1 hLT t2 (by rw [hw1]; exact hkw') (by rw [hw1]; exact e1) (by rw [hm0]; exact hkw) (by rw [hm1]; exact hkw')
    rw [hm0, hm1] at hcl
    have hzaf : Fr (fun a j => (a = 43 ∧ j = 1) ∨ (a = 0 ∧ (j = 10 ∨ j = 11))) noL σ6 (zaf σ6) := fr_I (fr_I (fr_I (fr_rfl _ _ _) (by omega)) (by omega)) (by omega)
    have hz10 : mI (zaf σ6) 0 10 = mI σ6 48 2 := by unfold zaf; rw [mI_sI, if_neg (by omega), mI_at]
    have hz11 : mI (zaf σ6) 0 11 = mI σ6 48 3 := mI_at
    have hz43 : mI (zaf σ6) 43 1 = 0 := by unfold zaf; rw [mI_sI, if_neg (by omega), mI_sI, if_neg (by omega), mI_at]
    have hI6 : ∀ a j, ¬ zwP w' a j → mI σ6 a j = mI σ a j := fun a j q => e2.1 a j q
    by_cases hz : mI σ6 48 2 = 0
    · rw [if_pos hz] at hcl
      have hmE : ∀ a j, ¬ (a = 43 ∧ j = 1) → a ≠ 0 → ¬ (a = 61 ∧ j = 3) → mI (sI (sI (sI (sI (sR (sR (zaf σ6) 0 0 w') 0 1 w) 0 7 1) 0 8 0) 61 3 0) 0 9 0) a j = mI σ6 a j := fun a j q1 q2 q3 => by
        rw [mI_sI, if_neg (by omega), mI_sI, if_neg q3, mI_sI, if_neg (by omega), mI_sI, if_neg (by omega), mI_sR, mI_sR]; exact hzaf.1 a j (by omega)
      have hmL : ∀ a j, mL (sI (sI (sI (sI (sR (sR (zaf σ6) 0 0 w') 0 1 w) 0 7 1) 0 8 0) 61 3 0) 0 9 0) a j = mL σ6 a j := fun a j => rfl
      have v43 : mI (sI (sI (sI (sI (sR (sR (zaf σ6) 0 0 w') 0 1 w) 0 7 1) 0 8 0) 61 3 0) 0 9 0) 43 1 = 0 := by
        rw [mI_sI, if_neg (by omega), mI_sI, if_neg (by omega), mI_sI, if_neg (by omega), mI_sI, if_neg (by omega), mI_sR, mI_sR]; exact hz43
      have v07 : mI (sI (sI (sI (sI (sR (sR (zaf σ6) 0 0 w') 0 1 w) 0 7 1) 0 8 0) 61 3 0) 0 9 0) 0 7 = 1 := by
        rw [mI_sI, if_neg (by omega), mI_sI, if_neg (by omega), mI_sI, if_neg (by omega), mI_at]
      have v08 : mI (sI (sI (sI (sI (sR (sR (zaf σ6) 0 0 w') 0 1 w) 0 7 1) 0 8 0) 61 3 0) 0 9 0) 0 8 = 0 := by
        rw [mI_sI, if_neg (by omega), mI_sI, if_neg (by omega), mI_at]
      have v09 : mI (sI (sI (sI (sI (sR (sR (zaf σ6) 0 0 w') 0 1 w) 0 7 1) 0 8 0) 61 3 0) 0 9 0) 0 9 = 0 := mI_at
      have v010 : mI (sI (sI (sI (sI (sR (sR (zaf σ6) 0 0 w') 0 1 w) 0 7 1) 0 8 0) 61 3 0) 0 9 0) 0 10 = 0 := by
        rw [mI_sI, if_neg (by omega), mI_sI, if_neg (by omega), mI_sI, if_neg (by omega), mI_sI, if_neg (by omega), mI_sR, mI_sR, hz10]; exact hz
      have v61 : mI (sI (sI (sI (sI (sR (sR (zaf σ6) 0 0 w') 0 1 w) 0 7 1) 0 8 0) 61 3 0) 0 9 0) 61 3 = 0 := by
        rw [mI_sI, if_neg (by omega), mI_at]
      have vR : ∀ a j, a ≠ 0 → mR (sI (sI (sI (sI (sR (sR (zaf σ6) 0 0 w') 0 1 w) 0 7 1) 0 8 0) 61 3 0) 0 9 0) a j = mR σ6 a j := fun a j q => by
        show mR (sR (sR (zaf σ6) 0 0 w') 0 1 w) a j = _
        rw [mR_sR, if_neg (by omega), mR_sR, if_neg (by omega)]; rfl
      have vR0 : mR (sI (sI (sI (sI (sR (sR (zaf σ6) 0 0 w') 0 1 w) 0 7 1) 0 8 0) 61 3 0) 0 9 0) 0 0 = w' := by
        show mR (sR (sR (zaf σ6) 0 0 w') 0 1 w) 0 0 = _
        rw [mR_sR, if_neg (by decide), mR_sR, if_pos (by decide)]
      have vR1 : mR (sI (sI (sI (sI (sR (sR (zaf σ6) 0 0 w') 0 1 w) 0 7 1) 0 8 0) 61 3 0) 0 9 0) 0 1 = w := by
        show mR (sR (sR (zaf σ6) 0 0 w') 0 1 w) 0 1 = _
        rw [mR_sR, if_pos (by decide)]
      generalize sI (sI (sI (sI (sR (sR (zaf σ6) 0 0 w') 0 1 w) 0 7 1) 0 8 0) 61 3 0) 0 9 0 = σE at hcl hmE hmL v43 v07 v08 v09 v010 v61 vR vR0 vR1
      have hE : ∀ a j, ¬ zwP w' a j → ¬ (a = 43 ∧ j = 1) → a ≠ 0 → ¬ (a = 61 ∧ j = 3) → mI σE a j = mI σ a j := fun a j q q1 q2 q3 => (hmE a j q1 q2 q3).trans (hI6 a j q)
      obtain ⟨σ6', τ9, r, g1, g2, ⟨_, g4⟩, g5⟩ := zfull (σ := σ) (τ := zpre σE) (f := fun j => nn (mI σ 82 j)) (L := L) (T := T) (w := w') hw' hkw' t1 t2 hLT hb (fun j hj => by rw [(zpre_fr σE).1 82 j (by omega), hE 82 j (by unfold zwP; omega) (by omega) (by omega) (by omega)]; exact hb82 j hj) (zpre_v σE).2.2.1 (zpre_v σE).2.1
      have h66 : σ6' = σ6 := by rw [e1] at g1; exact (Option.some.inj g1).symm
      subst h66
      obtain ⟨k1, k2, k3, k4, ⟨k5, k6, k7⟩, k8⟩ := g5.resolve_left (fun q => q.1 hz)
      have h2E : mI σE 81 2 = oi T := (hE 81 2 (by unfold zwP; omega) (by omega) (by omega) (by omega)).trans t3
      have hgo := wr_go t1 hLT h2E
      rw [g2] at hgo
      have hfE : Fr (fun a j => zxP a j ∨ (a = 81 ∧ (j = 0 ∨ j = 2 ∨ j = 9 ∨ j = 11 ∨ j = 13))) zxQ σE τ9 := fr_tr (fr_mono (fun a j q => Or.inr q) (fun a q => q.elim) (zpre_fr σE)) (fr_mono (fun a j q => Or.inl q) (fun a q => q) g4)
      have h9 : ∀ a j, a ≠ 81 → a ≠ 83 → a ≠ 84 → a ≠ 85 → a ≠ 88 → mI τ9 a j = mI σE a j := fun a j q1 q2 q3 q4 q5 => hfE.1 a j (by unfold zxP zyP zvP; omega)
      have h96 : ∀ a j, w' ≤ a → a ≤ w' + 20 → mI τ9 a j = mI σ6' a j := fun a j q1 q2 => (h9 a j (by omega) (by omega) (by omega) (by omega) (by omega)).trans (hmE a j (by omega) (by omega) (by omega))
      have hL96 : ∀ a j, w' ≤ a → a ≤ w' + 20 → mL τ9 a j = mL σ6' a j := fun a j q1 q2 => (hfE.2.1 a j (by unfold zxQ; omega)).trans (hmL a j)
      have hR9 : mR τ9 = mR σE := hfE.2.2
      refine ⟨mI σ6' w' 4, σE, τ9, hcl, by rw [hgo, k4], ⟨⟨?_, ⟨0, by omega, ?_, ?_, fun j hj => by omega⟩, ?_, Or.inl ?_⟩, ⟨p, by omega, ?_, fun j hj => ?_⟩, ⟨?_, fun q => ?_⟩, ?_⟩, (vR 96 0 (by omega)).trans hm96, by rw [hR9]⟩
      · rw [hR9, vR0, vR1]; exact okW_sym c1
      · rw [h9 43 1 (by omega) (by omega) (by omega) (by omega) (by omega)]; exact v43
      · rw [g4.1 81 2 (by unfold zxP zyP zvP; omega)]; exact (zpre_v σE).1
      · rw [h9 0 10 (by omega) (by omega) (by omega) (by omega) (by omega), v010, k2]
      · rw [hR9, vR0]
        refine ⟨?_, k5, ⟨⟨k3.1.1, CS_congr (fun a j q => h96 a j (by omega) (by omega)) (fun a j q => hL96 a j (by omega) (by omega)) (x_Hb k3.1) k3.1.2.1, CT_congr (fun a j q => h96 a j (by omega) (by omega)) k3.1.2.2⟩, CM_congr (fun j => h96 _ j (by omega) (by omega)) k3.2⟩, ⟨0, by omega, ?_, k6, fun k hk => by omega, fun k hk => by omega⟩, ⟨0, by omega, ?_, k7, fun k hk => by omega⟩⟩
        · rw [h9 0 7 (by omega) (by omega) (by omega) (by omega) (by omega)]; exact v07
        · rw [h9 61 3 (by omega) (by omega) (by omega) (by omega) (by omega)]; exact v61
        · rw [h9 0 8 (by omega) (by omega) (by omega) (by omega) (by omega)]; exact v08
      · rw [h9 56 9 (by omega) (by omega) (by omega) (by omega) (by omega), hE 56 9 (by unfold zwP; omega) (by omega) (by omega) (by omega)]; exact p2
      · rw [h9 60 j (by omega) (by omega) (by omega) (by omega) (by omega), hE 60 j (by unfold zwP; omega) (by omega) (by omega) (by omega)]; exact p3 j hj
      · rw [h9 0 9 (by omega) (by omega) (by omega) (by omega) (by omega), v09, k8, (zpre_v σE).2.2.2]
      · rw [h9 0 9 (by omega) (by omega) (by omega) (by omega) (by omega), v09] at q; exact absurd q (by decide)
      · rw [hR9, vR 96 0 (by omega), hm96]; omega
    · rw [if_neg hz] at hcl
      have hfZ : Fr (fun a j => (a = 43 ∧ j = 1) ∨ (a = 0 ∧ (j = 9 ∨ j = 10 ∨ j = 11))) noL σ6 (sI (zaf σ6) 0 9 4) := fr_I (fr_mono (fun a j q => by omega) (fun a q => q) hzaf) (by omega)
      have v43 : mI (sI (zaf σ6) 0 9 4) 43 1 = 0 := by rw [mI_sI, if_neg (by omega)]; exact hz43
      have v09 : mI (sI (zaf σ6) 0 9 4) 0 9 = 4 := mI_at
      have v010 : mI (sI (zaf σ6) 0 9 4) 0 10 = mI σ6 48 2 := by rw [mI_sI, if_neg (by omega)]; exact hz10
      have v011 : mI (sI (zaf σ6) 0 9 4) 0 11 = mI σ6 48 3 := by rw [mI_sI, if_neg (by omega)]; exact hz11
      generalize sI (zaf σ6) 0 9 4 = σE at hcl hfZ v43 v09 v010 v011
      have hE : ∀ a j, ¬ zwP w' a j → ¬ (a = 43 ∧ j = 1) → ¬ (a = 0 ∧ (j = 9 ∨ j = 10 ∨ j = 11)) → mI σE a j = mI σ a j := fun a j q q1 q2 => (hfZ.1 a j (by omega)).trans (hI6 a j q)
      obtain ⟨σ6', τ9, r, g1, g2, ⟨_, g4⟩, g5⟩ := zfull (σ := σ) (τ := zpre σE) (f := fun j => nn (mI σ 82 j)) (L := L) (T := T) (w := w') hw' hkw' t1 t2 hLT hb (fun j hj => by rw [(zpre_fr σE).1 82 j (by omega), hE 82 j (by unfold zwP; omega) (by omega) (by omega)]; exact hb82 j hj) (zpre_v σE).2.2.1 (zpre_v σE).2.1
      have h66 : σ6' = σ6 := by rw [e1] at g1; exact (Option.some.inj g1).symm
      subst h66
      obtain ⟨k1, k2, k3, k4, k5, k6⟩ := g5.resolve_right (fun q => hz q.1)
      have h2E : mI σE 81 2 = oi T := (hE 81 2 (by unfold zwP; omega) (by omega) (by omega)).trans t3
      have hgo := wr_go t1 hLT h2E
      rw [g2] at hgo
      have hfE : Fr (fun a j => zyP a j ∨ (a = 81 ∧ (j = 0 ∨ j = 2 ∨ j = 9 ∨ j = 11 ∨ j = 13))) zmQ σE τ9 := fr_tr (fr_mono (fun a j q => Or.inr q) (fun a q => q.elim) (zpre_fr σE)) (fr_mono (fun a j q => Or.inl q) (fun a q => q) k6)
      have h9 : ∀ a j, a ≠ 81 → a ≠ 83 → a ≠ 85 → mI τ9 a j = mI σE a j := fun a j q1 q2 q3 => hfE.1 a j (by unfold zyP zvP; omega)
      have hall : Fr (fun a j => zwP w' a j ∨ (a = 43 ∧ j = 1) ∨ (a = 0 ∧ (j = 9 ∨ j = 10 ∨ j = 11)) ∨ zyP a j ∨ (a = 81 ∧ (j = 0 ∨ j = 2 ∨ j = 9 ∨ j = 11 ∨ j = 13))) (fun a => zwQ w' a ∨ a = 87) (sR σ 48 1 w') τ9 := fr_tr (fr_mono (fun a j q => Or.inl q) (fun a q => Or.inl q) e2) (fr_tr (fr_mono (fun a j q => Or.inr (by omega)) (fun a q => q.elim) hfZ) (fr_mono (fun a j q => Or.inr (Or.inr (Or.inr q))) (fun a q => Or.inr q) hfE))
      have hR9 : ∀ a j, a ≠ 48 → mR τ9 a j = mR σ a j := fun a j q => by rw [hall.2.2, mR_sR, if_neg (by omega)]
      refine ⟨-1, σE, τ9, hcl, by rw [hgo, k4], ⟨⟨?_, ⟨0, by omega, ?_, ?_, fun j hj => by omega⟩, ?_, ?_⟩, ⟨p, by omega, ?_, fun j hj => ?_⟩, ⟨?_, fun q => ?_⟩, ?_⟩, by rw [hfZ.2.2]; exact hm96, by rw [hfE.2.2]⟩
      · rw [hR9 0 0 (by omega), hR9 0 1 (by omega), hw0, hw1]; exact c1
      · rw [h9 43 1 (by omega) (by omega) (by omega)]; exact v43
      · rw [g4.1 81 2 (by unfold zxP zyP zvP; omega)]; exact (zpre_v σE).1
      · rw [h9 0 10 (by omega) (by omega) (by omega), v010, k2]
      · rw [hR9 0 0 (by omega), hw0]
        exact WN_fr hw hall (fun a j q g => by unfold zwP zyP zvP at q; unfold wnP at g; omega) (fun a q => by unfold zwQ at q; omega) (show WI (sR σ 48 1 w') w ∨ NW (sR σ 48 1 w') w from c4)
      · rw [h9 56 9 (by omega) (by omega) (by omega), hE 56 9 (by unfold zwP; omega) (by omega) (by omega)]; exact p2
      · rw [h9 60 j (by omega) (by omega) (by omega), hE 60 j (by unfold zwP; omega) (by omega) (by omega)]; exact p3 j hj
      · rw [h9 0 9 (by omega) (by omega) (by omega), v09, k5]
      · rw [h9 0 11 (by omega) (by omega) (by omega), v011, k3]
      · rw [hR9 96 0 (by omega)]; omega
  · exact hno (Or.inr ((oi_lt (by omega) hL).mpr (by omega)))
