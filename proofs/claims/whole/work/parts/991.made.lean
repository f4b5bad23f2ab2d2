/-! what was read stands -/
section
variable {σ σ2 τ : OM} {w : Nat} {R R4 s4 : Nat → Int32} {Z Z4 : Nat → Int64}
theorem cx_mk (hD : zDD σ w R Z) (hR : ∀ j, j < 279 → R4 j = R j) (hZ : ∀ q, q < 9 → ∀ i, tb (Z4 q) i = (tb (Z q) i && decide (i < 2 ^ nn (R 1)))) (hs0 : s4 0 = R 0) (hs1 : s4 1 = R 6) (hst : ∀ j, j < 3 * nn (R 6) → s4 (2 + j) = R (53 + j)) (hsw : ∀ i, i < 6 → s4 (62 + i) = R (93 + i)) (c1 : ∀ j, j < 2 ^ nn (R 1) → mI σ2 (w + 4) j = oi (sOd R j)) (c2 : ∀ b j, b ≠ w + 4 → mI σ2 b j = mI σ b j) (c3 : ∀ b j, ¬ (b = w + 1 ∧ j = 3) → mL σ2 b j = mL σ b j) (c4 : ∀ i, tb (mL σ2 (w + 1) 3) i = (tb (mL σ (w + 1) 3) i && decide (i < 2 ^ nn (R 1)))) : CX σ2 w R4 Z4 s4 := by
  obtain ⟨⟨⟨⟨x1, x2, x3, x4⟩, x5, x6, x7, x8⟩, bn⟩, ⟨f1, f2⟩, ⟨⟨l1, l2, l3, l4⟩, l5, l6, l7, l8⟩, ⟨q1, q2⟩, ⟨s1, s2, s3⟩, ⟨⟨g1, g2⟩, g3, g4, g5⟩, ⟨⟨t1, t2, t3, t4, t5⟩, ⟨u1, u2, u3, u4, u5⟩, u6⟩⟩ := hD
  have hF := x1.2
  have hH := x3.2
  have hT := x4.2
  have hQ := x5.2
  have hN := x6.2
  have hS := x7.2
  have r1 := hR 1 (by decide)
  have r2 := hR 2 (by decide)
  have r3 := hR 3 (by decide)
  have r4 := hR 4 (by decide)
  have r5 := hR 5 (by decide)
  have r7 := hR 7 (by decide)
  have r10 := hR 10 (by decide)
  have hp : 2 ^ nn (R 1) ≤ 64 := by
    have := Nat.pow_le_pow_right (show 0 < 2 by decide) hF
    omega
  have hzv := zsv_at R
  have z1 : zsv R 1 = R 6 := rfl
  have hs3 : ∀ k, k < nn (R 6) → s4 (2 + 3 * k) = zsv R (2 + 3 * k) ∧ s4 (3 + 3 * k) = zsv R (3 + 3 * k) ∧ s4 (4 + 3 * k) = zsv R (4 + 3 * k) := fun k hk => by
    obtain ⟨e1, e2, e3⟩ := hzv.2.2.1 k (by omega)
    rw [e1, e2, e3]
    refine ⟨?_, ?_, ?_⟩
    · exact hst (3 * k) (by omega)
    · have := hst (1 + 3 * k) (by omega)
      rw [show 2 + (1 + 3 * k) = 3 + 3 * k by omega, show 53 + (1 + 3 * k) = 54 + 3 * k by omega] at this; exact this
    · have := hst (2 + 3 * k) (by omega)
      rw [show 2 + (2 + 3 * k) = 4 + 3 * k by omega, show 53 + (2 + 3 * k) = 55 + 3 * k by omega] at this; exact this
  have hsw2 : ∀ i, i < 6 → s4 (62 + i) = zsv R (62 + i) := fun i hi => (hsw i hi).trans (hzv.2.2.2 i hi).symm
  refine ⟨⟨⟨⟨by rw [r1]; exact x1, by rw [r2]; exact x2, by rw [r3]; exact x3, by rw [r4]; exact x4, by rw [r5]; exact x5, by rw [r7]; exact x7, by rw [r10, r1]; exact l7⟩, fun k hk => ?_, fun h hh => ?_, fun k hk => ?_, fun k hk => ?_, fun q hq i hi => ?_, fun h => ?_, fun h => ?_⟩, ⟨by rw [hs0]; exact t1, by rw [hs1]; exact t2, fun k hk => ?_, fun i hi j hj => ?_, fun i hi j hj => ?_⟩⟩, ⟨⟨?_, fun k hk => ?_, ?_, ?_⟩, ⟨?_, fun h => ?_⟩, ⟨?_, fun q hq i hi => ?_⟩, ⟨?_, fun k hk => ?_⟩, fun x hx => ?_, ⟨?_, ?_⟩, fun h hh => ?_⟩, ⟨?_, ?_, fun k hk => ?_, fun i hi => ?_, ?_⟩⟩
  · rw [r1] at hk
    rw [hR (11 + k) (by omega)]; exact (f2 k hk).2
  · rw [r3] at hh
    rw [hR (17 + 4 * h) (by omega), hR (18 + 4 * h) (by omega), hR (19 + 4 * h) (by omega), hR (20 + 4 * h) (by omega)]
    obtain ⟨_, a1, a2, a3, a4⟩ := g3 h hh
    exact ⟨a1, a2, a3, a4, (g4 h (by omega)).2.1⟩
  · rw [r4] at hk
    rw [hR (41 + 2 * k) (by omega), hR (42 + 2 * k) (by omega), r3]
    obtain ⟨a1, a2, a3, a4⟩ := g5 k hk
    exact ⟨a1, a2, a3, fun j hj => by rw [hR (41 + 2 * j) (by omega), hR (42 + 2 * j) (by omega)]; exact a4 j hj⟩
  · rw [r7] at hk
    rw [hR (89 + k) (by omega)]; exact (s2 k hk).2
  · rw [hZ q (by omega) i, Bool.and_eq_true, decide_eq_true_eq] at hi
    rw [r1]; exact hi.2
  · rw [r10] at h ⊢
    have := l7.2
    rw [hZ 8 (by decide), l8 h, Bool.true_and, decide_eq_true_eq]; omega
  · apply l4
    rw [tb_eq0]
    intro i hi
    have e := l3 i hi
    have hlt : i % 2 ^ nn (R 1) < 2 ^ nn (R 1) := Nat.mod_lt _ (Nat.pow_pos (by decide))
    have h2 := hZ 8 (by decide) (i % 2 ^ nn (R 1))
    rw [h, tb_0, decide_eq_true hlt, Bool.and_true] at h2
    rw [e, ← h2]
  · rw [hs1] at hk
    obtain ⟨e1, e2, e3⟩ := hs3 k hk
    rw [e1, e2, e3, r3, r5]; exact t3 k (by rw [z1]; exact hk)
  · rw [hsw2 i hi] at hj
    rw [r3]; exact t4 i hi j hj
  · rw [hsw2 i hi, hsw2 j hj]; exact t5 i hi j hj
  · rw [c2 _ _ (by omega), r1]; exact f1
  · rw [r1] at hk
    rw [c2 _ _ (by omega), hR (11 + k) (by omega)]; exact (f2 k hk).1
  · rw [c2 _ _ (by omega), r2]; exact l1
  · apply tb_ext
    intro i hi
    rw [c4, hZ 8 (by decide), l2]
  · rw [c2 _ _ (by omega), r10]; exact l5
  · rw [c2 _ _ (by omega), r10]; exact l6
  · rw [c2 _ _ (by omega), r5]; exact q1
  · rw [r5] at hq
    rw [r1] at hi
    rw [c3 _ _ (by omega), hZ q (by omega), decide_eq_true hi, Bool.and_true, (q2 q hq).1]
  · rw [c2 _ _ (by omega), r7]; exact s1
  · rw [r7] at hk
    rw [c2 _ _ (by omega), hR (89 + k) (by omega)]; exact (s2 k hk).1
  · rw [r1] at hx
    rw [c1 x hx]
    congr 1
    unfold sOd
    rw [r1]
    exact (ofd_congr (fun k v hk => by unfold sOs; rw [hR (11 + k) (by omega)])).symm
  · rw [c2 _ _ (by omega), r3]; exact g1
  · rw [c2 _ _ (by omega), r4]; exact g2
  · rw [r3] at hh
    obtain ⟨⟨a1, a2, a3⟩, _⟩ := g3 h hh
    obtain ⟨b1, _, b3⟩ := g4 h (by omega)
    rw [c2 _ _ (by omega), c2 _ _ (by omega), c2 _ _ (by omega), c2 _ _ (by omega), c2 _ _ (by omega), hR (17 + 4 * h) (by omega), hR (18 + 4 * h) (by omega), hR (19 + 4 * h) (by omega), hR (20 + 4 * h) (by omega)]
    exact ⟨a1, a2, a3, b1, fun g hg => by rw [sTw_c (R' := R4) (R := R) r4 (fun j p q => hR j (by omega)) hT]; exact b3 g hg⟩
  · rw [c2 _ _ (by omega), hs1]; exact u1
  · rw [c2 _ _ (by omega), hs0]; exact u2
  · rw [hs1] at hk
    obtain ⟨e1, e2, e3⟩ := hs3 k hk
    rw [c2 _ _ (by omega), c2 _ _ (by omega), c2 _ _ (by omega), e1, e2, e3]; exact u3 k (by rw [z1]; exact hk)
  · rw [c2 _ _ (by omega), hsw2 i hi]; exact u4 i hi
  · rw [c2 _ _ (by omega), sWd_ext hsw2]; exact u5
end
def zyP : Nat → Nat → Prop := fun a j => zvP a j ∨ (a = 81 ∧ j = 11)
def zxP : Nat → Nat → Prop := fun a j => zyP a j ∨ a = 84 ∨ a = 88 ∨ (a = 81 ∧ (j = 14 ∨ j = 22 ∨ j = 23))
def zxQ : Nat → Prop := fun a => a = 86 ∨ a = 87
section
variable {σ τ : OM} {f : Nat → Nat} {L T w : Nat}
theorem zfull (hw : w = 1 ∨ w = 22) (hk : okd w = 8) (hT : T ≤ 900) (h1 : mI σ 43 1 = oi T) (hL : L ≤ T) (hb : ∀ j, j < T → f j < 256 ∧ mI σ 44 j = sgb (f j)) (hb2 : ∀ j, j < T → mI τ 82 j = oi (f j)) (h13 : mI τ 81 13 = 0) (h9z : mI τ 81 9 = 0) : ∃ σ6 τ9 r, fX5_read w (oi L) σ = some σ6 ∧ fX10_well_b39 oF (oi L) 0 τ = some (r, τ9) ∧ (Fr (zwP w) (zwQ w) (sR σ 48 1 w) σ6 ∧ Fr zxP zxQ τ τ9) ∧ ((mI σ6 48 2 ≠ 0 ∧ mI σ6 48 2 = mI τ9 81 9 ∧ mI σ6 48 3 = mI τ9 81 10 ∧ r = -1 ∧ mI τ9 81 11 = 4 ∧ Fr zyP zmQ τ τ9) ∨ (mI σ6 48 2 = 0 ∧ mI τ9 81 9 = 0 ∧ CW σ6 w (mI τ9 84) (mL τ9 86) (mI τ9 88) ∧ r = mI σ6 w 4 ∧ (mI τ9 81 14 = 1 ∧ mI τ9 81 22 = 0 ∧ mI τ9 81 23 = 0) ∧ mI τ9 81 11 = mI τ 81 11)) := by
  obtain ⟨σ', τ', a1, ⟨a2, a3⟩, a4⟩ := zread hw hk hT h1 hL hb hb2 h13 h9z
  rw [a1]
  rcases a4 with ⟨d1, d2⟩ | ⟨d1, ⟨d2, d2'⟩, d3, d4, d5, d6⟩
  · unfold fX10_well_b195 fX10_no
    rw [if_neg (by rw [d1.2.2.2]; decide), obi_s]
    have hy : Fr zyP zmQ τ (sI τ' 81 11 4) := fr_I (fr_mono (fun a j q => Or.inl q) (fun a q => q) a3) (Or.inr ⟨rfl, rfl⟩)
    refine ⟨σ', _, _, d2, rfl, ⟨a2, fr_mono (fun a j q => Or.inl q) (fun a q => Or.inr q) hy⟩, Or.inl ⟨d1.1, ?_, ?_, rfl, mI_at, hy⟩⟩
    · rw [mI_sI, if_neg (by omega)]; exact d1.2.1
    · rw [mI_sI, if_neg (by omega)]; exact d1.2.2.1
  · have hB := d4.1.1
    obtain ⟨τ9, e1, e2, e3, ⟨e4, e5, e6, e7⟩, e8, e9⟩ := rclose (τ := τ') hB.1.1 hB.2.2.1 d2
    obtain ⟨σ2, c1, c2, c3, c4, c5, c6⟩ := close_eq (σ := σ') (w := w) (R := mI τ' 85) hB.1.1 d4.2.1.2 d4.2.1.1
    have hcx : CX σ2 w (mI τ9 84) (mL τ9 86) (mI τ9 88) := cx_mk d4 e2 e3 e4 e5 e6 e7 c2 c3 c4 c5
    obtain ⟨σ6, k1, k2, k3⟩ := liars_eq hcx
    have hw4 : mI σ2 w 4 = mI τ' 85 3 := (c3 _ _ (by omega)).trans d4.2.2.2.2.2.1.1.1
    have hw4' : mI σ6 w 4 = mI τ' 85 3 := (k3.1 _ _ (by unfold gP; omega)).trans hw4
    have hcl : fX8_close w σ' = some σ6 := by
      unfold fX8_close
      rw [c1, obv_s, hw4, show mI τ' 85 3 = oi (nn (mI τ9 84 3)) by rw [e2 3 (by decide)]; exact hB.1.2.2.1.1, k1, obv_s]
    have hz : Fr zxP zxQ τ τ9 := fr_tr (fr_mono (fun a j q => Or.inl (Or.inl q)) (fun a q => Or.inr q) a3) (fr_mono (fun a j q => Or.inr q) (fun a q => Or.inl q) e9)
    have hfc : Fr (zwP w) (zwQ w) (sR σ 48 1 w) σ6 := by
      refine fr_tr a2 (fr_tr (σ1 := σ2) ⟨fun a j p => c3 a j (fun q => p (Or.inl (by omega))), fun a j p => c4 a j (fun q => p (Or.inl (by omega))), c6⟩ (fr_mono (fun a j q => Or.inl (by unfold gP at q; omega)) (fun a q => Or.inl (by unfold gQ at q; omega)) k3))
    refine ⟨σ6, τ9, mI τ' 85 3, by rw [d3, hcl, obv_s], e1, ⟨hfc, hz⟩, Or.inr ⟨?_, ?_, ⟨CX_fr k3 (fun a j q => by unfold gP at q; omega) (fun a q => by unfold gQ at q; omega) hcx, k2⟩, hw4'.symm, e8, ?_⟩⟩
    · rw [k3.1 48 2 (by unfold gP; omega), c3 _ _ (by omega)]; exact d1
    · rw [e9.1 81 9 (by omega)]; exact d2'
    · rw [e9.1 81 11 (by omega), a3.1 81 11 (by unfold zvP; omega)]
end
