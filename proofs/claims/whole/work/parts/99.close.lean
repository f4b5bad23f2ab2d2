/-! the reading's close, on both sides -/
section
variable {σ τ : OM} {w : Nat} {R : Nat → Int32} {Z : Nat → Int64}
theorem prod_eq (hF : bd (R 1) 6) (h0 : mI σ (w + 1) 0 = R 1) (ho : ∀ f, f < nn (R 1) → mI σ (w + 2) f = R (11 + f) ∧ bd (R (11 + f)) 9 ∧ 1 ≤ nn (R (11 + f))) {x : Nat} (hx : x < 64) : fX2_product w (oi x) σ = some (oi (sOd R x), σ) := by
  unfold fX2_product
  have hF2 := hF.2
  refine lup0 (g := fun f v k => fX2_product_b4 f w (oi x) (oi v) (oi k) σ) (a := 1) (step := sOs R x) (fin := fun v => some (oi v, σ)) ?_ ?_ oF (by unfold oF; omega)
  · intro f v k hk
    show fX2_product_b4 (f + 1) w (oi x) (oi v) (oi k) σ = fX2_product_b4 f w (oi x) (oi (sOs _ x k v)) (oi (k + 1)) σ
    obtain ⟨b0, b1, bq⟩ := ho k hk
    obtain ⟨a, ha, hx'⟩ := bd_ex b1
    rw [fX2_product_b4, h0, hF.1, if_neg (by rw [oi_le (by omega) (by omega)]; omega), if_neg (show ¬ (6 : Int32) ≤ oi k from nle (N := 6) (by omega) (by decide)), bitOfW_eq _ (by omega), obi_s, tw_oi _ _ (by omega), ogi (by omega) (by omega), oi_nat (by omega), b0]
    unfold sOs
    cases hb : x.testBit k
    · rw [if_neg (show ¬ b2 false = 1 by decide), ogi (by omega) (by omega), hx', if_neg (by decide), nn_oi (by omega), show (10 : Int32) = oi 10 from rfl, oi_sub (by omega), oi_mul, oi_succ]
    · rw [if_pos (show b2 true = 1 from rfl), hx', if_pos rfl, nn_oi (by omega), oi_mul, oi_succ]
  · intro f v
    show fX2_product_b4 (f + 1) w (oi x) (oi v) (oi _) σ = _
    rw [fX2_product_b4, h0, hF.1, nn_oi (nn_lt _), if_pos ((oi_le (by omega) (by omega)).mpr (Nat.le_refl _))]
theorem close_loop (hF : bd (R 1) 6) (ho : ∀ f, f < nn (R 1) → bd (R (11 + f)) 9 ∧ 1 ≤ nn (R (11 + f))) {N : Nat} (hN : N ≤ 64) : ∀ d k n (σ : OM), k + d = N → d < n → mI σ (w + 1) 0 = R 1 → (∀ f, f < nn (R 1) → mI σ (w + 2) f = R (11 + f)) → ∃ σ', fX2_close_b29 n w (oi N) (oi k) σ = some σ' ∧ (∀ j, k ≤ j → j < N → mI σ' (w + 4) j = oi (sOd R j)) ∧ (∀ b j, ¬ (b = w + 4 ∧ k ≤ j) → mI σ' b j = mI σ b j) ∧ (∀ b j, mL σ' b j = mL σ b j) ∧ mR σ' = mR σ := by
  intro d
  induction d with
  | zero =>
    intro k n σ h1 h2 _ _
    obtain ⟨n, rfl⟩ : ∃ m, n = m + 1 := ⟨n - 1, by omega⟩
    exact ⟨σ, by rw [fX2_close_b29, if_pos ((oi_le (by omega) (by omega)).mpr (by omega))], fun j p q => by omega, fun _ _ _ => rfl, fun _ _ => rfl, rfl⟩
  | succ d ih =>
    intro k n σ h1 h2 q1 q2
    obtain ⟨n, rfl⟩ : ∃ m, n = m + 1 := ⟨n - 1, by omega⟩
    obtain ⟨σ', e1, e2, e3, e4, e5⟩ := ih (k + 1) n (sI σ (w + 4) k (oi (sOd R k))) (by omega) (by omega) (by rw [mI_sI, if_neg (by omega)]; exact q1) (fun f hf => by rw [mI_sI, if_neg (by omega)]; exact q2 f hf)
    refine ⟨σ', ?_, fun j p q => ?_, fun b j p => ?_, fun b j => e4 b j, e5⟩
    · rw [fX2_close_b29, if_neg (nle (by omega) (by omega)), if_neg (show ¬ (64 : Int32) ≤ oi k from nle (N := 64) (by omega) (by decide)), prod_eq hF q1 (fun f hf => ⟨q2 f hf, ho f hf⟩) (by omega), obi_s, ogi (by omega) (by omega), oi_nat (by omega), oi_succ]
      exact e1
    · by_cases e : j = k
      · rw [e, e3 _ _ (by omega), mI_at]
      · exact e2 j (by omega) q
    · rw [e3 b j (fun q => p ⟨q.1, by omega⟩), mI_sI, if_neg (fun q => p ⟨q.1, by omega⟩)]
theorem mask_c : ∀ F, F < 6 → ∀ i, i < 64 → tb (((1 : Int64) <<< ((oi (2 ^ F)).toInt64 &&& 63)) - 1) i = decide (i < 2 ^ F) := by decide +kernel
theorem close_eq (hF : bd (R 1) 6) (ho : ∀ f, f < nn (R 1) → mI σ (w + 2) f = R (11 + f) ∧ bd (R (11 + f)) 9 ∧ 1 ≤ nn (R (11 + f))) (h0 : mI σ (w + 1) 0 = R 1) : ∃ σ', fX2_close w σ = some σ' ∧ (∀ j, j < 2 ^ nn (R 1) → mI σ' (w + 4) j = oi (sOd R j)) ∧ (∀ b j, b ≠ w + 4 → mI σ' b j = mI σ b j) ∧ (∀ b j, ¬ (b = w + 1 ∧ j = 3) → mL σ' b j = mL σ b j) ∧ (∀ i, tb (mL σ' (w + 1) 3) i = (tb (mL σ (w + 1) 3) i && decide (i < 2 ^ nn (R 1)))) ∧ mR σ' = mR σ := by
  have hF2 := hF.2
  have hp : 2 ^ nn (R 1) ≤ 64 := by
    have := Nat.pow_le_pow_right (show 0 < 2 by decide) hF2
    omega
  unfold fX2_close
  rw [h0, shlH hF (by omega)]
  by_cases e6 : nn (R 1) = 6
  · rw [if_pos (show (64 : Int32) ≤ oi (2 ^ nn (R 1)) by rw [e6]; decide)]
    obtain ⟨σ', e1, e2, e3, e4, e5⟩ := close_loop (w := w) hF (fun f hf => (ho f hf).2) hp (2 ^ nn (R 1)) 0 oF σ (by omega) (by unfold oF; omega) h0 (fun f hf => (ho f hf).1)
    refine ⟨σ', e1, fun j hj => e2 j (by omega) hj, fun b j p => e3 b j (fun q => p q.1), fun b j _ => e4 b j, fun i => ?_, e5⟩
    rw [e4, e6]
    by_cases hi : i < 64
    · rw [decide_eq_true (show i < 2 ^ 6 from hi), Bool.and_true]
    · rw [tb_big (by omega), Bool.false_and]
  · have h32 : 2 ^ nn (R 1) ≤ 32 := by
      have := Nat.pow_le_pow_right (show 0 < 2 by decide) (show nn (R 1) ≤ 5 by omega)
      omega
    rw [if_neg (show ¬ (64 : Int32) ≤ oi (2 ^ nn (R 1)) from nle (N := 64) (by omega) (by decide))]
    obtain ⟨σ', e1, e2, e3, e4, e5⟩ := close_loop (w := w) hF (fun f hf => (ho f hf).2) hp (2 ^ nn (R 1)) 0 oF (sL σ (w + 1) 3 (mL σ (w + 1) 3 &&& (((1 : Int64) <<< ((oi (2 ^ nn (R 1))).toInt64 &&& 63)) - 1))) (by omega) (by unfold oF; omega) h0 (fun f hf => (ho f hf).1)
    refine ⟨σ', e1, fun j hj => e2 j (by omega) hj, fun b j p => e3 b j (fun q => p q.1), fun b j p => ?_, fun i => ?_, e5⟩
    · rw [e4, mL_sL, if_neg p]
    · rw [e4, mL_sL, if_pos ⟨rfl, rfl⟩, tb_and]
      by_cases hi : i < 64
      · rw [mask_c _ (by omega) i hi]
      · rw [tb_big (x := mL σ (w + 1) 3) (by omega), Bool.false_and, Bool.false_and]
/-- the reference's close -/
theorem mask_r (N : Nat) : ∀ i, i < 64 → tb (ofd (fun k x => x ||| ((1 : Int64) <<< ((oi k).toInt64 &&& 63))) 0 N) i = decide (i < N) := by
  induction N with
  | zero => intro i hi; show tb 0 i = _; rw [tb_0]; rfl
  | succ N ih =>
    intro i hi
    show tb (_ ||| _) i = _
    rw [tb_or, ih i hi]
    by_cases hN : N < 64
    · rw [tb_shl N hN i hi]
      by_cases e : i = N
      · rw [decide_eq_true e, Bool.or_true, decide_eq_true (by omega)]
      · rw [decide_eq_false e, Bool.or_false, decide_eq_decide]; omega
    · rw [decide_eq_true (show i < N by omega), Bool.true_or, decide_eq_true (by omega)]
theorem rclose (hF : bd (mI τ 85 1) 6) (hN : bd (mI τ 85 6) 12) (h13 : mI τ 81 13 = 0) : ∃ τ', fX10_well_b195 τ = some (mI τ 85 3, τ') ∧ (∀ j, j < 279 → mI τ' 84 j = mI τ 85 j) ∧ (∀ q, q < 9 → ∀ i, tb (mL τ' 86 q) i = (tb (mL τ 87 q) i && decide (i < 2 ^ nn (mI τ 85 1)))) ∧ (mI τ' 88 0 = mI τ 85 0 ∧ mI τ' 88 1 = mI τ 85 6 ∧ (∀ j, j < 3 * nn (mI τ 85 6) → mI τ' 88 (2 + j) = mI τ 85 (53 + j)) ∧ ∀ i, i < 6 → mI τ' 88 (62 + i) = mI τ 85 (93 + i)) ∧ (mI τ' 81 14 = 1 ∧ mI τ' 81 22 = 0 ∧ mI τ' 81 23 = 0) ∧ Fr (fun a j => a = 84 ∨ a = 88 ∨ (a = 81 ∧ (j = 14 ∨ j = 22 ∨ j = 23))) (fun a => a = 86) τ τ' := by
  have hF2 := hF.2
  have hN2 := hN.2
  have hp : 2 ^ nn (mI τ 85 1) ≤ 64 := by
    have := Nat.pow_le_pow_right (show 0 < 2 by decide) hF2
    omega
  unfold fX10_well_b195
  rw [if_pos h13]
  obtain ⟨τ1, a1, a2, a3⟩ := copy_eq τ (A := 85) (B := 84) (x := 0) (y := 0) (n := 279) (by decide) (by decide) (by decide) (by decide) (by decide)
  rw [show fX10_copy 85 (0 : Int32) 84 (0 : Int32) (279 : Int32) τ = fX10_copy 85 (oi 0) 84 (oi 0) (oi 279) τ from rfl, a1, obv_s]
  have h84 : ∀ j, j < 279 → mI τ1 84 j = mI τ 85 j := fun j hj => by have := a2 j hj; rw [Nat.zero_add] at this; exact this
  have b1 : ∃ m, (∀ i, i < 64 → tb m i = decide (i < 2 ^ nn (mI τ 85 1))) ∧ fX10_well_b229 oF 0 0 τ1 = fX10_well_b258 oF m 0 τ1 := by
    refine ⟨_, mask_r _, ?_⟩
    refine lup0 (g := fun f v k => fX10_well_b229 f v (oi k) τ1) (a := (0 : Int64)) (step := fun k x => x ||| ((1 : Int64) <<< ((oi k).toInt64 &&& 63))) (fin := fun v => fX10_well_b258 oF v 0 τ1) (n := 2 ^ nn (mI τ 85 1)) ?_ ?_ oF (by unfold oF; omega)
    · intro f v k hk
      show fX10_well_b229 (f + 1) v (oi k) τ1 = fX10_well_b229 f _ (oi (k + 1)) τ1
      rw [fX10_well_b229, h84 1 (by decide), shlH hF (by omega), if_neg (nle hk (by omega)), oi_succ]
    · intro f v
      show fX10_well_b229 (f + 1) v (oi _) τ1 = _
      rw [fX10_well_b229, h84 1 (by decide), shlH hF (by omega), if_pos ((oi_le (by omega) (by omega)).mpr (Nat.le_refl _))]
  obtain ⟨m, m1, m2⟩ := b1
  obtain ⟨τ2, c1, c2, c3, c4, c5⟩ := zfillL (fun n x σ => fX10_well_b258 n m x σ) (fun σ => fX10_well_b290 oF 0 σ) 86 87 9 (fun z => z &&& m) (by decide) (fun n σ => by show fX10_well_b258 (n + 1) m (oi 9) σ = _; rw [fX10_well_b258, if_pos (show (9 : Int32) ≤ oi 9 by decide)]) (fun n k σ hk => by show fX10_well_b258 (n + 1) m (oi k) σ = _; rw [fX10_well_b258, if_neg (show ¬ (9 : Int32) ≤ oi k from nle hk (by decide)), ogi hk (by omega), ogi hk (by omega), oi_nat (by omega), oi_succ]) 9 0 oF τ1 rfl (by decide)
  obtain ⟨τ3, d1, d2, d3, d4, d5⟩ := zfill (fun n x σ => fX10_well_b290 n x σ) (fun σ => fX10_well_b311 σ) 88 68 0 (fun n σ => by show fX10_well_b290 (n + 1) (oi 68) σ = _; rw [fX10_well_b290, if_pos (show (68 : Int32) ≤ oi 68 by decide)]) (fun n k σ hk => by show fX10_well_b290 (n + 1) (oi k) σ = _; rw [fX10_well_b290, if_neg (show ¬ (68 : Int32) ≤ oi k from nle hk (by decide)), ogi hk (by omega), oi_nat (by omega), oi_succ]) 68 0 oF τ2 rfl (by decide)
  rw [m2, show fX10_well_b258 oF m 0 τ1 = fX10_well_b290 oF 0 τ2 from c1, show fX10_well_b290 oF 0 τ2 = fX10_well_b311 τ3 from d1]
  have h384 : ∀ j, j < 279 → mI τ3 84 j = mI τ 85 j := fun j hj => by rw [d3 84 j (by omega), c4]; exact h84 j hj
  unfold fX10_well_b311
  rw [h384 0 (by decide), show mI (sI τ3 88 0 (mI τ 85 0)) 84 6 = mI τ 85 6 by rw [mI_sI, if_neg (by omega)]; exact h384 6 (by decide), show mI (sI (sI τ3 88 0 (mI τ 85 0)) 88 1 (mI τ 85 6)) 84 6 = oi (nn (mI τ 85 6)) by rw [mI_sI, if_neg (by omega), mI_sI, if_neg (by omega), h384 6 (by decide)]; exact hN.1]
  have e3 : (3 : Int32) * oi (nn (mI τ 85 6)) = oi (3 * nn (mI τ 85 6)) := by rw [show (3 : Int32) = oi 3 from rfl, oi_mul]
  rw [e3]
  have hl84 : oln 84 = 279 := by decide
  have hl88 : oln 88 = 68 := by decide
  have h484 : ∀ j, j < 279 → mI (sI (sI τ3 88 0 (mI τ 85 0)) 88 1 (mI τ 85 6)) 84 j = mI τ 85 j := fun j hj => by rw [mI_sI, if_neg (by omega), mI_sI, if_neg (by omega)]; exact h384 j hj
  have h480 : mI (sI (sI τ3 88 0 (mI τ 85 0)) 88 1 (mI τ 85 6)) 88 0 = mI τ 85 0 := by rw [mI_sI, if_neg (by omega), mI_at]
  have h481 : mI (sI (sI τ3 88 0 (mI τ 85 0)) 88 1 (mI τ 85 6)) 88 1 = mI τ 85 6 := mI_at
  have hfr0 : Fr (fun a j => a = 84 ∨ a = 88 ∨ (a = 81 ∧ (j = 14 ∨ j = 22 ∨ j = 23))) (fun a => a = 86) τ (sI (sI τ3 88 0 (mI τ 85 0)) 88 1 (mI τ 85 6)) := fr_I (fr_I (fr_tr (fr_mono (fun a j q => Or.inl q.1) (fun a q => q.elim) a3) ⟨fun a j p => (d3 a j (fun q => p (Or.inr (Or.inl q.1)))).trans (c4 a j), fun a j p => (d4 a j).trans (c3 a j (fun q => p q.1)), d5.trans c5⟩) (Or.inr (Or.inl rfl))) (Or.inr (Or.inl rfl))
  have h486 : ∀ q, mL (sI (sI τ3 88 0 (mI τ 85 0)) 88 1 (mI τ 85 6)) 86 q = mL τ2 86 q := fun q => d4 86 q
  generalize sI (sI τ3 88 0 (mI τ 85 0)) 88 1 (mI τ 85 6) = τ4 at h484 h480 h481 hfr0 h486 ⊢
  obtain ⟨τ5, f1, f2, f3⟩ := copy_eq τ4 (A := 84) (B := 88) (x := 53) (y := 2) (n := 3 * nn (mI τ 85 6)) (by decide) (by omega) (by omega) (by omega) (by omega)
  rw [show fX10_copy 84 (53 : Int32) 88 (2 : Int32) (oi (3 * nn (mI τ 85 6))) τ4 = fX10_copy 84 (oi 53) 88 (oi 2) (oi (3 * nn (mI τ 85 6))) τ4 from rfl, f1, obv_s]
  obtain ⟨τ6, g1, g2, g3⟩ := copy_eq τ5 (A := 84) (B := 88) (x := 93) (y := 62) (n := 6) (by decide) (by omega) (by omega) (by omega) (by omega)
  rw [show fX10_copy 84 (93 : Int32) 88 (62 : Int32) (6 : Int32) τ5 = fX10_copy 84 (oi 93) 88 (oi 62) (oi 6) τ5 from rfl, g1, obv_s]
  have h684 : ∀ j, j < 279 → mI (sI (sI (sI τ6 81 14 1) 81 22 0) 81 23 0) 84 j = mI τ 85 j := fun j hj => by rw [mI_sI, if_neg (by omega), mI_sI, if_neg (by omega), mI_sI, if_neg (by omega), g3.1 84 j (by omega), f3.1 84 j (by omega)]; exact h484 j hj
  have h688 : ∀ j, mI (sI (sI (sI τ6 81 14 1) 81 22 0) 81 23 0) 88 j = mI τ6 88 j := fun j => by rw [mI_sI, if_neg (by omega), mI_sI, if_neg (by omega), mI_sI, if_neg (by omega)]
  rw [h684 3 (by decide)]
  refine ⟨_, rfl, h684, fun q hq i => ?_, ⟨?_, ?_, fun j hj => ?_, fun i hi => ?_⟩, ⟨?_, ?_, mI_at⟩, fr_I (fr_I (fr_I (fr_tr hfr0 (fr_tr (fr_mono (fun a j q => Or.inr (Or.inl q.1)) (fun a q => q.elim) f3) (fr_mono (fun a j q => Or.inr (Or.inl q.1)) (fun a q => q.elim) g3))) (Or.inr (Or.inr ⟨rfl, by omega⟩))) (Or.inr (Or.inr ⟨rfl, by omega⟩))) (Or.inr (Or.inr ⟨rfl, by omega⟩))⟩
  · show tb (mL τ6 86 q) i = _
    rw [g3.2.1 86 q (fun q => q), f3.2.1 86 q (fun q => q), h486, c2 q (by omega) hq, tb_and, a3.2.1 87 q (fun q => q)]
    by_cases hi : i < 64
    · rw [m1 i hi]
    · rw [tb_big (x := mL τ 87 q) (by omega), Bool.false_and, Bool.false_and]
  · rw [h688, g3.1 88 0 (by omega), f3.1 88 0 (by omega)]; exact h480
  · rw [h688, g3.1 88 1 (by omega), f3.1 88 1 (by omega)]; exact h481
  · rw [h688, g3.1 88 (2 + j) (by omega), f2 j hj]; exact h484 _ (by omega)
  · rw [h688, g2 i hi, f3.1 84 _ (by omega)]; exact h484 _ (by omega)
  · rw [mI_sI, if_neg (by omega), mI_sI, if_neg (by omega), mI_at]
  · rw [mI_sI, if_neg (by omega), mI_at]
end
