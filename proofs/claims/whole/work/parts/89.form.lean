/-! a whole formula on both sides -/
section
variable {σ τ : OM} {f : Nat → Nat} {L i K F : Nat} {t : Tk} {r : List Tk}
theorem zformula (hF6 : F ≤ 6) (hlv : zLv σ τ f L t r i) (hNM : zNM σ (mI τ 85) K) (hF : ∀ s, s < 6 → 1 ≤ zSm (mI τ 85) s → s < F) : ∃ x σ' v τ', fX5_formula σ = some (x, σ') ∧ fX10_formula (fX10_factor oR) (sI (sI τ 81 24 0) 81 25 0) = some (v, τ') ∧ Fr zfP zfQ σ σ' ∧ Fr zgP noL τ τ' ∧ ((x = v ∧ zLo F v ∧ zGo σ' τ' f L (i + 1)) ∨ zDead σ' τ') := by
  have h900 : L ≤ 900 := hlv.1.1.1.1
  have hfr0 : Fr zgP noL τ (sI (sI τ 81 24 0) 81 25 0) := fr_I (fr_I (fr_rfl _ _ _) (Or.inr ⟨rfl, Or.inl rfl⟩)) (Or.inr ⟨rfl, Or.inr rfl⟩)
  have hfc0 : Fr zfP zfQ σ (zbl (sI (sI σ 48 9 0) 48 13 0) 0) := fr_I (fr_L (fr_L (fr_I (fr_I (fr_rfl _ _ _) (Or.inr (Or.inl ⟨rfl, Or.inl rfl⟩))) (Or.inr (Or.inl ⟨rfl, Or.inr rfl⟩))) (Or.inr (Or.inl rfl))) (Or.inr (Or.inr rfl))) (Or.inr (Or.inr rfl))
  have e9 : mI (sI (sI σ 48 9 0) 48 13 0) 48 9 = oi 0 := by rw [mI_sI, if_neg (by omega), mI_at]; rfl
  have q9 : mI (zbl (sI (sI σ 48 9 0) 48 13 0) 0) 48 9 = oi 0 := by unfold zbl; rw [mI_sI, if_neg (by omega), mI_sL, mI_sL]; exact e9
  have q13 : mI (zbl (sI (sI σ 48 9 0) 48 13 0) 0) 48 13 = oi 0 := by unfold zbl; rw [mI_sI, if_neg (by omega), mI_sL, mI_sL, mI_at]; rfl
  have q55 : mI (zbl (sI (sI σ 48 9 0) 48 13 0) 0) 55 0 = b2 false := by unfold zbl; rw [mI_at]; rfl
  have q53 : mL (zbl (sI (sI σ 48 9 0) 48 13 0) 0) 53 0 = 0 := by
    show mL (sL (sL σ 53 0 0) 54 0 (-1)) 53 0 = 0
    rw [mL_sL, if_neg (by omega), mL_at]
  have q54 : mL (zbl (sI (sI σ 48 9 0) 48 13 0) 0) 54 0 = -1 := by
    show mL (sL (sL σ 53 0 0) 54 0 (-1)) 54 0 = -1
    rw [mL_at]
  have qI : ∀ a j, a ≠ 55 → ¬ (a = 48 ∧ (j = 9 ∨ j = 13)) → mI (zbl (sI (sI σ 48 9 0) 48 13 0) 0) a j = mI σ a j := fun a j p q => by
    unfold zbl; rw [mI_sI, if_neg (by omega), mI_sL, mI_sL, mI_sI, if_neg (by omega), mI_sI, if_neg (by omega)]
  have qL : ∀ a j, a ≠ 53 → a ≠ 54 → mL (zbl (sI (sI σ 48 9 0) 48 13 0) 0) a j = mL σ a j := fun a j p q => by
    show mL (sL (sL σ 53 0 0) 54 0 (-1)) a j = mL σ a j
    rw [mL_sL, if_neg (by omega), mL_sL, if_neg (by omega)]
  have hc : fX5_formula σ = zCO 99999 oF 0 0 (zbl (sI (sI σ 48 9 0) 48 13 0) 0) := by
    unfold fX5_formula
    rw [zbegl e9 (by omega), obv_s]
    exact zb1 (N := 99999) (a := 0) (by omega)
  rw [hc]
  generalize (zbl (sI (sI σ 48 9 0) 48 13 0) 0) = σ0 at *
  have hlv0 : zLv σ0 (sI (sI τ 81 24 0) 81 25 0) f L t r i := zlv_fr hlv (fun a j p q => qI a j (by omega) (by omega)) (fun a j p q => qL a j (by omega) (by omega)) (qI 48 2 (by omega) (by omega)) (fun j p q => by rw [mI_sI, if_neg (by omega), mI_sI, if_neg (by omega)]) (fun j => by rw [mI_sI, if_neg (by omega), mI_sI, if_neg (by omega)]) (fun j => by rw [mI_sI, if_neg (by omega), mI_sI, if_neg (by omega)]) (by rw [mI_sI, if_neg (by omega), mI_sI, if_neg (by omega)])
  have h85 : mI (sI (sI τ 81 24 0) 81 25 0) 85 = mI τ 85 := zrow_g hfr0 z85
  have hfs : zFS σ0 (sI (sI τ 81 24 0) 81 25 0) f L t r i 0 0 (mI τ 85) K := ⟨hlv0, ⟨h85, znm_f hfc0 hNM⟩, ⟨q9, mI_at, by omega⟩, q13, by rw [mI_sI, if_neg (by omega), mI_at]; rfl, by omega⟩
  obtain ⟨v, τ1, f1, f2, f3⟩ := zform (zfactor hF6 hF oR) (N := 99999) (m := oF) (a := 0) (b := 0) hfs q55 q53 q54 (by unfold oR; omega) (Nat.le_refl _) (by omega) (by omega) (by unfold oF; omega)
  rcases f3 with ⟨f3, σ2, t2, r2, i2, N2, m2, a2, b2', c2', x1, ⟨y1, y2, y3, y4, y5, y6⟩, x3, x4, x5, ⟨x6, x7⟩, x8⟩ | ⟨x, σ', w1, w2, w3⟩
  · have hc2 := y1.2.2.2.2.2
    obtain ⟨m2, rfl⟩ : ∃ k', m2 = k' + 1 := ⟨m2 - 1, by omega⟩
    refine ⟨_, σ2, v, τ1, x1.trans (zcc_end y1.1 x6 x7 (by omega) (by omega) y1.2.2.1.1), f1, fr_tr hfc0 x8.2, fr_tr hfr0 f2, Or.inl ⟨x5, f3, t2, r2, i2, x3, y1.1⟩⟩
  · exact ⟨x, σ', v, τ1, w1, f1, fr_tr hfc0 w3, fr_tr hfr0 f2, Or.inr w2⟩
end
