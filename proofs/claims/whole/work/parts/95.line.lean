/-! lines: truth, to its end -/
section
variable {σ τ : OM} {f : Nat → Nat} {L i w : Nat} {t : Tk} {r : List Tk}
def rTruth (x0 : Int32) (τ : OM) : Option OM := obi (fX10_takesWord 5 τ) (fun r4 σ5 => if r4 = 0 then fX10_truthLine_b68 oF x0 (0 : Int32) (1 : Int32) σ5 else fX10_truthLine_b68 oF x0 (0 : Int32) (0 : Int32) σ5)
theorem ztr_end (hw : w = 1 ∨ w = 22) (h1 : mR σ 48 1 = w) (hk : okd w = 8) (hD : zDD σ w (mI τ 85) (mL τ 87)) (x0 : Int32) {σ1 τ1 : OM} {T : Nat} (hf : Fr (ztP w) zkQ σ σ1) (hg : Fr zrP noL τ τ1) (hT : T < 2 ^ nn (mI τ 85 1)) (h5 : mI σ1 (w + 1) 5 = oi T) (hgo : zGo σ1 τ1 f L (i + 1)) : ∃ b σ' τ', fX5_readTruth_b32 x0 σ1 = some (b2 b, σ') ∧ fX10_truthLine_b134 x0 (oi T) τ1 = some τ' ∧ zRs w f L (i + 1) b σ σ' τ τ' ((∀ k, 1 ≤ k → k ≤ 10 → k ≠ 10 → mI τ' 85 k = mI τ 85 k) ∧ 0 < nn (mI τ' 85 10)) := by
  obtain ⟨⟨b1, bn⟩, b3, b4, b5, b6, b7, b8⟩ := hD
  have hFb := b1.1.1.2
  obtain ⟨⟨l1, l2, l3, l4⟩, l5, l6, l7, l8⟩ := b4
  have h64 : 2 ^ nn (mI τ 85 1) ≤ 64 := Nat.pow_le_pow_right (n := 2) (by decide) hFb
  have hm : mR σ1 48 1 = w := by rw [hf.2.2]; exact h1
  unfold fX5_readTruth_b32 fX10_truthLine_b134
  have hm2 : mR (sI σ1 (w + 1) 4 1) 48 1 = w := hm
  rw [hm, ogd_d hk, hm2, ogd_d hk]
  have e5 : mI (sI σ1 (w + 1) 4 1) (w + 1) 5 = oi (T + 1 - 1) := by rw [mI_sI, if_neg (by omega), Nat.add_sub_cancel]; exact h5
  have e4 : mI (sI σ1 (w + 1) 4 1) (w + 1) 4 = b2 (decide (0 < T + 1)) := by rw [mI_at, decide_eq_true (Nat.succ_pos T)]; rfl
  have e3 : mL (sI σ1 (w + 1) 4 1) (w + 1) 3 = mL τ 87 8 := (hf.2.1 (w + 1) 3 (by unfold zkQ; omega)).trans l2
  have r85 : ∀ j, mI τ1 85 j = mI τ 85 j := fun j => hg.1 85 j (by unfold zrP; omega)
  have r87 : mL τ1 87 = mL τ 87 := funext (fun j => hg.2.1 87 j (fun q => q))
  rw [zstands (T := T + 1) (by omega) e4 e5, obi_s, e3, r87, bitS _ (by omega)]
  have hz : zst1 (T + 1) (mL τ 87 8) = tb (mL τ 87 8) T := by unfold zst1; rw [if_pos (Nat.succ_pos T), Nat.add_sub_cancel]
  rw [hz, oi_succ]
  have hfc : Fr (zlP w) (zlQ w) σ (sI σ1 (w + 1) 4 1) := fr_I (fr_mono (fun a j q => q.elim (fun q => Or.inl (Or.inl q)) (fun q => Or.inr (by omega))) (fun a q => Or.inl (Or.inl q)) hf) (Or.inr (Or.inr (Or.inr (Or.inr ⟨by omega, by omega⟩))))
  cases eb : tb (mL τ 87 8) T with
  | false =>
    rw [if_pos (show b2 false = 0 from rfl), if_neg Bool.false_ne_true, if_pos ((cmp_eq _ _).mpr rfl), zfail (by rw [mI_sI, if_neg (by omega)]; exact (zgo_13 hgo).1), obi_s, if_pos rfl, zwrong (zgo_13 hgo).2, obv_s]
    exact ⟨false, _, _, rfl, rfl, ⟨fr_tr hfc (zk_l w (zfl_fr _ _ _)), fr_I (fr_tr (zr_m hg) (zr_m (zwr_fr _ _ _))) (Or.inr rfl)⟩, Or.inr ⟨rfl, zdead_fr rfl rfl (by rw [mI_sI, if_neg (by omega)]) (by rw [mI_sI, if_neg (by omega)]) (by rw [mI_sI, if_neg (by omega)]) (zdead_mk _ _ (by decide) _)⟩⟩
  | true =>
    rw [if_neg (show ¬ b2 true = 0 by decide), if_pos rfl, if_neg (fun q => absurd ((cmp_eq _ _).mp q) (by decide))]
    have hro : ∀ j, j ≠ 10 → mI (sI τ1 85 10 (oi (T + 1))) 85 j = mI τ 85 j := fun j e => by rw [mI_sI, if_neg (fun q => e q.2), r85]
    have hr10 : mI (sI τ1 85 10 (oi (T + 1))) 85 10 = oi (T + 1) := mI_at
    have nT : nn (oi (T + 1)) = T + 1 := nn_oi (by omega)
    have hI : ∀ a j, w ≤ a → a ≤ w + 20 → ¬ (a = w + 1 ∧ (j = 4 ∨ j = 5)) → mI (sI σ1 (w + 1) 4 1) a j = mI σ a j := fun a j p q e => by rw [mI_sI, if_neg (by omega)]; exact hf.1 a j (by unfold ztP zkP; omega)
    have hL : ∀ a j, w ≤ a → a ≤ w + 20 → mL (sI σ1 (w + 1) 4 1) a j = mL σ a j := fun a j p q => hf.2.1 a j (by unfold zkQ; omega)
    have hI5 : ∀ a j, 48 ≤ a → ¬ zkP a j → mI (sI σ1 (w + 1) 4 1) a j = mI σ a j := fun a j p q => by rw [mI_sI, if_neg (by omega)]; exact hf.1 a j (fun e => e.elim q (by omega))
    refine ⟨true, _, _, rfl, rfl, ⟨hfc, fr_I (zr_m hg) (Or.inr rfl)⟩, Or.inl ⟨rfl, ?_, ?_, fun k p q e => hro k e, by rw [hr10, nT]; exact Nat.succ_pos T⟩⟩
    · exact zgo_fr hgo (fun a j p q => by rw [mI_sI, if_neg (by omega)]) (fun a j p q => rfl) (by rw [mI_sI, if_neg (by omega)]) (fun j p q => by rw [mI_sI, if_neg (by omega)]) (fun j => by rw [mI_sI, if_neg (by omega)]) (fun j => by rw [mI_sI, if_neg (by omega)]) (by rw [mI_sI, if_neg (by omega)])
    · rw [mL_sI, r87]
      have hL50 : ∀ j, mL (sI σ1 (w + 1) 4 1) 50 j = mL σ 50 j := fun j => hf.2.1 50 j (by unfold zkQ; omega)
      generalize (sI σ1 (w + 1) 4 1) = σ2 at e5 e4 e3 hI hL hI5 hL50 ⊢
      generalize mI (sI τ1 85 10 (oi (T + 1))) 85 = R4 at hro hr10 ⊢
      refine ⟨⟨zdb_c (fun j p q => hro j (by omega)) b1, zdn_c (fun j p q => hro j (by omega)) (hro 1 (by omega)) (hro 3 (by omega)) (hro 5 (by omega)) (hI5 48 8 (by omega) (by unfold zkP; omega)) hL50 (fun j => hI5 51 j (by omega) (by unfold zkP; omega)) (fun j => hI5 52 j (by omega) (by unfold zkP; omega)) bn⟩, zdf_c (hro 1 (by omega)) (fun j p q => hro j (by omega)) hFb (hI _ _ (by omega) (by omega) (by omega)) (fun j => hI _ _ (by omega) (by omega) (by omega)) b3, ⟨⟨?_, e3, ?_, l4⟩, ?_, ?_, ?_, ?_⟩, zdq_c (hro 1 (by omega)) (hro 5 (by omega)) (fun q hq => rfl) (hI _ _ (by omega) (by omega) (by omega)) (fun j => hL _ _ (by omega) (by omega)) b5, zds_c (hro 7 (by omega)) (fun j p q => hro j (by omega)) b1.2.2.2.1.2 (hI _ _ (by omega) (by omega) (by omega)) (hI _ _ (by omega) (by omega) (by omega)) b6, zdh_c (hro 3 (by omega)) (hro 4 (by omega)) (fun j p q => hro j (by omega)) b1.1.2.2.1.2 b1.1.2.2.2.2 (hI _ _ (by omega) (by omega) (by omega)) (hI _ _ (by omega) (by omega) (by omega)) (fun k j hk => hI _ _ (by omega) (by omega) (by omega)) b7, zdt_c (hro 0 (by omega)) (hro 3 (by omega)) (hro 5 (by omega)) (hro 6 (by omega)) (hro 8 (by omega)) (fun j p q e1 e2 => hro j (by omega)) b1.2.2.1.2 (fun a j p q => hI _ _ (by omega) (by omega) (by omega)) b8⟩
      · rw [hI _ _ (by omega) (by omega) (by omega), hro 2 (by omega)]; exact l1
      · rw [hro 1 (by omega)]; exact l3
      · rw [hr10, nT]; exact e4
      · rw [hr10, nT]; exact e5
      · rw [hr10, hro 1 (by omega)]; exact bd_of (by omega) (by omega)
      · intro _
        rw [hr10, nT, Nat.add_sub_cancel]; exact eb
theorem ln_truth (hw : w = 1 ∨ w = 22) (h1 : mR σ 48 1 = w) (hk : okd w = 8) (hlv : zLv σ τ f L t r i) (hD : zDD σ w (mI τ 85) (mL τ 87)) (h10 : nn (mI τ 85 10) = 0) (x0 : Int32) : ∃ b σ' τ', fX5_readTruth x0 σ = some (b2 b, σ') ∧ rTruth x0 τ = some τ' ∧ zRs w f L (i + 1) b σ σ' τ τ' ((∀ k, 1 ≤ k → k ≤ 10 → k ≠ 10 → mI τ' 85 k = mI τ 85 k) ∧ 0 < nn (mI τ' 85 10)) := by
  have hD0 := hD
  obtain ⟨⟨b1, bn⟩, b3, b4, b5, b6, b7, b8⟩ := hD
  have hFb := b1.1.1.2
  have h5 : mI σ (w + 1) 5 = oi 0 := by rw [b4.2.2.1, h10]
  have ho := zlv_ok hlv
  unfold fX5_readTruth rTruth
  have hkk : mI σ 43 8 = 267 ↔ zis (zch f L) t 5 = true := by
    rw [hlv.1.2.1.1.2.1]; exact zck_key ho (j := 11) (by decide)
  cases ez : zis (zch f L) t 5 with
  | true =>
    obtain ⟨t1, r1, σ1, τ1, g1, g2, g3, g4, g5, g6⟩ := zboth hlv (by have := zis_2 ez; omega)
    rw [if_pos (hkk.mpr ez), g1, obv_s, ztw_y hlv (by decide) ez g2, obi_s, if_neg (by decide), show oF = 99999 + 1 from rfl, fX10_truthLine_b68, if_pos rfl]
    exact ztr_end hw h1 hk hD0 x0 (fr_mono (fun a j q => Or.inl q) (fun a q => q) (zP2k g5)) (zP3r g6) (T := 0) (Nat.pow_pos (by decide)) (by rw [g5.1 (w + 1) 5 (by unfold zP2; omega)]; exact h5) ⟨t1, r1, i + 1, Nat.le_refl _, g3⟩
  | false =>
    rw [if_neg (fun q => by have := hkk.mp q; rw [ez] at this; cases this), ztw hlv (by decide) ez, obi_s, if_pos rfl]
    unfold fX5_readTruthNames
    have hc0 : cnt (0 : Nat).testBit 6 = 0 := by decide
    obtain ⟨b, σ1, y1, y2, y3⟩ := ztr_go hw hk hFb x0 (F := nn (mI τ 85 1)) 6 oF oF σ τ t r i 0 (by rw [hc0]) (by unfold oF; omega) (by unfold oF; omega) h1 hlv bn.1 (fun s hs hm => by have := bn.2 s (by omega) hm; omega) h5 (Nat.pow_pos (by decide))
    rw [hc0] at y1
    rw [show fX5_readTruthNames_b2 oF 0 σ = fX5_readTruthNames_b2 oF (oi 0) σ from rfl, y1, obi_s]
    rcases y3 with ⟨rfl, T', τ', z2, z3, z4, z5, z6⟩ | ⟨rfl, τ', z2, z3, z4⟩
    · rw [if_neg (by decide), show fX10_truthLine_b68 oF x0 0 1 τ = fX10_truthLine_b68 oF x0 (oi 0) 1 τ from rfl, z4]
      exact ztr_end hw h1 hk hD0 x0 y2 z6 z2 z3 z5
    · rw [if_pos (by rfl), show fX10_truthLine_b68 oF x0 0 1 τ = fX10_truthLine_b68 oF x0 (oi 0) 1 τ from rfl, z2]
      exact ⟨false, _, _, rfl, rfl, ⟨fr_mono (fun a j q => q.elim (fun q => Or.inl (Or.inl q)) (fun q => Or.inr (by omega))) (fun a q => Or.inl (Or.inl q)) y2, zr_m z4⟩, Or.inr ⟨rfl, z3⟩⟩
end
