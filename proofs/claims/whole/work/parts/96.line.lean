/-! lines: question -/
section
variable {σ τ : OM} {f : Nat → Nat} {L i w : Nat} {t : Tk} {r : List Tk}
theorem zform_d (h : mI τ 81 13 = 1) : fX10_formula (fX10_factor oR) τ = some (0, τ) := by
  have hf : fX10_factor oR τ = some (0, τ) := by
    show fX10_factor_s (fX10_factor 319) τ = _
    unfold fX10_factor_s; rw [h, if_neg (by decide)]
  unfold fX10_formula fX10_term
  rw [hf, obi_s, show oF = 99999 + 1 from rfl, fX10_term_b5, ztw_d h, obi_s, if_pos rfl, obi_s, fX10_formula_b5, ztw_d h, obi_s, if_pos rfl]
theorem ln_question (hw : w = 1 ∨ w = 22) (h1 : mR σ 48 1 = w) (hk : okd w = 8) (hlv : zLv σ τ f L t r i) (hD : zDD σ w (mI τ 85) (mL τ 87)) (hQ : nn (mI τ 85 5) < 8) : ∃ b σ' τ', fX5_readQuestion σ = some (b2 b, σ') ∧ fX10_questionLine τ = some τ' ∧ zRs w f L (i + 1) b σ σ' τ τ' ((∀ k, 1 ≤ k → k ≤ 10 → k ≠ 5 → mI τ' 85 k = mI τ 85 k) ∧ mI τ' 85 5 = oi (nn (mI τ 85 5) + 1)) := by
  obtain ⟨⟨b1, bn⟩, b3, b4, b5, b6, b7, b8⟩ := hD
  have hR5 : mI τ 85 5 = oi (nn (mI τ 85 5)) := b1.2.1.1
  have hFb := b1.1.1.2
  have hH := b1.1.2.2.1.2
  generalize hQe : nn (mI τ 85 5) = Q at *
  have hc6 : mI σ (w + 1) 6 = oi Q := b5.1.trans hR5
  have hu : zSm (mI τ 85) (12 + Q) = 0 := by
    have h2 := bn.2 (12 + Q) (by omega)
    rw [hQe] at h2
    omega
  obtain ⟨σ1, τ1, ⟨k1, k2⟩, k3, k4⟩ := znewName (s0 := 12 + Q) hlv (hQe ▸ bn.1) (by omega) (by omega) hu
  have hty : zty (12 + Q) = 7 ∧ zix (12 + Q) = Q := by
    unfold zty zix; rw [if_neg (by omega), if_neg (by omega), if_neg (by omega), if_neg (by omega)]
    exact ⟨rfl, by omega⟩
  rw [hty.1, hty.2] at k4
  unfold fX5_readQuestion fX10_questionLine
  rw [h1, ogd_d hk, hc6, show (8 : Int32) = oi 8 from rfl, if_neg (by rw [oi_le (by omega) (by omega)]; omega), if_pos hlv.2.2, hR5, show (12 : Int32) + oi Q = oi (12 + Q) from oi_add 12 Q, k3, obv_s]
  rw [show (7 : Int32) = oi 7 from rfl]
  rcases k4 with ⟨e1, ⟨t1, r1, i1, e2, e3⟩, e4, e5⟩ | ⟨e1, e2⟩
  · have hm1 : mR σ1 48 1 = w := by rw [k1.2.2]; exact h1
    rw [e1, obi_s, if_neg (by decide), hm1, ogd_d hk]
    obtain ⟨x, σ2, v, τ2, f1, f2, f3, f4, f5⟩ := zformula (F := nn (mI τ 85 1)) hFb e3 e4 (fun s hs hm => by
      rw [zS_o (by omega) k2 (show s < 20 by omega) (by omega)] at hm
      have := bn.2 s (by omega) hm; omega)
    rw [f1, obi_s, f2, obi_s]
    have hc62 : mI σ2 (w + 1) 6 = oi Q := by rw [f3.1 (w + 1) 6 (by unfold zfP zkP; omega), k1.1 (w + 1) 6 (by unfold zcP zkP; omega)]; exact hc6
    have hadd : fX2_addQuestion w x σ2 = some (sI (sL σ2 (w + 3) Q x) (w + 1) 6 (oi (Q + 1))) := by
      unfold fX2_addQuestion
      have h6 : mI (sL σ2 (w + 3) Q x) (w + 1) 6 = oi Q := hc62
      rw [hc62, if_neg (oi_nneg (by omega)), show (8 : Int32) = oi 8 from rfl, if_neg (by rw [oi_le (by omega) (by omega)]; omega), ogi (by omega) (by omega), oi_nat (by omega), h6, oi_succ]
    rw [hadd, obv_s]
    have hfc : Fr (zlP w) (zlQ w) σ (sI (sL σ2 (w + 3) Q x) (w + 1) 6 (oi (Q + 1))) := fr_I (fr_L (fr_tr (zc_l w k1) (zf_l w f3)) (Or.inr (Or.inr ⟨by omega, by omega⟩))) (Or.inr (Or.inr (Or.inr (Or.inr ⟨by omega, by omega⟩))))
    have hI : ∀ a j, ¬ (a = w + 1 ∧ j = 6) → mI (sI (sL σ2 (w + 3) Q x) (w + 1) 6 (oi (Q + 1))) a j = mI σ2 a j := fun a j e => by rw [mI_sI, if_neg e]; rfl
    have hL : ∀ a j, ¬ (a = w + 3 ∧ j = Q) → mL (sI (sL σ2 (w + 3) Q x) (w + 1) 6 (oi (Q + 1))) a j = mL σ2 a j := fun a j e => by
      show mL (sL σ2 (w + 3) Q x) a j = _
      rw [mL_sL, if_neg e]
    have g6 : mI (sI (sL σ2 (w + 3) Q x) (w + 1) 6 (oi (Q + 1))) (w + 1) 6 = oi (Q + 1) := mI_at
    have g3 : mL (sI (sL σ2 (w + 3) Q x) (w + 1) 6 (oi (Q + 1))) (w + 3) Q = x := by
      show mL (sL σ2 (w + 3) Q x) (w + 3) Q = x
      rw [mL_at]
    generalize (sI (sL σ2 (w + 3) Q x) (w + 1) 6 (oi (Q + 1))) = σ3 at hfc hI hL g6 g3 ⊢
    have hm12 : Fr zmP zmQ τ τ2 := fr_tr (zN_m k2) (zg_m f4)
    rcases f5 with ⟨rfl, f6, f7⟩ | f5
    · rw [if_pos ((hI 48 2 (by omega)).trans (zgo_13 f7).1), if_pos (zgo_13 f7).2, ogi (by omega) (by omega), oi_nat (by omega)]
      have r85 : ∀ j, mI τ2 85 j = mI τ1 85 j := fun j => f4.1 85 j (z85 j)
      have r5 : mI (sL τ2 87 Q x) 85 5 = oi Q := by
        show mI τ2 85 5 = _
        rw [r85, zrN_o k2 (by omega)]; exact hR5
      rw [r5, oi_succ]
      have hro : ∀ j, j ≠ 5 → j < 99 → mI (sI (sL τ2 87 Q x) 85 5 (oi (Q + 1))) 85 j = mI τ 85 j := fun j p q => by
        rw [mI_sI, if_neg (fun e => p e.2)]
        show mI τ2 85 j = _
        rw [r85, zrN_o k2 q]
      have hro1 : ∀ j, 99 ≤ j → j < 279 → mI (sI (sL τ2 87 Q x) 85 5 (oi (Q + 1))) 85 j = mI τ1 85 j := fun j p q => by
        rw [mI_sI, if_neg (by omega)]; exact r85 j
      have hr5 : mI (sI (sL τ2 87 Q x) 85 5 (oi (Q + 1))) 85 5 = oi (Q + 1) := mI_at
      have rZ : ∀ j, mL (sI (sL τ2 87 Q x) 85 5 (oi (Q + 1))) 87 j = if j = Q then x else mL τ 87 j := fun j => by
        show mL (sL τ2 87 Q x) 87 j = _
        rw [mL_sL]
        by_cases e : j = Q
        · rw [if_pos ⟨rfl, e⟩, if_pos e]
        · rw [if_neg (fun q => e q.2), if_neg e, f4.2.1 87 j (fun q => q)]; exact k2.2.1 87 j (fun q => q)
      have nQ : nn (oi (Q + 1)) = Q + 1 := nn_oi (by omega)
      refine ⟨true, _, _, rfl, rfl, ⟨hfc, fr_I (fr_L hm12 rfl) (Or.inr rfl)⟩, Or.inl ⟨rfl, ?_, ?_, fun k p q e => hro k e (by omega), hr5⟩⟩
      · exact zgo_lt (zgo_fr f7 (fun a j p q => hI a j (by omega)) (fun a j p q => hL a j (by omega)) (hI 48 2 (by omega)) (fun j p q => by rw [mI_sI, if_neg (by omega)]; rfl) (fun j => by rw [mI_sI, if_neg (by omega)]; rfl) (fun j => by rw [mI_sI, if_neg (by omega)]; rfl) (by rw [mI_sI, if_neg (by omega)]; rfl)) (by omega)
      · generalize mI (sI (sL τ2 87 Q x) 85 5 (oi (Q + 1))) 85 = R4 at hro hro1 hr5 ⊢
        generalize mL (sI (sL τ2 87 Q x) 85 5 (oi (Q + 1))) 87 = Z4 at rZ ⊢
        have hIw : ∀ a j, w ≤ a → a ≤ w + 20 → ¬ (a = w + 1 ∧ j = 6) → mI σ3 a j = mI σ a j := fun a j p q e => by
          rw [hI a j e, f3.1 a j (by unfold zfP zkP; omega)]; exact k1.1 a j (by unfold zcP zkP; omega)
        have hLw : ∀ a j, w ≤ a → a ≤ w + 20 → ¬ (a = w + 3 ∧ j = Q) → mL σ3 a j = mL σ a j := fun a j p q e => by
          rw [hL a j e, f3.2.1 a j (by unfold zfQ; omega)]; exact k1.2.1 a j (by unfold zcQ; omega)
        have hNM : zNM σ3 (mI τ1 85) (nn (mI τ 85 1) + nn (mI τ 85 3) + Q + 1) := znm_fr ((hI 48 8 (by omega)).trans (f3.1 48 8 (by unfold zfP zkP; omega))) (fun j => (hL 50 j (by omega)).trans (f3.2.1 50 j (by unfold zfQ; omega))) (fun j => (hI 51 j (by omega)).trans (f3.1 51 j (by unfold zfP zkP; omega))) (fun j => (hI 52 j (by omega)).trans (f3.1 52 j (by unfold zfP zkP; omega))) e4
        refine ⟨⟨⟨⟨by rw [hro 1 (by omega) (by omega)]; exact b1.1.1, by rw [hro 2 (by omega) (by omega)]; exact b1.1.2.1, by rw [hro 3 (by omega) (by omega)]; exact b1.1.2.2.1, by rw [hro 4 (by omega) (by omega)]; exact b1.1.2.2.2⟩, by rw [hr5]; exact bd_of (by omega) (by omega), by rw [hro 6 (by omega) (by omega)]; exact b1.2.2.1, by rw [hro 7 (by omega) (by omega)]; exact b1.2.2.2.1, by rw [hro 8 (by omega) (by omega)]; exact b1.2.2.2.2⟩, ?_, ?_⟩, zdf_c (hro 1 (by omega) (by omega)) (fun j p q => hro j (by omega) (by omega)) hFb (hIw _ _ (by omega) (by omega) (by omega)) (fun j => hIw _ _ (by omega) (by omega) (by omega)) b3, zdl_c (hro 1 (by omega) (by omega)) (hro 2 (by omega) (by omega)) (hro 10 (by omega) (by omega)) (by rw [rZ, if_neg (by omega)]) (hIw _ _ (by omega) (by omega) (by omega)) (hLw _ _ (by omega) (by omega) (by omega)) (hIw _ _ (by omega) (by omega) (by omega)) (hIw _ _ (by omega) (by omega) (by omega)) b4, ⟨by rw [g6, hr5], fun q hq => ?_⟩, zds_c (hro 7 (by omega) (by omega)) (fun j p q => hro j (by omega) (by omega)) b1.2.2.2.1.2 (hIw _ _ (by omega) (by omega) (by omega)) (hIw _ _ (by omega) (by omega) (by omega)) b6, zdh_c (hro 3 (by omega) (by omega)) (hro 4 (by omega) (by omega)) (fun j p q => hro j (by omega) (by omega)) b1.1.2.2.1.2 b1.1.2.2.2.2 (hIw _ _ (by omega) (by omega) (by omega)) (hIw _ _ (by omega) (by omega) (by omega)) (fun k j hk => hIw _ _ (by omega) (by omega) (by omega)) b7, ?_⟩
        · rw [hr5, nQ, hro 1 (by omega) (by omega), hro 3 (by omega) (by omega), show nn (mI τ 85 1) + nn (mI τ 85 3) + (Q + 1) = nn (mI τ 85 1) + nn (mI τ 85 3) + Q + 1 by omega]
          exact znm_c hro1 hNM
        · intro s hs hm
          rw [zSm_c hro1 hs] at hm
          rw [hr5, nQ, hro 1 (by omega) (by omega), hro 3 (by omega) (by omega)]
          by_cases es : s = 12 + Q
          · omega
          · rw [zS_o (by omega) k2 hs es] at hm
            have := bn.2 s hs hm
            rw [hQe] at this
            omega
        · rw [hr5, nQ] at hq
          rw [rZ, hro 1 (by omega) (by omega)]
          by_cases eq : q = Q
          · rw [if_pos eq, eq]; exact ⟨g3, f6⟩
          · rw [if_neg eq, hLw _ _ (by omega) (by omega) (by omega)]; exact b5.2 q (by omega)
        · obtain ⟨c1, c2, c3⟩ := b8
          have hs := zsv_c (R' := R4) (R := mI τ 85) (hro 0 (by omega) (by omega)) (hro 6 (by omega) (by omega)) (fun j p q e1 e2 => hro j (by omega) (by omega)) b1.2.2.1.2
          refine ⟨?_, CT_c hs b1.2.2.1.2 (fun a j p q => hIw a j (by omega) (by omega) (by omega)) c2, by rw [hro 8 (by omega) (by omega), c3, sWd_ext (fun i hi => hs (62 + i) (by omega))]⟩
          have hT := TB_c (R := mI τ 85) (R' := mI τ 85) rfl rfl hs b1.2.2.1.2 c1
          obtain ⟨d1, d2, d3, d4, d5⟩ := hT
          rw [hQe] at d3
          refine ⟨d1, d2, fun k hk => ?_, fun a ha j => ?_, d5⟩
          · obtain ⟨p1, p2, p3, p4, p5⟩ := d3 k hk
            rw [hro 3 (by omega) (by omega), hr5, nQ]
            exact ⟨p1, p2, p3, by omega, p5⟩
          · rw [hro 3 (by omega) (by omega)]; exact d4 a ha j
    · rw [if_neg (by rw [hI 48 2 (by omega)]; exact f5.1), if_neg (by rw [f5.2.2.2]; decide)]
      exact ⟨false, _, _, rfl, rfl, ⟨hfc, hm12⟩, Or.inr ⟨rfl, zdead_fr (hI 48 2 (by omega)) (hI 48 3 (by omega)) rfl rfl rfl f5⟩⟩
  · rw [e1, obi_s, if_pos rfl]
    have hd : mI (sI (sI τ1 81 24 0) 81 25 0) 81 13 = 1 := by rw [mI_sI, if_neg (by omega), mI_sI, if_neg (by omega)]; exact e2.2.2.2
    rw [zform_d hd, obi_s, if_neg (by rw [hd]; decide)]
    exact ⟨false, _, _, rfl, rfl, ⟨zc_l w k1, fr_I (fr_I (zN_m k2) (Or.inl (Or.inr ⟨rfl, Or.inl rfl⟩))) (Or.inl (Or.inr ⟨rfl, Or.inr rfl⟩))⟩, Or.inr ⟨rfl, zdead_fr rfl rfl (by rw [mI_sI, if_neg (by omega), mI_sI, if_neg (by omega)]) (by rw [mI_sI, if_neg (by omega), mI_sI, if_neg (by omega)]) (by rw [mI_sI, if_neg (by omega), mI_sI, if_neg (by omega)]) e2⟩⟩
end
