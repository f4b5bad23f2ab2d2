theorem gd_eqv (σ : OM) : Eqv σ (gd σ) := ft_eqv 0 σ
theorem refd {n : Nat} {σ : OM} {f g : OM → Option (Int32 × OM)} (hi : Inv n σ) (t r : Int32) (ht : t ≠ 4) (e1 : f σ = some (r, sI σ 0 9 t)) (e2 : g (sI σ 0 9 t) = some (r, ft t (gd (sI σ 0 9 t)))) : ∃ r σ1 σ2, f σ = some (r, σ1) ∧ g σ1 = some (r, σ2) ∧ Inv (n + 1) σ2 ∧ mR σ1 96 0 = mR σ 96 0 ∧ mR σ2 96 0 = mR σ1 96 0 := ⟨r, _, _, e1, e2, ref_fin hi ht, rfl, ft_mR _ _⟩
theorem rows9 {σ : OM} (t : Int32) : mI (gd (sI σ 0 9 t)) 84 = mI σ 84 ∧ mL (gd (sI σ 0 9 t)) 86 = mL σ 86 ∧ mI (gd (sI σ 0 9 t)) 88 = mI σ 88 := eqv_row (eqv_tr (eqv_I (eqv_rfl σ) (by unfold scr; omega) t) (ft_eqv 0 _))
theorem o9 {σ : OM} (t : Int32) {a j : Nat} (h : ¬ scr a j) : mI (gd (sI σ 0 9 t)) a j = mI σ a j := (eqv_tr (eqv_I (eqv_rfl σ) (by unfold scr; omega) t) (ft_eqv 0 (sI σ 0 9 t))).1 a j h
theorem m_wed (n : Nat) (x y : Int32) : okC n (fX9_wed x y) (fX10_wed x y) := by
  intro σ hi
  have hC := hi.1
  have hw := okW_lt hC.1
  have hk := okW_kd hC.1
  rcases hC.2.2.2 with hW | hN
  · generalize h0 : mR σ 0 0 = w at hw hk hW
    have hCW := hW.2.2.1
    have rbt : ∀ t, RB (gd (sI σ 0 9 t)) := fun t => WI_9 hw hW t
    have hHb := x_Hb hCW.1
    cases hb0 : oin x (nn (mI σ 84 3))
    · refine refd hi 1 0 (by decide) ?_ ?_
      · unfold fX9_wed
        rw [isH_c hCW.1 h0 hk, obi_s, hb0, if_pos (by decide)]; rfl
      · unfold fX10_wed
        rw [good_eq, obv_s, isH_r (rbt 1), obi_s, (rows9 1).1, hb0, if_pos (by decide)]; rfl
    obtain ⟨a, ha, ha2, rfl⟩ := oin_iff hb0
    cases hb1 : oin y (nn (mI σ 84 3))
    · refine refd hi 1 0 (by decide) ?_ ?_
      · unfold fX9_wed
        rw [isH_c hCW.1 h0 hk, obi_s, hb0, if_neg (by decide), isH_c hCW.1 h0 hk, obi_s, hb1, if_pos (by decide)]; rfl
      · unfold fX10_wed
        rw [good_eq, obv_s, isH_r (rbt 1), obi_s, (rows9 1).1, hb0, if_neg (by decide), isH_r (rbt 1), obi_s, (rows9 1).1, hb1, if_pos (by decide)]; rfl
    obtain ⟨b, hb, hb2, rfl⟩ := oin_iff hb1
    by_cases hab : a = b
    · refine refd hi 1 0 (by decide) ?_ ?_
      · unfold fX9_wed
        rw [isH_c hCW.1 h0 hk, obi_s, hb0, if_neg (by decide), isH_c hCW.1 h0 hk, obi_s, hb1, if_neg (by decide), if_pos (by rw [hab])]; rfl
      · unfold fX10_wed
        rw [good_eq, obv_s, isH_r (rbt 1), obi_s, (rows9 1).1, hb0, if_neg (by decide), isH_r (rbt 1), obi_s, (rows9 1).1, hb1, if_neg (by decide), if_pos (by rw [hab])]; rfl
    · cases hwd : tw (mI σ 88 (62 + a)) b
      · obtain ⟨c, c1, c2, c3, c4, c5⟩ := hW.2.2.2.1
        obtain ⟨σ1, e1, e2, e3⟩ := marry_eq hCW.1.1.2 hCW.1.2.2 (show a < 6 by omega) (show b < 6 by omega) hab hwd
        have h3 : mI σ1 61 3 = oi c := by rw [e3.1 _ _ (by omega)]; exact c2
        obtain ⟨σ3, g1, g2, g3, g4, g5⟩ := keep_eq σ1 c1 h3 1 (oi a) (oi b)
        have eq6 : ∀ d j, 62 ≤ d → d ≤ 64 → mI σ1 d j = mI σ d j := fun d j p1 p2 => e3.1 _ _ (by omega)
        have f1 : fX9_wed (oi a) (oi b) σ = some (1, sI σ3 0 9 0) := by
          unfold fX9_wed
          rw [isH_c hCW.1 h0 hk, obi_s, hb0, if_neg (by decide), isH_c hCW.1 h0 hk, obi_s, hb1, if_neg (by decide), if_neg (by rw [oi_inj (by omega) (by omega)]; exact hab), h0, ogd_d hk, areWed_eq (by omega) (by omega), obi_s, hCW.1.2.2.2.2.2.1 a (by omega), hwd, if_pos (by decide), h0, ogd_d hk, e1, obv_s, g1, obv_s]
        have e8 : Fr (fun a j => (w + 5 ≤ a ∧ a ≤ w + 9) ∨ (61 ≤ a ∧ a ≤ 64) ∨ (a = 0 ∧ j = 9)) noL σ (sI σ3 0 9 0) := fr_I (fr_tr (fr_mono (fun d j p => by omega) (fun _ p => p) e3) (fr_mono (fun d j p => by omega) (fun _ p => p) g5)) (by omega)
        have k84 : mI (gd (sI σ3 0 9 0)) 84 = mI σ 84 := by rw [gd_84]; exact funext fun j => e8.1 84 j (by omega)
        have k88 : mI (gd (sI σ3 0 9 0)) 88 = mI σ 88 := by rw [gd_88]; exact funext fun j => e8.1 88 j (by omega)
        have k86 : mL (gd (sI σ3 0 9 0)) 86 = mL σ 86 := by rw [gd_86]; exact funext fun j => e8.2.1 86 j (fun e => e)
        have hRB : RB (gd (sI σ3 0 9 0)) := by
          unfold RB
          rw [k84, k86, k88, gd_14, e8.1 81 14 (by omega)]
          exact ⟨hW.2.1, hCW.1.1⟩
        have g22 : mI (gd (sI σ3 0 9 0)) 81 22 = oi c := by
          rw [(gd_eqv (sI σ3 0 9 0)).1 81 22 (by unfold scr; omega), e8.1 81 22 (by omega)]; exact c3
        obtain ⟨σ2, s1, s2, s3, s4, s5, s6⟩ := wed_r (τ := gd (sI σ3 0 9 0)) (show a < 6 by omega) (show b < 6 by omega) hab c1 g22
        rw [k88] at s2
        refine ⟨1, _, σ2, f1, ?_, ?_, by rw [e8.2.2], by rw [s6.2.2]; rfl⟩
        · unfold fX10_wed
          rw [good_eq, obv_s, isH_r hRB, obi_s, k84, hb0, if_neg (by decide), isH_r hRB, obi_s, k84, hb1, if_neg (by decide), if_neg (by rw [oi_inj (by omega) (by omega)]; exact hab), show (62 : Int32) + oi a = oi (62 + a) from oi_add 62 a, ogi (by omega) (by omega), oi_nat (by omega), k88, hasBit_eq _ (by omega), obi_s, hwd, if_pos (by decide)]
          rw [show (62 : Int32) + oi a = oi (62 + a) from oi_add 62 a, oi_nat (by omega)] at s1
          exact s1
        · have hN := hCW.1.1.2.2.1.2
          refine act_fin2 hi hw h0 hW c1 c4 c5 (sWed_TB hCW.1.1.2 ha hb hHb hab) (sWed_Act _ hCW.1.1.2 (by omega) (by omega) hab hwd) (sWed_o _ (by omega) (by omega)) (fun j hj => ⟨sWed_o _ (by omega) (by omega), sWed_o _ (by omega) (by omega), sWed_o _ (by omega) (by omega)⟩) (CT_congr (fun d j p => ?_) e2) mI_at ?_ (fun j hj => ?_) ?_ e8 s2 s3 s4 s5 s6
          · rw [mI_sI, if_neg (by omega), g5.1 _ _ (by omega)]
          · rw [mI_sI, if_neg (by omega)]; exact g2
          · rw [mI_sI, if_neg (by omega), mI_sI, if_neg (by omega), mI_sI, if_neg (by omega)]
            obtain ⟨k1, k2, k3⟩ := g3 j hj
            exact ⟨k1.trans (eq6 _ _ (by omega) (by omega)), k2.trans (eq6 _ _ (by omega) (by omega)), k3.trans (eq6 _ _ (by omega) (by omega))⟩
          · rw [mI_sI, if_neg (by omega), mI_sI, if_neg (by omega), mI_sI, if_neg (by omega)]; exact g4
      · refine refd hi 5 0 (by decide) ?_ ?_
        · unfold fX9_wed
          rw [isH_c hCW.1 h0 hk, obi_s, hb0, if_neg (by decide), isH_c hCW.1 h0 hk, obi_s, hb1, if_neg (by decide), if_neg (by rw [oi_inj (by omega) (by omega)]; exact hab), h0, ogd_d hk, areWed_eq (by omega) (by omega), obi_s, hCW.1.2.2.2.2.2.1 a (by omega), hwd, if_neg (by decide)]; rfl
        · unfold fX10_wed
          rw [good_eq, obv_s, isH_r (rbt 5), obi_s, (rows9 5).1, hb0, if_neg (by decide), isH_r (rbt 5), obi_s, (rows9 5).1, hb1, if_neg (by decide), if_neg (by rw [oi_inj (by omega) (by omega)]; exact hab), show (62 : Int32) + oi a = oi (62 + a) from oi_add 62 a, ogi (by omega) (by omega), oi_nat (by omega), (rows9 5).2.2, hasBit_eq _ (by omega), obi_s, hwd, if_neg (by decide)]; rfl
  · refine refd hi 1 0 (by decide) ?_ ?_
    · unfold fX9_wed
      rw [nH_c hN rfl hk, obi_s, if_pos rfl]; rfl
    · unfold fX10_wed
      rw [good_eq, obv_s, nH_r (by rw [o9 1 (by unfold scr; omega)]; exact hN.1.2.1), obi_s, if_pos rfl]; rfl
/-! years -/
def sYe (s : Nat → Int32) (x : Int32) : Nat → Int32 := fun j => if j = 0 then s 0 + x else s j
theorem sYe_o (s : Nat → Int32) (x : Int32) {j : Nat} (h : j ≠ 0) : sYe s x j = s j := if_neg h
theorem in1_r {b : Nat} (hb : b < 2147483648) (σ : OM) : fX10_in (oi b) 1 99 σ = some (b2 (decide (1 ≤ b ∧ b ≤ 99)), σ) := by
  unfold fX10_in
  rw [show (1 : Int32) = oi 1 from rfl, show (99 : Int32) = oi 99 from rfl, ite_iff (oi_lt hb (by omega)), ite_iff (oi_lt (by omega) hb)]
  by_cases h1 : b < 1
  · rw [if_pos h1, decide_eq_false (by omega)]; rfl
  · rw [if_neg h1]
    by_cases h2 : 99 < b
    · rw [if_pos h2, decide_eq_false (by omega)]; rfl
    · rw [if_neg h2, decide_eq_true (by omega)]; rfl
theorem m_years (n : Nat) (x : Int32) : okC n (fX9_years x) (fX10_years x) := by
  intro σ hi
  have hC := hi.1
  have hw := okW_lt hC.1
  have hk := okW_kd hC.1
  rcases hC.2.2.2 with hW | hN
  · generalize h0 : mR σ 0 0 = w at hw hk hW
    have hCW := hW.2.2.1
    have e14 : ∀ t, ¬ mI (gd (sI σ 0 9 t)) 81 14 = 0 := fun t => by rw [o9 t (by unfold scr; omega), hW.2.1]; decide
    have bad2 : fX9_years x σ = some (-1, sI σ 0 9 2) → (fX10_in x 1 99 (gd (sI σ 0 9 2)) = some (0, gd (sI σ 0 9 2))) → ∃ r σ1 σ2, fX9_years x σ = some (r, σ1) ∧ fX10_years x σ1 = some (r, σ2) ∧ Inv (n + 1) σ2 ∧ mR σ1 96 0 = mR σ 96 0 ∧ mR σ2 96 0 = mR σ1 96 0 := by
      intro e1 e2
      refine refd hi 2 (-1) (by decide) e1 ?_
      unfold fX10_years
      rw [good_eq, obv_s, if_neg (e14 2), e2, obi_s, if_pos rfl]; rfl
    rcases oi_cases x with hx | ⟨b, hb, rfl⟩
    · refine bad2 ?_ ?_
      · unfold fX9_years
        rw [if_neg (by rw [hW.1]; decide), if_pos (Int32.lt_trans hx (by decide))]; rfl
      · unfold fX10_in
        rw [if_pos (Int32.lt_trans hx (by decide))]
    · by_cases hb1 : 1 ≤ b ∧ b ≤ 99
      · have hs0 := hCW.1.1.2.1
        have hs0b := hs0.2
        have e0 : mI σ (w + 5) 6 = oi (nn (mI σ 88 0)) := hCW.1.2.2.2.1.trans hs0.1
        by_cases hy : nn (mI σ 88 0) + b ≤ 999
        · obtain ⟨c, c1, c2, c3, c4, c5⟩ := hW.2.2.2.1
          have e3 : Fr (fun a j => a = w + 5 ∧ j = 6) noL σ (sI σ (w + 5) 6 (oi (nn (mI σ 88 0) + b))) := fr_I (fr_rfl _ _ _) ⟨rfl, rfl⟩
          have h3 : mI (sI σ (w + 5) 6 (oi (nn (mI σ 88 0) + b))) 61 3 = oi c := by rw [e3.1 _ _ (by omega)]; exact c2
          obtain ⟨σ3, g1, g2, g3, g4, g5⟩ := keep_eq _ c1 h3 2 (oi b) 0
          have r0 : mR σ3 0 0 = w := by rw [g5.2.2]; exact h0
          have f1 : fX9_years (oi b) σ = some (oi (nn (mI σ 88 0) + b), sI σ3 0 9 0) := by
            unfold fX9_years
            rw [if_neg (by rw [hW.1]; decide), if_neg (by show ¬ oi b < oi 1; rw [oi_lt hb (by omega)]; omega), if_pos (by show oi b ≤ oi 99; rw [oi_le hb (by omega)]; omega), h0, ogd_d hk, e0, oi_add, if_pos (by show oi _ ≤ oi 999; rw [oi_le (by omega) (by omega)]; omega), ogd_d hk, g1, obv_s, r0, ogd_d hk, g5.1 _ _ (by omega), mI_at]; rfl
          have e8 : Fr (fun a j => (w + 5 ≤ a ∧ a ≤ w + 9) ∨ (61 ≤ a ∧ a ≤ 64) ∨ (a = 0 ∧ j = 9)) noL σ (sI σ3 0 9 0) := fr_I (fr_tr (fr_mono (fun d j p => by omega) (fun _ p => p) e3) (fr_mono (fun d j p => by omega) (fun _ p => p) g5)) (by omega)
          have k88 : mI (gd (sI σ3 0 9 0)) 88 = mI σ 88 := by rw [gd_88]; exact funext fun j => e8.1 88 j (by omega)
          have g22 : mI (gd (sI σ3 0 9 0)) 81 22 = oi c := by
            rw [(gd_eqv (sI σ3 0 9 0)).1 81 22 (by unfold scr; omega), e8.1 81 22 (by omega)]; exact c3
          obtain ⟨σ4, s1, s2, s3, s4, s5⟩ := note_eq (gd (sI σ3 0 9 0)) c1 g22
          have j88 : mI σ4 88 = mI σ 88 := by rw [← k88]; exact funext fun j => s5.1 88 j (by omega)
          have s6' : Fr (fun a j => (a = 81 ∧ j = 22) ∨ a = 88 ∨ a = 89) noL (gd (sI σ3 0 9 0)) (sI σ4 88 0 (oi (nn (mI σ 88 0) + b))) := fr_I (fr_mono (fun d j p => by omega) (fun _ p => p) s5) (by omega)
          have hv : mI σ4 88 0 + oi b = oi (nn (mI σ 88 0) + b) := by rw [j88, hs0.1, nn_oi (nn_lt _)]; exact oi_add _ _
          refine ⟨oi (nn (mI σ 88 0) + b), _, sI σ4 88 0 (oi (nn (mI σ 88 0) + b)), f1, ?_, ?_, by rw [e8.2.2], by rw [s6'.2.2]; rfl⟩
          · unfold fX10_years
            rw [good_eq, obv_s, if_neg (by rw [gd_14, e8.1 81 14 (by omega), hW.2.1]; decide), in1_r hb, obi_s, decide_eq_true hb1, if_neg (by decide), k88, if_pos (by rw [hs0.1, oi_add]; show oi _ ≤ oi 999; rw [oi_le (by omega) (by omega)]; omega), s1, obv_s, hv, mI_at]
          · have hT' : TB (mI σ 84) (sYe (mI σ 88) (oi b)) := by
              obtain ⟨a1, a2, a3, a4, a5⟩ := hCW.1.1.2
              have y0 : sYe (mI σ 88) (oi b) 0 = oi (nn (mI σ 88 0) + b) := by
                show mI σ 88 0 + oi b = _
                rw [hs0.1, nn_oi (nn_lt _)]; exact oi_add _ _
              refine ⟨by rw [y0]; exact bd_of hy (by omega), by rw [sYe_o _ _ (by omega)]; exact a2, fun k hk' => ?_, fun i hi' j hj => ?_, fun i hi' j hj => ?_⟩
              · rw [sYe_o _ _ (by omega)] at hk'
                rw [sYe_o _ _ (by omega), sYe_o _ _ (by omega), sYe_o _ _ (by omega)]; exact a3 k hk'
              · rw [sYe_o _ _ (by omega)] at hj; exact a4 i hi' j hj
              · rw [sYe_o _ _ (by omega), sYe_o _ _ (by omega)]; exact a5 i hi' j hj
            have hA : Act 2 (oi b) 0 (mI σ 88) (sYe (mI σ 88) (oi b)) := Or.inr (Or.inr ⟨rfl, rfl, sYe_o _ _ (by omega), fun j hj => ⟨sYe_o _ _ (by omega), sYe_o _ _ (by omega), sYe_o _ _ (by omega)⟩, fun i hi' => sYe_o _ _ (by omega)⟩)
            refine act_fin2 hi hw h0 hW c1 c4 c5 hT' hA (sYe_o _ _ (by omega)) (fun j hj => ⟨sYe_o _ _ (by omega), sYe_o _ _ (by omega), sYe_o _ _ (by omega)⟩) ?_ mI_at ?_ (fun j hj => ?_) ?_ e8 ?_ ?_ (fun k j hk' hj => ?_) (fun j hj => ?_) s6'
            · obtain ⟨d1, d2, d3, d4, d5⟩ := hCW.1.2.2
              have cc : ∀ d j, w + 5 ≤ d → d ≤ w + 9 → ¬ (d = w + 5 ∧ j = 6) → mI (sI σ3 0 9 0) d j = mI σ d j := fun d j p1 p2 p3 => by
                rw [mI_sI, if_neg (by omega), g5.1 _ _ (by omega), e3.1 _ _ p3]
              refine ⟨?_, ?_, fun k hk' => ?_, fun i hi' => ?_, ?_⟩
              · rw [cc _ _ (by omega) (by omega) (by omega), sYe_o _ _ (by omega)]; exact d1
              · rw [mI_sI, if_neg (by omega), g5.1 _ _ (by omega), mI_at]
                show _ = mI σ 88 0 + oi b
                rw [hs0.1, nn_oi (nn_lt _)]; exact (oi_add _ _).symm
              · rw [sYe_o _ _ (by omega)] at hk'
                rw [cc _ _ (by omega) (by omega) (by omega), cc _ _ (by omega) (by omega) (by omega), cc _ _ (by omega) (by omega) (by omega), sYe_o _ _ (by omega), sYe_o _ _ (by omega), sYe_o _ _ (by omega)]; exact d3 k hk'
              · rw [cc _ _ (by omega) (by omega) (by omega), sYe_o _ _ (by omega)]; exact d4 i hi'
              · rw [cc _ _ (by omega) (by omega) (by omega), sWd_ext (fun i hi' => sYe_o _ _ (by omega))]; exact d5
            · rw [mI_sI, if_neg (by omega)]; exact g2
            · rw [mI_sI, if_neg (by omega), mI_sI, if_neg (by omega), mI_sI, if_neg (by omega)]
              obtain ⟨k1, k2, k3⟩ := g3 j hj
              exact ⟨k1.trans (e3.1 _ _ (by omega)), k2.trans (e3.1 _ _ (by omega)), k3.trans (e3.1 _ _ (by omega))⟩
            · rw [mI_sI, if_neg (by omega), mI_sI, if_neg (by omega), mI_sI, if_neg (by omega)]; exact g4
            · funext j
              rw [mI_sI, j88]
              unfold sYe
              by_cases ej : j = 0
              · rw [if_pos ⟨rfl, ej⟩, if_pos ej, ← hv, j88]
              · rw [if_neg (fun e => ej e.2), if_neg ej]
            · rw [mI_sI, if_neg (by omega)]; exact s2
            · rw [mI_sI, if_neg (by omega)]; exact s3 k j hk' hj
            · rw [mI_sI, if_neg (by omega)]; exact s4 j hj
        · refine refd hi 3 (-1) (by decide) ?_ ?_
          · unfold fX9_years
            rw [if_neg (by rw [hW.1]; decide), if_neg (by show ¬ oi b < oi 1; rw [oi_lt hb (by omega)]; omega), if_pos (by show oi b ≤ oi 99; rw [oi_le hb (by omega)]; omega), h0, ogd_d hk, e0, oi_add, if_neg (by show ¬ oi _ ≤ oi 999; rw [oi_le (by omega) (by omega)]; omega)]; rfl
          · unfold fX10_years
            rw [good_eq, obv_s, if_neg (e14 3), in1_r hb, obi_s, decide_eq_true hb1, if_neg (by decide), (rows9 3).2.2, if_neg (by rw [hs0.1, oi_add]; show ¬ oi _ ≤ oi 999; rw [oi_le (by omega) (by omega)]; omega)]; rfl
      · refine bad2 ?_ ?_
        · unfold fX9_years
          rw [if_neg (by rw [hW.1]; decide)]
          by_cases h1 : b < 1
          · rw [if_pos (by show oi b < oi 1; rw [oi_lt hb (by omega)]; exact h1)]; rfl
          · rw [if_neg (by show ¬ oi b < oi 1; rw [oi_lt hb (by omega)]; exact h1), if_neg (by show ¬ oi b ≤ oi 99; rw [oi_le hb (by omega)]; omega)]; rfl
        · rw [in1_r hb, decide_eq_false hb1]; rfl
  · refine refd hi 1 (-1) (by decide) ?_ ?_
    · unfold fX9_years
      rw [if_pos hN.1.1]; rfl
    · unfold fX10_years
      rw [good_eq, obv_s, if_pos (by rw [o9 1 (by unfold scr; omega)]; exact hN.1.2.1)]; rfl
