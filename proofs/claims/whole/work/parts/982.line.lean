/-! lines: weds -/
section
variable {σ τ : OM} {f : Nat → Nat} {L i w : Nat} {t : Tk} {r : List Tk}
theorem ln_weds (hw : w = 1 ∨ w = 22) (h1 : mR σ 48 1 = w) (hk : okd w = 8) (hlv : zLv σ τ f L t r i) (hD : zDD σ w (mI τ 85) (mL τ 87)) (hW : nn (mI τ 85 8) < 8) : ∃ b σ' τ', fX5_readWeds σ = some (b2 b, σ') ∧ fX10_wedsLine τ = some τ' ∧ zRs w f L (i + 1) b σ σ' τ τ' ((∀ k, 1 ≤ k → k ≤ 10 → k ≠ 8 → mI τ' 85 k = mI τ 85 k) ∧ mI τ' 85 8 = oi (nn (mI τ 85 8) + 1)) := by
  obtain ⟨⟨b1, bn⟩, b3, b4, b5, b6, b7, b8⟩ := hD
  have hR8 : mI τ 85 8 = oi (nn (mI τ 85 8)) := b1.2.2.2.2.1
  have hH := b1.1.2.2.1.2
  have hF := b1.1.1.2
  have hN6 := b1.2.2.1.2
  unfold fX5_readWeds fX10_wedsLine
  rw [if_pos hlv.2.2]
  rcases zhouse hlv b1 bn with ⟨a, σ1, τ1, a1, a2, a3, ⟨t1, r1, a4⟩, a5, a6⟩ | ⟨σ1, τ1, c1, c2, c3, c4, c5⟩
  · rw [a2, obi_s, if_pos (oi_0le (by omega)), a3, obi_s]
    have hnm : zNM σ1 (mI τ1 85) (nn (mI τ 85 1) + nn (mI τ 85 3) + nn (mI τ 85 5)) := znm_c (fun j p q => a6.1 85 j (by unfold zrP; omega)) (znm_fr (a5.1 48 8 (by unfold zkP; omega)) (fun j => a5.2.1 50 j (by unfold zkQ; omega)) (fun j => a5.1 51 j (by unfold zkP; omega)) (fun j => a5.1 52 j (by unfold zkP; omega)) bn.1)
    rw [show fX5_takeName 4 σ1 = fX5_takeName (oi 4) σ1 from rfl, show fX10_named (6 : Int32) (11 : Int32) τ1 = fX10_named (oi 6) (oi 11) τ1 from rfl]
    rcases znamed a4 hnm (y := 4) (lo := 6) (hi := 11) (Or.inr (Or.inl ⟨rfl, rfl, rfl⟩)) with ⟨s, d1, d2, d3, d4, d5, d6⟩ | ⟨c, c1, c2, c3⟩
    · rw [zSm_c (fun j p q => a6.1 85 j (by unfold zrP; omega)) (by omega)] at d3
      have hsq := bn.2 s (by omega) d3
      have hb : s - 6 < nn (mI τ 85 3) := by omega
      generalize s - 6 = b at hb d5 d6
      obtain ⟨t4, r4, σ4, τ4, g1, g2, g3, g4, g5, g6⟩ := zboth a4 (by omega)
      rw [d6 σ4 g1 (fun j => g5.1 52 j (by unfold zP2; omega)), obi_s, if_pos (oi_0le (by omega)), d5, obi_s, if_pos a4.2.2]
      have hfc : Fr zkP zkQ σ σ4 := fr_tr a5 (zP2k g5)
      have h4a : mI σ4 48 2 = 0 := g3.2.1
      have hmR : mR σ4 48 1 = w := by rw [hfc.2.2]; exact h1
      have hRa : mI τ1 85 (93 + a) = mI τ 85 (93 + a) := a6.1 85 _ (by unfold zrP; omega)
      have hCT : CT σ4 (w + 5) (zsv (mI τ 85)) := CT_c (fun _ _ => rfl) hN6 (fun a j p q => hfc.1 a j (by unfold zkP; omega)) b8.2.1
      have hsa : zsv (mI τ 85) (62 + a) = mI τ 85 (93 + a) := (zsv_at _).2.2.2 a (by omega)
      have hca : mI σ4 (w + 5 + 4) a = mI τ 85 (93 + a) := by rw [← hsa]; exact hCT.2.2.2.1 a (by omega)
      by_cases eab : a = b
      · subst eab
        rw [if_pos rfl, if_pos rfl, a4.1.2.1.1.2.2.1, zfail h4a, obi_s, ogd_t (show oisb 0 = true from rfl), a4.1.2.2.1.1.1, zwrong a4.2.2, obv_s]
        unfold fX10_wedsLine_b59
        rw [if_neg (by rw [zwr_13]; decide)]
        exact ⟨false, _, _, rfl, rfl, ⟨zk_l w (fr_tr hfc (zfl_fr _ _ _)), zr_m (fr_tr a6 (zwr_fr _ _ _))⟩, Or.inr ⟨rfl, zdead_mk _ _ (by decide) _⟩⟩
      · have nab : ¬ oi a = oi b := fun e => eab ((oi_inj (by omega) (by omega)).mp e)
        have nba : ¬ oi b = oi a := fun e => eab ((oi_inj (by omega) (by omega)).mp e.symm)
        rw [if_neg nba, if_neg nab, hmR, ogd_d hk, areWed_eq (by omega) (by omega), obi_s, hca, show (93 : Int32) + oi a = oi (93 + a) from oi_add 93 a, ogi (by omega) (by omega), oi_nat (by omega), hRa, hasBit_eq _ (by omega), obi_s]
        cases hbit : tw (mI τ 85 (93 + a)) b with
        | true =>
          rw [if_neg (show ¬ b2 true = 0 by decide), if_neg (show ¬ b2 true = 0 by decide), a4.1.2.1.1.2.2.1, zfail h4a, obi_s, ogd_t (show oisb 0 = true from rfl), a4.1.2.2.1.1.1, zwrong a4.2.2, obv_s]
          unfold fX10_wedsLine_b59
          rw [if_neg (by rw [zwr_13]; decide)]
          exact ⟨false, _, _, rfl, rfl, ⟨zk_l w (fr_tr hfc (zfl_fr _ _ _)), zr_m (fr_tr a6 (zwr_fr _ _ _))⟩, Or.inr ⟨rfl, zdead_mk _ _ (by decide) _⟩⟩
        | false =>
          rw [if_pos (show b2 false = 0 from rfl), if_pos (show b2 false = 0 from rfl), hmR, ogd_d hk]
          have hbs : tw (zsv (mI τ 85) (62 + a)) b = false := by rw [hsa]; exact hbit
          have hbs2 : tw (zsv (mI τ 85) (62 + b)) a = false := by rw [← hbs]; exact b8.1.2.2.2.2 b (by omega) a (by omega)
          obtain ⟨σ6, k1, k2, k3⟩ := marry_eq b8.1 hCT (a := a) (b := b) (by omega) (by omega) eab hbs
          rw [k1, obv_s]
          unfold fX10_wedsLine_b59
          have hsb : zsv (mI τ 85) (62 + b) = mI τ 85 (93 + b) := (zsv_at _).2.2.2 b (by omega)
          have hR4 : ∀ j, mI τ4 85 j = mI τ 85 j := fun j => (g6.1 85 j (by unfold zP3; omega)).trans (a6.1 85 j (by unfold zrP; omega))
          rw [if_pos a4.2.2, g2, obv_s, show (93 : Int32) + oi a = oi (93 + a) from oi_add 93 a, show (93 : Int32) + oi b = oi (93 + b) from oi_add 93 b, ogi (by omega) (by omega), ogi (by omega) (by omega), ogi (by omega) (by omega), ogi (by omega) (by omega), oi_nat (by omega), oi_nat (by omega), hR4]
          have hf4 : Fr zhP noL τ τ4 := fr_tr (zr_h a6) (zr_h (zP3r g6))
          have e1 : mI (sI τ4 85 (93 + a) (mI τ 85 (93 + a) ||| (1 : Int32) <<< (oi b &&& 31))) 85 (93 + b) = mI τ 85 (93 + b) := by rw [mI_sI, if_neg (by omega)]; exact hR4 _
          rw [e1]
          have e2 : mI (sI (sI τ4 85 (93 + a) (mI τ 85 (93 + a) ||| (1 : Int32) <<< (oi b &&& 31))) 85 (93 + b) (mI τ 85 (93 + b) ||| (1 : Int32) <<< (oi a &&& 31))) 85 8 = mI τ 85 8 := by rw [mI_sI, if_neg (by omega), mI_sI, if_neg (by omega)]; exact hR4 _
          rw [e2]
          have hrow : ∀ j, mI (sI (sI (sI τ4 85 (93 + a) (mI τ 85 (93 + a) ||| (1 : Int32) <<< (oi b &&& 31))) 85 (93 + b) (mI τ 85 (93 + b) ||| (1 : Int32) <<< (oi a &&& 31))) 85 8 (mI τ 85 8 + 1)) 85 j = if j = 8 then mI τ 85 8 + 1 else if j = 93 + b then mI τ 85 (93 + b) ||| (1 : Int32) <<< (oi a &&& 31) else if j = 93 + a then mI τ 85 (93 + a) ||| (1 : Int32) <<< (oi b &&& 31) else mI τ 85 j := fun j => by
            rw [mI_sI]
            by_cases e9 : j = 8
            · rw [if_pos ⟨rfl, e9⟩, if_pos e9]
            · rw [if_neg (fun q => e9 q.2), if_neg e9, mI_sI]
              by_cases e0 : j = 93 + b
              · rw [if_pos ⟨rfl, e0⟩, if_pos e0]
              · rw [if_neg (fun q => e0 q.2), if_neg e0, mI_sI]
                by_cases e7 : j = 93 + a
                · rw [if_pos ⟨rfl, e7⟩, if_pos e7]
                · rw [if_neg (fun q => e7 q.2), if_neg e7]; exact hR4 j
          have hfr : Fr zhP noL τ (sI (sI (sI τ4 85 (93 + a) (mI τ 85 (93 + a) ||| (1 : Int32) <<< (oi b &&& 31))) 85 (93 + b) (mI τ 85 (93 + b) ||| (1 : Int32) <<< (oi a &&& 31))) 85 8 (mI τ 85 8 + 1)) := fr_I (fr_I (fr_I hf4 (Or.inr rfl)) (Or.inr rfl)) (Or.inr rfl)
          have ho81 : ∀ c j, c ≠ 85 → mI (sI (sI (sI τ4 85 (93 + a) (mI τ 85 (93 + a) ||| (1 : Int32) <<< (oi b &&& 31))) 85 (93 + b) (mI τ 85 (93 + b) ||| (1 : Int32) <<< (oi a &&& 31))) 85 8 (mI τ 85 8 + 1)) c j = mI τ4 c j := fun c j p => by rw [mI_sI, if_neg (fun q => p q.1), mI_sI, if_neg (fun q => p q.1), mI_sI, if_neg (fun q => p q.1)]
          have hfl : Fr (zlP w) (zlQ w) σ σ6 := fr_tr (zk_l w hfc) (fr_mono (fun a j q => Or.inr (Or.inr (Or.inr (Or.inr ⟨by omega, by omega⟩)))) (fun a q => q.elim) k3)
          have hI6 : ∀ a j, ¬ (w + 5 ≤ a ∧ a ≤ w + 9) → ¬ zkP a j → mI σ6 a j = mI σ a j := fun a j p q => (k3.1 a j (by omega)).trans (hfc.1 a j q)
          have hL6 : ∀ a j, a ≠ 43 → mL σ6 a j = mL σ a j := fun a j p => (k3.2.1 a j (fun q => q)).trans (hfc.2.1 a j (by unfold zkQ; omega))
          generalize sI (sI (sI τ4 85 (93 + a) (mI τ 85 (93 + a) ||| (1 : Int32) <<< (oi b &&& 31))) 85 (93 + b) (mI τ 85 (93 + b) ||| (1 : Int32) <<< (oi a &&& 31))) 85 8 (mI τ 85 8 + 1) = τ5 at hrow hfr ho81 ⊢
          have hZ : mL τ5 87 = mL τ 87 := funext (fun j => hfr.2.1 87 j (fun q => q))
          have hro : ∀ j, j ≠ 8 → j ≠ 93 + b → j ≠ 93 + a → mI τ5 85 j = mI τ 85 j := fun j p1 p2 p3 => by rw [hrow, if_neg p1, if_neg p2, if_neg p3]
          have h58 : mI τ5 85 8 = oi (nn (mI τ 85 8) + 1) := by rw [hrow, if_pos rfl, hR8, oi_succ, nn_oi (by omega)]
          refine ⟨true, _, _, rfl, rfl, ⟨hfl, zh_m hfr⟩, Or.inl ⟨rfl, ?_, ?_, fun k p q e => hro k e (by omega) (by omega), h58⟩⟩
          · exact ⟨t4, r4, i + 1 + 1, by omega, zlv_fr g3 (fun a j p q => k3.1 a j (by omega)) (fun a j p q => k3.2.1 a j (fun q => q)) (k3.1 48 2 (by omega)) (fun j p q => ho81 _ _ (by omega)) (fun j => ho81 _ _ (by omega)) (fun j => ho81 _ _ (by omega)) (ho81 _ _ (by omega))⟩
          · rw [hZ]
            generalize mI τ5 85 = R4 at hro hrow h58 ⊢
            have hse : ∀ j, (j < 2 ∨ (2 ≤ j ∧ j < 38) ∨ (62 ≤ j ∧ j < 68)) → zsv R4 j = sWed (zsv (mI τ 85)) a b j := by
              intro j hj
              unfold sWed
              rw [hsa, hsb]
              by_cases j0 : j = 0
              · rw [j0, if_neg (by omega), if_neg (by omega)]; exact hro 0 (by omega) (by omega) (by omega)
              by_cases j1 : j = 1
              · rw [j1, if_neg (by omega), if_neg (by omega)]; exact hro 6 (by omega) (by omega) (by omega)
              by_cases j2 : j < 62
              · rw [zsv_m R4 (by omega) j2, zsv_m _ (by omega) j2, if_neg (by omega), if_neg (by omega)]; exact hro _ (by omega) (by omega) (by omega)
              · rw [zsv_h R4 (by omega), zsv_h _ (by omega), hrow, if_neg (by omega)]
                by_cases j3 : j = 62 + b
                · rw [if_pos (by omega), if_neg (by omega), if_pos j3]
                · rw [if_neg (by omega)]
                  by_cases j4 : j = 62 + a
                  · rw [if_pos (by omega), if_pos j4]
                  · rw [if_neg (by omega), if_neg j4, if_neg j3]
            have hI : ∀ a j, w ≤ a → a ≤ w + 20 → ¬ (w + 5 ≤ a ∧ a ≤ w + 9) → mI σ6 a j = mI σ a j := fun a j p q e => hI6 a j e (by unfold zkP; omega)
            have hL : ∀ a j, w ≤ a → a ≤ w + 20 → mL σ6 a j = mL σ a j := fun a j p q => hL6 a j (by omega)
            refine ⟨⟨⟨⟨by rw [hro 1 (by omega) (by omega) (by omega)]; exact b1.1.1, by rw [hro 2 (by omega) (by omega) (by omega)]; exact b1.1.2.1, by rw [hro 3 (by omega) (by omega) (by omega)]; exact b1.1.2.2.1, by rw [hro 4 (by omega) (by omega) (by omega)]; exact b1.1.2.2.2⟩, by rw [hro 5 (by omega) (by omega) (by omega)]; exact b1.2.1, by rw [hro 6 (by omega) (by omega) (by omega)]; exact b1.2.2.1, by rw [hro 7 (by omega) (by omega) (by omega)]; exact b1.2.2.2.1, by rw [h58]; exact bd_of (by omega) (by omega)⟩, zdn_c (fun j p q => hro j (by omega) (by omega) (by omega)) (hro 1 (by omega) (by omega) (by omega)) (hro 3 (by omega) (by omega) (by omega)) (hro 5 (by omega) (by omega) (by omega)) (hI6 48 8 (by omega) (by unfold zkP; omega)) (fun j => hL6 50 j (by omega)) (fun j => hI6 51 j (by omega) (by unfold zkP; omega)) (fun j => hI6 52 j (by omega) (by unfold zkP; omega)) bn⟩, zdf_c (hro 1 (by omega) (by omega) (by omega)) (fun j p q => hro j (by omega) (by omega) (by omega)) b1.1.1.2 (hI _ _ (by omega) (by omega) (by omega)) (fun j => hI _ _ (by omega) (by omega) (by omega)) b3, zdl_c (hro 1 (by omega) (by omega) (by omega)) (hro 2 (by omega) (by omega) (by omega)) (hro 10 (by omega) (by omega) (by omega)) rfl (hI _ _ (by omega) (by omega) (by omega)) (hL _ _ (by omega) (by omega)) (hI _ _ (by omega) (by omega) (by omega)) (hI _ _ (by omega) (by omega) (by omega)) b4, zdq_c (hro 1 (by omega) (by omega) (by omega)) (hro 5 (by omega) (by omega) (by omega)) (fun q hq => rfl) (hI _ _ (by omega) (by omega) (by omega)) (fun j => hL _ _ (by omega) (by omega)) b5, zds_c (hro 7 (by omega) (by omega) (by omega)) (fun j p q => hro j (by omega) (by omega) (by omega)) b1.2.2.2.1.2 (hI _ _ (by omega) (by omega) (by omega)) (hI _ _ (by omega) (by omega) (by omega)) b6, zdh_c (hro 3 (by omega) (by omega) (by omega)) (hro 4 (by omega) (by omega) (by omega)) (fun j p q => hro j (by omega) (by omega) (by omega)) b1.1.2.2.1.2 b1.1.2.2.2.2 (hI _ _ (by omega) (by omega) (by omega)) (hI _ _ (by omega) (by omega) (by omega)) (fun k j hk => hI _ _ (by omega) (by omega) (by omega)) b7, ?_⟩
            have hN7 : nn (sWed (zsv (mI τ 85)) a b 1) ≤ 12 := by rw [sWed_o _ (by omega) (by omega)]; exact hN6
            refine ⟨TB_c (hro 3 (by omega) (by omega) (by omega)) (hro 5 (by omega) (by omega) (by omega)) hse hN7 (sWed_TB b8.1 a1 hb hH eab), CT_c hse hN7 (fun _ _ _ _ => rfl) k2, ?_⟩
            rw [sWd_ext (fun i hi => hse (62 + i) (by omega))]
            · have hwd : sWd (sWed (zsv (mI τ 85)) a b) = sWd (zsv (mI τ 85)) + 2 := wd_two (a := a) (b := b) (by omega) (by omega) eab hbs hbs2 (fun i hi => by
                unfold sWed
                by_cases q1 : i = a
                · rw [if_pos (by omega), if_pos q1]
                · rw [if_neg (by omega), if_neg q1]
                  by_cases q2 : i = b
                  · rw [if_pos (by omega), if_pos q2]
                  · rw [if_neg (by omega), if_neg q2])
              rw [hwd, hrow, if_pos rfl, b8.2.2, oi_succ]; congr 1; omega
    · rw [c3, obi_s, if_neg (by decide), c2, obi_s, if_neg (by rw [zwr_13]; decide)]
      unfold fX10_wedsLine_b59
      rw [if_neg (by rw [zwr_13]; decide)]
      exact ⟨false, _, _, rfl, rfl, ⟨zk_l w (fr_tr a5 (zfl_fr _ _ _)), zr_m (fr_tr a6 (zwr_fr _ _ _))⟩, Or.inr ⟨rfl, zdead_mk _ _ c1 _⟩⟩
  · rw [c1, obi_s, if_neg (by decide), c2, obi_s, znamed_d c3.2.2.2, obi_s, if_neg (by rw [c3.2.2.2]; decide)]
    unfold fX10_wedsLine_b59
    rw [if_neg (by rw [c3.2.2.2]; decide)]
    exact ⟨false, _, _, rfl, rfl, ⟨zk_l w c4, zr_m c5⟩, Or.inr ⟨rfl, c3⟩⟩
end
