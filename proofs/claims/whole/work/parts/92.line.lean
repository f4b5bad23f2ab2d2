/-! lines: fact -/
section
variable {σ τ : OM} {f : Nat → Nat} {L i w : Nat} {t : Tk} {r : List Tk}
theorem zS_o {τ τ1 : OM} {s0 : Nat} (hs0 : s0 < 20) (h : Fr (zrN s0) noL τ τ1) {s : Nat} (hs : s < 20) (hne : s ≠ s0) : zSm (mI τ1 85) s = zSm (mI τ 85) s := by
  unfold zSm; rw [h.1 85 (99 + s) (by unfold zrN zrP; omega)]
theorem zrN_o {τ τ1 : OM} {s0 : Nat} (h : Fr (zrN s0) noL τ τ1) {j : Nat} (hj : j < 99) : mI τ1 85 j = mI τ 85 j := h.1 85 j (by unfold zrN zrP; omega)
theorem zN_m {τ τ1 : OM} {s0 : Nat} (h : Fr (zrN s0) noL τ τ1) : Fr zmP zmQ τ τ1 := fr_mono (fun a j q => q.elim (fun q => Or.inl (Or.inl q)) (fun q => Or.inr q.1)) (fun a q => q.elim) h
theorem ln_fact (hw : w = 1 ∨ w = 22) (h1 : mR σ 48 1 = w) (hk : okd w = 8) (hlv : zLv σ τ f L t r i) (hD : zDD σ w (mI τ 85) (mL τ 87)) (hF : nn (mI τ 85 1) < 6) : ∃ b σ' τ', fX5_readFact σ = some (b2 b, σ') ∧ fX10_factLine τ = some τ' ∧ zRs w f L (i + 1) b σ σ' τ τ' ((∀ k, 1 ≤ k → k ≤ 10 → k ≠ 1 → mI τ' 85 k = mI τ 85 k) ∧ mI τ' 85 1 = oi (nn (mI τ 85 1) + 1)) := by
  obtain ⟨⟨b1, bn⟩, b3, b4, b5, b6, b7, b8⟩ := hD
  have hR1 : mI τ 85 1 = oi (nn (mI τ 85 1)) := b1.1.1.1
  have hH := b1.1.2.2.1.2
  have hQ := b1.2.1.2
  generalize hFe : nn (mI τ 85 1) = F at *
  have hc0 : mI σ (w + 1) 0 = oi F := b3.1.trans hR1
  have hu : zSm (mI τ 85) F = 0 := by
    have h2 := bn.2 F (by omega)
    rw [hFe] at h2
    omega
  obtain ⟨σ1, τ1, ⟨k1, k2⟩, k3, k4⟩ := znewName (s0 := F) hlv (hFe ▸ bn.1) (by omega) (by omega) hu
  have hty : zty F = 1 ∧ zix F = F := by unfold zty zix; rw [if_pos hF, if_pos hF]; exact ⟨rfl, rfl⟩
  rw [hty.1, hty.2] at k4
  unfold fX5_readFact fX10_factLine
  rw [h1, ogd_d hk, hc0, show (6 : Int32) = oi 6 from rfl, if_neg (by rw [oi_le (by omega) (by omega)]; omega), if_pos hlv.2.2, hR1, k3, obv_s, zrN_o k2 (show 1 < 99 by omega), hR1, show (11 : Int32) + oi F = oi (11 + F) from oi_add 11 F]
  rw [show (1 : Int32) = oi 1 from rfl]
  rcases k4 with ⟨e1, ⟨t1, r1, i1, e2, e3⟩, e4, e5⟩ | ⟨e1, e2⟩
  · rw [e1, obi_s, if_neg (by decide), show (1868850291 : Int64) = ol (zwv (zsN 16) (zsL 16)) from zkw_v.2.1]
    obtain ⟨σ2, τ2, rv, ⟨m1, m2⟩, m3, m4⟩ := zafter e3 (s := 16) (by decide) (by rw [← zkw_v.2.1]; exact zkw_n.2.1) (lo := 1) (hi := 9) (by decide) (by decide)
    rw [show fX10_after 16 (oi 1) (9 : Int32) τ1 = fX10_after 16 (oi 1) (oi 9) τ1 from rfl, m3, obi_s, ogi (by omega) (by omega), oi_nat (by omega), oi_nat (by omega)]
    have hf12 : Fr (zlP w) (zlQ w) σ σ2 := fr_tr (zc_l w k1) (zk_l w m1)
    have hm12 : Fr zmP zmQ τ τ2 := fr_tr (zN_m k2) (zr_m m2)
    rcases m4 with ⟨v, σ3, v1, v2, v3, v4, v5, v6, v7⟩ | ⟨d1, d2⟩
    · have hmR : mR σ3 48 1 = w := by rw [v5.2.2, k1.2.2]; exact h1
      have hmR2 : mR (sI σ2 (w + 2) F (oi v)) 48 1 = w := by rw [mR_sI, m1.2.2, k1.2.2]; exact h1
      rw [v4, obi_s, if_neg (by decide), hmR, ogd_d hk, show fX5_takeWhole (oi 1) (9 : Int32) σ3 = fX5_takeWhole (oi 1) (oi 9) σ3 from rfl, v6, obi_s, ogi (by omega) (by omega), hmR2, ogd_d hk, v3]
      have hs10 : mI (sI σ2 (w + 2) F (oi v)) (w + 1) 0 = oi F := by rw [mI_sI, if_neg (by omega), m1.1 (w + 1) 0 (by unfold zkP; omega), k1.1 (w + 1) 0 (by unfold zcP zkP; omega)]; exact hc0
      have ht1 : mI (sI τ2 85 (11 + F) (oi v)) 85 1 = oi F := by rw [mI_sI, if_neg (by omega), m2.1 85 1 (by unfold zrP; omega), zrN_o k2 (by omega)]; exact hR1
      rw [hs10, ht1, oi_add]
      have a1 : mI (sI (sI σ2 (w + 2) F (oi v)) (w + 1) 0 (oi (F + 1))) 48 2 = 0 := by rw [mI_sI, if_neg (by omega), mI_sI, if_neg (by omega)]; exact (zgo_13 v7).1
      have a2 : mI (sI τ2 85 (11 + F) (oi v)) 81 13 = 0 := by rw [mI_sI, if_neg (by omega)]; exact (zgo_13 v7).2
      rw [if_pos a1, if_pos a2]
      have hrow : ∀ j, mI (sI (sI τ2 85 (11 + F) (oi v)) 85 1 (oi (F + 1))) 85 j = if j = 1 then oi (F + 1) else if j = 11 + F then oi v else mI τ1 85 j := fun j => by
        rw [mI_sI]
        by_cases e9 : j = 1
        · rw [if_pos ⟨rfl, e9⟩, if_pos e9]
        · rw [if_neg (fun q => e9 q.2), if_neg e9, mI_sI]
          by_cases e0 : j = 11 + F
          · rw [if_pos ⟨rfl, e0⟩, if_pos e0]
          · rw [if_neg (fun q => e0 q.2), if_neg e0]; exact m2.1 85 j (by unfold zrP; omega)
      have hro : ∀ j, j ≠ 1 → j ≠ 11 + F → j < 99 → mI (sI (sI τ2 85 (11 + F) (oi v)) 85 1 (oi (F + 1))) 85 j = mI τ 85 j := fun j p q e => by rw [hrow, if_neg p, if_neg q]; exact zrN_o k2 e
      have hro1 : ∀ j, 99 ≤ j → j < 279 → mI (sI (sI τ2 85 (11 + F) (oi v)) 85 1 (oi (F + 1))) 85 j = mI τ1 85 j := fun j p q => by rw [hrow, if_neg (by omega), if_neg (by omega)]
      have hr1 : mI (sI (sI τ2 85 (11 + F) (oi v)) 85 1 (oi (F + 1))) 85 1 = oi (F + 1) := by rw [hrow, if_pos rfl]
      have hrF : mI (sI (sI τ2 85 (11 + F) (oi v)) 85 1 (oi (F + 1))) 85 (11 + F) = oi v := by rw [hrow, if_neg (by omega), if_pos rfl]
      have hZ : mL (sI (sI τ2 85 (11 + F) (oi v)) 85 1 (oi (F + 1))) 87 = mL τ 87 := funext (fun j => (m2.2.1 87 j (fun q => q)).trans (k2.2.1 87 j (fun q => q)))
      have hIo : ∀ a j, w ≤ a → a ≤ w + 20 → ¬ (a = w + 2 ∧ j = F) → ¬ (a = w + 1 ∧ j = 0) → mI (sI (sI σ2 (w + 2) F (oi v)) (w + 1) 0 (oi (F + 1))) a j = mI σ a j := fun a j p q e1 e2 => by
        rw [mI_sI, if_neg e2, mI_sI, if_neg e1, m1.1 a j (by unfold zkP; omega)]; exact k1.1 a j (by unfold zcP zkP; omega)
      have hLo : ∀ a j, w ≤ a → a ≤ w + 20 → mL (sI (sI σ2 (w + 2) F (oi v)) (w + 1) 0 (oi (F + 1))) a j = mL σ a j := fun a j p q => (m1.2.1 a j (by unfold zkQ; omega)).trans (k1.2.1 a j (by unfold zcQ; omega))
      have hI1 : ∀ a j, 48 ≤ a → ¬ zkP a j → mI (sI (sI σ2 (w + 2) F (oi v)) (w + 1) 0 (oi (F + 1))) a j = mI σ1 a j := fun a j p q => by
        rw [mI_sI, if_neg (by omega), mI_sI, if_neg (by omega)]; exact m1.1 a j q
      have g20 : mI (sI (sI σ2 (w + 2) F (oi v)) (w + 1) 0 (oi (F + 1))) (w + 2) F = oi v := by rw [mI_sI, if_neg (by omega), mI_at]
      have g10 : mI (sI (sI σ2 (w + 2) F (oi v)) (w + 1) 0 (oi (F + 1))) (w + 1) 0 = oi (F + 1) := mI_at
      refine ⟨true, _, _, rfl, rfl, ⟨fr_I (fr_I hf12 (Or.inr (Or.inr (Or.inr (Or.inr ⟨by omega, by omega⟩))))) (Or.inr (Or.inr (Or.inr (Or.inr ⟨by omega, by omega⟩)))), fr_I (fr_I hm12 (Or.inr rfl)) (Or.inr rfl)⟩, Or.inl ⟨rfl, ?_, ?_, fun k p q e => hro k e (by omega) (by omega), hr1⟩⟩
      · exact zgo_lt (zgo_fr v7 (fun a j p q => by rw [mI_sI, if_neg (by omega), mI_sI, if_neg (by omega)]) (fun a j p q => rfl) (by rw [mI_sI, if_neg (by omega), mI_sI, if_neg (by omega)]) (fun j p q => by rw [mI_sI, if_neg (by omega), mI_sI, if_neg (by omega)]) (fun j => by rw [mI_sI, if_neg (by omega), mI_sI, if_neg (by omega)]) (fun j => by rw [mI_sI, if_neg (by omega), mI_sI, if_neg (by omega)]) (by rw [mI_sI, if_neg (by omega), mI_sI, if_neg (by omega)])) (by omega)
      · rw [hZ]
        have nF : nn (oi (F + 1)) = F + 1 := nn_oi (by omega)
        have hL50 : ∀ j, mL (sI (sI σ2 (w + 2) F (oi v)) (w + 1) 0 (oi (F + 1))) 50 j = mL σ1 50 j := fun j => m1.2.1 50 j (by unfold zkQ; omega)
        generalize (sI (sI σ2 (w + 2) F (oi v)) (w + 1) 0 (oi (F + 1))) = σ4 at hIo hLo hI1 g20 g10 hL50 ⊢
        generalize mI (sI (sI τ2 85 (11 + F) (oi v)) 85 1 (oi (F + 1))) 85 = R4 at hro hro1 hr1 hrF ⊢
        refine ⟨⟨⟨⟨by rw [hr1]; exact bd_of (by omega) (by omega), by rw [hro 2 (by omega) (by omega) (by omega)]; exact b1.1.2.1, by rw [hro 3 (by omega) (by omega) (by omega)]; exact b1.1.2.2.1, by rw [hro 4 (by omega) (by omega) (by omega)]; exact b1.1.2.2.2⟩, by rw [hro 5 (by omega) (by omega) (by omega)]; exact b1.2.1, by rw [hro 6 (by omega) (by omega) (by omega)]; exact b1.2.2.1, by rw [hro 7 (by omega) (by omega) (by omega)]; exact b1.2.2.2.1, by rw [hro 8 (by omega) (by omega) (by omega)]; exact b1.2.2.2.2⟩, ?_, ?_⟩, ⟨by rw [g10, hr1], fun k hk => ?_⟩, ?_, ?_, ?_, ?_, ?_⟩
        · rw [hr1, nF, hro 3 (by omega) (by omega) (by omega), hro 5 (by omega) (by omega) (by omega), show F + 1 + nn (mI τ 85 3) + nn (mI τ 85 5) = F + nn (mI τ 85 3) + nn (mI τ 85 5) + 1 by omega]
          exact znm_c hro1 (znm_fr (hI1 48 8 (by omega) (by unfold zkP; omega)) hL50 (fun j => hI1 51 j (by omega) (by unfold zkP; omega)) (fun j => hI1 52 j (by omega) (by unfold zkP; omega)) e4)
        · intro s hs hm
          rw [zSm_c hro1 hs] at hm
          rw [hr1, nF, hro 3 (by omega) (by omega) (by omega), hro 5 (by omega) (by omega) (by omega)]
          by_cases es : s = F
          · omega
          · rw [zS_o (by omega) k2 hs es] at hm
            have := bn.2 s hs hm
            rw [hFe] at this
            omega
        · rw [hr1, nF] at hk
          by_cases ek : k = F
          · rw [ek, g20, hrF]; exact ⟨rfl, bd_of v2 (by omega), by rw [nn_oi (by omega)]; exact v1⟩
          · rw [hIo _ _ (by omega) (by omega) (by omega) (by omega), hro (11 + k) (by omega) (by omega) (by omega)]; exact b3.2 k (by omega)
        · obtain ⟨⟨c1, c2, c3, c4⟩, c5, c6, c7, c8⟩ := b4
          rw [hFe] at c3 c7
          refine ⟨⟨?_, ?_, ?_, c4⟩, ?_, ?_, ?_, ?_⟩
          · rw [hIo _ _ (by omega) (by omega) (by omega) (by omega), hro 2 (by omega) (by omega) (by omega)]; exact c1
          · rw [hLo _ _ (by omega) (by omega)]; exact c2
          · rw [hr1, nF]; exact zlo_up (by omega) c3
          · rw [hIo _ _ (by omega) (by omega) (by omega) (by omega), hro 10 (by omega) (by omega) (by omega)]; exact c5
          · rw [hIo _ _ (by omega) (by omega) (by omega) (by omega), hro 10 (by omega) (by omega) (by omega)]; exact c6
          · rw [hr1, nF, hro 10 (by omega) (by omega) (by omega)]; exact bd_mono c7 (Nat.pow_le_pow_right (by decide) (by omega))
          · rw [hro 10 (by omega) (by omega) (by omega)]; exact c8
        · refine ⟨?_, fun q hq => ?_⟩
          · rw [hIo _ _ (by omega) (by omega) (by omega) (by omega), hro 5 (by omega) (by omega) (by omega)]; exact b5.1
          · rw [hro 5 (by omega) (by omega) (by omega)] at hq
            obtain ⟨c1, c2⟩ := b5.2 q hq
            rw [hFe] at c2
            rw [hLo _ _ (by omega) (by omega), hr1, nF]
            exact ⟨c1, zlo_up (by omega) c2⟩
        · exact zds_c (hro 7 (by omega) (by omega) (by omega)) (fun j p q => hro j (by omega) (by omega) (by omega)) b1.2.2.2.1.2 (hIo _ _ (by omega) (by omega) (by omega) (by omega)) (hIo _ _ (by omega) (by omega) (by omega) (by omega)) b6
        · exact zdh_c (hro 3 (by omega) (by omega) (by omega)) (hro 4 (by omega) (by omega) (by omega)) (fun j p q => hro j (by omega) (by omega) (by omega)) b1.1.2.2.1.2 b1.1.2.2.2.2 (hIo _ _ (by omega) (by omega) (by omega) (by omega)) (hIo _ _ (by omega) (by omega) (by omega) (by omega)) (fun k j hk => hIo _ _ (by omega) (by omega) (by omega) (by omega)) b7
        · exact zdt_c (hro 0 (by omega) (by omega) (by omega)) (hro 3 (by omega) (by omega) (by omega)) (hro 5 (by omega) (by omega) (by omega)) (hro 6 (by omega) (by omega) (by omega)) (hro 8 (by omega) (by omega) (by omega)) (fun j p q e1 e2 => hro j (by omega) (by omega) (by omega)) b1.2.2.1.2 (fun a j p q => hIo _ _ (by omega) (by omega) (by omega) (by omega)) b8
    · have a2 : ¬ mI (sI τ2 85 (11 + F) rv) 81 13 = 0 := by rw [mI_sI, if_neg (by omega), d1.2.2.2]; decide
      rw [if_neg a2]
      have hfr : Fr zmP zmQ τ (sI τ2 85 (11 + F) rv) := fr_I hm12 (Or.inr rfl)
      rcases d2 with d2 | ⟨σ3, d2, d3, d4⟩
      · rw [d2, obi_s, if_pos rfl]
        exact ⟨false, _, _, rfl, rfl, ⟨hf12, hfr⟩, Or.inr ⟨rfl, zdead_fr rfl rfl (by rw [mI_sI, if_neg (by omega)]) (by rw [mI_sI, if_neg (by omega)]) (by rw [mI_sI, if_neg (by omega)]) d1⟩⟩
      · have hmR : mR σ3 48 1 = w := by rw [d2.2.2, k1.2.2]; exact h1
        have hmR2 : mR (sI σ2 (w + 2) F (-1)) 48 1 = w := by rw [mR_sI, m1.2.2, k1.2.2]; exact h1
        rw [d3, obi_s, if_neg (by decide), hmR, ogd_d hk, show fX5_takeWhole (oi 1) (9 : Int32) σ3 = fX5_takeWhole (oi 1) (oi 9) σ3 from rfl, d4, obi_s, ogi (by omega) (by omega), hmR2, ogd_d hk]
        rw [if_neg (by rw [mI_sI, if_neg (by omega), mI_sI, if_neg (by omega)]; exact d1.1)]
        exact ⟨false, _, _, rfl, rfl, ⟨fr_I (fr_I hf12 (Or.inr (Or.inr (Or.inr (Or.inr ⟨by omega, by omega⟩))))) (Or.inr (Or.inr (Or.inr (Or.inr ⟨by omega, by omega⟩)))), hfr⟩, Or.inr ⟨rfl, zdead_fr (by rw [mI_sI, if_neg (by omega), mI_sI, if_neg (by omega)]) (by rw [mI_sI, if_neg (by omega), mI_sI, if_neg (by omega)]) (by rw [mI_sI, if_neg (by omega)]) (by rw [mI_sI, if_neg (by omega)]) (by rw [mI_sI, if_neg (by omega)]) d1⟩⟩
  · rw [e1, obi_s, if_pos rfl, zaft_d e2.2.2.2, obi_s, ogi (by omega) (by omega), oi_nat (by omega)]
    rw [if_neg (by rw [mI_sI, if_neg (by omega), e2.2.2.2]; decide)]
    exact ⟨false, _, _, rfl, rfl, ⟨zc_l w k1, fr_I (zN_m k2) (Or.inr rfl)⟩, Or.inr ⟨rfl, zdead_fr rfl rfl (by rw [mI_sI, if_neg (by omega)]) (by rw [mI_sI, if_neg (by omega)]) (by rw [mI_sI, if_neg (by omega)]) e2⟩⟩
end
