/-! lines: told -/
section
variable {σ τ : OM} {f : Nat → Nat} {L i w : Nat} {t : Tk} {r : List Tk}
theorem zsv_m (R : Nat → Int32) {j : Nat} (h : 2 ≤ j) (h2 : j < 62) : zsv R j = R (51 + j) := by unfold zsv; rw [if_neg (by omega), if_neg (by omega), if_pos h2]
theorem zsv_h (R : Nat → Int32) {j : Nat} (h : 62 ≤ j) : zsv R j = R (31 + j) := by unfold zsv; rw [if_neg (by omega), if_neg (by omega), if_neg (by omega)]
def zhP : Nat → Nat → Prop := fun a j => zrP a j ∨ a = 85
theorem zh_m {τ τ' : OM} (h : Fr zhP noL τ τ') : Fr zmP zmQ τ τ' := fr_mono (fun a j q => q.elim (fun q => Or.inl (Or.inl q)) Or.inr) (fun a q => q.elim) h
theorem zr_h {τ τ' : OM} (h : Fr zrP noL τ τ') : Fr zhP noL τ τ' := fr_mono (fun a j q => Or.inl q) (fun a q => q) h
theorem zyes_d {τ : OM} (h : mI τ 81 13 = 1) : fX10_yes τ = some (0, τ) := by unfold fX10_yes; rw [ztw_d h, obi_s, if_pos rfl, zmust_d h, obv_s]
theorem zdt_s {σ' : OM} {R R' s : Nat → Int32} (hse : zsv R' = s) (h3 : R' 3 = R 3) (h5 : R' 5 = R 5) (hN : nn (s 1) ≤ 12) (hT : TB R s) (hC : CT σ' (w + 5) s) (h8 : R' 8 = oi (sWd s / 2)) : zDT σ' w R' := by
  unfold zDT; rw [hse]
  exact ⟨TB_c h3 h5 (fun _ _ => rfl) hN hT, hC, h8⟩
theorem oi_0le {a : Nat} (ha : a < 2147483648) : (0 : Int32) ≤ oi a := by rw [show (0 : Int32) = oi 0 from rfl, oi_le (by omega) ha]; omega
theorem zhouse (hlv : zLv σ τ f L t r i) (hB : zDB (mI τ 85)) (hN : zDN σ (mI τ 85)) : (∃ h σ' τ', h < nn (mI τ 85 3) ∧ fX5_takeName 4 σ = some (oi h, σ') ∧ fX10_housePassed τ = some (oi h, τ') ∧ (∃ t' r', zLv σ' τ' f L t' r' (i + 1)) ∧ Fr zkP zkQ σ σ' ∧ Fr zrP noL τ τ') ∨ ∃ σ' τ', fX5_takeName 4 σ = some (-1, σ') ∧ fX10_housePassed τ = some (0, τ') ∧ zDead σ' τ' ∧ Fr zkP zkQ σ σ' ∧ Fr zrP noL τ τ' := by
  unfold fX10_housePassed
  rw [show fX5_takeName 4 σ = fX5_takeName (oi 4) σ from rfl, show fX10_named (6 : Int32) (11 : Int32) τ = fX10_named (oi 6) (oi 11) τ from rfl]
  rcases ztakeName hlv hN.1 (y := 4) (lo := 6) (hi := 11) (Or.inr (Or.inl ⟨rfl, rfl, rfl⟩)) with ⟨s, σ', τ', a1, a2, a3, a4, a5, a6, a7, a8, a9⟩ | ⟨σ', τ', c1, c2, c3, c4, c5⟩
  · have hs := hN.2 s (by omega) a3
    have hF := hB.1.1.2
    have hQ := hB.1.2.2.1.2
    rw [a4, obi_s, if_pos hlv.2.2, a5, obv_s]
    exact Or.inl ⟨s - 6, σ', τ', by omega, a6, rfl, a7, a8, a9⟩
  · rw [c1, obi_s, if_neg (by rw [c3.2.2.2]; decide)]
    exact Or.inr ⟨σ', τ', c2, rfl, c3, c4, c5⟩
theorem ln_told (hw : w = 1 ∨ w = 22) (h1 : mR σ 48 1 = w) (hk : okd w = 8) (hlv : zLv σ τ f L t r i) (hD : zDD σ w (mI τ 85) (mL τ 87)) (hN : nn (mI τ 85 6) < 12) : ∃ b σ' τ', fX5_readTold σ = some (b2 b, σ') ∧ fX10_toldLine τ = some τ' ∧ zRs w f L (i + 1) b σ σ' τ τ' ((∀ k, 1 ≤ k → k ≤ 10 → k ≠ 6 → mI τ' 85 k = mI τ 85 k) ∧ mI τ' 85 6 = oi (nn (mI τ 85 6) + 1)) := by
  obtain ⟨⟨b1, bn⟩, b3, b4, b5, b6, b7, b8⟩ := hD
  have hR6 : mI τ 85 6 = oi (nn (mI τ 85 6)) := b1.2.2.1.1
  have hH := b1.1.2.2.1.2
  have hQ := b1.2.1.2
  have hF := b1.1.1.2
  generalize hNe : nn (mI τ 85 6) = N at *
  have eix : (53 : Int32) + (3 : Int32) * oi N = oi (53 + 3 * N) := by
    rw [show (53 : Int32) = oi 53 from rfl, show (3 : Int32) = oi 3 from rfl, oi_mul, oi_add]
  have ei1 : oi (53 + 3 * N) + (1 : Int32) = oi (54 + 3 * N) := by
    rw [show (1 : Int32) = oi 1 from rfl, oi_add]; congr 1; omega
  have ei2 : oi (53 + 3 * N) + (2 : Int32) = oi (55 + 3 * N) := by
    rw [show (2 : Int32) = oi 2 from rfl, oi_add]; congr 1; omega
  unfold fX5_readTold fX10_toldLine
  rw [if_pos hlv.2.2, hR6, eix, ei1]
  rcases zhouse hlv b1 bn with ⟨h, σ1, τ1, a1, a2, a3, ⟨t1, r1, a4⟩, a5, a6⟩ | ⟨σ1, τ1, c1, c2, c3, c4, c5⟩
  · rw [a2, obi_s, if_pos (oi_0le (by omega)), a3, obi_s, ogi (by omega) (by omega), oi_nat (by omega)]
    have hl2 : zLv σ1 (sI τ1 85 (53 + 3 * N) (oi h)) f L t1 r1 (i + 1) := zlv_fr a4 (fun _ _ _ _ => rfl) (fun _ _ _ _ => rfl) rfl (fun j p q => by rw [mI_sI, if_neg (by omega)]) (fun j => by rw [mI_sI, if_neg (by omega)]) (fun j => by rw [mI_sI, if_neg (by omega)]) (by rw [mI_sI, if_neg (by omega)])
    have hg2 : ∀ j, j ≠ 53 + 3 * N → mI (sI τ1 85 (53 + 3 * N) (oi h)) 85 j = mI τ 85 j := fun j p => by rw [mI_sI, if_neg (fun q => p q.2)]; exact a6.1 85 j (by unfold zrP; omega)
    have hm2 : Fr zhP noL τ (sI τ1 85 (53 + 3 * N) (oi h)) := fr_I (zr_h a6) (Or.inr rfl)
    have hT2 : mI (sI τ1 85 (53 + 3 * N) (oi h)) 85 (53 + 3 * N) = oi h := mI_at
    have hnm : zNM σ1 (mI (sI τ1 85 (53 + 3 * N) (oi h)) 85) (nn (mI τ 85 1) + nn (mI τ 85 3) + nn (mI τ 85 5)) := znm_c (fun j p q => hg2 j (by omega)) (znm_fr (a5.1 48 8 (by unfold zkP; omega)) (fun j => a5.2.1 50 j (by unfold zkQ; omega)) (fun j => a5.1 51 j (by unfold zkP; omega)) (fun j => a5.1 52 j (by unfold zkP; omega)) bn.1)
    generalize sI τ1 85 (53 + 3 * N) (oi h) = τ2 at hl2 hg2 hm2 hT2 hnm ⊢
    rw [show fX5_takeName 7 σ1 = fX5_takeName (oi 7) σ1 from rfl, show fX10_named (12 : Int32) (19 : Int32) τ2 = fX10_named (oi 12) (oi 19) τ2 from rfl]
    rcases znamed hl2 hnm (y := 7) (lo := 12) (hi := 19) (Or.inr (Or.inr ⟨rfl, rfl, rfl⟩)) with ⟨s, d1, d2, d3, d4, d5, d6⟩ | ⟨c, c1, c2, c3⟩
    · rw [zSm_c (fun j p q => hg2 j (by omega)) (by omega)] at d3
      have hsq := bn.2 s (by omega) d3
      have hq : s - 12 < nn (mI τ 85 5) := by omega
      generalize s - 12 = q at hq d5 d6
      rw [d5, obi_s, ogi (by omega) (by omega), oi_nat (by omega)]
      have hl3 : zLv σ1 (sI τ2 85 (54 + 3 * N) (oi q)) f L t1 r1 (i + 1) := zlv_fr hl2 (fun _ _ _ _ => rfl) (fun _ _ _ _ => rfl) rfl (fun j p q => by rw [mI_sI, if_neg (by omega)]) (fun j => by rw [mI_sI, if_neg (by omega)]) (fun j => by rw [mI_sI, if_neg (by omega)]) (by rw [mI_sI, if_neg (by omega)])
      have hg3 : ∀ j, j ≠ 54 + 3 * N → mI (sI τ2 85 (54 + 3 * N) (oi q)) 85 j = mI τ2 85 j := fun j p => by rw [mI_sI, if_neg (fun q => p q.2)]
      have hT3 : mI (sI τ2 85 (54 + 3 * N) (oi q)) 85 (54 + 3 * N) = oi q := mI_at
      have hm3 : Fr zhP noL τ (sI τ2 85 (54 + 3 * N) (oi q)) := fr_I hm2 (Or.inr rfl)
      generalize sI τ2 85 (54 + 3 * N) (oi q) = τ3 at hl3 hg3 hT3 hm3 ⊢
      rw [if_pos hl3.2.2]
      obtain ⟨t4, r4, σ4, τ4, g1, g2, g3, g4, g5, g6⟩ := zboth hl3 (by omega)
      rw [d6 σ4 g1 (fun j => g5.1 52 j (by unfold zP2; omega)), obi_s, if_pos (oi_0le (by omega)), g2, obv_s]
      obtain ⟨y, σ5, τ5, e1, e2, ⟨e3, e4⟩, e5⟩ := zyes g3
      unfold fX10_toldLine_b58
      rw [e1, obi_s, e2, obi_s, ei2, ogi (by omega) (by omega), oi_nat (by omega)]
      have hfc : Fr zkP zkQ σ σ5 := fr_tr a5 (fr_tr (zP2k g5) e3)
      have hfr : Fr zhP noL τ τ5 := fr_tr hm3 (fr_tr (zr_h (zP3r g6)) (zr_h e4))
      rcases e5 with e5 | ⟨rfl, e5⟩
      · have hCT : CT σ5 (w + 5) (zsv (mI τ 85)) := CT_c (fun _ _ => rfl) (show nn (mI τ 85 6) ≤ 12 by omega) (fun a j p q => hfc.1 a j (by unfold zkP; omega)) b8.2.1
        have hN1 : nn (zsv (mI τ 85) 1) = N := hNe
        obtain ⟨σ6, k1, k2, k3⟩ := add_eq b8.1 (by rw [hN1]; omega) hCT (oi h) (oi q) y
        have hmR : mR σ5 48 1 = w := by rw [hfc.2.2]; exact h1
        have a2' : mI (sI τ5 85 (55 + 3 * N) (b2 y)) 81 13 = 0 := by rw [mI_sI, if_neg (by omega)]; exact (zgo_13 e5).2
        rw [if_pos (zgo_13 e5).1, hmR, ogd_d hk, k1, obv_s, if_pos a2']
        have h56 : mI (sI τ5 85 (55 + 3 * N) (b2 y)) 85 6 = oi N := by rw [mI_sI, if_neg (by omega), e4.1 85 6 (by unfold zrP; omega), g6.1 85 6 (by unfold zP3; omega), hg3 6 (by omega), hg2 6 (by omega)]; exact hR6
        rw [h56, oi_succ]
        have hrow : ∀ j, mI (sI (sI τ5 85 (55 + 3 * N) (b2 y)) 85 6 (oi (N + 1))) 85 j = if j = 6 then oi (N + 1) else if j = 55 + 3 * N then b2 y else if j = 54 + 3 * N then oi q else if j = 53 + 3 * N then oi h else mI τ 85 j := fun j => by
          rw [mI_sI]
          by_cases e9 : j = 6
          · rw [if_pos ⟨rfl, e9⟩, if_pos e9]
          · rw [if_neg (fun q => e9 q.2), if_neg e9, mI_sI]
            by_cases e0 : j = 55 + 3 * N
            · rw [if_pos ⟨rfl, e0⟩, if_pos e0]
            · rw [if_neg (fun q => e0 q.2), if_neg e0, e4.1 85 j (by unfold zrP; omega), g6.1 85 j (by unfold zP3; omega)]
              by_cases e1 : j = 54 + 3 * N
              · rw [if_pos e1, e1]; exact hT3
              · rw [if_neg e1, hg3 j e1]
                by_cases e2 : j = 53 + 3 * N
                · rw [if_pos e2, e2]; exact hT2
                · rw [if_neg e2, hg2 j e2]
        have hZ : mL (sI (sI τ5 85 (55 + 3 * N) (b2 y)) 85 6 (oi (N + 1))) 87 = mL τ 87 := funext (fun j => hfr.2.1 87 j (fun q => q))
        have hro : ∀ j, j ≠ 6 → j ≠ 55 + 3 * N → j ≠ 54 + 3 * N → j ≠ 53 + 3 * N → mI (sI (sI τ5 85 (55 + 3 * N) (b2 y)) 85 6 (oi (N + 1))) 85 j = mI τ 85 j := fun j p1 p2 p3 p4 => by rw [hrow, if_neg p1, if_neg p2, if_neg p3, if_neg p4]
        have hfl : Fr (zlP w) (zlQ w) σ σ6 := fr_tr (zk_l w hfc) (fr_mono (fun a j q => Or.inr (Or.inr (Or.inr (Or.inr ⟨by omega, by omega⟩)))) (fun a q => q.elim) k3)
        have hI6 : ∀ a j, ¬ (w + 5 ≤ a ∧ a ≤ w + 8) → ¬ zkP a j → mI σ6 a j = mI σ a j := fun a j p q => (k3.1 a j (by omega)).trans (hfc.1 a j q)
        have hL6 : ∀ a j, a ≠ 43 → mL σ6 a j = mL σ a j := fun a j p => (k3.2.1 a j (fun q => q)).trans (hfc.2.1 a j (by unfold zkQ; omega))
        refine ⟨true, _, _, rfl, rfl, ⟨hfl, zh_m (fr_I (fr_I hfr (Or.inr rfl)) (Or.inr rfl))⟩, Or.inl ⟨rfl, ?_, ?_, fun k p q e => hro k e (by omega) (by omega) (by omega), by rw [hrow, if_pos rfl]⟩⟩
        · exact zgo_lt (zgo_fr e5 (fun a j p q => k3.1 a j (by omega)) (fun a j p q => k3.2.1 a j (fun q => q)) (k3.1 48 2 (by omega)) (fun j p q => by rw [mI_sI, if_neg (by omega), mI_sI, if_neg (by omega)]) (fun j => by rw [mI_sI, if_neg (by omega), mI_sI, if_neg (by omega)]) (fun j => by rw [mI_sI, if_neg (by omega), mI_sI, if_neg (by omega)]) (by rw [mI_sI, if_neg (by omega), mI_sI, if_neg (by omega)])) (by omega)
        · rw [hZ]
          generalize mI (sI (sI τ5 85 (55 + 3 * N) (b2 y)) 85 6 (oi (N + 1))) 85 = R4 at hro hrow ⊢
          have hse : zsv R4 = sAdd (zsv (mI τ 85)) (oi h) (oi q) y := by
            funext j
            unfold sAdd
            rw [hN1]
            by_cases j0 : j = 0
            · rw [j0, if_neg (by omega), if_neg (by omega), if_neg (by omega), if_neg (by omega)]; exact hro 0 (by omega) (by omega) (by omega) (by omega)
            by_cases j1 : j = 1
            · rw [j1, if_pos rfl]
              show R4 6 = mI τ 85 6 + 1
              rw [hrow, if_pos rfl, hR6, oi_succ]
            rw [if_neg j1]
            by_cases j2 : j < 62
            · rw [zsv_m R4 (by omega) j2, zsv_m _ (by omega) j2, hrow, if_neg (by omega)]
              by_cases j3 : j = 4 + 3 * N
              · rw [if_pos (by omega), if_pos j3]
              · rw [if_neg (by omega), if_neg j3]
                by_cases j4 : j = 3 + 3 * N
                · rw [if_pos (by omega), if_pos j4]
                · rw [if_neg (by omega), if_neg j4]
                  by_cases j5 : j = 2 + 3 * N
                  · rw [if_pos (by omega), if_pos j5]
                  · rw [if_neg (by omega), if_neg j5]
            · rw [zsv_h R4 (by omega), zsv_h _ (by omega), if_neg (by omega), if_neg (by omega), if_neg (by omega), hro _ (by omega) (by omega) (by omega) (by omega)]
          have nS : nn (oi (N + 1)) = N + 1 := nn_oi (by omega)
          have hI : ∀ a j, w ≤ a → a ≤ w + 20 → ¬ (w + 5 ≤ a ∧ a ≤ w + 8) → mI σ6 a j = mI σ a j := fun a j p q e => hI6 a j e (by unfold zkP; omega)
          have hL : ∀ a j, w ≤ a → a ≤ w + 20 → mL σ6 a j = mL σ a j := fun a j p q => hL6 a j (by omega)
          refine ⟨⟨⟨⟨by rw [hro 1 (by omega) (by omega) (by omega) (by omega)]; exact b1.1.1, by rw [hro 2 (by omega) (by omega) (by omega) (by omega)]; exact b1.1.2.1, by rw [hro 3 (by omega) (by omega) (by omega) (by omega)]; exact b1.1.2.2.1, by rw [hro 4 (by omega) (by omega) (by omega) (by omega)]; exact b1.1.2.2.2⟩, by rw [hro 5 (by omega) (by omega) (by omega) (by omega)]; exact b1.2.1, by rw [hrow, if_pos rfl]; exact bd_of (by omega) (by omega), by rw [hro 7 (by omega) (by omega) (by omega) (by omega)]; exact b1.2.2.2.1, by rw [hro 8 (by omega) (by omega) (by omega) (by omega)]; exact b1.2.2.2.2⟩, zdn_c (fun j p q => hro j (by omega) (by omega) (by omega) (by omega)) (hro 1 (by omega) (by omega) (by omega) (by omega)) (hro 3 (by omega) (by omega) (by omega) (by omega)) (hro 5 (by omega) (by omega) (by omega) (by omega)) (hI6 48 8 (by omega) (by unfold zkP; omega)) (fun j => hL6 50 j (by omega)) (fun j => hI6 51 j (by omega) (by unfold zkP; omega)) (fun j => hI6 52 j (by omega) (by unfold zkP; omega)) bn⟩, zdf_c (hro 1 (by omega) (by omega) (by omega) (by omega)) (fun j p q => hro j (by omega) (by omega) (by omega) (by omega)) b1.1.1.2 (hI _ _ (by omega) (by omega) (by omega)) (fun j => hI _ _ (by omega) (by omega) (by omega)) b3, zdl_c (hro 1 (by omega) (by omega) (by omega) (by omega)) (hro 2 (by omega) (by omega) (by omega) (by omega)) (hro 10 (by omega) (by omega) (by omega) (by omega)) rfl (hI _ _ (by omega) (by omega) (by omega)) (hL _ _ (by omega) (by omega)) (hI _ _ (by omega) (by omega) (by omega)) (hI _ _ (by omega) (by omega) (by omega)) b4, zdq_c (hro 1 (by omega) (by omega) (by omega) (by omega)) (hro 5 (by omega) (by omega) (by omega) (by omega)) (fun q hq => rfl) (hI _ _ (by omega) (by omega) (by omega)) (fun j => hL _ _ (by omega) (by omega)) b5, zds_c (hro 7 (by omega) (by omega) (by omega) (by omega)) (fun j p q => hro j (by omega) (by omega) (by omega) (by omega)) b1.2.2.2.1.2 (hI _ _ (by omega) (by omega) (by omega)) (hI _ _ (by omega) (by omega) (by omega)) b6, zdh_c (hro 3 (by omega) (by omega) (by omega) (by omega)) (hro 4 (by omega) (by omega) (by omega) (by omega)) (fun j p q => hro j (by omega) (by omega) (by omega) (by omega)) b1.1.2.2.1.2 b1.1.2.2.2.2 (hI _ _ (by omega) (by omega) (by omega)) (hI _ _ (by omega) (by omega) (by omega)) (fun k j hk => hI _ _ (by omega) (by omega) (by omega)) b7, ?_⟩
          refine zdt_s (R := mI τ 85) hse (hro 3 (by omega) (by omega) (by omega) (by omega)) (hro 5 (by omega) (by omega) (by omega) (by omega)) ?_ (sAdd_TB b8.1 (by rw [hN1]; omega) a1 hH hq hQ y) k2 ?_
          · rw [sAdd_1 b8.1, hN1, nS]; omega
          · rw [hro 8 (by omega) (by omega) (by omega) (by omega), b8.2.2, sWd_ext (s' := sAdd (zsv (mI τ 85)) (oi h) (oi q) y) (fun i hi => sAdd_hi _ _ _ _ (by rw [hN1]; omega))]
      · rw [if_neg e5.1, if_neg (by rw [mI_sI, if_neg (by omega), e5.2.2.2]; decide)]
        exact ⟨false, _, _, rfl, rfl, ⟨zk_l w hfc, zh_m (fr_I hfr (Or.inr rfl))⟩, Or.inr ⟨rfl, zdead_fr rfl rfl (by rw [mI_sI, if_neg (by omega)]) (by rw [mI_sI, if_neg (by omega)]) (by rw [mI_sI, if_neg (by omega)]) e5⟩⟩
    · rw [c3, obi_s, if_neg (by decide), c2, obi_s, ogi (by omega) (by omega), oi_nat (by omega)]
      have z13 : mI (sI (zwr τ2 c (oi t1.2.1)) 85 (54 + 3 * N) 0) 81 13 = 1 := by rw [mI_sI, if_neg (by omega)]; exact zwr_13 _ _ _
      rw [if_neg (by rw [z13]; decide)]
      unfold fX10_toldLine_b58
      rw [zyes_d z13, obi_s, ei2, ogi (by omega) (by omega), oi_nat (by omega), if_neg (by rw [mI_sI, if_neg (by omega), z13]; decide)]
      exact ⟨false, _, _, rfl, rfl, ⟨zk_l w (fr_tr a5 (zfl_fr _ _ _)), zh_m (fr_I (fr_I (fr_tr hm2 (zr_h (zwr_fr _ _ _))) (Or.inr rfl)) (Or.inr rfl))⟩, Or.inr ⟨rfl, zdead_fr rfl rfl (by rw [mI_sI, if_neg (by omega), mI_sI, if_neg (by omega)]) (by rw [mI_sI, if_neg (by omega), mI_sI, if_neg (by omega)]) (by rw [mI_sI, if_neg (by omega), mI_sI, if_neg (by omega)]) (zdead_mk σ1 τ2 c1 (oi t1.2.1))⟩⟩
  · have z13 : mI (sI τ1 85 (53 + 3 * N) 0) 81 13 = 1 := by rw [mI_sI, if_neg (by omega)]; exact c3.2.2.2
    have z14 : mI (sI (sI τ1 85 (53 + 3 * N) 0) 85 (54 + 3 * N) 0) 81 13 = 1 := by rw [mI_sI, if_neg (by omega)]; exact z13
    rw [c1, obi_s, if_neg (by decide), c2, obi_s, ogi (by omega) (by omega), oi_nat (by omega), znamed_d z13, obi_s, ogi (by omega) (by omega), oi_nat (by omega), if_neg (by rw [z14]; decide)]
    unfold fX10_toldLine_b58
    rw [zyes_d z14, obi_s, ei2, ogi (by omega) (by omega), oi_nat (by omega), if_neg (by rw [mI_sI, if_neg (by omega), z14]; decide)]
    exact ⟨false, _, _, rfl, rfl, ⟨zk_l w c4, zh_m (fr_I (fr_I (fr_I (zr_h c5) (Or.inr rfl)) (Or.inr rfl)) (Or.inr rfl))⟩, Or.inr ⟨rfl, zdead_fr rfl rfl (by rw [mI_sI, if_neg (by omega), mI_sI, if_neg (by omega), mI_sI, if_neg (by omega)]) (by rw [mI_sI, if_neg (by omega), mI_sI, if_neg (by omega), mI_sI, if_neg (by omega)]) (by rw [mI_sI, if_neg (by omega), mI_sI, if_neg (by omega), mI_sI, if_neg (by omega)]) c3⟩⟩
end
