/-! lines: ends -/
section
variable {σ τ : OM} {f : Nat → Nat} {L i w : Nat} {t : Tk} {r : List Tk}
theorem ln_ends (hw : w = 1 ∨ w = 22) (h1 : mR σ 48 1 = w) (hk : okd w = 8) (hlv : zLv σ τ f L t r i) (hD : zDD σ w (mI τ 85) (mL τ 87)) : ∃ b σ' τ', fX5_readEnds σ = some (b2 b, σ') ∧ fX10_endsLine τ = some τ' ∧ zRs w f L (i + 1) b σ σ' τ τ' (∀ k, 1 ≤ k → k ≤ 10 → mI τ' 85 k = mI τ 85 k) := by
  obtain ⟨⟨b1, bn⟩, b3, b4, b5, b6, b7, b8⟩ := hD
  have hH := b1.1.2.2.1.2
  unfold fX5_readEnds fX10_endsLine
  rw [if_pos hlv.2.2]
  rcases znamed hlv bn.1 (y := 4) (lo := 6) (hi := 11) (Or.inr (Or.inl ⟨rfl, rfl, rfl⟩)) with ⟨s, a1, a2, a3, a4, a5, a6⟩ | ⟨c, c1, c2, c3⟩
  · obtain ⟨t1, r1, σ1, τ1, g1, g2, g3, g4, g5, g6⟩ := zboth hlv (by omega)
    have hC : fX5_takeName 4 σ = some (oi (s - 6), σ1) := a6 σ1 g1 (fun j => g5.1 52 j (by unfold zP2; omega))
    have hm : mR σ1 48 1 = w := by rw [g5.2.2]; exact h1
    have hs6 : s - 6 < 6 := by omega
    generalize s - 6 = h at hC a5 hs6
    rw [hC, obi_s, if_neg (oi_nneg (by omega)), show (6 : Int32) = oi 6 from rfl, if_pos ((oi_lt (by omega) (by omega)).mpr hs6), hm, ogd_d hk, ogi (by omega) (by omega), oi_nat (by omega)]
    rw [show fX10_named (oi 6) (11 : Int32) τ = fX10_named (oi 6) (oi 11) τ from rfl, a5, obi_s, if_pos hlv.2.2]
    have eix : ((17 : Int32) + (4 : Int32) * oi h) + (3 : Int32) = oi (20 + 4 * h) := by
      rw [show (17 : Int32) = oi 17 from rfl, show (4 : Int32) = oi 4 from rfl, show (3 : Int32) = oi 3 from rfl, oi_mul, oi_add, oi_add]; congr 1; omega
    rw [eix, ogi (by omega) (by omega), oi_nat (by omega)]
    obtain ⟨p1, p2, p3⟩ := b7.2.2.1 h hs6
    have s4 : mI σ1 (w + 14 + h) 4 = mI τ 85 (20 + 4 * h) - 1 := by rw [g5.1 _ _ (by unfold zP2; omega)]; exact p1
    obtain ⟨e, e1, e2⟩ := bd_ex p2
    rw [e2] at s4
    rw [s4, e2]
    have hfs : Fr (zlP w) (zlQ w) σ σ1 := zk_l w (zP2k g5)
    have iff1 : (oi e - 1 = -1) ↔ e = 0 := by
      cases e with
      | zero => exact ⟨fun _ => rfl, fun _ => by decide⟩
      | succ e =>
        rw [show oi (e + 1) - 1 = oi e from oi_sub (a := e + 1) (b := 1) (by omega)]
        refine ⟨fun q => ?_, fun q => by omega⟩
        have := oi_nneg (a := e) (by omega)
        rw [q] at this; exact absurd (by decide) this
    have iff2 : (oi e ≤ 0) ↔ e = 0 := by rw [show (0 : Int32) = oi 0 from rfl, oi_le (by omega) (by omega)]; omega
    by_cases e0 : e = 0
    · rw [if_pos (iff1.mpr e0), if_pos (iff2.mpr e0), ogd_d hk, ogi (by omega) (by omega)]
      unfold fX10_endsLine_b49
      rw [if_pos hlv.2.2, g2, obv_s]
      obtain ⟨σ2, τ2, rv, ⟨m1, m2⟩, m3, m4⟩ := znumber g3 (lo := 0) (hi := 999) (by decide) (by decide)
      rw [show fX10_number (0 : Int32) (999 : Int32) τ1 = fX10_number (oi 0) (oi 999) τ1 from rfl, m3, obi_s, show fX5_takeWhole (0 : Int32) (999 : Int32) σ1 = fX5_takeWhole (oi 0) (oi 999) σ1 from rfl]
      have hgr : Fr zrP noL τ τ2 := fr_tr (zP3r g6) m2
      rcases m4 with ⟨v, v1, v2, v3, v4, v5⟩ | ⟨v4, v5⟩
      · have a48 : mI (sI σ2 (w + 14 + h) 4 (oi v)) 48 2 = 0 := by rw [mI_sI, if_neg (by omega)]; exact (zgo_13 v5).1
        rw [v4, obi_s, if_pos a48, if_pos (zgo_13 v5).2, eix, ogi (by omega) (by omega), oi_nat (by omega), v3, oi_succ]
        have hro : ∀ j, j ≠ 20 + 4 * h → mI (sI τ2 85 (20 + 4 * h) (oi (v + 1))) 85 j = mI τ 85 j := fun j p => by rw [mI_sI, if_neg (fun q => p q.2)]; exact hgr.1 85 j (by unfold zrP; omega)
        have hrE : mI (sI τ2 85 (20 + 4 * h) (oi (v + 1))) 85 (20 + 4 * h) = oi (v + 1) := mI_at
        have hZ : mL (sI τ2 85 (20 + 4 * h) (oi (v + 1))) 87 = mL τ 87 := funext (fun j => hgr.2.1 87 j (fun q => q))
        have hgc : Fr zkP zkQ σ σ2 := fr_tr (zP2k g5) m1
        have hIw : ∀ a j, ¬ (a = w + 14 + h ∧ j = 4) → ¬ zkP a j → mI (sI σ2 (w + 14 + h) 4 (oi v)) a j = mI σ a j := fun a j p q => by rw [mI_sI, if_neg p]; exact hgc.1 a j q
        have hLw : ∀ a j, a ≠ 43 → mL (sI σ2 (w + 14 + h) 4 (oi v)) a j = mL σ a j := fun a j p => hgc.2.1 a j (by unfold zkQ; omega)
        have g4' : mI (sI σ2 (w + 14 + h) 4 (oi v)) (w + 14 + h) 4 = oi v := mI_at
        refine ⟨true, _, _, rfl, rfl, ⟨fr_I (zk_l w hgc) (Or.inr (Or.inr (Or.inr (Or.inr ⟨by omega, by omega⟩)))), fr_I (zr_m hgr) (Or.inr rfl)⟩, Or.inl ⟨rfl, ?_, ?_, fun k p q => hro k (by omega)⟩⟩
        · exact zgo_lt (zgo_fr v5 (fun a j p q => by rw [mI_sI, if_neg (by omega)]) (fun a j p q => rfl) (by rw [mI_sI, if_neg (by omega)]) (fun j p q => by rw [mI_sI, if_neg (by omega)]) (fun j => by rw [mI_sI, if_neg (by omega)]) (fun j => by rw [mI_sI, if_neg (by omega)]) (by rw [mI_sI, if_neg (by omega)])) (by omega)
        · rw [hZ]
          generalize (sI σ2 (w + 14 + h) 4 (oi v)) = σ4 at hIw hLw g4' ⊢
          generalize mI (sI τ2 85 (20 + 4 * h) (oi (v + 1))) 85 = R4 at hro hrE ⊢
          have hI : ∀ a j, w ≤ a → a ≤ w + 20 → ¬ (a = w + 14 + h ∧ j = 4) → mI σ4 a j = mI σ a j := fun a j p q e => hIw a j e (by unfold zkP; omega)
          refine ⟨⟨zdb_c (fun j p q => hro j (by omega)) b1, zdn_c (fun j p q => hro j (by omega)) (hro 1 (by omega)) (hro 3 (by omega)) (hro 5 (by omega)) (hIw 48 8 (by omega) (by unfold zkP; omega)) (fun j => hLw 50 j (by omega)) (fun j => hIw 51 j (by omega) (by unfold zkP; omega)) (fun j => hIw 52 j (by omega) (by unfold zkP; omega)) bn⟩, zdf_c (hro 1 (by omega)) (fun j p q => hro j (by omega)) b1.1.1.2 (hI _ _ (by omega) (by omega) (by omega)) (fun j => hI _ _ (by omega) (by omega) (by omega)) b3, zdl_c (hro 1 (by omega)) (hro 2 (by omega)) (hro 10 (by omega)) rfl (hI _ _ (by omega) (by omega) (by omega)) (hLw _ _ (by omega)) (hI _ _ (by omega) (by omega) (by omega)) (hI _ _ (by omega) (by omega) (by omega)) b4, zdq_c (hro 1 (by omega)) (hro 5 (by omega)) (fun q hq => rfl) (hI _ _ (by omega) (by omega) (by omega)) (fun j => hLw _ _ (by omega)) b5, zds_c (hro 7 (by omega)) (fun j p q => hro j (by omega)) b1.2.2.2.1.2 (hI _ _ (by omega) (by omega) (by omega)) (hI _ _ (by omega) (by omega) (by omega)) b6, ⟨?_, fun k hk => ?_, fun k hk => ?_, fun k hk => ?_⟩, zdt_c (hro 0 (by omega)) (hro 3 (by omega)) (hro 5 (by omega)) (hro 6 (by omega)) (hro 8 (by omega)) (fun j p q e1 e2 => hro j (by omega)) b1.2.2.1.2 (fun a j p q => hI _ _ (by omega) (by omega) (by omega)) b8⟩
          · rw [hI _ _ (by omega) (by omega) (by omega), hI _ _ (by omega) (by omega) (by omega), hro 3 (by omega), hro 4 (by omega)]; exact b7.1
          · rw [hro 3 (by omega)] at hk
            rw [hI _ _ (by omega) (by omega) (by omega), hI _ _ (by omega) (by omega) (by omega), hI _ _ (by omega) (by omega) (by omega), hro (17 + 4 * k) (by omega), hro (18 + 4 * k) (by omega), hro (19 + 4 * k) (by omega)]; exact b7.2.1 k hk
          · obtain ⟨w1, w2, w3⟩ := b7.2.2.1 k hk
            have htw : ∀ g, sTw R4 k g = sTw (mI τ 85) k g := fun g => sTw_c (hro 4 (by omega)) (fun j a b => hro j (by omega)) b1.1.2.2.2.2 k g
            by_cases ek : k = h
            · subst ek
              refine ⟨?_, ?_, fun g hg => by rw [htw, hI _ _ (by omega) (by omega) (by omega)]; exact w3 g hg⟩
              · rw [g4', hrE, show oi (v + 1) - 1 = oi v from oi_sub (a := v + 1) (b := 1) (by omega)]
              · rw [hrE]; exact bd_of (by omega) (by omega)
            · refine ⟨?_, ?_, fun g hg => by rw [htw, hI _ _ (by omega) (by omega) (by omega)]; exact w3 g hg⟩
              · rw [hI _ _ (by omega) (by omega) (by omega), hro _ (by omega)]; exact w1
              · rw [hro _ (by omega)]; exact w2
          · rw [hro 4 (by omega)] at hk
            have := b1.1.2.2.2.2
            rw [hro (41 + 2 * k) (by omega), hro (42 + 2 * k) (by omega), hro 3 (by omega)]
            obtain ⟨w1, w2, w3, w4⟩ := b7.2.2.2 k hk
            exact ⟨w1, w2, w3, fun j hj => by rw [hro (41 + 2 * j) (by omega), hro (42 + 2 * j) (by omega)]; exact w4 j hj⟩
      · have a48 : ¬ mI (sI σ2 (w + 14 + h) 4 (-1)) 48 2 = 0 := by rw [mI_sI, if_neg (by omega)]; exact v5.1
        rw [v4, obi_s, if_neg a48, if_neg (by rw [v5.2.2.2]; decide)]
        exact ⟨false, _, _, rfl, rfl, ⟨fr_I (fr_tr hfs (zk_l w m1)) (Or.inr (Or.inr (Or.inr (Or.inr ⟨by omega, by omega⟩)))), zr_m hgr⟩, Or.inr ⟨rfl, zdead_fr (by rw [mI_sI, if_neg (by omega)]) (by rw [mI_sI, if_neg (by omega)]) rfl rfl rfl v5⟩⟩
    · rw [if_neg (fun q => e0 (iff1.mp q)), if_neg (fun q => e0 (iff2.mp q)), hlv.1.2.1.1.2.2.1, zfail (by rw [g5.1 48 2 (by unfold zP2; omega)]; exact hlv.2.1), obi_s, hlv.1.2.2.1.1.1, zwrong hlv.2.2, obv_s]
      unfold fX10_endsLine_b49
      rw [zwr_13, if_neg (by decide), ogi (by omega) (by omega)]
      exact ⟨false, _, _, rfl, rfl, ⟨fr_tr hfs (zk_l w (zfl_fr _ _ _)), zr_m (zwr_fr _ _ _)⟩, Or.inr ⟨rfl, zdead_mk _ _ (by decide) _⟩⟩
  · rw [show fX5_takeName 4 σ = fX5_takeName (oi 4) σ from rfl, c3, obi_s, if_pos (by decide), show fX10_named (6 : Int32) (11 : Int32) τ = fX10_named (oi 6) (oi 11) τ from rfl, c2, obi_s, zwr_13, if_neg (by decide)]
    unfold fX10_endsLine_b49
    rw [zwr_13, if_neg (by decide)]
    exact ⟨false, _, _, rfl, rfl, ⟨zk_l w (zfl_fr _ _ _), zr_m (zwr_fr _ _ _)⟩, Or.inr ⟨rfl, zdead_mk _ _ c1 _⟩⟩
end
