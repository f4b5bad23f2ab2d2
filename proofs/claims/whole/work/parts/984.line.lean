/-! lines: house -/
section
variable {σ τ : OM} {f : Nat → Nat} {L i w : Nat} {t : Tk} {r : List Tk}
theorem zcP_no {a j : Nat} (hw : w = 1 ∨ w = 22) (p : w ≤ a) (q : a ≤ w + 20) : ¬ zcP a j := by unfold zcP zkP; omega
theorem zfld (hlv : zLv σ τ f L t r i) {s lo hi a j c : Nat} (hs : s < 22) (hk : zkw (ol (zwv (zsN s) (zsL s))) = 1) (hl : lo < 2000) (hh : hi < 2000) (ha : a < 43) : ∃ σ' τ' rv τ1, fX10_after s (oi lo) (oi hi) τ = some (rv, τ1) ∧ τ' = sI τ1 85 c rv ∧ Fr (fun b k => zrP b k ∨ (b = 85 ∧ k = c)) noL τ τ' ∧ Fr (fun b k => zkP b k ∨ (b = a ∧ k = j)) zkQ σ σ' ∧ ((∃ v σ1 σ2, lo ≤ v ∧ v ≤ hi ∧ fX5_takeWord (ol (zwv (zsN s) (zsL s))) σ = some (1, σ1) ∧ mR σ1 = mR σ ∧ fX5_takeWhole (oi lo) (oi hi) σ1 = some (oi v, σ2) ∧ σ' = sI σ2 a j (oi v) ∧ mI σ' a j = oi v ∧ mI τ' 85 c = oi v ∧ zGo σ' τ' f L (i + 1)) ∨ (zDead σ' τ' ∧ (fX5_takeWord (ol (zwv (zsN s) (zsL s))) σ = some (0, σ') ∨ ∃ σ1 σ2, fX5_takeWord (ol (zwv (zsN s) (zsL s))) σ = some (1, σ1) ∧ mR σ1 = mR σ ∧ fX5_takeWhole (oi lo) (oi hi) σ1 = some (-1, σ2) ∧ σ' = sI σ2 a j (-1)))) := by
  obtain ⟨σ2, τ2, rv, ⟨m1, m2⟩, m3, m4⟩ := zafter hlv hs hk hl hh
  have fr2 : Fr (fun b k => zrP b k ∨ (b = 85 ∧ k = c)) noL τ (sI τ2 85 c rv) := fr_I (fr_mono (fun _ _ q => Or.inl q) (fun _ q => q) m2) (Or.inr ⟨rfl, rfl⟩)
  have fr1 : Fr (fun b k => zkP b k ∨ (b = a ∧ k = j)) zkQ σ σ2 := fr_mono (fun _ _ q => Or.inl q) (fun _ q => q) m1
  rcases m4 with ⟨v, σ3, v1, v2, v3, v4, v5, v6, v7⟩ | ⟨d1, d2 | ⟨σ3, d2, d3, d4⟩⟩
  · refine ⟨sI σ2 a j (oi v), sI τ2 85 c rv, rv, τ2, m3, rfl, fr2, fr_I fr1 (Or.inr ⟨rfl, rfl⟩), Or.inl ⟨v, σ3, σ2, v1, v2, v4, v5.2.2, v6, rfl, mI_at, by rw [v3]; exact mI_at, ?_⟩⟩
    exact zgo_fr v7 (fun a j p q => by rw [mI_sI, if_neg (by omega)]) (fun a j p q => rfl) (by rw [mI_sI, if_neg (by omega)]) (fun j p q => by rw [mI_sI, if_neg (by omega)]) (fun j => by rw [mI_sI, if_neg (by omega)]) (fun j => by rw [mI_sI, if_neg (by omega)]) (by rw [mI_sI, if_neg (by omega)])
  · exact ⟨σ2, sI τ2 85 c rv, rv, τ2, m3, rfl, fr2, fr1, Or.inr ⟨zdead_fr rfl rfl (by rw [mI_sI, if_neg (by omega)]) (by rw [mI_sI, if_neg (by omega)]) (by rw [mI_sI, if_neg (by omega)]) d1, Or.inl d2⟩⟩
  · exact ⟨sI σ2 a j (-1), sI τ2 85 c rv, rv, τ2, m3, rfl, fr2, fr_I fr1 (Or.inr ⟨rfl, rfl⟩), Or.inr ⟨zdead_fr (by rw [mI_sI, if_neg (by omega)]) (by rw [mI_sI, if_neg (by omega)]) (by rw [mI_sI, if_neg (by omega)]) (by rw [mI_sI, if_neg (by omega)]) (by rw [mI_sI, if_neg (by omega)]) d1, Or.inr ⟨σ3, σ2, d3, d2.2.2, d4, rfl⟩⟩⟩
theorem ln_house (hw : w = 1 ∨ w = 22) (h1 : mR σ 48 1 = w) (hk : okd w = 8) (hlv : zLv σ τ f L t r i) (hD : zDD σ w (mI τ 85) (mL τ 87)) (hHl : nn (mI τ 85 3) < 6) : ∃ b σ' τ', fX5_readHouse σ = some (b2 b, σ') ∧ fX10_houseLine τ = some τ' ∧ zRs w f L (i + 1) b σ σ' τ τ' ((∀ k, 1 ≤ k → k ≤ 10 → k ≠ 3 → mI τ' 85 k = mI τ 85 k) ∧ mI τ' 85 3 = oi (nn (mI τ 85 3) + 1)) := by
  obtain ⟨⟨b1, bn⟩, b3, b4, b5, b6, b7, b8⟩ := hD
  have hR3 : mI τ 85 3 = oi (nn (mI τ 85 3)) := b1.1.2.2.1.1
  have hF := b1.1.1.2
  have hQ := b1.2.1.2
  generalize hHe : nn (mI τ 85 3) = H at *
  have hc4 : mI σ w 4 = oi H := b7.1.1.trans hR3
  have hu : zSm (mI τ 85) (6 + H) = 0 := by
    have h2 := bn.2 (6 + H) (by omega)
    rw [hHe] at h2
    omega
  have hnm : zNM σ (mI τ 85) (nn (mI τ 85 1) + H + nn (mI τ 85 5)) := by
    have := bn.1
    rw [hHe] at this; exact this
  obtain ⟨σ1, τ1, ⟨k1, k2⟩, k3, k4⟩ := znewName (s0 := 6 + H) hlv hnm (by omega) (by omega) hu
  have hty : zty (6 + H) = 4 ∧ zix (6 + H) = H := by
    unfold zty zix
    rw [if_neg (by omega), if_pos (by omega), if_neg (by omega), if_pos (by omega)]
    exact ⟨rfl, by omega⟩
  rw [hty.1, hty.2] at k4
  have eix : (17 : Int32) + (4 : Int32) * oi H = oi (17 + 4 * H) := by
    rw [show (17 : Int32) = oi 17 from rfl, show (4 : Int32) = oi 4 from rfl, oi_mul, oi_add]
  have ei1 : oi (17 + 4 * H) + (1 : Int32) = oi (18 + 4 * H) := by
    rw [show (1 : Int32) = oi 1 from rfl, oi_add]; congr 1; omega
  have ei2 : oi (17 + 4 * H) + (2 : Int32) = oi (19 + 4 * H) := by
    rw [show (2 : Int32) = oi 2 from rfl, oi_add]; congr 1; omega
  have hmR1 : mR σ1 48 1 = w := by rw [k1.2.2]; exact h1
  have k17 : zkw (ol (zwv (zsN 17) (zsL 17))) = 1 := by rw [← zkw_v.2.2.1]; exact zkw_n.2.2.1
  have k18 : zkw (ol (zwv (zsN 18) (zsL 18))) = 1 := by rw [← zkw_v.2.2.2.1]; exact zkw_n.2.2.2.1
  have k19 : zkw (ol (zwv (zsN 19) (zsL 19))) = 1 := by rw [← zkw_v.2.2.2.2.1]; exact zkw_n.2.2.2.2.1
  have hNm : Fr zmP zmQ τ τ1 := zN_m k2
  unfold fX5_readHouse fX10_houseLine
  rw [h1, ogd_d hk, hc4, if_neg (show ¬ (6 : Int32) ≤ oi H from fun q => absurd ((oi_le (a := 6) (by omega) (by omega)).mp q) (by omega)), if_pos hlv.2.2, hR3, eix, ei1, ei2, oi_nat (a := H) (by omega), oi_nat (a := 17 + 4 * H) (by omega), oi_nat (a := 18 + 4 * H) (by omega), oi_nat (a := 19 + 4 * H) (by omega), show (6 : Int32) + oi H = oi (6 + H) from oi_add 6 H, k3, obv_s, show fX5_takeNewName (4 : Int32) (oi H) σ = fX5_takeNewName (oi 4) (oi H) σ from rfl]
  rcases k4 with ⟨e1, ⟨t1, r1, i1, e2, e3⟩, e4, e5⟩ | ⟨e1, e2⟩
  · rw [e1, obi_s, if_neg (show ¬ (1 : Int32) = 0 by decide), show (439855772532 : Int64) = ol (zwv (zsN 17) (zsL 17)) from zkw_v.2.2.1, show (1700881256 : Int64) = ol (zwv (zsN 18) (zsL 18)) from zkw_v.2.2.2.1, show (500219604595 : Int64) = ol (zwv (zsN 19) (zsL 19)) from zkw_v.2.2.2.2.1]
    obtain ⟨σA, τA, rA, τa, p1, p2, p3, p4, p5⟩ := zfld e3 (s := 17) (lo := 0) (hi := 999) (a := w + 14 + H) (j := 0) (c := 17 + 4 * H) (by decide) k17 (by decide) (by decide) (by omega)
    rw [show fX10_after 17 (0 : Int32) (999 : Int32) τ1 = fX10_after 17 (oi 0) (oi 999) τ1 from rfl, p1, obi_s, ogi (by omega) (by omega), ← p2]
    have hfA : Fr (zlP w) (zlQ w) σ σA := fr_tr (zc_l w k1) (fr_mono (fun a j q => q.elim (fun q => Or.inl (Or.inl q)) (fun q => Or.inr (Or.inr (Or.inr (Or.inr ⟨by omega, by omega⟩))))) (fun a q => Or.inl (Or.inl q)) p4)
    have hgA : Fr zmP zmQ τ τA := fr_tr hNm (fr_mono (fun a j q => q.elim (fun q => Or.inl (Or.inl q)) (fun q => Or.inr q.1)) (fun a q => q.elim) p3)
    have hmRA : mR σA 48 1 = w := by rw [p4.2.2]; exact hmR1
    rcases p5 with ⟨v, σa, σb, v1, v2, v3, v4, v5, v6, v7, v8, ⟨t2, r2, i2, v9, v10⟩⟩ | ⟨d1, d2⟩
    · rw [v3, obi_s, if_neg (show ¬ (1 : Int32) = 0 by decide), v4, hmR1, ogd_d hk, ogi (by omega) (by omega), show fX5_takeWhole (0 : Int32) (999 : Int32) σa = fX5_takeWhole (oi 0) (oi 999) σa from rfl, v5, obi_s, ← v6, if_pos v10.2.1]
      obtain ⟨σB, τB, rB, τb, q1, q2, q3, q4, q5⟩ := zfld v10 (s := 18) (lo := 1) (hi := 99) (a := w + 14 + H) (j := 1) (c := 18 + 4 * H) (by decide) k18 (by decide) (by decide) (by omega)
      rw [show fX10_after 18 (1 : Int32) (99 : Int32) τA = fX10_after 18 (oi 1) (oi 99) τA from rfl, q1, obi_s, ogi (by omega) (by omega), ← q2]
      have hfB : Fr (zlP w) (zlQ w) σ σB := fr_tr hfA (fr_mono (fun a j q => q.elim (fun q => Or.inl (Or.inl q)) (fun q => Or.inr (Or.inr (Or.inr (Or.inr ⟨by omega, by omega⟩))))) (fun a q => Or.inl (Or.inl q)) q4)
      have hgB : Fr zmP zmQ τ τB := fr_tr hgA (fr_mono (fun a j q => q.elim (fun q => Or.inl (Or.inl q)) (fun q => Or.inr q.1)) (fun a q => q.elim) q3)
      have hmRB : mR σB 48 1 = w := by rw [q4.2.2]; exact hmRA
      rcases q5 with ⟨u, σc, σd, u1, u2, u3, u4, u5, u6, u7, u8, ⟨t3, r3, i3, u9, u10⟩⟩ | ⟨d1, d2⟩
      · rw [u3, obi_s, if_neg (show ¬ (1 : Int32) = 0 by decide), u4, hmRA, ogd_d hk, ogi (by omega) (by omega), show fX5_takeWhole (1 : Int32) (99 : Int32) σc = fX5_takeWhole (oi 1) (oi 99) σc from rfl, u5, obi_s, ← u6, if_pos u10.2.1]
        obtain ⟨σC, τC, rC, τc, g1, g2, g3, g4, g5⟩ := zfld u10 (s := 19) (lo := 0) (hi := 99) (a := w + 14 + H) (j := 2) (c := 19 + 4 * H) (by decide) k19 (by decide) (by decide) (by omega)
        rw [show fX10_after 19 (0 : Int32) (99 : Int32) τB = fX10_after 19 (oi 0) (oi 99) τB from rfl, g1, obi_s, ogi (by omega) (by omega), ← g2]
        have hfC : Fr (zlP w) (zlQ w) σ σC := fr_tr hfB (fr_mono (fun a j q => q.elim (fun q => Or.inl (Or.inl q)) (fun q => Or.inr (Or.inr (Or.inr (Or.inr ⟨by omega, by omega⟩))))) (fun a q => Or.inl (Or.inl q)) g4)
        have hgC : Fr zmP zmQ τ τC := fr_tr hgB (fr_mono (fun a j q => q.elim (fun q => Or.inl (Or.inl q)) (fun q => Or.inr q.1)) (fun a q => q.elim) g3)
        have hmRC : mR σC 48 1 = w := by rw [g4.2.2]; exact hmRB
        have hIC : ∀ a j, ¬ zkP a j → ¬ (a = w + 14 + H ∧ j ≤ 2) → mI σC a j = mI σ1 a j := fun a j n1 n2 => (g4.1 a j (fun e => e.elim n1 (fun e => n2 ⟨e.1, by omega⟩))).trans ((q4.1 a j (fun e => e.elim n1 (fun e => n2 ⟨e.1, by omega⟩))).trans (p4.1 a j (fun e => e.elim n1 (fun e => n2 ⟨e.1, by omega⟩))))
        have hI0 : ∀ a j, w ≤ a → a ≤ w + 20 → ¬ (a = w + 14 + H ∧ j ≤ 2) → mI σC a j = mI σ a j := fun a j n1 n2 n3 => (hIC a j (zkP_no hw n1 n2) n3).trans (k1.1 a j (zcP_no hw n1 n2))
        have hLC : ∀ a j, a ≠ 43 → mL σC a j = mL σ1 a j := fun a j n1 => (g4.2.1 a j (by unfold zkQ; omega)).trans ((q4.2.1 a j (by unfold zkQ; omega)).trans (p4.2.1 a j (by unfold zkQ; omega)))
        have hw4 : mI σC w 4 = oi H := (hI0 w 4 (by omega) (by omega) (by omega)).trans hc4
        rcases g5 with ⟨x, σe, σg, x1, x2, x3, x4, x5, x6, x7, x8, x9⟩ | ⟨d1, d2⟩
        · rw [x3, obi_s, if_neg (show ¬ (1 : Int32) = 0 by decide), x4, hmRB, ogd_d hk, ogi (by omega) (by omega), show fX5_takeWhole (0 : Int32) (99 : Int32) σe = fX5_takeWhole (oi 0) (oi 99) σe from rfl, x5, obi_s, ← x6, hmRC, ogd_d hk, hw4, oi_succ, if_pos (show mI (sI σC w 4 (oi (H + 1))) 48 2 = 0 by rw [mI_sI, if_neg (by omega)]; exact (zgo_13 x9).1), if_pos (zgo_13 x9).2]
          have hRC : ∀ j, j ≠ 17 + 4 * H → j ≠ 18 + 4 * H → j ≠ 19 + 4 * H → mI τC 85 j = mI τ1 85 j := fun j n1 n2 n3 => (g3.1 85 j (by unfold zrP; omega)).trans ((q3.1 85 j (by unfold zrP; omega)).trans (p3.1 85 j (by unfold zrP; omega)))
          have hC3 : mI τC 85 3 = oi H := by rw [hRC 3 (by omega) (by omega) (by omega), zrN_o k2 (by omega)]; exact hR3
          rw [hC3, oi_succ]
          have hro1 : ∀ j, j ≠ 3 → j ≠ 17 + 4 * H → j ≠ 18 + 4 * H → j ≠ 19 + 4 * H → mI (sI τC 85 3 (oi (H + 1))) 85 j = mI τ1 85 j := fun j n0 n1 n2 n3 => by rw [mI_sI, if_neg (fun q => n0 q.2)]; exact hRC j n1 n2 n3
          have hr3 : mI (sI τC 85 3 (oi (H + 1))) 85 3 = oi (H + 1) := mI_at
          have hr17 : mI (sI τC 85 3 (oi (H + 1))) 85 (17 + 4 * H) = oi v := by rw [mI_sI, if_neg (by omega), g3.1 85 _ (by unfold zrP; omega), q3.1 85 _ (by unfold zrP; omega)]; exact v8
          have hr18 : mI (sI τC 85 3 (oi (H + 1))) 85 (18 + 4 * H) = oi u := by rw [mI_sI, if_neg (by omega), g3.1 85 _ (by unfold zrP; omega)]; exact u8
          have hr19 : mI (sI τC 85 3 (oi (H + 1))) 85 (19 + 4 * H) = oi x := by rw [mI_sI, if_neg (by omega)]; exact x8
          have hs0 : mI (sI σC w 4 (oi (H + 1))) (w + 14 + H) 0 = oi v := by rw [mI_sI, if_neg (by omega), g4.1 _ _ (by unfold zkP; omega), q4.1 _ _ (by unfold zkP; omega)]; exact v7
          have hs1 : mI (sI σC w 4 (oi (H + 1))) (w + 14 + H) 1 = oi u := by rw [mI_sI, if_neg (by omega), g4.1 _ _ (by unfold zkP; omega)]; exact u7
          have hs2 : mI (sI σC w 4 (oi (H + 1))) (w + 14 + H) 2 = oi x := by rw [mI_sI, if_neg (by omega)]; exact x7
          have hsw : mI (sI σC w 4 (oi (H + 1))) w 4 = oi (H + 1) := mI_at
          have hI : ∀ a j, w ≤ a → a ≤ w + 20 → ¬ (a = w + 14 + H ∧ j ≤ 2) → ¬ (a = w ∧ j = 4) → mI (sI σC w 4 (oi (H + 1))) a j = mI σ a j := fun a j n1 n2 n3 n4 => by rw [mI_sI, if_neg n4]; exact hI0 a j n1 n2 n3
          have hI1 : ∀ a j, 48 ≤ a → ¬ zkP a j → mI (sI σC w 4 (oi (H + 1))) a j = mI σ1 a j := fun a j n1 n2 => by rw [mI_sI, if_neg (by omega)]; exact hIC a j n2 (by omega)
          have hL1 : ∀ a j, a ≠ 43 → mL (sI σC w 4 (oi (H + 1))) a j = mL σ1 a j := fun a j n1 => hLC a j n1
          have hL : ∀ a j, w ≤ a → a ≤ w + 20 → mL (sI σC w 4 (oi (H + 1))) a j = mL σ a j := fun a j n1 n2 => (hLC a j (by omega)).trans (k1.2.1 a j (by unfold zcQ; omega))
          have hZ : mL (sI τC 85 3 (oi (H + 1))) 87 = mL τ 87 := funext (fun j => (g3.2.1 87 j (fun q => q)).trans ((q3.2.1 87 j (fun q => q)).trans ((p3.2.1 87 j (fun q => q)).trans (k2.2.1 87 j (fun q => q)))))
          have hro : ∀ j, j ≠ 3 → j ≠ 17 + 4 * H → j ≠ 18 + 4 * H → j ≠ 19 + 4 * H → j < 99 → mI (sI τC 85 3 (oi (H + 1))) 85 j = mI τ 85 j := fun j n0 n1 n2 n3 n4 => (hro1 j n0 n1 n2 n3).trans (zrN_o k2 n4)
          refine ⟨true, _, _, rfl, rfl, ⟨fr_I hfC (Or.inr (Or.inr (Or.inr (Or.inr ⟨by omega, by omega⟩)))), fr_I hgC (Or.inr rfl)⟩, Or.inl ⟨rfl, ?_, ?_, fun k p q e => hro k e (by omega) (by omega) (by omega) (by omega), hr3⟩⟩
          · exact zgo_lt (zgo_fr x9 (fun a j p q => by rw [mI_sI, if_neg (by omega)]) (fun a j p q => rfl) (by rw [mI_sI, if_neg (by omega)]) (fun j p q => by rw [mI_sI, if_neg (by omega)]) (fun j => by rw [mI_sI, if_neg (by omega)]) (fun j => by rw [mI_sI, if_neg (by omega)]) (by rw [mI_sI, if_neg (by omega)])) (by omega)
          · rw [hZ]
            have nH : nn (oi (H + 1)) = H + 1 := nn_oi (by omega)
            generalize sI σC w 4 (oi (H + 1)) = σ4 at hs0 hs1 hs2 hsw hI hI1 hL1 hL ⊢
            generalize mI (sI τC 85 3 (oi (H + 1))) 85 = R4 at hro1 hro hr3 hr17 hr18 hr19 ⊢
            refine ⟨⟨⟨⟨by rw [hro 1 (by omega) (by omega) (by omega) (by omega) (by omega)]; exact b1.1.1, by rw [hro 2 (by omega) (by omega) (by omega) (by omega) (by omega)]; exact b1.1.2.1, by rw [hr3]; exact bd_of (by omega) (by omega), by rw [hro 4 (by omega) (by omega) (by omega) (by omega) (by omega)]; exact b1.1.2.2.2⟩, by rw [hro 5 (by omega) (by omega) (by omega) (by omega) (by omega)]; exact b1.2.1, by rw [hro 6 (by omega) (by omega) (by omega) (by omega) (by omega)]; exact b1.2.2.1, by rw [hro 7 (by omega) (by omega) (by omega) (by omega) (by omega)]; exact b1.2.2.2.1, by rw [hro 8 (by omega) (by omega) (by omega) (by omega) (by omega)]; exact b1.2.2.2.2⟩, ?_, ?_⟩, zdf_c (hro 1 (by omega) (by omega) (by omega) (by omega) (by omega)) (fun j p q => hro j (by omega) (by omega) (by omega) (by omega) (by omega)) b1.1.1.2 (hI _ _ (by omega) (by omega) (by omega) (by omega)) (fun j => hI _ _ (by omega) (by omega) (by omega) (by omega)) b3, zdl_c (hro 1 (by omega) (by omega) (by omega) (by omega) (by omega)) (hro 2 (by omega) (by omega) (by omega) (by omega) (by omega)) (hro 10 (by omega) (by omega) (by omega) (by omega) (by omega)) rfl (hI _ _ (by omega) (by omega) (by omega) (by omega)) (hL _ _ (by omega) (by omega)) (hI _ _ (by omega) (by omega) (by omega) (by omega)) (hI _ _ (by omega) (by omega) (by omega) (by omega)) b4, zdq_c (hro 1 (by omega) (by omega) (by omega) (by omega) (by omega)) (hro 5 (by omega) (by omega) (by omega) (by omega) (by omega)) (fun q hq => rfl) (hI _ _ (by omega) (by omega) (by omega) (by omega)) (fun j => hL _ _ (by omega) (by omega)) b5, zds_c (hro 7 (by omega) (by omega) (by omega) (by omega) (by omega)) (fun j p q => hro j (by omega) (by omega) (by omega) (by omega) (by omega)) b1.2.2.2.1.2 (hI _ _ (by omega) (by omega) (by omega) (by omega)) (hI _ _ (by omega) (by omega) (by omega) (by omega)) b6, ⟨?_, fun k hk => ?_, fun k hk => ?_, fun k hk => ?_⟩, ?_⟩
            · rw [hr3, nH, hro 1 (by omega) (by omega) (by omega) (by omega) (by omega), hro 5 (by omega) (by omega) (by omega) (by omega) (by omega), show nn (mI τ 85 1) + (H + 1) + nn (mI τ 85 5) = nn (mI τ 85 1) + H + nn (mI τ 85 5) + 1 by omega]
              exact znm_c (fun j p q => hro1 j (by omega) (by omega) (by omega) (by omega)) (znm_fr (hI1 48 8 (by omega) (by unfold zkP; omega)) (fun j => hL1 50 j (by omega)) (fun j => hI1 51 j (by omega) (by unfold zkP; omega)) (fun j => hI1 52 j (by omega) (by unfold zkP; omega)) e4)
            · intro s hs hm
              rw [zSm_c (fun j p q => hro1 j (by omega) (by omega) (by omega) (by omega)) hs] at hm
              rw [hr3, nH, hro 1 (by omega) (by omega) (by omega) (by omega) (by omega), hro 5 (by omega) (by omega) (by omega) (by omega) (by omega)]
              by_cases es : s = 6 + H
              · omega
              · rw [zS_o (by omega) k2 hs es] at hm
                have := bn.2 s hs hm
                rw [hHe] at this
                omega
            · rw [hsw, hr3, hI _ _ (by omega) (by omega) (by omega) (by omega), hro 4 (by omega) (by omega) (by omega) (by omega) (by omega)]; exact ⟨rfl, b7.1.2⟩
            · rw [hr3, nH] at hk
              by_cases ek : k = H
              · rw [ek, hs0, hs1, hs2, hr17, hr18, hr19, nn_oi (by omega)]
                exact ⟨⟨rfl, rfl, rfl⟩, bd_of v2 (by omega), bd_of u2 (by omega), u1, bd_of x2 (by omega)⟩
              · rw [hI _ _ (by omega) (by omega) (by omega) (by omega), hI _ _ (by omega) (by omega) (by omega) (by omega), hI _ _ (by omega) (by omega) (by omega) (by omega), hro (17 + 4 * k) (by omega) (by omega) (by omega) (by omega) (by omega), hro (18 + 4 * k) (by omega) (by omega) (by omega) (by omega) (by omega), hro (19 + 4 * k) (by omega) (by omega) (by omega) (by omega) (by omega)]
                exact b7.2.1 k (by omega)
            · obtain ⟨w1, w2, w3⟩ := b7.2.2.1 k hk
              rw [hI _ 4 (by omega) (by omega) (by omega) (by omega), hI _ 3 (by omega) (by omega) (by omega) (by omega), hro (20 + 4 * k) (by omega) (by omega) (by omega) (by omega) (by omega)]
              exact ⟨w1, w2, fun g hg => by rw [sTw_c (R' := R4) (hro 4 (by omega) (by omega) (by omega) (by omega) (by omega)) (fun j a b => hro j (by omega) (by omega) (by omega) (by omega) (by omega)) b1.1.2.2.2.2]; exact w3 g hg⟩
            · rw [hro 4 (by omega) (by omega) (by omega) (by omega) (by omega)] at hk
              have hT6 := b1.1.2.2.2.2
              rw [hro (41 + 2 * k) (by omega) (by omega) (by omega) (by omega) (by omega), hro (42 + 2 * k) (by omega) (by omega) (by omega) (by omega) (by omega), hr3, nH]
              obtain ⟨w1, w2, w3, w4⟩ := b7.2.2.2 k hk
              rw [hHe] at w2
              exact ⟨w1, by omega, w3, fun j hj => by rw [hro (41 + 2 * j) (by omega) (by omega) (by omega) (by omega) (by omega), hro (42 + 2 * j) (by omega) (by omega) (by omega) (by omega) (by omega)]; exact w4 j hj⟩
            · obtain ⟨⟨c1, c2, c3, c4, c5⟩, d, e⟩ := b8
              rw [hHe] at c3 c4
              have hN6 := b1.2.2.1.2
              have hs := zsv_c (R' := R4) (R := mI τ 85) (hro 0 (by omega) (by omega) (by omega) (by omega) (by omega)) (hro 6 (by omega) (by omega) (by omega) (by omega) (by omega)) (fun j p q n1 n2 => hro j (by omega) (by omega) (by omega) (by omega) (by omega)) hN6
              have hTB : TB R4 (zsv (mI τ 85)) := by
                refine ⟨c1, c2, fun k hk => ?_, fun a ha j hj => ?_, c5⟩
                · rw [hr3, nH, hro 5 (by omega) (by omega) (by omega) (by omega) (by omega)]
                  obtain ⟨w1, w2, w3, w4, w5⟩ := c3 k hk
                  exact ⟨w1, by omega, w3, w4, w5⟩
                · rw [hr3, nH]
                  obtain ⟨w1, w2, w3⟩ := c4 a ha j hj
                  exact ⟨by omega, by omega, w3⟩
              refine ⟨TB_c rfl rfl hs hN6 hTB, CT_c hs hN6 (fun a j p q => hI a j (by omega) (by omega) (by omega) (by omega)) d, ?_⟩
              rw [hro 8 (by omega) (by omega) (by omega) (by omega) (by omega), e, sWd_ext (fun i hi => hs (62 + i) (by omega))]
        · have hr : ∀ (X : OM), mI X 81 13 = mI τC 81 13 → ¬ mI X 81 13 = 0 := fun X e => by rw [e, d1.2.2.2]; decide
          rw [if_neg (hr τC rfl)]
          rcases d2 with d2 | ⟨σe, σg, d2, d3, d4, d5⟩
          · rw [d2, obi_s, if_pos rfl]
            exact ⟨false, _, _, rfl, rfl, ⟨hfC, hgC⟩, Or.inr ⟨rfl, d1⟩⟩
          · rw [d2, obi_s, if_neg (show ¬ (1 : Int32) = 0 by decide), d3, hmRB, ogd_d hk, ogi (by omega) (by omega), show fX5_takeWhole (0 : Int32) (99 : Int32) σe = fX5_takeWhole (oi 0) (oi 99) σe from rfl, d4, obi_s, ← d5, hmRC, ogd_d hk, if_neg (show ¬ mI (sI σC w 4 (mI σC w 4 + 1)) 48 2 = 0 by rw [mI_sI, if_neg (by omega)]; exact d1.1)]
            exact ⟨false, _, _, rfl, rfl, ⟨fr_I hfC (Or.inr (Or.inr (Or.inr (Or.inr ⟨by omega, by omega⟩)))), hgC⟩, Or.inr ⟨rfl, zdead_fr (by rw [mI_sI, if_neg (by omega)]) (by rw [mI_sI, if_neg (by omega)]) rfl rfl rfl d1⟩⟩
      · rw [zaft_d d1.2.2.2, obi_s, ogi (by omega) (by omega), if_neg (by rw [mI_sI, if_neg (by omega), d1.2.2.2]; decide)]
        have hdd : zDead σB (sI τB 85 (19 + 4 * H) 0) := zdead_fr rfl rfl (by rw [mI_sI, if_neg (by omega)]) (by rw [mI_sI, if_neg (by omega)]) (by rw [mI_sI, if_neg (by omega)]) d1
        rcases d2 with d2 | ⟨σe, σg, d2, d3, d4, d5⟩
        · rw [d2, obi_s, if_pos rfl]
          exact ⟨false, _, _, rfl, rfl, ⟨hfB, fr_I hgB (Or.inr rfl)⟩, Or.inr ⟨rfl, hdd⟩⟩
        · rw [d2, obi_s, if_neg (show ¬ (1 : Int32) = 0 by decide), d3, hmRA, ogd_d hk, ogi (by omega) (by omega), show fX5_takeWhole (1 : Int32) (99 : Int32) σe = fX5_takeWhole (oi 1) (oi 99) σe from rfl, d4, obi_s, ← d5, if_neg d1.1]
          exact ⟨false, _, _, rfl, rfl, ⟨hfB, fr_I hgB (Or.inr rfl)⟩, Or.inr ⟨rfl, hdd⟩⟩
    · have z1 : mI (sI τA 85 (18 + 4 * H) 1) 81 13 = 1 := by rw [mI_sI, if_neg (by omega)]; exact d1.2.2.2
      rw [zaft_d d1.2.2.2, obi_s, ogi (by omega) (by omega), zaft_d z1, obi_s, ogi (by omega) (by omega), if_neg (by rw [mI_sI, if_neg (by omega), z1]; decide)]
      have hdd : zDead σA (sI (sI τA 85 (18 + 4 * H) 1) 85 (19 + 4 * H) 0) := zdead_fr rfl rfl (by rw [mI_sI, if_neg (by omega), mI_sI, if_neg (by omega)]) (by rw [mI_sI, if_neg (by omega), mI_sI, if_neg (by omega)]) (by rw [mI_sI, if_neg (by omega), mI_sI, if_neg (by omega)]) d1
      rcases d2 with d2 | ⟨σe, σg, d2, d3, d4, d5⟩
      · rw [d2, obi_s, if_pos rfl]
        exact ⟨false, _, _, rfl, rfl, ⟨hfA, fr_I (fr_I hgA (Or.inr rfl)) (Or.inr rfl)⟩, Or.inr ⟨rfl, hdd⟩⟩
      · rw [d2, obi_s, if_neg (show ¬ (1 : Int32) = 0 by decide), d3, hmR1, ogd_d hk, ogi (by omega) (by omega), show fX5_takeWhole (0 : Int32) (999 : Int32) σe = fX5_takeWhole (oi 0) (oi 999) σe from rfl, d4, obi_s, ← d5, if_neg d1.1]
        exact ⟨false, _, _, rfl, rfl, ⟨hfA, fr_I (fr_I hgA (Or.inr rfl)) (Or.inr rfl)⟩, Or.inr ⟨rfl, hdd⟩⟩
  · have z1 : mI (sI τ1 85 (17 + 4 * H) 0) 81 13 = 1 := by rw [mI_sI, if_neg (by omega)]; exact e2.2.2.2
    have z2 : mI (sI (sI τ1 85 (17 + 4 * H) 0) 85 (18 + 4 * H) 1) 81 13 = 1 := by rw [mI_sI, if_neg (by omega)]; exact z1
    rw [e1, obi_s, if_pos rfl, zaft_d e2.2.2.2, obi_s, ogi (by omega) (by omega), zaft_d z1, obi_s, ogi (by omega) (by omega), zaft_d z2, obi_s, ogi (by omega) (by omega), if_neg (by rw [mI_sI, if_neg (by omega), z2]; decide)]
    exact ⟨false, _, _, rfl, rfl, ⟨zc_l w k1, fr_I (fr_I (fr_I hNm (Or.inr rfl)) (Or.inr rfl)) (Or.inr rfl)⟩, Or.inr ⟨rfl, zdead_fr rfl rfl (by rw [mI_sI, if_neg (by omega), mI_sI, if_neg (by omega), mI_sI, if_neg (by omega)]) (by rw [mI_sI, if_neg (by omega), mI_sI, if_neg (by omega), mI_sI, if_neg (by omega)]) (by rw [mI_sI, if_neg (by omega), mI_sI, if_neg (by omega), mI_sI, if_neg (by omega)]) e2⟩⟩
end
