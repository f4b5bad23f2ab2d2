/-! lines: twin -/
section
variable {σ τ : OM} {f : Nat → Nat} {L i w : Nat} {t : Tk} {r : List Tk}
theorem zkP_no {a j : Nat} (hw : w = 1 ∨ w = 22) (p : w ≤ a) (q : a ≤ w + 20) : ¬ zkP a j := by unfold zkP; omega
theorem iy41 (k : Nat) : (41 : Int32) + (2 : Int32) * oi k = oi (41 + 2 * k) := by
  rw [show (41 : Int32) = oi 41 from rfl, show (2 : Int32) = oi 2 from rfl, oi_mul, oi_add]
theorem iy42 (k : Nat) : oi (41 + 2 * k) + (1 : Int32) = oi (42 + 2 * k) := by
  rw [show (1 : Int32) = oi 1 from rfl, oi_add]; congr 1; omega
theorem twd {T : Nat} (h13 : mI τ 81 13 = 1) (h4 : mI τ 85 4 = oi T) (hT : T ≤ 6) (l1 l2 l3 : Int32) : ∀ n k, k ≤ T → T < n + k → fX10_twinLine_b36 n l1 l2 l3 (oi k) τ = some τ
  | 0, k, h1, h2 => by omega
  | n + 1, k, h1, h2 => by
    rw [fX10_twinLine_b36, h4]
    by_cases e : T ≤ k
    · rw [if_pos ((oi_le (by omega) (by omega)).mpr e)]
      unfold fX10_twinLine_b103
      rw [if_neg (by rw [h13]; decide)]
    · rw [if_neg (fun q => e ((oi_le (by omega) (by omega)).mp q)), if_neg (by rw [h13]; decide), oi_succ]
      exact twd h13 h4 hT l1 l2 l3 n (k + 1) (by omega) (by omega)
theorem twn {T : Nat} (h13 : mI τ 81 13 = 0) (h4 : mI τ 85 4 = oi T) (hT : T ≤ 6) (l1 l2 l3 : Int32) : ∀ n k, k ≤ T → T < n + k → (∀ j, k ≤ j → j < T → ¬ (mI τ 85 (41 + 2 * j) = l2 ∧ mI τ 85 (42 + 2 * j) = l3)) → fX10_twinLine_b36 n l1 l2 l3 (oi k) τ = fX10_twinLine_b103 l1 l2 l3 τ
  | 0, k, h1, h2, _ => by omega
  | n + 1, k, h1, h2, hm => by
    rw [fX10_twinLine_b36, h4]
    by_cases e : T ≤ k
    · rw [if_pos ((oi_le (by omega) (by omega)).mpr e)]
    · rw [if_neg (fun q => e ((oi_le (by omega) (by omega)).mp q)), if_pos h13, iy41, iy42, ogi (by omega) (by omega), ogi (by omega) (by omega), oi_nat (by omega), oi_nat (by omega), oi_succ]
      have ih := twn h13 h4 hT l1 l2 l3 n (k + 1) (by omega) (by omega) (fun j p q => hm j (by omega) q)
      rw [ih]
      by_cases e1 : mI τ 85 (41 + 2 * k) = l2
      · rw [if_pos e1, if_neg (fun e2 => hm k (by omega) (by omega) ⟨e1, e2⟩)]
      · rw [if_neg e1]
theorem twy {T : Nat} (h13 : mI τ 81 13 = 0) (h4 : mI τ 85 4 = oi T) (hT : T ≤ 6) (l1 l2 l3 : Int32) : ∀ n k, k ≤ T → T < n + k → (∃ j, k ≤ j ∧ j < T ∧ mI τ 85 (41 + 2 * j) = l2 ∧ mI τ 85 (42 + 2 * j) = l3) → fX10_twinLine_b36 n l1 l2 l3 (oi k) τ = some (zwr τ 3 (mI τ 81 4))
  | 0, k, h1, h2, _ => by omega
  | n + 1, k, h1, h2, hm => by
    rw [fX10_twinLine_b36, h4]
    obtain ⟨j, p1, p2, p3, p4⟩ := hm
    rw [if_neg (fun q => absurd ((oi_le (by omega) (by omega)).mp q) (by omega)), if_pos h13, iy41, iy42, ogi (by omega) (by omega), ogi (by omega) (by omega), oi_nat (by omega), oi_nat (by omega), oi_succ]
    by_cases e : mI τ 85 (41 + 2 * k) = l2 ∧ mI τ 85 (42 + 2 * k) = l3
    · rw [if_pos e.1, if_pos e.2, zwrong h13, obv_s]
      exact twd (zwr_13 _ _ _) (by rw [(zwr_fr τ 3 (mI τ 81 4)).1 85 4 (by unfold zrP; omega)]; exact h4) hT l1 l2 l3 n (k + 1) (by omega) (by omega)
    · have ek : j ≠ k := fun q => e (by rw [← q]; exact ⟨p3, p4⟩)
      have ih := twy h13 h4 hT l1 l2 l3 n (k + 1) (by omega) (by omega) ⟨j, by omega, p2, p3, p4⟩
      rw [ih]
      by_cases e1 : mI τ 85 (41 + 2 * k) = l2
      · rw [if_pos e1, if_neg (fun e2 => e ⟨e1, e2⟩)]
      · rw [if_neg e1]
theorem sTw_s {R R' : Nat → Int32} {T h v : Nat} (hT : T < 6) (h4 : nn (R 4) = T) (h4' : R' 4 = oi (T + 1)) (hr : ∀ j, 41 ≤ j → j < 41 + 2 * T → R' j = R j) (ha : R' (41 + 2 * T) = oi h) (hb : R' (42 + 2 * T) = oi v) (hh : h < 6) (hv : v < 32) {x y : Nat} (hx : x < 6) (hy : y < 32) : sTw R' x y = (sTw R x y || (decide (x = h) && decide (y = v))) := by
  unfold sTw
  rw [h4', nn_oi (by omega), h4]
  show (anyN (fun k => decide (R' (41 + 2 * k) = oi x) && decide (R' (42 + 2 * k) = oi y)) T || (decide (R' (41 + 2 * T) = oi x) && decide (R' (42 + 2 * T) = oi y))) = _
  rw [ha, hb]
  have e1 : anyN (fun k => decide (R' (41 + 2 * k) = oi x) && decide (R' (42 + 2 * k) = oi y)) T = anyN (fun k => decide (R (41 + 2 * k) = oi x) && decide (R (42 + 2 * k) = oi y)) T := by
    rw [Bool.eq_iff_iff, anyN_iff, anyN_iff]
    constructor
    · rintro ⟨k, k1, k2⟩; exact ⟨k, k1, by rw [← hr (41 + 2 * k) (by omega) (by omega), ← hr (42 + 2 * k) (by omega) (by omega)]; exact k2⟩
    · rintro ⟨k, k1, k2⟩; exact ⟨k, k1, by rw [hr (41 + 2 * k) (by omega) (by omega), hr (42 + 2 * k) (by omega) (by omega)]; exact k2⟩
  rw [e1]
  congr 1
  congr 1
  · rw [decide_eq_decide, oi_inj (by omega) (by omega)]; exact eq_comm
  · rw [decide_eq_decide, oi_inj (by omega) (by omega)]; exact eq_comm
theorem ln_twin (hw : w = 1 ∨ w = 22) (h1 : mR σ 48 1 = w) (hk : okd w = 8) (hlv : zLv σ τ f L t r i) (hD : zDD σ w (mI τ 85) (mL τ 87)) (hT : nn (mI τ 85 4) < 6) : ∃ b σ' τ', fX5_readTwin σ = some (b2 b, σ') ∧ fX10_twinLine τ = some τ' ∧ zRs w f L (i + 1) b σ σ' τ τ' ((∀ k, 1 ≤ k → k ≤ 10 → k ≠ 4 → mI τ' 85 k = mI τ 85 k) ∧ mI τ' 85 4 = oi (nn (mI τ 85 4) + 1)) := by
  obtain ⟨⟨b1, bn⟩, b3, b4, b5, b6, b7, b8⟩ := hD
  have hR4 : mI τ 85 4 = oi (nn (mI τ 85 4)) := b1.1.2.2.2.1
  have hH := b1.1.2.2.1.2
  generalize hTe : nn (mI τ 85 4) = T at *
  have hF0 : oF = 99999 + 1 := rfl
  unfold fX5_readTwin fX10_twinLine
  rw [if_pos hlv.2.2, hR4, iy41]
  rcases zhouse hlv b1 bn with ⟨h, σ1, τ1, a1, a2, a3, ⟨t1, r1, a4⟩, a5, a6⟩ | ⟨σ1, τ1, c1, c2, c3, c4, c5⟩
  · have h6 : h < 6 := by omega
    rw [a2, obi_s, if_neg (oi_nneg (by omega)), if_pos (show oi h < (6 : Int32) from (oi_lt (b := 6) (by omega) (by omega)).mpr h6), a3, obi_s]
    have hR1 : ∀ j, mI τ1 85 j = mI τ 85 j := fun j => a6.1 85 j (by unfold zrP; omega)
    have hT1 : mI τ1 85 4 = oi T := (hR1 4).trans hR4
    have hdead : ∀ c x : Int32, ∀ l3 : Int32, fX10_twinLine_b36 oF (oi (41 + 2 * T)) (oi h) l3 0 (zwr τ1 c x) = some (zwr τ1 c x) := fun c x l3 => twd (zwr_13 _ _ _) (by rw [(zwr_fr τ1 c x).1 85 4 (by unfold zrP; omega)]; exact hT1) (by omega) _ _ _ oF 0 (by omega) (by rw [hF0]; omega)
    have hfail : ∀ c : Int32, c ≠ 0 → fX5_takeWhole (oi 0) (oi 30) σ1 = some (-1, zfl σ1 c (oi t1.2.1)) → fX10_numberHere (oi 0) (oi 30) τ1 = some (oi 0, zwr τ1 c (oi t1.2.1)) → ∃ b σ' τ', (obi (fX5_takeWhole (0 : Int32) (30 : Int32) σ1) (fun r4 σ5 => if (mI σ5 48 2) = 0 then (ogd (decide (okd (mR σ5 48 1) = 8)) (ogd (oin (oi h) 6) (obi (fX9_bitOf ((mI σ5 ((mR σ5 48 1) + 14 + (oi h).toNatClampNeg) 3).toInt64) r4 σ5) (fun r9 σ10 => if r9 = (1 : Int32) then (obi (fX5_fail (3 : Int32) (mI σ1 43 9) σ10) (fun r15 σ16 => ogd (oisb r15) (some (r15, σ16)))) else (ogd (decide (okd (mR σ10 48 1) = 8)) (ogd (oin (oi h) 6) (ogd (decide (okd (mR (sI σ10 ((mR σ10 48 1) + 14 + (oi h).toNatClampNeg) 3 ((mI σ10 ((mR σ10 48 1) + 14 + (oi h).toNatClampNeg) 3) ||| ((1 : Int32) <<< (r4 &&& 31)))) 48 1) = 8)) (some ((1 : Int32), sI (sI σ10 ((mR σ10 48 1) + 14 + (oi h).toNatClampNeg) 3 ((mI σ10 ((mR σ10 48 1) + 14 + (oi h).toNatClampNeg) 3) ||| ((1 : Int32) <<< (r4 &&& 31)))) (mR (sI σ10 ((mR σ10 48 1) + 14 + (oi h).toNatClampNeg) 3 ((mI σ10 ((mR σ10 48 1) + 14 + (oi h).toNatClampNeg) 3) ||| ((1 : Int32) <<< (r4 &&& 31)))) 48 1) 5 ((mI (sI σ10 ((mR σ10 48 1) + 14 + (oi h).toNatClampNeg) 3 ((mI σ10 ((mR σ10 48 1) + 14 + (oi h).toNatClampNeg) 3) ||| ((1 : Int32) <<< (r4 &&& 31)))) (mR (sI σ10 ((mR σ10 48 1) + 14 + (oi h).toNatClampNeg) 3 ((mI σ10 ((mR σ10 48 1) + 14 + (oi h).toNatClampNeg) 3) ||| ((1 : Int32) <<< (r4 &&& 31)))) 48 1) 5) + (1 : Int32))))))))))) else (some ((0 : Int32), σ5)))) = some (b2 b, σ') ∧ (obi (fX10_numberHere (0 : Int32) (30 : Int32) τ1) (fun r4 σ5 => fX10_twinLine_b36 oF (oi (41 + 2 * T)) (oi h) r4 (0 : Int32) σ5)) = some τ' ∧ zRs w f L (i + 1) b σ σ' τ τ' ((∀ k, 1 ≤ k → k ≤ 10 → k ≠ 4 → mI τ' 85 k = mI τ 85 k) ∧ mI τ' 85 4 = oi (T + 1)) := by
      intro c hc q1 q2
      rw [show fX5_takeWhole (0 : Int32) (30 : Int32) σ1 = fX5_takeWhole (oi 0) (oi 30) σ1 from rfl, q1, obi_s, if_neg (by rw [zfl_2]; exact hc), show fX10_numberHere (0 : Int32) (30 : Int32) τ1 = fX10_numberHere (oi 0) (oi 30) τ1 from rfl, q2, obi_s, hdead]
      exact ⟨false, _, _, rfl, rfl, ⟨zk_l w (fr_tr a5 (zfl_fr _ _ _)), zr_m (fr_tr a6 (zwr_fr _ _ _))⟩, Or.inr ⟨rfl, zdead_mk _ _ hc _⟩⟩
    obtain ⟨n1, n2, n3⟩ := znum_c a4 (lo := 0) (hi := 30) (by decide) (by decide)
    rcases znum_r a4 (lo := 0) (hi := 30) (by decide) (by decide) with ⟨m1, m2, m3, m4⟩ | ⟨m1, m2, m3⟩ | ⟨m1, m2⟩
    · clear hfail
      have n1' := n1 m1 ⟨m2, m3⟩
      clear n1 n2 n3
      generalize zdv (fun k => zch f L (t1.2.1 + k)) (t1.2.2 - t1.2.1) = v at m2 m3 m4 n1'
      obtain ⟨t4, r4, σ4, τ4, g1, g2, g3, g4, g5, g6⟩ := zboth a4 (by omega)
      rw [g1, obv_s] at n1'
      have hfc : Fr zkP zkQ σ σ4 := fr_tr a5 (zP2k g5)
      have hmR : mR σ4 48 1 = w := by rw [hfc.2.2]; exact h1
      have hc3 : mI σ4 (w + 14 + h) 3 = mI σ (w + 14 + h) 3 := hfc.1 _ _ (by unfold zkP; omega)
      have hbit := (b7.2.2.1 h h6).2.2 v (by omega)
      rw [show fX5_takeWhole (0 : Int32) (30 : Int32) σ1 = fX5_takeWhole (oi 0) (oi 30) σ1 from rfl, n1', obi_s, if_pos g3.2.1, hmR, ogd_d hk, ogi (by omega) (by omega), oi_nat (by omega), bitOfW_eq _ (by omega), obi_s, hc3, hbit, show fX10_numberHere (0 : Int32) (30 : Int32) τ1 = fX10_numberHere (oi 0) (oi 30) τ1 from rfl, m4, obi_s]
      have hany : sTw (mI τ 85) h v = true ↔ ∃ j, j < T ∧ mI τ 85 (41 + 2 * j) = oi h ∧ mI τ 85 (42 + 2 * j) = oi v := by
        unfold sTw
        rw [anyN_iff, hTe]
        constructor
        · rintro ⟨k, k1, k2⟩
          rw [Bool.and_eq_true, decide_eq_true_eq, decide_eq_true_eq] at k2
          exact ⟨k, k1, k2.1, k2.2⟩
        · rintro ⟨k, k1, k2, k3⟩
          exact ⟨k, k1, by rw [Bool.and_eq_true, decide_eq_true_eq, decide_eq_true_eq]; exact ⟨k2, k3⟩⟩
      cases htw : sTw (mI τ 85) h v with
      | true =>
        obtain ⟨j, j1, j2, j3⟩ := hany.mp htw
        rw [if_pos (show b2 true = 1 from rfl), a4.1.2.1.1.2.2.1, zfail g3.2.1, obi_s, ogd_t (show oisb 0 = true from rfl), show (0 : Int32) = oi 0 from rfl, twy a4.2.2 hT1 (by omega) _ _ _ oF 0 (by omega) (by rw [hF0]; omega) ⟨j, by omega, j1, by rw [hR1]; exact j2, by rw [hR1]; exact j3⟩, a4.1.2.2.1.1.1]
        exact ⟨false, _, _, rfl, rfl, ⟨zk_l w (fr_tr hfc (zfl_fr _ _ _)), zr_m (fr_tr a6 (zwr_fr _ _ _))⟩, Or.inr ⟨rfl, zdead_mk _ _ (by decide) _⟩⟩
      | false =>
        have hno : ∀ j, j < T → ¬ (mI τ 85 (41 + 2 * j) = oi h ∧ mI τ 85 (42 + 2 * j) = oi v) := fun j hj q => by
          have := hany.mpr ⟨j, hj, q⟩
          rw [htw] at this; exact absurd this (by decide)
        rw [if_neg (show ¬ b2 false = 1 by decide), hmR, ogd_d hk, ogi (by omega) (by omega), hc3, show (0 : Int32) = oi 0 from rfl, twn a4.2.2 hT1 (by omega) _ _ _ oF 0 (by omega) (by rw [hF0]; omega) (fun j p q => by rw [hR1, hR1]; exact hno j q)]
        have hmR2 : mR (sI σ4 (w + 14 + h) 3 (mI σ (w + 14 + h) 3 ||| (1 : Int32) <<< (oi v &&& 31))) 48 1 = w := by rw [mR_sI]; exact hmR
        have hw5 : mI (sI σ4 (w + 14 + h) 3 (mI σ (w + 14 + h) 3 ||| (1 : Int32) <<< (oi v &&& 31))) w 5 = oi T := by rw [mI_sI, if_neg (by omega), hfc.1 _ _ (by unfold zkP; omega), b7.1.2]; exact hR4
        rw [hmR2, ogd_d hk, hw5, oi_succ]
        unfold fX10_twinLine_b103
        rw [if_pos a4.2.2, g2, obv_s, iy42, ogi (by omega) (by omega), ogi (by omega) (by omega), oi_nat (by omega), oi_nat (by omega)]
        have hR44 : ∀ j, mI τ4 85 j = mI τ 85 j := fun j => (g6.1 85 j (by unfold zP3; omega)).trans (hR1 j)
        have e2 : mI (sI (sI τ4 85 (41 + 2 * T) (oi h)) 85 (42 + 2 * T) (oi v)) 85 4 = oi T := by rw [mI_sI, if_neg (by omega), mI_sI, if_neg (by omega), hR44]; exact hR4
        rw [e2, oi_succ]
        have hrow : ∀ j, mI (sI (sI (sI τ4 85 (41 + 2 * T) (oi h)) 85 (42 + 2 * T) (oi v)) 85 4 (oi (T + 1))) 85 j = if j = 4 then oi (T + 1) else if j = 42 + 2 * T then oi v else if j = 41 + 2 * T then oi h else mI τ 85 j := fun j => by
          rw [mI_sI]
          by_cases e9 : j = 4
          · rw [if_pos ⟨rfl, e9⟩, if_pos e9]
          · rw [if_neg (fun q => e9 q.2), if_neg e9, mI_sI]
            by_cases e0 : j = 42 + 2 * T
            · rw [if_pos ⟨rfl, e0⟩, if_pos e0]
            · rw [if_neg (fun q => e0 q.2), if_neg e0, mI_sI]
              by_cases e7 : j = 41 + 2 * T
              · rw [if_pos ⟨rfl, e7⟩, if_pos e7]
              · rw [if_neg (fun q => e7 q.2), if_neg e7]; exact hR44 j
        have hfr : Fr zhP noL τ (sI (sI (sI τ4 85 (41 + 2 * T) (oi h)) 85 (42 + 2 * T) (oi v)) 85 4 (oi (T + 1))) := fr_I (fr_I (fr_I (fr_tr (zr_h a6) (zr_h (zP3r g6))) (Or.inr rfl)) (Or.inr rfl)) (Or.inr rfl)
        have ho81 : ∀ c j, c ≠ 85 → mI (sI (sI (sI τ4 85 (41 + 2 * T) (oi h)) 85 (42 + 2 * T) (oi v)) 85 4 (oi (T + 1))) c j = mI τ4 c j := fun c j p => by rw [mI_sI, if_neg (fun q => p q.1), mI_sI, if_neg (fun q => p q.1), mI_sI, if_neg (fun q => p q.1)]
        generalize sI (sI (sI τ4 85 (41 + 2 * T) (oi h)) 85 (42 + 2 * T) (oi v)) 85 4 (oi (T + 1)) = τ5 at hrow hfr ho81 ⊢
        have hZ : mL τ5 87 = mL τ 87 := funext (fun j => hfr.2.1 87 j (fun q => q))
        have hro : ∀ j, j ≠ 4 → j ≠ 42 + 2 * T → j ≠ 41 + 2 * T → mI τ5 85 j = mI τ 85 j := fun j p1 p2 p3 => by rw [hrow, if_neg p1, if_neg p2, if_neg p3]
        have h54 : mI τ5 85 4 = oi (T + 1) := by rw [hrow, if_pos rfl]
        have hra : mI τ5 85 (41 + 2 * T) = oi h := by rw [hrow, if_neg (by omega), if_neg (by omega), if_pos rfl]
        have hrb : mI τ5 85 (42 + 2 * T) = oi v := by rw [hrow, if_neg (by omega), if_pos rfl]
        have hIw : ∀ a j, ¬ (a = w + 14 + h ∧ j = 3) → ¬ (a = w ∧ j = 5) → ¬ zkP a j → mI (sI (sI σ4 (w + 14 + h) 3 (mI σ (w + 14 + h) 3 ||| (1 : Int32) <<< (oi v &&& 31))) w 5 (oi (T + 1))) a j = mI σ a j := fun a j p q e => by rw [mI_sI, if_neg q, mI_sI, if_neg p]; exact hfc.1 a j e
        have hLw : ∀ a j, a ≠ 43 → mL (sI (sI σ4 (w + 14 + h) 3 (mI σ (w + 14 + h) 3 ||| (1 : Int32) <<< (oi v &&& 31))) w 5 (oi (T + 1))) a j = mL σ a j := fun a j p => hfc.2.1 a j (by unfold zkQ; omega)
        have s5 : mI (sI (sI σ4 (w + 14 + h) 3 (mI σ (w + 14 + h) 3 ||| (1 : Int32) <<< (oi v &&& 31))) w 5 (oi (T + 1))) w 5 = oi (T + 1) := mI_at
        have s3 : mI (sI (sI σ4 (w + 14 + h) 3 (mI σ (w + 14 + h) 3 ||| (1 : Int32) <<< (oi v &&& 31))) w 5 (oi (T + 1))) (w + 14 + h) 3 = mI σ (w + 14 + h) 3 ||| (1 : Int32) <<< (oi v &&& 31) := by rw [mI_sI, if_neg (by omega), mI_at]
        have hfl : Fr (zlP w) (zlQ w) σ (sI (sI σ4 (w + 14 + h) 3 (mI σ (w + 14 + h) 3 ||| (1 : Int32) <<< (oi v &&& 31))) w 5 (oi (T + 1))) := fr_I (fr_I (zk_l w hfc) (Or.inr (Or.inr (Or.inr (Or.inr ⟨by omega, by omega⟩))))) (Or.inr (Or.inr (Or.inr (Or.inr ⟨by omega, by omega⟩))))
        have ho4 : ∀ a j, 43 ≤ a → mI (sI (sI σ4 (w + 14 + h) 3 (mI σ (w + 14 + h) 3 ||| (1 : Int32) <<< (oi v &&& 31))) w 5 (oi (T + 1))) a j = mI σ4 a j := fun a j p => by rw [mI_sI, if_neg (by omega), mI_sI, if_neg (by omega)]
        have ho5 : ∀ a j, mL (sI (sI σ4 (w + 14 + h) 3 (mI σ (w + 14 + h) 3 ||| (1 : Int32) <<< (oi v &&& 31))) w 5 (oi (T + 1))) a j = mL σ4 a j := fun a j => rfl
        generalize sI (sI σ4 (w + 14 + h) 3 (mI σ (w + 14 + h) 3 ||| (1 : Int32) <<< (oi v &&& 31))) w 5 (oi (T + 1)) = σ6 at hIw hLw s5 s3 hfl ho4 ho5 ⊢
        refine ⟨true, _, _, rfl, rfl, ⟨hfl, zh_m hfr⟩, Or.inl ⟨rfl, ?_, ?_, fun k p q e => hro k e (by omega) (by omega), h54⟩⟩
        · exact ⟨t4, r4, i + 1 + 1, by omega, zlv_fr g3 (fun a j p q => ho4 a j p) (fun a j p q => ho5 a j) (ho4 48 2 (by omega)) (fun j p q => ho81 _ _ (by omega)) (fun j => ho81 _ _ (by omega)) (fun j => ho81 _ _ (by omega)) (ho81 _ _ (by omega))⟩
        · rw [hZ]
          generalize mI τ5 85 = R4 at hro hrow h54 hra hrb ⊢
          have hI : ∀ a j, w ≤ a → a ≤ w + 20 → ¬ (a = w + 14 + h ∧ j = 3) → ¬ (a = w ∧ j = 5) → mI σ6 a j = mI σ a j := fun a j p q e1 e2 => hIw a j e1 e2 (zkP_no hw p q)
          have hL : ∀ a j, w ≤ a → a ≤ w + 20 → mL σ6 a j = mL σ a j := fun a j p q => hLw a j (by omega)
          refine ⟨⟨⟨⟨by rw [hro 1 (by omega) (by omega) (by omega)]; exact b1.1.1, by rw [hro 2 (by omega) (by omega) (by omega)]; exact b1.1.2.1, by rw [hro 3 (by omega) (by omega) (by omega)]; exact b1.1.2.2.1, by rw [h54]; exact bd_of (by omega) (by omega)⟩, by rw [hro 5 (by omega) (by omega) (by omega)]; exact b1.2.1, by rw [hro 6 (by omega) (by omega) (by omega)]; exact b1.2.2.1, by rw [hro 7 (by omega) (by omega) (by omega)]; exact b1.2.2.2.1, by rw [hro 8 (by omega) (by omega) (by omega)]; exact b1.2.2.2.2⟩, zdn_c (fun j p q => hro j (by omega) (by omega) (by omega)) (hro 1 (by omega) (by omega) (by omega)) (hro 3 (by omega) (by omega) (by omega)) (hro 5 (by omega) (by omega) (by omega)) (hIw 48 8 (by omega) (by omega) (by unfold zkP; omega)) (fun j => hLw 50 j (by omega)) (fun j => hIw 51 j (by omega) (by omega) (by unfold zkP; omega)) (fun j => hIw 52 j (by omega) (by omega) (by unfold zkP; omega)) bn⟩, zdf_c (hro 1 (by omega) (by omega) (by omega)) (fun j p q => hro j (by omega) (by omega) (by omega)) b1.1.1.2 (hI _ _ (by omega) (by omega) (by omega) (by omega)) (fun j => hI _ _ (by omega) (by omega) (by omega) (by omega)) b3, zdl_c (hro 1 (by omega) (by omega) (by omega)) (hro 2 (by omega) (by omega) (by omega)) (hro 10 (by omega) (by omega) (by omega)) rfl (hI _ _ (by omega) (by omega) (by omega) (by omega)) (hL _ _ (by omega) (by omega)) (hI _ _ (by omega) (by omega) (by omega) (by omega)) (hI _ _ (by omega) (by omega) (by omega) (by omega)) b4, zdq_c (hro 1 (by omega) (by omega) (by omega)) (hro 5 (by omega) (by omega) (by omega)) (fun q hq => rfl) (hI _ _ (by omega) (by omega) (by omega) (by omega)) (fun j => hL _ _ (by omega) (by omega)) b5, zds_c (hro 7 (by omega) (by omega) (by omega)) (fun j p q => hro j (by omega) (by omega) (by omega)) b1.2.2.2.1.2 (hI _ _ (by omega) (by omega) (by omega) (by omega)) (hI _ _ (by omega) (by omega) (by omega) (by omega)) b6, ⟨?_, fun k hk => ?_, fun k hk => ?_, fun k hk => ?_⟩, zdt_c (hro 0 (by omega) (by omega) (by omega)) (hro 3 (by omega) (by omega) (by omega)) (hro 5 (by omega) (by omega) (by omega)) (hro 6 (by omega) (by omega) (by omega)) (hro 8 (by omega) (by omega) (by omega)) (fun j p q e1 e2 => hro j (by omega) (by omega) (by omega)) b1.2.2.1.2 (fun a j p q => hI _ _ (by omega) (by omega) (by omega) (by omega)) b8⟩
          · rw [s5, h54, hI _ _ (by omega) (by omega) (by omega) (by omega), hro 3 (by omega) (by omega) (by omega)]; exact ⟨b7.1.1, rfl⟩
          · rw [hro 3 (by omega) (by omega) (by omega)] at hk
            rw [hI _ _ (by omega) (by omega) (by omega) (by omega), hI _ _ (by omega) (by omega) (by omega) (by omega), hI _ _ (by omega) (by omega) (by omega) (by omega), hro (17 + 4 * k) (by omega) (by omega) (by omega), hro (18 + 4 * k) (by omega) (by omega) (by omega), hro (19 + 4 * k) (by omega) (by omega) (by omega)]; exact b7.2.1 k hk
          · obtain ⟨w1, w2, w3⟩ := b7.2.2.1 k hk
            rw [hI _ 4 (by omega) (by omega) (by omega) (by omega), hro _ (by omega) (by omega) (by omega)]
            refine ⟨w1, w2, fun g hg => ?_⟩
            rw [sTw_s hT hTe h54 (fun j p q => hro j (by omega) (by omega) (by omega)) hra hrb h6 (by omega) hk hg]
            by_cases ek : k = h
            · rw [ek, s3, tw_or, tw_shl v (by omega) g hg, decide_eq_true rfl, Bool.true_and, ← (b7.2.2.1 h h6).2.2 g hg]
            · rw [decide_eq_false ek, Bool.false_and, Bool.or_false, hI _ _ (by omega) (by omega) (by omega) (by omega)]; exact w3 g hg
          · rw [h54, nn_oi (by omega)] at hk
            rw [hro 3 (by omega) (by omega) (by omega)]
            by_cases ek : k = T
            · rw [ek, hra, hrb, nn_oi (by omega)]
              exact ⟨bd_of (by omega) (by omega), a1, bd_of m3 (by omega), fun j hj => by rw [hro (41 + 2 * j) (by omega) (by omega) (by omega), hro (42 + 2 * j) (by omega) (by omega) (by omega)]; exact hno j hj⟩
            · rw [hro (41 + 2 * k) (by omega) (by omega) (by omega), hro (42 + 2 * k) (by omega) (by omega) (by omega)]
              obtain ⟨w1, w2, w3, w4⟩ := b7.2.2.2 k (by omega)
              exact ⟨w1, w2, w3, fun j hj => by rw [hro (41 + 2 * j) (by omega) (by omega) (by omega), hro (42 + 2 * j) (by omega) (by omega) (by omega)]; exact w4 j hj⟩
    · exact hfail 4 (by decide) (n2 m1 m2) m3
    · exact hfail 1 (by decide) (n3 m1) m2
  · rw [c1, obi_s, if_pos (by decide), c2, obi_s, znum_d c3.2.2.2, obi_s, show fX10_twinLine_b36 oF (oi (41 + 2 * T)) 0 0 0 τ1 = some τ1 from twd c3.2.2.2 (by rw [c5.1 85 4 (by unfold zrP; omega)]; exact hR4) (by omega) _ _ _ oF 0 (by omega) (by rw [hF0]; omega)]
    exact ⟨false, _, _, rfl, rfl, ⟨zk_l w c4, zr_m c5⟩, Or.inr ⟨rfl, c3⟩⟩
end
