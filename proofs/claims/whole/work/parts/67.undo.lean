/-! undone: what stood before -/
theorem undo_c {σ : OM} {t : Nat} {R u s : Nat → Int32} {k a b : Int32} (hA : Act k a b u s) (hu : TB R u) (hs : TB R s) (hC : CT σ t s) (ht : t = 6 ∨ t = 27) {c : Nat} (hc1 : 1 ≤ c) (hc : c ≤ 12) (h3 : mI σ 61 3 = oi c) (hk : mI σ 62 (c - 1) = k) (ha : mI σ 63 (c - 1) = a) (hb : mI σ 64 (c - 1) = b) : ∃ σ1, fX0_undoIn t σ = some (1, σ1) ∧ CT σ1 t u ∧ mI σ1 61 3 = oi (c - 1) ∧ Fr (fun d j => (d = 61 ∧ j = 3) ∨ (t ≤ d ∧ d ≤ t + 4)) noL σ σ1 := by
  obtain ⟨d1, d2, d3, d4, d5⟩ := hC
  have em : mI σ 61 3 - 1 = oi (c - 1) := by rw [h3]; exact oi_sub (b := 1) hc1
  have r1 : mI (sI σ 61 3 (oi (c - 1))) 61 3 = oi (c - 1) := mI_at
  have r2 : mI (sI σ 61 3 (oi (c - 1))) 62 (c - 1) = k := by rw [mI_sI, if_neg (by omega)]; exact hk
  have r3 : mI (sI σ 61 3 (oi (c - 1))) 63 (c - 1) = a := by rw [mI_sI, if_neg (by omega)]; exact ha
  have r4 : mI (sI σ 61 3 (oi (c - 1))) 64 (c - 1) = b := by rw [mI_sI, if_neg (by omega)]; exact hb
  have ro : ∀ d j, t ≤ d → d ≤ t + 4 → mI (sI σ 61 3 (oi (c - 1))) d j = mI σ d j := fun d j p1 p2 => by rw [mI_sI, if_neg (by omega)]
  have hUN := hu.2.1.2
  have hSN := hs.2.1.2
  unfold fX0_undoIn
  rw [if_neg (by rw [h3]; show ¬ oi c < oi 1; rw [oi_lt (by omega) (by omega)]; omega), if_pos (by rw [h3]; show oi c ≤ oi 12; rw [oi_le (by omega) (by omega)]; omega), em, r1, ogi (by omega) (by omega), oi_nat (by omega), r2]
  rcases hA with ⟨hk0, h2, h4, h5, h6, h7⟩ | ⟨hk0, h2, h4, h6, x, y, hx, hy, hxy, ea, eb, hbit, h7⟩ | ⟨hk0, h2, h4, h6, h7⟩
  · rw [hk0, if_pos rfl, ro _ _ (by omega) (by omega), d1]
    have e1 : s 1 - 1 = u 1 := by rw [h4, Int32.add_sub_cancel]
    rw [e1]
    refine ⟨_, rfl, ⟨mI_at, ?_, fun j hj => ?_, fun i hi => ?_, ?_⟩, ?_, fr_I (fr_I (fr_rfl _ _ _) (by omega)) (by omega)⟩
    · rw [mI_sI, if_neg (by omega), ro _ _ (by omega) (by omega), d2, h2]
    · obtain ⟨f1, f2, f3⟩ := d3 j (by omega)
      obtain ⟨g1, g2, g3⟩ := h6 j hj
      rw [mI_sI, if_neg (by omega), ro _ _ (by omega) (by omega), mI_sI, if_neg (by omega), ro _ _ (by omega) (by omega), mI_sI, if_neg (by omega), ro _ _ (by omega) (by omega)]
      exact ⟨f1.trans g1, f2.trans g2, f3.trans g3⟩
    · rw [mI_sI, if_neg (by omega), ro _ _ (by omega) (by omega), d4 i hi, h7 i hi]
    · rw [mI_sI, if_neg (by omega), ro _ _ (by omega) (by omega), d5, sWd_ext h7]
    · rw [mI_sI, if_neg (by omega)]; exact r1
  · have hbit2 : tw (u (62 + y)) x = false := by rw [hu.2.2.2.2 y hy x hx]; exact hbit
    have sx : s (62 + x) = u (62 + x) ||| (1 : Int32) <<< (oi y &&& 31) := by rw [h7 x hx, if_pos rfl]
    have sy : s (62 + y) = u (62 + y) ||| (1 : Int32) <<< (oi x &&& 31) := by rw [h7 y hy, if_neg (fun e => hxy e.symm), if_pos rfl]
    have wd : sWd s = sWd u + 2 := wd_two hx hy hxy hbit hbit2 h7
    have wl := sWd_le s
    rw [hk0, if_neg (by decide), ogi (by omega) (by omega), if_pos rfl, ogi (by omega) (by omega), ogi (by omega) (by omega), r3, r4, ea, eb]
    unfold fX7_unwed
    rw [areWed_eq hx (by omega), obi_s, ro _ _ (by omega) (by omega), d4 x hx, sx, tw_or, tw_shl y (by omega) y (by omega), decide_eq_true rfl, Bool.or_true, if_neg (by decide), turnW_eq hx hy hxy, obv_s, ro _ _ (by omega) (by omega), ro _ _ (by omega) (by omega), d4 x hx, d4 y hy, sx, sy, or_xor (by omega) hbit, or_xor (by omega) hbit2]
    have i5 : mI (sI (sI (sI σ 61 3 (oi (c - 1))) (t + 4) x (u (62 + x))) (t + 4) y (u (62 + y))) t 5 - 1 = oi (sWd u / 2) := by
      rw [mI_sI, if_neg (by omega), mI_sI, if_neg (by omega), ro _ _ (by omega) (by omega), d5, wd]
      refine (oi_sub (b := 1) (by omega)).trans ?_
      congr 1; omega
    rw [i5, obv_s]
    refine ⟨_, rfl, ⟨?_, ?_, fun j hj => ?_, fun i hi => ?_, mI_at⟩, ?_, fr_I (fr_I (fr_I (fr_I (fr_rfl _ _ _) (by omega)) (by omega)) (by omega)) (by omega)⟩
    · rw [mI_sI, if_neg (by omega), mI_sI, if_neg (by omega), mI_sI, if_neg (by omega), ro _ _ (by omega) (by omega), d1, h4]
    · rw [mI_sI, if_neg (by omega), mI_sI, if_neg (by omega), mI_sI, if_neg (by omega), ro _ _ (by omega) (by omega), d2, h2]
    · obtain ⟨f1, f2, f3⟩ := d3 j (by rw [h4]; exact hj)
      obtain ⟨g1, g2, g3⟩ := h6 j hj
      refine ⟨?_, ?_, ?_⟩
      · rw [mI_sI, if_neg (by omega), mI_sI, if_neg (by omega), mI_sI, if_neg (by omega), ro _ _ (by omega) (by omega)]; exact f1.trans g1
      · rw [mI_sI, if_neg (by omega), mI_sI, if_neg (by omega), mI_sI, if_neg (by omega), ro _ _ (by omega) (by omega)]; exact f2.trans g2
      · rw [mI_sI, if_neg (by omega), mI_sI, if_neg (by omega), mI_sI, if_neg (by omega), ro _ _ (by omega) (by omega)]; exact f3.trans g3
    · rw [mI_sI, if_neg (by omega), mI_sI]
      by_cases q2 : i = y
      · rw [if_pos ⟨rfl, q2⟩, q2]
      · rw [if_neg (fun e => q2 e.2), mI_sI]
        by_cases q1 : i = x
        · rw [if_pos ⟨rfl, q1⟩, q1]
        · rw [if_neg (fun e => q1 e.2), ro _ _ (by omega) (by omega), d4 i hi, h7 i hi, if_neg q1, if_neg q2]
    · rw [mI_sI, if_neg (by omega), mI_sI, if_neg (by omega), mI_sI, if_neg (by omega)]; exact r1
  · rw [hk0, if_neg (by decide), ogi (by omega) (by omega), if_neg (by decide), ogi (by omega) (by omega), r3, ro _ _ (by omega) (by omega), d2]
    have e1 : s 0 - a = u 0 := by rw [h2, Int32.add_sub_cancel]
    rw [e1]
    refine ⟨_, rfl, ⟨?_, mI_at, fun j hj => ?_, fun i hi => ?_, ?_⟩, ?_, fr_I (fr_I (fr_rfl _ _ _) (by omega)) (by omega)⟩
    · rw [mI_sI, if_neg (by omega), ro _ _ (by omega) (by omega), d1, h4]
    · obtain ⟨f1, f2, f3⟩ := d3 j (by rw [h4]; exact hj)
      obtain ⟨g1, g2, g3⟩ := h6 j hj
      rw [mI_sI, if_neg (by omega), ro _ _ (by omega) (by omega), mI_sI, if_neg (by omega), ro _ _ (by omega) (by omega), mI_sI, if_neg (by omega), ro _ _ (by omega) (by omega)]
      exact ⟨f1.trans g1, f2.trans g2, f3.trans g3⟩
    · rw [mI_sI, if_neg (by omega), ro _ _ (by omega) (by omega), d4 i hi, h7 i hi]
    · rw [mI_sI, if_neg (by omega), ro _ _ (by omega) (by omega), d5, sWd_ext h7]
    · rw [mI_sI, if_neg (by omega)]; exact r1
/-- back to a row u that the memory has, who lies found anew -/
theorem back_fin {n : Nat} {σ σ1 σ2 : OM} {w : Nat} {u : Nat → Int32} (hi : Inv n σ) (hw : w = 1 ∨ w = 22) (h0 : mR σ 0 0 = w) (hW : WI σ w) (hu : TB (mI σ 84) u) (e2 : CT σ1 (w + 5) u) (e3 : CM σ1 w (mI σ 84) (mL σ 86) u) (e4 : mI σ1 0 9 = 0) (e8 : Fr (fun a j => (w + 5 ≤ a ∧ a ≤ w + 10) ∨ (61 ≤ a ∧ a ≤ 64) ∨ (a = 0 ∧ j = 9)) (gQ w) σ σ1) (s2 : ∀ j, j < 68 → mI σ2 88 j = u j) (hU : UR σ2 (mI σ 84)) (s6 : Fr (fun a j => (a = 81 ∧ j = 22) ∨ a = 88) noL (gd σ1) σ2) : Inv (n + 1) σ2 := by
  have q0 : ∀ b j, b ≠ 81 → mI (gd σ1) b j = mI σ1 b j := fun b j hb => ft_o 0 σ1 hb
  have q1 : ∀ b j, b ≠ 81 → b ≠ 88 → mI σ2 b j = mI σ1 b j := fun b j p1 p2 => by
    rw [s6.1 b j (by omega)]; exact q0 b j p1
  have hN := hu.2.1.2
  refine act_fin hi hw h0 hW ?_ (TB_ext s2 hu) rfl (CT_ext hN s2 (CT_congr (fun b j p => q1 b j (by omega) (by omega)) e2)) ?_ hU ?_ ?_
  · have k1 : Fr (aP w) (gQ w) σ σ1 := fr_mono (fun b j p => by unfold aP; omega) (fun _ p => p) e8
    have k2 : Fr (aP w) (gQ w) σ1 (gd σ1) := fr_I (fr_I (fr_rfl _ _ _) (by unfold aP; omega)) (by unfold aP; omega)
    have k3 : Fr (aP w) (gQ w) (gd σ1) σ2 := fr_mono (fun b j p => by unfold aP; omega) (fun _ p => p.elim) s6
    exact fr_tr k1 (fr_tr k2 k3)
  · exact CM_ext (s2 1 (by omega)) (fun k hk => ⟨s2 _ (by omega), s2 _ (by omega), s2 _ (by omega)⟩) (CM_congr (fun j => q1 _ j (by omega) (by omega)) e3)
  · rw [q1 _ _ (by omega) (by omega), e4, s6.1 81 11 (by omega)]; exact (ft_11 0 σ1).symm
  · rw [q1 _ _ (by omega) (by omega), e4]; decide
theorem m_undo (n : Nat) : okC n fX9_undo fX10_undo := by
  intro σ hi
  have hC := hi.1
  have hw := okW_lt hC.1
  have hk := okW_kd hC.1
  have bad : mI σ 61 3 = 0 → mI σ 81 22 = 0 → ∃ r σ1 σ2, fX9_undo σ = some (r, σ1) ∧ fX10_undo σ1 = some (r, σ2) ∧ Inv (n + 1) σ2 ∧ mR σ1 96 0 = mR σ 96 0 ∧ mR σ2 96 0 = mR σ1 96 0 := by
    intro e1 e2
    refine refd hi 6 0 (by decide) ?_ ?_
    · unfold fX9_undo fX0_undoIn
      rw [ogd_d hk, if_pos (by rw [e1]; decide), obi_s, if_pos rfl]; rfl
    · unfold fX10_undo
      rw [good_eq, obv_s, if_pos (by rw [o9 6 (by unfold scr; omega)]; exact e2)]; rfl
  rcases hC.2.2.2 with hW | hN
  · generalize h0 : mR σ 0 0 = w at hw hk hW
    have hCW := hW.2.2.1
    obtain ⟨c, c1, c2, c3, c4, c5⟩ := hW.2.2.2.1
    by_cases hc0 : c = 0
    · subst hc0; exact bad c2 c3
    · have hcu : uRow σ c (c - 1 + 1) = mI σ 88 := by unfold uRow; rw [if_neg (by omega)]
      have hA := c5 (c - 1) (by omega)
      rw [hcu] at hA
      have hTu := c4 (c - 1) (by omega)
      obtain ⟨σ1, e1, e2, e3, e4⟩ := undo_c (t := w + 5) hA hTu hCW.1.1.2 hCW.1.2.2 (by omega) (by omega) c1 c2 rfl rfl rfl
      have hX : CX σ1 w (mI σ 84) (mL σ 86) (uRow σ c (c - 1)) := ⟨⟨hCW.1.1.1, hTu⟩, CS_congr (fun a j p => e4.1 a j (by omega)) (fun a j p => e4.2.1 a j (fun e => e)) (x_Hb hCW.1) hCW.1.2.1, e2⟩
      have hr : mR σ1 0 0 = w := by rw [e4.2.2]; exact h0
      obtain ⟨σ3, f1, f2, f3⟩ := liars_eq hX
      have g1 : fX9_undo σ = some (1, sI σ3 0 9 0) := by
        unfold fX9_undo
        rw [h0, ogd_d hk, e1, obi_s, if_neg (by decide), hr, ogd_d hk, ogd_d hk, x_H hX, f1, obv_s]
      have e8 : Fr (fun a j => (w + 5 ≤ a ∧ a ≤ w + 10) ∨ (61 ≤ a ∧ a ≤ 64) ∨ (a = 0 ∧ j = 9)) (gQ w) σ (sI σ3 0 9 0) := fr_I (fr_tr (fr_mono (fun d j p => by omega) (fun _ p => p.elim) e4) (fr_mono (fun d j p => by unfold gP at p; omega) (fun _ p => p) f3)) (by omega)
      have g22 : mI (gd (sI σ3 0 9 0)) 81 22 = oi c := by
        rw [(gd_eqv (sI σ3 0 9 0)).1 81 22 (by unfold scr; omega), e8.1 81 22 (by omega)]; exact c3
      have h816 : oln 89 = 816 := rfl
      have h68 : oln 88 = 68 := rfl
      have p1 : Fr (fun a j => (a = 81 ∧ j = 22) ∨ a = 88) noL (gd (sI σ3 0 9 0)) (sI (gd (sI σ3 0 9 0)) 81 22 (oi (c - 1))) := fr_I (fr_rfl _ _ _) (by omega)
      obtain ⟨σ2, s1, s2, s3⟩ := copy_eq (sI (gd (sI σ3 0 9 0)) 81 22 (oi (c - 1))) (A := 89) (B := 88) (x := 68 * (c - 1)) (y := 0) (n := 68) (by omega) (by omega) (by omega) (by omega) (by omega)
      have p2 : Fr (fun a j => (a = 81 ∧ j = 22) ∨ a = 88) noL (gd (sI σ3 0 9 0)) σ2 := fr_tr p1 (fr_mono (fun a j p => by omega) (fun _ p => p) s3)
      have r89 : ∀ j, mI σ2 89 j = mI σ 89 j := fun j => by
        rw [p2.1 89 j (by omega), (gd_eqv (sI σ3 0 9 0)).1 89 j (by unfold scr; omega), e8.1 89 j (by omega)]
      have r88 : ∀ j, j < 68 → mI σ2 88 j = uRow σ c (c - 1) j := fun j hj => by
        have := s2 j hj
        rw [Nat.zero_add] at this
        rw [this]
        unfold uRow
        rw [if_pos (by omega), p1.1 89 _ (by omega), (gd_eqv (sI σ3 0 9 0)).1 89 _ (by unfold scr; omega), e8.1 89 _ (by omega)]
      have ro : ∀ d j, 61 ≤ d → d ≤ 64 → mI σ2 d j = mI σ1 d j := fun d j q1 q2 => by
        rw [p2.1 d j (by omega), (gd_eqv (sI σ3 0 9 0)).1 d j (by unfold scr; omega), mI_sI, if_neg (by omega), f3.1 d j (by unfold gP; omega)]
      refine ⟨1, _, σ2, g1, ?_, ?_, by rw [e8.2.2], by rw [p2.2.2]; rfl⟩
      · unfold fX10_undo
        rw [good_eq, obv_s, g22, if_neg (by rw [oi_ne0 (by omega)]; exact hc0), show oi c - 1 = oi (c - 1) from oi_sub (b := 1) (by omega), mI_at, show (68 : Int32) * oi (c - 1) = oi (68 * (c - 1)) from oi_mul 68 (c - 1), show fX10_copy 89 (oi (68 * (c - 1))) 88 0 68 (sI (gd (sI σ3 0 9 0)) 81 22 (oi (c - 1))) = fX10_copy 89 (oi (68 * (c - 1))) 88 (oi 0) (oi 68) (sI (gd (sI σ3 0 9 0)) 81 22 (oi (c - 1))) from rfl, s1, obv_s]
      · refine back_fin hi hw h0 hW hTu (CT_congr (fun d j p => ?_) e2) (CM_congr (fun j => ?_) f2) mI_at e8 r88 ⟨c - 1, by omega, ?_, ?_, fun k hk' => ?_, fun k hk' => ?_⟩ p2
        · rw [mI_sI, if_neg (by omega), f3.1 _ _ (by unfold gP; omega)]
        · rw [mI_sI, if_neg (by omega)]
        · rw [ro _ _ (by omega) (by omega)]; exact e3
        · rw [s3.1 81 22 (by omega)]; exact mI_at
        · have : uRow σ2 (c - 1) k = uRow σ c k := by
            unfold uRow
            rw [if_pos hk', if_pos (by omega)]
            exact funext fun j => r89 _
          rw [this]; exact c4 k (by omega)
        · have hrow : ∀ q, q ≤ c - 1 → ∀ j, j < 68 → uRow σ2 (c - 1) q j = uRow σ c q j := by
            intro q hq j hj
            by_cases eq : q = c - 1
            · rw [eq]
              have : uRow σ2 (c - 1) (c - 1) j = mI σ2 88 j := by unfold uRow; rw [if_neg (by omega)]
              rw [this, r88 j hj]
            · unfold uRow
              rw [if_pos (by omega), if_pos (by omega)]; exact r89 _
          rw [ro _ _ (by omega) (by omega), ro _ _ (by omega) (by omega), ro _ _ (by omega) (by omega), e4.1 _ _ (by omega), e4.1 _ _ (by omega), e4.1 _ _ (by omega)]
          exact Act_ext (c4 k (by omega)).2.1.2 (hrow k (by omega)) (hrow (k + 1) (by omega)) (c5 k (by omega))
  · exact bad hN.1.2.2.2.1 hN.1.2.2.2.2.1
