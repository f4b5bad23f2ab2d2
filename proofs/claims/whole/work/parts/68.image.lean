/-! images -/
theorem copyOf_eq {σ : OM} {t tx : Nat} {R s : Nat → Int32} (hd : t + 4 < tx ∨ tx + 4 < t) (hT : TB R s) (hC : CT σ tx s) : ∃ σ1, fX7_copyOf t tx σ = some σ1 ∧ CT σ1 t s ∧ Fr (fun a _ => t ≤ a ∧ a ≤ t + 4) noL σ σ1 := by
  obtain ⟨d1, d2, d3, d4, d5⟩ := hC
  have hN := hT.2.1.2
  have go2 : ∀ d k m (τ : OM), k + d = 6 → d < m → mI τ t 0 = s 1 → mI τ t 6 = s 0 → mI τ t 5 = oi (sWd s / 2) → (∀ j, j < nn (s 1) → mI τ (t + 1) j = s (2 + 3 * j) ∧ mI τ (t + 2) j = s (3 + 3 * j) ∧ mI τ (t + 3) j = s (4 + 3 * j)) → (∀ i, i < k → mI τ (t + 4) i = s (62 + i)) → Fr (fun a _ => t ≤ a ∧ a ≤ t + 4) noL σ τ → ∃ σ1, fX7_copyOf_b76 m t tx (oi k) τ = some σ1 ∧ CT σ1 t s ∧ Fr (fun a _ => t ≤ a ∧ a ≤ t + 4) noL σ σ1 := by
    intro d
    induction d with
    | zero =>
      intro k m τ h1 h2 h3 h4 h5 h6 h7 h8
      obtain ⟨m, rfl⟩ : ∃ m', m = m' + 1 := ⟨m - 1, by omega⟩
      have hk : k = 6 := by omega
      subst hk
      rw [fX7_copyOf_b76, if_pos (by decide)]
      exact ⟨τ, rfl, ⟨h3, h4, h6, h7, h5⟩, h8⟩
    | succ d ih =>
      intro k m τ h1 h2 h3 h4 h5 h6 h7 h8
      obtain ⟨m, rfl⟩ : ∃ m', m = m' + 1 := ⟨m - 1, by omega⟩
      rw [fX7_copyOf_b76, lt6, if_neg (by rw [oi_le (by omega) (by omega)]; omega), ogi (by omega) (by omega), ogi (by omega) (by omega), oi_nat (by omega), oi_succ]
      refine ih (k + 1) m _ (by omega) (by omega) ?_ ?_ ?_ (fun j hj => ?_) (fun i hi => ?_) (fr_I h8 (by omega))
      · rw [mI_sI, if_neg (by omega)]; exact h3
      · rw [mI_sI, if_neg (by omega)]; exact h4
      · rw [mI_sI, if_neg (by omega)]; exact h5
      · rw [mI_sI, if_neg (by omega), mI_sI, if_neg (by omega), mI_sI, if_neg (by omega)]; exact h6 j hj
      · rw [mI_sI]
        by_cases e : i = k
        · rw [if_pos ⟨rfl, e⟩, h8.1 _ _ (by omega), e]; exact d4 k (by omega)
        · rw [if_neg (fun q => e q.2)]; exact h7 i (by omega)
  have go1 : ∀ d k m (τ : OM), k + d = 20 → d < m → mI τ t 0 = s 1 → mI τ t 6 = s 0 → mI τ t 5 = oi (sWd s / 2) → (∀ j, j < k → j < nn (s 1) → mI τ (t + 1) j = s (2 + 3 * j) ∧ mI τ (t + 2) j = s (3 + 3 * j) ∧ mI τ (t + 3) j = s (4 + 3 * j)) → Fr (fun a _ => t ≤ a ∧ a ≤ t + 4) noL σ τ → ∃ σ1, fX7_copyOf_b26 m t tx (oi k) τ = some σ1 ∧ CT σ1 t s ∧ Fr (fun a _ => t ≤ a ∧ a ≤ t + 4) noL σ σ1 := by
    intro d
    induction d with
    | zero =>
      intro k m τ h1 h2 h3 h4 h5 h6 h8
      obtain ⟨m, rfl⟩ : ∃ m', m = m' + 1 := ⟨m - 1, by omega⟩
      have hk : k = 20 := by omega
      subst hk
      rw [fX7_copyOf_b26, if_pos (by decide)]
      exact go2 6 0 oF τ rfl (by unfold oF; omega) h3 h4 h5 (fun j hj => h6 j (by omega) hj) (fun i hi => absurd hi (by omega)) h8
    | succ d ih =>
      intro k m τ h1 h2 h3 h4 h5 h6 h8
      obtain ⟨m, rfl⟩ : ∃ m', m = m' + 1 := ⟨m - 1, by omega⟩
      rw [fX7_copyOf_b26, lt20, if_neg (by rw [oi_le (by omega) (by omega)]; omega), ogi (by omega) (by omega), ogi (by omega) (by omega), ogi (by omega) (by omega), ogi (by omega) (by omega), ogi (by omega) (by omega), ogi (by omega) (by omega), oi_nat (by omega), oi_succ]
      refine ih (k + 1) m _ (by omega) (by omega) ?_ ?_ ?_ (fun j hj hjN => ?_) (fr_I (fr_I (fr_I h8 (by omega)) (by omega)) (by omega))
      · rw [mI_sI, if_neg (by omega), mI_sI, if_neg (by omega), mI_sI, if_neg (by omega)]; exact h3
      · rw [mI_sI, if_neg (by omega), mI_sI, if_neg (by omega), mI_sI, if_neg (by omega)]; exact h4
      · rw [mI_sI, if_neg (by omega), mI_sI, if_neg (by omega), mI_sI, if_neg (by omega)]; exact h5
      · by_cases e : j = k
        · obtain ⟨g1, g2, g3⟩ := d3 k (by omega)
          obtain ⟨-, -, -, -, b5⟩ := hT.2.2.1 k (by omega)
          rw [e]
          refine ⟨?_, ?_, ?_⟩
          · rw [mI_sI, if_neg (by omega), mI_sI, if_neg (by omega), mI_at, h8.1 _ _ (by omega)]; exact g1
          · rw [mI_sI, if_neg (by omega), mI_at, mI_sI, if_neg (by omega), h8.1 _ _ (by omega)]; exact g2
          · rw [mI_at, mI_sI, if_neg (by omega), mI_sI, if_neg (by omega), h8.1 _ _ (by omega), g3]
            rcases b5 with b5 | b5 <;> rw [b5] <;> exact oisb_v rfl
        · obtain ⟨g1, g2, g3⟩ := h6 j (by omega) hjN
          refine ⟨?_, ?_, ?_⟩
          · rw [mI_sI, if_neg (by omega), mI_sI, if_neg (by omega), mI_sI, if_neg (by omega)]; exact g1
          · rw [mI_sI, if_neg (by omega), mI_sI, if_neg (by omega), mI_sI, if_neg (by omega)]; exact g2
          · rw [mI_sI, if_neg (by omega), mI_sI, if_neg (by omega), mI_sI, if_neg (by omega)]; exact g3
  unfold fX7_copyOf
  refine go1 20 0 oF _ rfl (by unfold oF; omega) ?_ ?_ ?_ (fun j hj => absurd hj (by omega)) (fr_I (fr_I (fr_I (fr_rfl _ _ _) (by omega)) (by omega)) (by omega))
  · rw [mI_sI, if_neg (by omega), mI_sI, if_neg (by omega), mI_at]; exact d1
  · rw [mI_at, mI_sI, if_neg (by omega), mI_sI, if_neg (by omega)]; exact d2
  · rw [mI_sI, if_neg (by omega), mI_at, mI_sI, if_neg (by omega)]; exact d5
theorem m_back (n : Nat) (x : Int32) : okC n (fX9_back x) (fX10_back x) := by
  intro σ hi
  have hC := hi.1
  have hw := okW_lt hC.1
  have hk := okW_kd hC.1
  have bad : ∀ m, m ≤ 3 → mI σ 0 8 = oi m → mI σ 81 23 = oi m → oin x m = false → ∃ r σ1 σ2, fX9_back x σ = some (r, σ1) ∧ fX10_back x σ1 = some (r, σ2) ∧ Inv (n + 1) σ2 ∧ mR σ1 96 0 = mR σ 96 0 ∧ mR σ2 96 0 = mR σ1 96 0 := by
    intro m hm e1 e2 hb
    refine refd hi 1 0 (by decide) ?_ ?_
    · unfold fX9_back
      rcases oi_cases x with hx | ⟨b, hb2, rfl⟩
      · rw [if_pos hx]; rfl
      · rw [oin_oi hb2] at hb
        have := of_decide_eq_false hb
        rw [if_neg (oi_nneg hb2), if_pos (by rw [e1, oi_le (by omega) hb2]; omega)]; rfl
    · unfold fX10_back
      rw [good_eq, obv_s, o9 1 (by unfold scr; omega), e2, in_r x (by omega), obi_s, hb, if_pos (by decide)]; rfl
  rcases hC.2.2.2 with hW | hN
  · generalize h0 : mR σ 0 0 = w at hw hk hW
    have hCW := hW.2.2.1
    obtain ⟨m, m1, m2, m3, m4⟩ := hW.2.2.2.2
    cases hb : oin x m
    · exact bad m m1 m2 m3 hb
    · obtain ⟨i, hi1, hi2, rfl⟩ := oin_iff hb
      obtain ⟨hTu, hCu⟩ := m4 i hi1
      obtain ⟨σ1, e1, e2, e4⟩ := copyOf_eq (t := w + 5) (tx := 66 + 5 * i) (by omega) hTu hCu
      have hX : CX σ1 w (mI σ 84) (mL σ 86) (kRow σ i) := ⟨⟨hCW.1.1.1, hTu⟩, CS_congr (fun a j p => e4.1 a j (by omega)) (fun a j p => e4.2.1 a j (fun e => e)) (x_Hb hCW.1) hCW.1.2.1, e2⟩
      have hr : mR σ1 0 0 = w := by rw [e4.2.2]; exact h0
      obtain ⟨σ3, f1, f2, f3⟩ := liars_eq hX
      have g1 : fX9_back (oi i) σ = some (1, sI (sI σ3 61 3 0) 0 9 0) := by
        unfold fX9_back fX0_clear
        rw [if_neg (oi_nneg hi2), if_neg (by rw [m2, oi_le (by omega) hi2]; omega), lt3, if_pos ((oi_lt hi2 (by omega)).mpr (by omega)), h0, ogd_d hk, ogi (by omega) (by omega), oi_nat hi2, e1, obv_s, hr, ogd_d hk, ogd_d hk, x_H hX, f1, obv_s, obv_s]
      have e8 : Fr (fun a j => (w + 5 ≤ a ∧ a ≤ w + 10) ∨ (61 ≤ a ∧ a ≤ 64) ∨ (a = 0 ∧ j = 9)) (gQ w) σ (sI (sI σ3 61 3 0) 0 9 0) := fr_I (fr_I (fr_tr (fr_mono (fun d j p => by omega) (fun _ p => p.elim) e4) (fr_mono (fun d j p => by unfold gP at p; omega) (fun _ p => p) f3)) (by omega)) (by omega)
      have h204 : oln 90 = 204 := rfl
      have h68 : oln 88 = 68 := rfl
      obtain ⟨σ2, s1, s2, s3⟩ := copy_eq (gd (sI (sI σ3 61 3 0) 0 9 0)) (A := 90) (B := 88) (x := 68 * i) (y := 0) (n := 68) (by omega) (by omega) (by omega) (by omega) (by omega)
      have g23 : mI (gd (sI (sI σ3 61 3 0) 0 9 0)) 81 23 = oi m := by
        rw [(gd_eqv _).1 81 23 (by unfold scr; omega), e8.1 81 23 (by omega)]; exact m3
      have p2 : Fr (fun a j => (a = 81 ∧ j = 22) ∨ a = 88) noL (gd (sI (sI σ3 61 3 0) 0 9 0)) (sI σ2 81 22 0) := fr_I (fr_mono (fun a j p => by omega) (fun _ p => p) s3) (by omega)
      have r88 : ∀ j, j < 68 → mI (sI σ2 81 22 0) 88 j = kRow σ i j := fun j hj => by
        have := s2 j hj
        rw [Nat.zero_add] at this
        rw [mI_sI, if_neg (by omega), this, (gd_eqv _).1 90 _ (by unfold scr; omega), e8.1 90 _ (by omega)]; rfl
      refine ⟨1, _, sI σ2 81 22 0, g1, ?_, ?_, by rw [e8.2.2], by rw [p2.2.2]; rfl⟩
      · unfold fX10_back
        rw [good_eq, obv_s, g23, in_r _ (by omega), obi_s, hb, if_neg (by decide), show (68 : Int32) * oi i = oi (68 * i) from oi_mul 68 i, show fX10_copy 90 (oi (68 * i)) 88 0 68 (gd (sI (sI σ3 61 3 0) 0 9 0)) = fX10_copy 90 (oi (68 * i)) 88 (oi 0) (oi 68) (gd (sI (sI σ3 61 3 0) 0 9 0)) from rfl, s1, obv_s]
      · refine back_fin hi hw h0 hW hTu (CT_congr (fun d j p => ?_) e2) (CM_congr (fun j => ?_) f2) mI_at e8 r88 ⟨0, by omega, ?_, mI_at, fun k hk' => absurd hk' (by omega), fun k hk' => absurd hk' (by omega)⟩ p2
        · rw [mI_sI, if_neg (by omega), mI_sI, if_neg (by omega), f3.1 _ _ (by unfold gP; omega)]
        · rw [mI_sI, if_neg (by omega), mI_sI, if_neg (by omega)]
        · rw [p2.1 61 3 (by omega), (gd_eqv _).1 61 3 (by unfold scr; omega), mI_sI, if_neg (by omega), mI_at]; rfl
  · refine bad 0 (by omega) hN.1.2.2.1 hN.1.2.2.2.2.2 ?_
    rcases oi_cases x with hx | ⟨b, hb2, rfl⟩
    · exact oin_neg hx 0
    · rw [oin_oi hb2]; exact decide_eq_false (by omega)
/-- what an image may change -/
def iP : Nat → Nat → Prop := fun a j => (66 ≤ a ∧ a ≤ 80) ∨ (a = 0 ∧ (j = 8 ∨ j = 9)) ∨ (a = 81 ∧ (j = 0 ∨ j = 11 ∨ j = 23)) ∨ a = 90
theorem m_image (n : Nat) : okC n fX9_image fX10_image := by
  intro σ hi
  have hC := hi.1
  have hw := okW_lt hC.1
  have hk := okW_kd hC.1
  rcases hC.2.2.2 with hW | hN
  · generalize h0 : mR σ 0 0 = w at hw hk hW
    have hCW := hW.2.2.1
    obtain ⟨m, m1, m2, m3, m4⟩ := hW.2.2.2.2
    by_cases hm : m = 3
    · subst hm
      refine refd hi 3 (-1) (by decide) ?_ ?_
      · unfold fX9_image
        rw [if_neg (by rw [hW.1]; decide), m2, if_neg (by decide), if_neg (by decide)]; rfl
      · unfold fX10_image
        rw [good_eq, obv_s, if_neg (by rw [o9 3 (by unfold scr; omega), hW.2.1]; decide), if_pos (by rw [o9 3 (by unfold scr; omega), m3]; rfl)]; rfl
    · obtain ⟨σ1, e1, e2, e4⟩ := copyOf_eq (t := 66 + 5 * m) (tx := w + 5) (by omega) hCW.1.1.2 hCW.1.2.2
      have i8 : mI σ1 0 8 = oi m := by rw [e4.1 _ _ (by omega)]; exact m2
      have g1 : fX9_image σ = some (oi m, sI (sI σ1 0 8 (oi (m + 1))) 0 9 0) := by
        unfold fX9_image
        rw [if_neg (by rw [hW.1]; decide), m2, if_neg (oi_nneg (by omega)), lt3, if_pos ((oi_lt (by omega) (by omega)).mpr (by omega)), ogi (by omega) (by omega), h0, ogd_d hk, oi_nat (by omega), e1, obv_s, i8, oi_succ, mI_at, show oi (m + 1) - 1 = oi m from oi_sub (b := 1) (a := m + 1) (by omega)]; rfl
      have e8 : Fr iP noL σ (sI (sI σ1 0 8 (oi (m + 1))) 0 9 0) := fr_I (fr_I (fr_mono (fun d j p => by unfold iP; omega) (fun _ p => p) e4) (by unfold iP; omega)) (by unfold iP; omega)
      generalize hσ3 : sI (sI σ1 0 8 (oi (m + 1))) 0 9 0 = σ3 at g1 e8
      have h204 : oln 90 = 204 := rfl
      have h68 : oln 88 = 68 := rfl
      have e9 : Fr iP noL σ (gd σ3) := fr_tr e8 (fr_I (fr_I (fr_rfl _ _ _) (by unfold iP; omega)) (by unfold iP; omega))
      have g23 : mI (gd σ3) 81 23 = oi m := by
        rw [(gd_eqv _).1 81 23 (by unfold scr; omega), ← hσ3, mI_sI, if_neg (by omega), mI_sI, if_neg (by omega), e4.1 _ _ (by omega)]; exact m3
      obtain ⟨σ4, s1, s2, s3⟩ := copy_eq (gd σ3) (A := 88) (B := 90) (x := 0) (y := 68 * m) (n := 68) (by omega) (by omega) (by omega) (by omega) (by omega)
      have j23 : mI σ4 81 23 = oi m := by rw [s3.1 _ _ (by omega)]; exact g23
      have p2 : Fr iP noL σ (sI σ4 81 23 (oi (m + 1))) := fr_I (fr_tr e9 (fr_mono (fun a j p => by unfold iP; omega) (fun _ p => p) s3)) (by unfold iP; omega)
      have r88 : mI (gd σ3) 88 = mI σ 88 := funext fun j => e9.1 88 j (by unfold iP; omega)
      have knew : ∀ j, j < 68 → kRow (sI σ4 81 23 (oi (m + 1))) m j = mI σ 88 j := fun j hj => by
        show mI (sI σ4 81 23 (oi (m + 1))) 90 (68 * m + j) = _
        rw [mI_sI, if_neg (by omega), s2 j hj, Nat.zero_add, r88]
      have kold : ∀ i j, i < m → j < 68 → kRow (sI σ4 81 23 (oi (m + 1))) i j = kRow σ i j := fun i j hi' hj => by
        show mI (sI σ4 81 23 (oi (m + 1))) 90 (68 * i + j) = mI σ 90 (68 * i + j)
        rw [mI_sI, if_neg (by omega), s3.1 90 _ (by omega), (gd_eqv _).1 90 _ (by unfold scr; omega), ← hσ3, mI_sI, if_neg (by omega), mI_sI, if_neg (by omega), e4.1 _ _ (by omega)]
      have cimg : ∀ a j, 66 ≤ a → a ≤ 80 → mI (sI σ4 81 23 (oi (m + 1))) a j = mI σ1 a j := fun a j q1 q2 => by
        rw [mI_sI, if_neg (by omega), s3.1 a j (by omega), (gd_eqv _).1 a j (by unfold scr; omega), ← hσ3, mI_sI, if_neg (by omega), mI_sI, if_neg (by omega)]
      refine ⟨oi m, σ3, sI σ4 81 23 (oi (m + 1)), g1, ?_, ?_, by rw [e8.2.2], by rw [p2.2.2, e8.2.2]⟩
      · unfold fX10_image
        rw [good_eq, obv_s, if_neg (by rw [gd_14, e8.1 81 14 (by unfold iP; omega), hW.2.1]; decide), g23, if_neg (by rw [lt3, oi_inj (by omega) (by omega)]; exact hm), show (68 : Int32) * oi m = oi (68 * m) from oi_mul 68 m, show fX10_copy 88 0 90 (oi (68 * m)) 68 (gd σ3) = fX10_copy 88 (oi 0) 90 (oi (68 * m)) (oi 68) (gd σ3) from rfl, s1, obv_s, j23, oi_succ, mI_at, show oi (m + 1) - 1 = oi m from oi_sub (b := 1) (a := m + 1) (by omega)]
      · obtain ⟨⟨c1, c2, c3, c4⟩, ⟨p, p1, p2', p3⟩, hT2, hD⟩ := hi
        generalize hσ2 : sI σ4 81 23 (oi (m + 1)) = σ2 at p2 knew kold cimg
        have e84 : mI σ2 84 = mI σ 84 := funext fun j => p2.1 84 j (by unfold iP; omega)
        have e86 : mL σ2 86 = mL σ 86 := funext fun j => p2.2.1 86 j (fun e => e)
        have e88 : mI σ2 88 = mI σ 88 := funext fun j => p2.1 88 j (by unfold iP; omega)
        have t9 : mI σ2 0 9 = 0 := by
          rw [← hσ2, mI_sI, if_neg (by omega), s3.1 0 9 (by omega)]
          rw [ft_o 0 σ3 (by decide) |> fun e => (show mI (gd σ3) 0 9 = mI σ3 0 9 from e), ← hσ3, mI_at]
        have t11 : mI σ2 81 11 = 0 := by
          rw [← hσ2, mI_sI, if_neg (by omega), s3.1 81 11 (by omega)]; exact ft_11 0 σ3
        refine ⟨⟨?_, ?_, ?_, Or.inl ?_⟩, ⟨p, by omega, ?_, fun j hj => ?_⟩, ⟨by rw [t9, t11], fun e => ?_⟩, ?_⟩
        · rw [p2.2.2]; exact c1
        · obtain ⟨T, t1, t2, t3, t4⟩ := c2
          refine ⟨T, t1, ?_, ?_, fun j hj => ?_⟩
          · rw [p2.1 _ _ (by unfold iP; omega)]; exact t2
          · rw [p2.1 _ _ (by unfold iP; omega)]; exact t3
          · rw [p2.1 _ _ (by unfold iP; omega), p2.1 _ _ (by unfold iP; omega)]; exact t4 j hj
        · rw [p2.1 _ _ (by unfold iP; omega), p2.1 _ _ (by unfold iP; omega)]; exact c3
        · rw [p2.2.2, h0]
          unfold WI
          rw [e84, e86, e88]
          refine ⟨?_, ?_, ⟨CX_fr p2 (fun a j q => by unfold iP at q; omega) (fun a q => q.elim) hCW.1, CM_congr (fun j => p2.1 _ _ (by unfold iP; omega)) hCW.2⟩, ?_, ⟨m + 1, by omega, ?_, ?_, fun i hi' => ?_⟩⟩
          · rw [p2.1 _ _ (by unfold iP; omega)]; exact hW.1
          · rw [p2.1 _ _ (by unfold iP; omega)]; exact hW.2.1
          · obtain ⟨c, u1, u2, u3, u4, u5⟩ := hW.2.2.2.1
            have hu : ∀ k, uRow σ2 c k = uRow σ c k := fun k => by
              unfold uRow
              rw [e88]
              split
              · exact funext fun j => p2.1 89 _ (by unfold iP; omega)
              · rfl
            refine ⟨c, u1, ?_, ?_, fun k hk' => ?_, fun k hk' => ?_⟩
            · rw [p2.1 _ _ (by unfold iP; omega)]; exact u2
            · rw [p2.1 _ _ (by unfold iP; omega)]; exact u3
            · rw [hu]; exact u4 k hk'
            · rw [hu, hu, p2.1 _ _ (by unfold iP; omega), p2.1 _ _ (by unfold iP; omega), p2.1 _ _ (by unfold iP; omega)]; exact u5 k hk'
          · rw [← hσ2, mI_sI, if_neg (by omega), s3.1 _ _ (by omega), (show mI (gd σ3) 0 8 = mI σ3 0 8 from ft_o 0 σ3 (by decide)), ← hσ3, mI_sI, if_neg (by omega), mI_at]
          · rw [← hσ2, mI_at]
          · by_cases e : i = m
            · rw [e]
              refine ⟨TB_ext knew hCW.1.1.2, CT_ext hCW.1.1.2.2.1.2 knew (CT_congr (fun a j q => cimg a j (by omega) (by omega)) e2)⟩
            · obtain ⟨q1, q2⟩ := m4 i (by omega)
              refine ⟨TB_ext (fun j hj => kold i j (by omega) hj) q1, CT_ext q1.2.1.2 (fun j hj => kold i j (by omega) hj) (CT_congr (fun a j q => ?_) q2)⟩
              rw [cimg a j (by omega) (by omega), e4.1 a j (by omega)]
        · rw [p2.1 _ _ (by unfold iP; omega)]; exact p2'
        · rw [p2.1 _ _ (by unfold iP; omega)]; exact p3 j hj
        · rw [t9] at e; exact absurd e (by decide)
        · rw [p2.2.2]; omega
  · refine refd hi 1 (-1) (by decide) ?_ ?_
    · unfold fX9_image
      rw [if_pos hN.1.1]; rfl
    · unfold fX10_image
      rw [good_eq, obv_s, if_pos (by rw [o9 1 (by unfold scr; omega)]; exact hN.1.2.1)]; rfl
