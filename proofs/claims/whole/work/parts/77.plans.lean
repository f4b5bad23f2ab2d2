theorem Wv_zero {R : Nat → Int32} {Z : Nat → Int64} {g Q : Nat} {b : Bool} (hQ : Q ≤ 8) : Wv R Z g Q b 0 = none := by
  have hk : sBy 0 (Z g) = -2 := if_pos rfl
  rw [Wv_eq hQ, if_pos hk]
  have : ofd (fun q acc => om acc (kid R Z g Q b 0 q)) none Q = none := (om_fold (f := kid R Z g Q b 0) Q).1.mpr (fun q hq => by
    unfold kid
    cases h : tel Z g 0 q
    · rfl
    · exact absurd (Int64.zero_and) (tel_iff.mp h).2.1)
  rw [this]; rfl
theorem pair_r {τ : OM} (h : RB τ) (x y : Int32) : fX10_isPair x y τ = some (b2 (oin x (nn (mI τ 84 3)) && oin y (nn (mI τ 84 5))), τ) := by
  unfold fX10_isPair
  rw [isH_r h, obi_s]
  cases oin x (nn (mI τ 84 3))
  · rw [if_pos (by decide)]; rfl
  · rw [if_neg (by decide), isQ_r h, obi_s]
    exact b2_ite _ _
theorem npair_r {τ : OM} (h : mI τ 81 14 = 0) (x y : Int32) : fX10_isPair x y τ = some (0, τ) := by
  unfold fX10_isPair
  rw [nH_r h, obi_s, if_pos rfl]
/-- the reference's search for the first question -/
theorem first_r {R : Nat → Int32} {Z : Nat → Int64} {s : Nat → Int32} {g Q V : Nat} {X : Int64} (hb : ∀ x, sWt R x ≤ 34012224) (hV : Wv R Z g Q false X = some V) (hV0 : 0 < V) : ∀ d k m (υ : OM), k + d = Q → d < m → RR υ R Z s g Q → QF υ R Z g Q X → ∃ υ1, fX10_first_b54 m X (oi V) (oi k) υ = some (oY (fi (kid R Z g Q false X) (V - 1) d k), υ1) ∧ Fr (fun a _ => a = 91) noL υ υ1 := by
  have lV := Wv_fe hb hV
  intro d
  induction d with
  | zero =>
    intro k m υ h1 h2 h3 h4
    obtain ⟨m, rfl⟩ : ∃ m', m = m' + 1 := ⟨m - 1, by omega⟩
    have e85 : R 5 = oi (nn (R 5)) := by have := h3.1.2.1.1.2.2.2.2.1.1; rw [h3.2.1] at this; exact this
    rw [fX10_first_b54, h3.2.1, e85, h3.2.2.2.2.2.1, if_pos ((oi_le (by have := h3.2.2.2.2.2.2.1; omega) (by have := h3.2.2.2.2.2.2.1; omega)).mpr (by omega))]
    exact ⟨υ, rfl, fr_rfl _ _ _⟩
  | succ d ih =>
    intro k m υ h1 h2 h3 h4
    obtain ⟨m, rfl⟩ : ∃ m', m = m' + 1 := ⟨m - 1, by omega⟩
    have hQ8 := h3.2.2.2.2.2.2.1
    have hg := h3.2.2.2.2.2.2.2
    have e85 : R 5 = oi (nn (R 5)) := by have := h3.1.2.1.1.2.2.2.2.1.1; rw [h3.2.1] at this; exact this
    have tl := tc_le (Z := Z) hg X
    rw [fX10_first_b54, h3.2.1, e85, h3.2.2.2.2.2.1, if_neg (by rw [oi_le (by omega) (by omega)]; omega), if_neg (by show ¬ oi V ≤ oi 0; rw [oi_le (by omega) (by omega)]; omega), if_neg (by show ¬ oi 1000000 ≤ oi V; rw [oi_le (by omega) (by omega)]; omega), tell_r h3 (show k < Q by omega) X, obi_s]
    show ∃ υ1, _ = some (oY (if kid R Z g Q false X k = some (V - 1) then some k else fi (kid R Z g Q false X) (V - 1) d (k + 1)), υ1) ∧ _
    cases ht : tel Z g X k
    · have ek : kid R Z g Q false X k = none := by unfold kid; rw [ht]; rfl
      rw [if_pos (by decide), ek, if_neg (by intro q; cases q), oi_succ]
      exact ih (k + 1) m υ (by omega) (by omega) h3 h4
    · have ask := asking_r (B := X) (pl := 0) hb (fewest_go (R := R) (Z := Z) (s := s) (g := g) (Q := Q) (B := X) hb oP) h3 h4 (p3 _) (show k < Q by omega) (by rw [sO_0]; exact ht) (by rw [sO_0]; unfold oP; omega)
      rw [sO_0] at ask
      obtain ⟨υ1, f1, f2, f3, f4⟩ := ask
      rw [if_neg (by decide), show fX10_byAsking (fX10_fewestOf oP) 0 X (oi k) υ = fX10_byAsking (fX10_fewestOf oP) (oi 0) X (oi k) υ from rfl, f1, obi_s]
      have hrv : (oi (vo (oa 1 (kid R Z g Q false X k))) = oi V) ↔ kid R Z g Q false X k = some (V - 1) := by
        cases hk : kid R Z g Q false X k with
        | none =>
          show (oi 1000000 = oi V) ↔ _
          rw [oi_inj (by omega) (by omega)]
          exact ⟨fun e => by omega, fun e => by cases e⟩
        | some u =>
          have lu := kid_fe hb hk
          show (oi (u + 1) = oi V) ↔ _
          rw [oi_inj (by omega) (by omega)]
          exact ⟨fun e => by congr 1; omega, fun e => by have := Option.some.inj e; omega⟩
      rw [ite_iff hrv]
      by_cases c : kid R Z g Q false X k = some (V - 1)
      · rw [if_pos c, if_pos c]
        exact ⟨υ1, rfl, f4⟩
      · rw [if_neg c, if_neg c, oi_succ]
        obtain ⟨υ2, g1, g2⟩ := ih (k + 1) m υ1 (by omega) (by omega) f2 f3
        exact ⟨υ2, g1, fr_tr f4 g2⟩
theorem m_fewest (n : Nat) (hn : n < 1000) (x y : Int32) : okC n (fX9_fewest x y) (fX10_fewest x y) := by
  intro σ hi
  have hC := hi.1
  have hw := okW_lt hC.1
  have hk := okW_kd hC.1
  rcases hC.2.2.2 with hW | hN
  · generalize h0 : mR σ 0 0 = w at hw hk hW
    have hCW := hW.2.2.1
    have rbt : ∀ t, RB (gd (sI σ 0 9 t)) := fun t => WI_9 hw hW t
    have hHb := x_Hb hCW.1
    have hQb := x_Qb hCW.1
    cases hb0 : oin x (nn (mI σ 84 3))
    · refine refd hi 1 (-1) (by decide) ?_ ?_
      · unfold fX9_fewest
        rw [isH_c hCW.1 h0 hk, obi_s, hb0, if_pos (by decide)]; rfl
      · unfold fX10_fewest
        rw [good_eq, obv_s, pair_r (rbt 1), obi_s, (rows9 1).1, hb0, if_pos (by rfl)]; rfl
    obtain ⟨a, ha, ha2, rfl⟩ := oin_iff hb0
    cases hb1 : oin y (nn (mI σ 84 5))
    · refine refd hi 1 (-1) (by decide) ?_ ?_
      · unfold fX9_fewest
        rw [isH_c hCW.1 h0 hk, obi_s, hb0, if_neg (by decide), isQ_c hCW.1 h0 hk, obi_s, hb1, if_pos (by decide)]; rfl
      · unfold fX10_fewest
        rw [good_eq, obv_s, pair_r (rbt 1), obi_s, (rows9 1).1, hb0, hb1, if_pos (by rfl)]; rfl
    obtain ⟨g, hg, hg2, rfl⟩ := oin_iff hb1
    obtain ⟨p, p1, p2, p3'⟩ := hi.2.1
    have hXs := sKn_sub (mI σ 84) (mL σ 86) (mI σ 88) (sKin (mI σ 88) a)
    have hbw := wt_le hCW.1.1.1
    obtain ⟨τ, e1, e2, e3, e4⟩ := makeW hCW.1 hw hk rfl hg (show p < 1000000 by omega) p2 p3' hXs false
    generalize hXe : sKn (mI σ 84) (mL σ 86) (mI σ 88) (sKin (mI σ 88) a) = X at e1 e2 e3 hXs
    generalize hWe : Wv (mI σ 84) (mL σ 86) g (nn (mI σ 84 5)) false X = W at e1 e3
    have c1 : fX9_fewest (oi a) (oi g) σ = some (oY W, sI τ 0 9 0) := by
      unfold fX9_fewest
      rw [isH_c hCW.1 h0 hk, obi_s, hb0, if_neg (by decide), isQ_c hCW.1 h0 hk, obi_s, hb1, if_neg (by decide), h0, ogd_d hk, ogd_d hk, ofK_eq hCW ha, obi_s, hXe, show fX4_make w X (oi g) 0 σ = fX4_make w X (oi g) (b2 false) σ from rfl, e1, obi_s]
      cases W with
      | none => rw [if_pos (show oLv none = 1000000000 from rfl)]; rfl
      | some v =>
        have lv := Wv_le hbw hWe
        rw [if_neg (show ¬ oLv (some v) = 1000000000 by rw [cantv]; show ¬ oi v = _; rw [oi_inj (by omega) (by omega)]; omega)]; rfl
    have ev : Eqv σ (gd (sI τ 0 9 0)) := eqv_tr (eqv_I e4 (by unfold scr; omega) 0) (gd_eqv _)
    obtain ⟨r1, r2, r3⟩ := eqv_row ev
    generalize hυ : gd (sI τ 0 9 0) = υ at r1 r2 r3 ev
    have hRB : RB υ := by
      unfold RB
      rw [r1, r2, r3, ev.1 81 14 (by unfold scr; omega)]; exact ⟨hW.2.1, hCW.1.1⟩
    have ref : ∃ σ2, fX10_fewest (oi a) (oi g) (sI τ 0 9 0) = some (oY W, σ2) ∧ Fr lP is92 υ σ2 := by
      unfold fX10_fewest
      rw [good_eq, obv_s, hυ, pair_r hRB, obi_s, r1, hb0, hb1, if_neg (by decide), kin_r hRB (by rw [r1]; exact ha), obi_s, kn_r hRB, obi_s, r1, r2, r3, hXe]
      simp only [cmp_eq]
      by_cases hX0 : X = 0
      · rw [if_pos hX0]
        rw [hX0, Wv_zero hQb] at hWe
        rw [← hWe]
        exact ⟨υ, rfl, fr_rfl _ _ _⟩
      · rw [if_neg hX0]
        obtain ⟨υ1, υ2, f1, f2, -, -, f5⟩ := layF hRB (g := g) (by rw [r1]; exact hg) X
        rw [r1, r2, hWe] at f2
        rw [f1, obv_s, f2, obi_s]
        refine ⟨υ2, ?_, f5⟩
        cases W with
        | none => rw [if_neg (show ¬ oi (vo none) < 1000000 by decide)]; rfl
        | some v =>
          have lv := Wv_fe hbw hWe
          rw [if_pos (show oi (vo (some v)) < 1000000 by show oi v < oi 1000000; rw [oi_lt (by omega) (by omega)]; omega)]; rfl
    obtain ⟨σ2, s1, s2⟩ := ref
    have hfin := plan_fin (t := 0) (σ2 := σ2) hi e4 e2.2.2.1.2.2.2 e2.2.2.2.2.2 p1 (eqv_tr (by rw [← hυ]; exact gd_eqv _) (fr_eqv s2 (fun b j q => by unfold lP at q; unfold scr; omega) (fun b q => by unfold is92 at q; unfold scl; omega))) (fun j => ?_) ?_ ?_ ?_ (by decide)
    · exact ⟨_, _, σ2, c1, s1, hfin.1, hfin.2.1, hfin.2.2⟩
    · rw [s2.1 60 j (by unfold lP; omega), ← hυ]
      exact (ft_o 0 (sI τ 0 9 0) (by decide)).trans (by rw [mI_sI, if_neg (by omega)])
    · rw [s2.1 56 9 (by unfold lP; omega), ← hυ]
      exact (ft_o 0 (sI τ 0 9 0) (by decide)).trans (by rw [mI_sI, if_neg (by omega)])
    · rw [s2.1 0 9 (by unfold lP; omega), ← hυ]
      exact (ft_o 0 (sI τ 0 9 0) (by decide)).trans mI_at
    · rw [s2.1 81 11 (by unfold lP; omega), ← hυ]
      exact ft_11 0 (sI τ 0 9 0)
  · refine refd hi 1 (-1) (by decide) ?_ ?_
    · unfold fX9_fewest
      rw [nH_c hN rfl hk, obi_s, if_pos rfl]; rfl
    · unfold fX10_fewest
      rw [good_eq, obv_s, npair_r (by rw [o9 1 (by unfold scr; omega)]; exact hN.1.2.1), obi_s, if_pos rfl]; rfl
theorem m_first (n : Nat) (hn : n < 1000) (x y : Int32) : okC n (fX9_first x y) (fX10_first x y) := by
  intro σ hi
  have hC := hi.1
  have hw := okW_lt hC.1
  have hk := okW_kd hC.1
  rcases hC.2.2.2 with hW | hN
  · generalize h0 : mR σ 0 0 = w at hw hk hW
    have hCW := hW.2.2.1
    have rbt : ∀ t, RB (gd (sI σ 0 9 t)) := fun t => WI_9 hw hW t
    have hHb := x_Hb hCW.1
    have hQb := x_Qb hCW.1
    cases hb0 : oin x (nn (mI σ 84 3))
    · refine refd hi 1 (-1) (by decide) ?_ ?_
      · unfold fX9_first
        rw [isH_c hCW.1 h0 hk, obi_s, hb0, if_pos (by decide)]; rfl
      · unfold fX10_first
        rw [good_eq, obv_s, pair_r (rbt 1), obi_s, (rows9 1).1, hb0, if_pos (by rfl)]; rfl
    obtain ⟨a, ha, ha2, rfl⟩ := oin_iff hb0
    cases hb1 : oin y (nn (mI σ 84 5))
    · refine refd hi 1 (-1) (by decide) ?_ ?_
      · unfold fX9_first
        rw [isH_c hCW.1 h0 hk, obi_s, hb0, if_neg (by decide), isQ_c hCW.1 h0 hk, obi_s, hb1, if_pos (by decide)]; rfl
      · unfold fX10_first
        rw [good_eq, obv_s, pair_r (rbt 1), obi_s, (rows9 1).1, hb0, hb1, if_pos (by rfl)]; rfl
    obtain ⟨g, hg, hg2, rfl⟩ := oin_iff hb1
    obtain ⟨p, p1, p2, p3'⟩ := hi.2.1
    have hXs := sKn_sub (mI σ 84) (mL σ 86) (mI σ 88) (sKin (mI σ 88) a)
    have hbw := wt_le hCW.1.1.1
    obtain ⟨τ0, e1, e20, e3, e40⟩ := makeW hCW.1 hw hk rfl hg (show p < 1000000 by omega) p2 p3' hXs false
    generalize hXe : sKn (mI σ 84) (mL σ 86) (mI σ 88) (sKin (mI σ 88) a) = X at e1 e20 e3 hXs
    generalize hWe : Wv (mI σ 84) (mL σ 86) g (nn (mI σ 84 5)) false X = W at e1 e3
    have c0 : ∃ r τ, fX9_first (oi a) (oi g) σ = some (r, sI τ 0 9 0) ∧ Eqv σ τ ∧ PC τ w (mI σ 84) (mL σ 86) (mI σ 88) g (nn (mI σ 84 5)) false X (p + 1) ∧ (W = none → r = -2) ∧ (∀ V, W = some V → r = oY (if V = 0 then none else fi (kid (mI σ 84) (mL σ 86) g (nn (mI σ 84 5)) false X) (V - 1) (nn (mI σ 84 5)) 0)) := by
      unfold fX9_first
      rw [isH_c hCW.1 h0 hk, obi_s, hb0, if_neg (by decide), isQ_c hCW.1 h0 hk, obi_s, hb1, if_neg (by decide), h0, ogd_d hk, ogd_d hk, ofK_eq hCW ha, obi_s, hXe, show fX4_make w X (oi g) 0 σ = fX4_make w X (oi g) (b2 false) σ from rfl, e1, obi_s]
      cases W with
      | none =>
        rw [if_pos (show oLv none = 1000000000 from rfl)]
        exact ⟨-2, τ0, rfl, e40, e20, fun _ => rfl, fun V hV => by cases hV⟩
      | some v =>
        have lv := Wv_le hbw hWe
        obtain ⟨τ, o1, o2, o3⟩ := opening_eq e20 (e3 v rfl) hw hk rfl hg hXs hWe
        rw [if_neg (show ¬ oLv (some v) = 1000000000 by rw [cantv]; show ¬ oi v = _; rw [oi_inj (by omega) (by omega)]; omega), show oLv (some v) = oi v from rfl, o1, obi_s]
        exact ⟨_, τ, rfl, eqv_tr e40 o2, o3, fun h => (by cases h), fun V hV => (by cases hV; rfl)⟩
    obtain ⟨r, τ, c1, e4, e2, rn, rs⟩ := c0
    have ev : Eqv σ (gd (sI τ 0 9 0)) := eqv_tr (eqv_I e4 (by unfold scr; omega) 0) (gd_eqv _)
    obtain ⟨r1, r2, r3⟩ := eqv_row ev
    generalize hυ : gd (sI τ 0 9 0) = υ at r1 r2 r3 ev
    have hRB : RB υ := by
      unfold RB
      rw [r1, r2, r3, ev.1 81 14 (by unfold scr; omega)]; exact ⟨hW.2.1, hCW.1.1⟩
    have ref : ∃ σ2, fX10_first (oi a) (oi g) (sI τ 0 9 0) = some (r, σ2) ∧ Fr lP is92 υ σ2 := by
      unfold fX10_first
      rw [good_eq, obv_s, hυ, pair_r hRB, obi_s, r1, hb0, hb1, if_neg (by decide), kin_r hRB (by rw [r1]; exact ha), obi_s, kn_r hRB, obi_s, r1, r2, r3, hXe]
      simp only [cmp_eq]
      by_cases hX0 : X = 0
      · rw [if_pos hX0]
        rw [hX0, Wv_zero hQb] at hWe
        rw [rn hWe.symm]
        exact ⟨υ, rfl, fr_rfl _ _ _⟩
      · rw [if_neg hX0]
        obtain ⟨υ1, υ2, f1, f2, f3, f4, f5⟩ := layF hRB (g := g) (by rw [r1]; exact hg) X
        rw [r1, r2, hWe] at f2
        rw [r1, r2, r3] at f3
        rw [r1, r2] at f4
        rw [f1, obv_s, f2, obi_s]
        have e85 : mI υ2 84 5 = oi (nn (mI σ 84 5)) := by rw [f3.2.1]; exact hCW.1.1.1.1.2.2.2.2.1.1
        cases W with
        | none =>
          rw [rn rfl]
          refine ⟨υ2, ?_, f5⟩
          rw [show oF = 99999 + 1 from rfl, fX10_first_b54, e85, show (0 : Int32) = oi 0 from rfl, if_neg (by rw [oi_le (by omega) (by omega)]; omega), if_neg (by decide), if_pos (by decide)]
        | some V =>
          rw [rs V rfl]
          have lv := Wv_fe hbw hWe
          by_cases hV0 : V = 0
          · rw [if_pos hV0]
            refine ⟨υ2, ?_, f5⟩
            rw [hV0, show oF = 99999 + 1 from rfl, fX10_first_b54, e85, show (0 : Int32) = oi 0 from rfl, if_neg (by rw [oi_le (by omega) (by omega)]; omega), if_pos (by decide)]; rfl
          · rw [if_neg hV0]
            obtain ⟨υ3, t1, t2⟩ := first_r hbw hWe (by omega) (nn (mI σ 84 5)) 0 oF υ2 (Nat.zero_add _) (by unfold oF; omega) f3 f4
            exact ⟨υ3, t1, fr_tr f5 (fr_mono (fun b j q => by unfold lP; omega) (fun _ q => q.elim) t2)⟩
    obtain ⟨σ2, s1, s2⟩ := ref
    have hfin := plan_fin (t := 0) (σ2 := σ2) hi e4 e2.2.2.1.2.2.2 e2.2.2.2.2.2 p1 (eqv_tr (by rw [← hυ]; exact gd_eqv _) (fr_eqv s2 (fun b j q => by unfold lP at q; unfold scr; omega) (fun b q => by unfold is92 at q; unfold scl; omega))) (fun j => ?_) ?_ ?_ ?_ (by decide)
    · exact ⟨_, _, σ2, c1, s1, hfin.1, hfin.2.1, hfin.2.2⟩
    · rw [s2.1 60 j (by unfold lP; omega), ← hυ]
      exact (ft_o 0 (sI τ 0 9 0) (by decide)).trans (by rw [mI_sI, if_neg (by omega)])
    · rw [s2.1 56 9 (by unfold lP; omega), ← hυ]
      exact (ft_o 0 (sI τ 0 9 0) (by decide)).trans (by rw [mI_sI, if_neg (by omega)])
    · rw [s2.1 0 9 (by unfold lP; omega), ← hυ]
      exact (ft_o 0 (sI τ 0 9 0) (by decide)).trans mI_at
    · rw [s2.1 81 11 (by unfold lP; omega), ← hυ]
      exact ft_11 0 (sI τ 0 9 0)
  · refine refd hi 1 (-1) (by decide) ?_ ?_
    · unfold fX9_first
      rw [nH_c hN rfl hk, obi_s, if_pos rfl]; rfl
    · unfold fX10_first
      rw [good_eq, obv_s, npair_r (by rw [o9 1 (by unfold scr; omega)]; exact hN.1.2.1), obi_s, if_pos rfl]; rfl
theorem refdL {n : Nat} {σ : OM} {f g : OM → Option (Int64 × OM)} (hi : Inv n σ) (t : Int32) (r : Int64) (ht : t ≠ 4) (e1 : f σ = some (r, sI σ 0 9 t)) (e2 : g (sI σ 0 9 t) = some (r, ft t (gd (sI σ 0 9 t)))) : ∃ r σ1 σ2, f σ = some (r, σ1) ∧ g σ1 = some (r, σ2) ∧ Inv (n + 1) σ2 ∧ mR σ1 96 0 = mR σ 96 0 ∧ mR σ2 96 0 = mR σ1 96 0 := ⟨r, _, _, e1, e2, ref_fin hi ht, rfl, ft_mR _ _⟩
theorem m_mean (n : Nat) (hn : n < 1000) (x y : Int32) (lo : Bool) : okC n (fX9_mean x y (b2 lo)) (fX10_mean x y (b2 lo)) := by
  intro σ hi
  have hC := hi.1
  have hw := okW_lt hC.1
  have hk := okW_kd hC.1
  rcases hC.2.2.2 with hW | hN
  · generalize h0 : mR σ 0 0 = w at hw hk hW
    have hCW := hW.2.2.1
    have rbt : ∀ t, RB (gd (sI σ 0 9 t)) := fun t => WI_9 hw hW t
    have hHb := x_Hb hCW.1
    have hQb := x_Qb hCW.1
    cases hb0 : oin x (nn (mI σ 84 3))
    · refine refdL hi 1 (-1) (by decide) ?_ ?_
      · unfold fX9_mean
        rw [isH_c hCW.1 h0 hk, obi_s, hb0, if_pos (by decide)]; rfl
      · unfold fX10_mean
        rw [good_eq, obv_s, pair_r (rbt 1), obi_s, (rows9 1).1, hb0, if_pos (by rfl)]; rfl
    obtain ⟨a, ha, ha2, rfl⟩ := oin_iff hb0
    cases hb1 : oin y (nn (mI σ 84 5))
    · refine refdL hi 1 (-1) (by decide) ?_ ?_
      · unfold fX9_mean
        rw [isH_c hCW.1 h0 hk, obi_s, hb0, if_neg (by decide), isQ_c hCW.1 h0 hk, obi_s, hb1, if_pos (by decide)]; rfl
      · unfold fX10_mean
        rw [good_eq, obv_s, pair_r (rbt 1), obi_s, (rows9 1).1, hb0, hb1, if_pos (by rfl)]; rfl
    obtain ⟨g, hg, hg2, rfl⟩ := oin_iff hb1
    obtain ⟨p, p1, p2, p3'⟩ := hi.2.1
    have hXs := sKn_sub (mI σ 84) (mL σ 86) (mI σ 88) (sKin (mI σ 88) a)
    have hbw := wt_le hCW.1.1.1
    obtain ⟨τ, e1, e2, e3, e4⟩ := makeW hCW.1 hw hk rfl hg (show p < 1000000 by omega) p2 p3' hXs true
    generalize hXe : sKn (mI σ 84) (mL σ 86) (mI σ 88) (sKin (mI σ 88) a) = X at e1 e2 e3 hXs
    generalize hWe : Wv (mI σ 84) (mL σ 86) g (nn (mI σ 84 5)) true X = W at e1 e3
    have hne : ∀ v, W = some v → X ≠ 0 := fun v hv hX0 => by
      rw [hX0, Wv_zero hQb, hv] at hWe; cases hWe
    have hτ0 : mR τ 0 0 = w := by rw [e4.2.2 0 0 (by omega)]; exact h0
    have lX := hbw X
    have c0 : ∃ r t, (t = 0 ∨ t = 6) ∧ fX9_mean (oi a) (oi g) (b2 lo) σ = some (r, sI τ 0 9 t) ∧ (W = none → r = -1 ∧ t = 6) ∧ (∀ v, W = some v → r = sFr v (sWt (mI σ 84) X) lo ∧ t = 0) := by
      unfold fX9_mean
      rw [isH_c hCW.1 h0 hk, obi_s, hb0, if_neg (by decide), isQ_c hCW.1 h0 hk, obi_s, hb1, if_neg (by decide), h0, ogd_d hk, ofK_eq hCW ha, obi_s, hXe, h0, ogd_d hk, show fX4_make w X (oi g) 1 σ = fX4_make w X (oi g) (b2 true) σ from rfl, e1, obi_s]
      cases W with
      | none =>
        rw [if_pos (show oLv none = 1000000000 from rfl)]
        exact ⟨-1, 6, Or.inr rfl, rfl, fun _ => ⟨rfl, rfl⟩, fun v hv => by cases hv⟩
      | some v =>
        have lv := Wv_le hbw hWe
        have lp := wt_pos hCW.1.1.1 (hne v rfl)
        rw [if_neg (show ¬ oLv (some v) = 1000000000 by rw [cantv]; show ¬ oi v = _; rw [oi_inj (by omega) (by omega)]; omega), hτ0, ogd_d hk, weigh_eq e2.1 hXs, obi_s, show oLv (some v) = oi v from rfl, oi_long (by omega), oi_long (by omega), terms_eq (by omega) (by omega) lp, obi_s]
        exact ⟨_, 0, Or.inl rfl, rfl, fun h => (by cases h), fun u hu => (by cases hu; exact ⟨rfl, rfl⟩)⟩
    obtain ⟨r, t, ht, c1, rn, rs⟩ := c0
    have ev : Eqv σ (gd (sI τ 0 9 t)) := eqv_tr (eqv_I e4 (by unfold scr; omega) t) (gd_eqv _)
    obtain ⟨r1, r2, r3⟩ := eqv_row ev
    generalize hυ : gd (sI τ 0 9 t) = υ at r1 r2 r3 ev
    have hRB : RB υ := by
      unfold RB
      rw [r1, r2, r3, ev.1 81 14 (by unfold scr; omega)]; exact ⟨hW.2.1, hCW.1.1⟩
    have u11 : mI υ 81 11 = 0 := by rw [← hυ]; exact ft_11 0 (sI τ 0 9 t)
    have ref : ∃ σ2, fX10_mean (oi a) (oi g) (b2 lo) (sI τ 0 9 t) = some (r, σ2) ∧ Eqv υ σ2 ∧ (∀ b j, b ≠ 81 → b ≠ 91 → mI σ2 b j = mI υ b j) ∧ mI σ2 81 11 = t := by
      unfold fX10_mean
      rw [good_eq, obv_s, hυ, pair_r hRB, obi_s, r1, hb0, hb1, if_neg (by decide), kin_r hRB (by rw [r1]; exact ha), obi_s, kn_r hRB, obi_s, r1, r2, r3, hXe]
      have nofin : ∀ υ2 : OM, Fr lP is92 υ υ2 → ∃ σ2, (some ((-1 : Int32).toInt64, sI υ2 81 11 6) : Option (Int64 × OM)) = some (-1, σ2) ∧ Eqv υ σ2 ∧ (∀ b j, b ≠ 81 → b ≠ 91 → mI σ2 b j = mI υ b j) ∧ mI σ2 81 11 = 6 := by
        intro υ2 f5
        refine ⟨sI υ2 81 11 6, rfl, eqv_I (fr_eqv f5 (fun b j q => by unfold lP at q; unfold scr; omega) (fun b q => by unfold is92 at q; unfold scl; omega)) (by unfold scr; omega) _, fun b j q1 q2 => ?_, mI_at⟩
        rw [mI_sI, if_neg (by omega), f5.1 b j (by unfold lP; omega)]
      by_cases hX0 : X = 0
      · have hWn : W = none := by rw [hX0, Wv_zero hQb] at hWe; exact hWe.symm
        obtain ⟨rn1, rn2⟩ := rn hWn
        rw [if_pos ((cmp_eq _ _).mpr hX0), rn1, rn2]
        exact nofin υ (fr_rfl _ _ _)
      · rw [if_neg (by rw [cmp_eq]; exact hX0)]
        obtain ⟨υ1, υ2, f1, f2, f3, f5⟩ := layM hRB (g := g) (by rw [r1]; exact hg) X
        rw [r1, r2, hWe] at f2
        rw [r1, r2, r3] at f3
        rw [f1, obv_s, f2, obi_s]
        cases W with
        | none =>
          obtain ⟨rn1, rn2⟩ := rn rfl
          rw [if_neg (show ¬ lg_cmp (ol (vl none)) 1125899906842624 < 0 by decide), rn1, rn2]
          exact nofin υ2 f5
        | some v =>
          obtain ⟨rs1, rs2⟩ := rs v rfl
          have lv := Wv_le hbw hWe
          have lp := wt_pos hCW.1.1.1 hX0
          have wq : fX10_weight X υ2 = some (ol (sWt (mI σ 84) X), υ2) := by
            have := weight_eq (σ := υ2) f3.1.2.1.1.1 f3.1.2.1.2.1 X
            rw [f3.2.1] at this; exact this
          rw [if_pos (show lg_cmp (ol (vl (some v))) 1125899906842624 < 0 by rw [cmp_lt]; show ol v < ol 1125899906842624; rw [ol_lt (by omega) (by omega)]; omega), wq, obi_s, show ol (vl (some v)) = ol v from rfl, lowest_eq (by omega) (by omega) lp, obi_s, rs1, rs2]
          refine ⟨υ2, rfl, fr_eqv f5 (fun b j q => by unfold lP at q; unfold scr; omega) (fun b q => by unfold is92 at q; unfold scl; omega), fun b j q1 q2 => f5.1 b j (by unfold lP; omega), ?_⟩
          rw [f5.1 81 11 (by unfold lP; omega)]; exact u11
    obtain ⟨σ2, s1, s2, s3, s4⟩ := ref
    have ht4 : t ≠ 4 := by rcases ht with h | h <;> rw [h] <;> decide
    have hfin := plan_fin (t := t) (σ2 := σ2) hi e4 e2.2.2.1.2.2.2 e2.2.2.2.2.2 p1 (eqv_tr (by rw [← hυ]; exact gd_eqv _) s2) (fun j => ?_) ?_ ?_ s4 ht4
    · exact ⟨_, _, σ2, c1, s1, hfin.1, hfin.2.1, hfin.2.2⟩
    · rw [s3 60 j (by omega) (by omega), ← hυ]
      exact (ft_o 0 (sI τ 0 9 t) (by decide)).trans (by rw [mI_sI, if_neg (by omega)])
    · rw [s3 56 9 (by omega) (by omega), ← hυ]
      exact (ft_o 0 (sI τ 0 9 t) (by decide)).trans (by rw [mI_sI, if_neg (by omega)])
    · rw [s3 0 9 (by omega) (by omega), ← hυ]
      exact (ft_o 0 (sI τ 0 9 t) (by decide)).trans mI_at
  · refine refdL hi 1 (-1) (by decide) ?_ ?_
    · unfold fX9_mean
      rw [nH_c hN rfl hk, obi_s, if_pos rfl]; rfl
    · unfold fX10_mean
      rw [good_eq, obv_s, npair_r (by rw [o9 1 (by unfold scr; omega)]; exact hN.1.2.1), obi_s, if_pos rfl]; rfl
