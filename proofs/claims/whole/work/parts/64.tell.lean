/-! asked, lied -/
theorem obi_eta {α : Type} (v : Option (α × OM)) : obi v (fun r s => some (r, s)) = v := by
  cases v with
  | none => rfl
  | some p => rfl
theorem ref_fin {n : Nat} {σ : OM} {t : Int32} (hi : Inv n σ) (ht : t ≠ 4) : Inv (n + 1) (ft t (gd (sI σ 0 9 t))) := by
  obtain ⟨h1, h2, h3, h4⟩ := hi
  have e : Eqv σ (ft t (gd (sI σ 0 9 t))) := eqv_tr (eqv_I (eqv_rfl σ) (by unfold scr; omega) _) (ft_eqv _ _)
  refine ⟨Core_eqv e h1, ?_, ⟨?_, fun q => absurd ?_ ht⟩, ?_⟩
  · obtain ⟨p, p1, p2, p3⟩ := PL_9 t h2
    exact ⟨p, p1, by rw [ft_o _ _ (by decide)]; exact p2, fun j hj => by rw [ft_o _ _ (by decide)]; exact p3 j hj⟩
  · rw [ft_11, ft_o _ _ (by decide)]; exact mI_at
  · rw [ft_o _ _ (by decide), mI_at] at q; exact q
  · rw [e.2.2 96 0 (by omega)]; omega
theorem ft_mR (t : Int32) (σ : OM) : mR (ft t (gd σ)) 96 0 = mR σ 96 0 := by unfold ft; split <;> rfl
theorem WI_9 {σ : OM} {w : Nat} (hw : w = 1 ∨ w = 22) (h : WI σ w) (t : Int32) : RB (gd (sI σ 0 9 t)) := by
  have he : Eqv σ (gd (sI σ 0 9 t)) := eqv_tr (eqv_I (eqv_rfl σ) (by unfold scr; omega) t) (ft_eqv 0 _)
  obtain ⟨r1, r2, r3⟩ := eqv_row he
  refine ⟨?_, ?_⟩
  · rw [he.1 _ _ (by unfold scr; omega)]; exact h.2.1
  · rw [r1, r2, r3]; exact h.2.2.1.1.1
/-- both tell of one memory -/
theorem tell_c {σ : OM} {w : Nat} (hw : w = 1 ∨ w = 22) (h0 : mR σ 0 0 = w) (hk : okd w = 8) (hW : WI σ w) {a q : Nat} (ha : a < nn (mI σ 84 3)) (hq : q < nn (mI σ 84 5)) (hN : nn (mI σ 88 1) < 20) (y : Bool) {c : Nat} (hc : c ≤ 12) (h3 : mI σ 61 3 = oi c) : ∃ σ1, fX9_tell_b109 (oi a) (oi q) (b2 y) σ = some (b2 y, σ1) ∧ CT σ1 (w + 5) (sAdd (mI σ 88) (oi a) (oi q) y) ∧ CM σ1 w (mI σ 84) (mL σ 86) (sAdd (mI σ 88) (oi a) (oi q) y) ∧ mI σ1 0 9 = 0 ∧ mI σ1 61 3 = oi (c - oO c + 1) ∧ (∀ j, j < c - oO c → mI σ1 62 j = mI σ 62 (j + oO c) ∧ mI σ1 63 j = mI σ 63 (j + oO c) ∧ mI σ1 64 j = mI σ 64 (j + oO c)) ∧ (mI σ1 62 (c - oO c) = 0 ∧ mI σ1 63 (c - oO c) = oi a ∧ mI σ1 64 (c - oO c) = oi q) ∧ Fr (fun a j => (w + 5 ≤ a ∧ a ≤ w + 10) ∨ (61 ≤ a ∧ a ≤ 64) ∨ (a = 0 ∧ j = 9)) (gQ w) σ σ1 := by
  obtain ⟨-, -, hC, -, -⟩ := hW
  have hH := x_Hb hC.1
  have hQ := x_Qb hC.1
  obtain ⟨σ2, e1, e2, e3⟩ := add_eq hC.1.1.2 hN hC.1.2.2 (oi a) (oi q) y
  have hX : CX σ2 w (mI σ 84) (mL σ 86) (sAdd (mI σ 88) (oi a) (oi q) y) := by
    refine ⟨⟨hC.1.1.1, sAdd_TB hC.1.1.2 hN ha hH hq hQ y⟩, CS_congr (fun a j p => e3.1 a j (by omega)) (fun a j p => e3.2.1 a j (fun e => e)) hH hC.1.2.1, e2⟩
  have hr : mR σ2 0 0 = w := by rw [e3.2.2]; exact h0
  obtain ⟨σ3, f1, f2, f3⟩ := liars_eq hX
  have h3' : mI σ3 61 3 = oi c := by rw [f3.1 _ _ (by unfold gP; omega), e3.1 _ _ (by omega)]; exact h3
  obtain ⟨σ4, g1, g2, g3, g4, g5⟩ := keep_eq σ3 hc h3' 0 (oi a) (oi q)
  have eq6 : ∀ b j, 62 ≤ b → b ≤ 64 → mI σ3 b j = mI σ b j := fun b j p1 p2 => by rw [f3.1 _ _ (by unfold gP; omega), e3.1 _ _ (by omega)]
  unfold fX9_tell_b109
  rw [h0, ogd_d hk, e1, obv_s, hr, ogd_d hk, ogd_d hk, x_H hX, f1, obv_s, g1, obv_s]
  refine ⟨sI σ4 0 9 0, ?_, ?_, ?_, mI_at, ?_, fun j hj => ?_, ?_, ?_⟩
  · cases y
    · rw [if_pos (by decide)]; rfl
    · rw [if_neg (by decide)]; rfl
  · refine CT_congr (fun a j p => ?_) e2
    rw [mI_sI, if_neg (by omega), g5.1 _ _ (by omega), f3.1 _ _ (by unfold gP; omega)]
  · refine CM_congr (fun j => ?_) f2
    rw [mI_sI, if_neg (by omega), g5.1 _ _ (by omega)]
  · rw [mI_sI, if_neg (by omega)]; exact g2
  · rw [mI_sI, if_neg (by omega), mI_sI, if_neg (by omega), mI_sI, if_neg (by omega)]
    obtain ⟨k1, k2, k3⟩ := g3 j hj
    exact ⟨k1.trans (eq6 _ _ (by omega) (by omega)), k2.trans (eq6 _ _ (by omega) (by omega)), k3.trans (eq6 _ _ (by omega) (by omega))⟩
  · rw [mI_sI, if_neg (by omega), mI_sI, if_neg (by omega), mI_sI, if_neg (by omega)]
    exact g4
  · refine fr_I (fr_tr (fr_tr (fr_mono (fun a j p => ?_) (fun _ p => p.elim) e3) (fr_mono (fun a j p => ?_) (fun _ p => p) f3)) (fr_mono (fun a j p => ?_) (fun _ p => p.elim) g5)) (by omega)
    · omega
    · unfold gP at p; omega
    · omega
theorem answers_r {τ : OM} (h : RB τ) {a q : Nat} (ha : a < nn (mI τ 84 3)) (hq : q < nn (mI τ 84 5)) (hT : 0 < nn (mI τ 84 10)) (hN : nn (mI τ 88 1) < 20) (tr : Bool) {c : Nat} (hc : c ≤ 12) (h22 : mI τ 81 22 = oi c) : ∃ σ2, fX10_answers (oi a) (oi q) (b2 tr) τ = some (b2 (tb (mL τ 86 q) (nn (mI τ 84 10) - 1) == tr), σ2) ∧ mI σ2 88 = sAdd (mI τ 88) (oi a) (oi q) (tb (mL τ 86 q) (nn (mI τ 84 10) - 1) == tr) ∧ mI σ2 81 22 = oi (c - oO c + 1) ∧ (∀ k j, k < c - oO c → j < 68 → mI σ2 89 (68 * k + j) = mI τ 89 (68 * (k + oO c) + j)) ∧ (∀ j, j < 68 → mI σ2 89 (68 * (c - oO c) + j) = mI τ 88 j) ∧ Fr (fun a j => (a = 81 ∧ j = 22) ∨ a = 88 ∨ a = 89) noL τ σ2 := by
  have hH := h.2.1.1.2.2.1.2
  have hQ := h.2.1.1.2.2.2.2.1.2
  have hT1 := h.2.1.1.2.2.2.2.2.2
  have hT2 := Nat.le_trans hT1.2 (p2_le h.2.1.1.1.2)
  obtain ⟨σ1, e1, e2, e3, e4, e5⟩ := note_eq τ hc h22
  have r84 : mI σ1 84 = mI τ 84 := funext fun j => e5.1 84 j (by omega)
  have r88 : mI σ1 88 = mI τ 88 := funext fun j => e5.1 88 j (by omega)
  have r86 : mL σ1 86 = mL τ 86 := funext fun j => e5.2.1 86 j (fun e => e)
  have hN1 : mI τ 88 1 = oi (nn (mI τ 88 1)) := h.2.2.2.1.1
  generalize hNN : nn (mI τ 88 1) = N at hN hN1
  have fin : ∀ z : Bool, ∃ σ2, fX10_answers_b132 (oi (2 + 3 * N)) (oi (4 + 3 * N)) (b2 z) (sI (sI σ1 88 (2 + 3 * N) (oi a)) 88 (3 + 3 * N) (oi q)) = some (b2 z, σ2) ∧ mI σ2 88 = sAdd (mI τ 88) (oi a) (oi q) z ∧ Fr (fun a _ => a = 88) noL σ1 σ2 := by
    intro z
    unfold fX10_answers_b132
    have ia : (oi (2 + 3 * N) : Int32) + 2 = oi (4 + 3 * N) := by rw [lt2, oi_add]; congr 1; omega
    rw [ogi (by omega) (by omega), ia, ogi (by omega) (by omega), oi_nat (by omega)]
    have i1 : mI (sI (sI (sI σ1 88 (2 + 3 * N) (oi a)) 88 (3 + 3 * N) (oi q)) 88 (4 + 3 * N) (b2 z)) 88 1 = oi N := by
      rw [mI_sI, if_neg (by omega), mI_sI, if_neg (by omega), mI_sI, if_neg (by omega), r88]; exact hN1
    rw [i1, oi_succ]
    refine ⟨sI (sI (sI (sI σ1 88 (2 + 3 * N) (oi a)) 88 (3 + 3 * N) (oi q)) 88 (4 + 3 * N) (b2 z)) 88 1 (oi (N + 1)), ?_, ?_, fr_I (fr_I (fr_I (fr_I (fr_rfl _ _ _) rfl) rfl) rfl) rfl⟩
    · rw [mI_sI, if_neg (by omega), mI_at]
    · funext j
      unfold sAdd
      rw [hNN, mI_sI, mI_sI, mI_sI, mI_sI, r88, hN1]
      by_cases j1 : j = 1
      · rw [if_pos ⟨rfl, j1⟩, if_pos j1]; exact (oi_succ N).symm
      · rw [if_neg (fun e => j1 e.2), if_neg j1]
        by_cases j2 : j = 4 + 3 * N
        · rw [if_pos ⟨rfl, j2⟩, if_pos j2]
        · rw [if_neg (fun e => j2 e.2), if_neg j2]
          by_cases j3 : j = 3 + 3 * N
          · rw [if_pos ⟨rfl, j3⟩, if_pos j3]
          · rw [if_neg (fun e => j3 e.2), if_neg j3]
            by_cases j4 : j = 2 + 3 * N
            · rw [if_pos ⟨rfl, j4⟩, if_pos j4]
            · rw [if_neg (fun e => j4 e.2), if_neg j4]
  have mid : ∀ is : Bool, ∃ σ2, fX10_answers_b81 (oi a) (oi q) (b2 tr) (b2 is) σ1 = some (b2 (is == tr), σ2) ∧ mI σ2 88 = sAdd (mI τ 88) (oi a) (oi q) (is == tr) ∧ Fr (fun a _ => a = 88) noL σ1 σ2 := by
    intro is
    unfold fX10_answers_b81
    rw [r88, hN1, ix4, ix3, ix2, ogi (by omega) (by omega), ogi (by omega) (by omega), oi_nat (by omega), oi_nat (by omega)]
    have f1 := fin true
    have f0 := fin false
    cases is <;> cases tr
    · rw [if_pos rfl]; exact f1
    · rw [if_neg (by decide)]; exact f0
    · rw [if_neg (by decide)]; exact f0
    · rw [if_pos rfl]; exact f1
  have go : ∃ σ2, fX10_answers (oi a) (oi q) (b2 tr) τ = some (b2 (tb (mL τ 86 q) (nn (mI τ 84 10) - 1) == tr), σ2) ∧ mI σ2 88 = sAdd (mI τ 88) (oi a) (oi q) (tb (mL τ 86 q) (nn (mI τ 84 10) - 1) == tr) ∧ Fr (fun a _ => a = 88) noL σ1 σ2 := by
    unfold fX10_answers fX10_isPair
    rw [isH_r h, obi_s, oin_oi (by omega), decide_eq_true ha, if_neg (by decide), isQ_r h, obi_s, oin_oi (by omega), decide_eq_true hq, if_neg (by decide), obi_s, if_neg (by decide), if_neg (by rw [hT1.1, oi_ne0 (nn_lt _)]; omega), if_neg (by rw [hN1, lt20, oi_inj (by omega) (by omega)]; omega), e1, obv_s, ogi (by omega) (by omega), oi_nat (by omega), r84, r86, hT1.1, show oi (nn (mI τ 84 10)) - 1 = oi (nn (mI τ 84 10) - 1) from oi_sub (b := 1) (by omega), bitS _ (by omega), nn_oi (nn_lt _)]
    cases hb : tb (mL τ 86 q) (nn (mI τ 84 10) - 1)
    · rw [if_neg (by decide)]; exact mid false
    · rw [if_pos (by decide)]; exact mid true
  obtain ⟨σ2, g1, g2, g3⟩ := go
  refine ⟨σ2, g1, g2, ?_, fun k j hk hj => ?_, fun j hj => ?_, fr_tr (fr_mono (fun a j p => ?_) (fun _ p => p) e5) (fr_mono (fun a j p => ?_) (fun _ p => p) g3)⟩
  · rw [g3.1 _ _ (by omega)]; exact e2
  · rw [g3.1 _ _ (by omega)]; exact e3 k j hk hj
  · rw [g3.1 _ _ (by omega)]; exact e4 j hj
  · omega
  · omega
theorem tell_ok (n : Nat) (x y : Int32) (ly : Bool) : okC n (fX9_tell x y (b2 ly)) (fun σ => obv (fX10_good σ) (fun σ2 => fX10_answers x y (b2 (!ly)) σ2)) := by
  intro σ hi
  have hC := hi.1
  have hw := okW_lt hC.1
  have hk := okW_kd hC.1
  have refd : ∀ t : Int32, t ≠ 4 → fX9_tell x y (b2 ly) σ = some (-1, sI σ 0 9 t) → fX10_answers x y (b2 (!ly)) (gd (sI σ 0 9 t)) = some (-1, ft t (gd (sI σ 0 9 t))) → ∃ r σ1 σ2, fX9_tell x y (b2 ly) σ = some (r, σ1) ∧ obv (fX10_good σ1) (fun σ2 => fX10_answers x y (b2 (!ly)) σ2) = some (r, σ2) ∧ Inv (n + 1) σ2 ∧ mR σ1 96 0 = mR σ 96 0 ∧ mR σ2 96 0 = mR σ1 96 0 := by
    intro t ht e1 e2
    refine ⟨_, _, _, e1, ?_, ref_fin hi ht, rfl, ft_mR _ _⟩
    rw [good_eq, obv_s]; exact e2
  rcases hC.2.2.2 with hW | hN
  · generalize h0 : mR σ 0 0 = w at hw hk hW
    have hW' := hW
    obtain ⟨h7, h14, hCW, hU, hI⟩ := hW'
    have rbt : ∀ t, RB (gd (sI σ 0 9 t)) := fun t => WI_9 hw hW t
    have rows : ∀ t, mI (gd (sI σ 0 9 t)) 84 = mI σ 84 ∧ mL (gd (sI σ 0 9 t)) 86 = mL σ 86 ∧ mI (gd (sI σ 0 9 t)) 88 = mI σ 88 := fun t => eqv_row (eqv_tr (eqv_I (eqv_rfl σ) (by unfold scr; omega) t) (ft_eqv 0 _))
    have hHb := x_Hb hCW.1
    have hQb := x_Qb hCW.1
    have hNb := x_Nb hCW.1
    cases hb0 : oin x (nn (mI σ 84 3))
    · refine refd 1 (by decide) ?_ ?_
      · unfold fX9_tell
        rw [isH_c hCW.1 h0 hk, obi_s, hb0, if_pos (by decide)]; rfl
      · unfold fX10_answers fX10_isPair
        rw [isH_r (rbt 1), obi_s, (rows 1).1, hb0, if_pos (by decide), obi_s, if_pos (by decide)]; rfl
    obtain ⟨a, ha, ha2, rfl⟩ := oin_iff hb0
    cases hb1 : oin y (nn (mI σ 84 5))
    · refine refd 1 (by decide) ?_ ?_
      · unfold fX9_tell
        rw [isH_c hCW.1 h0 hk, obi_s, hb0, if_neg (by decide), isQ_c hCW.1 h0 hk, obi_s, hb1, if_pos (by decide)]; rfl
      · unfold fX10_answers fX10_isPair
        rw [isH_r (rbt 1), obi_s, (rows 1).1, hb0, if_neg (by decide), isQ_r (rbt 1), obi_s, (rows 1).1, hb1, if_pos (by decide), obi_s, if_pos (by decide)]; rfl
    obtain ⟨q, hq, hq2, rfl⟩ := oin_iff hb1
    have hT1 := hCW.1.1.1.1.2.2.2.2.2.2
    have hT2 := Nat.le_trans hT1.2 (p2_le (x_Fb hCW.1))
    have ct := hCW.1.2.1.2.1
    by_cases hT : 0 < nn (mI σ 84 10)
    · by_cases hN : nn (mI σ 88 1) < 20
      · obtain ⟨c, c1, c2, c3, c4, c5⟩ := hU
        have hbit : tb (mL σ (w + 3) q) (nn (mI σ 84 10) - 1) = tb (mL σ 86 q) (nn (mI σ 84 10) - 1) := hCW.1.2.1.2.2.1.2 q hq _ (by have := hT1.2; omega)
        generalize hy : (tb (mL σ 86 q) (nn (mI σ 84 10) - 1) == !ly) = yy
        obtain ⟨σ1, e1, e2, e3, e4, e5, e6, e7, e8⟩ := tell_c hw h0 hk hW ha hq hN yy c1 c2
        have f1 : fX9_tell (oi a) (oi q) (b2 ly) σ = some (b2 yy, σ1) := by
          unfold fX9_tell
          rw [isH_c hCW.1 h0 hk, obi_s, hb0, if_neg (by decide), isQ_c hCW.1 h0 hk, obi_s, hb1, if_neg (by decide), h0, ogd_d hk, ct.1, decide_eq_true hT, if_neg (by decide), ogd_d hk, x_N hCW.1, lt20, if_pos ((oi_lt (by omega) (by omega)).mpr hN), ogd_d hk, soWorlds_eq (by omega), obi_s, h0, ogd_d hk, ct.2 hT, bitOf_eq _ (by omega), obi_s, hbit]
          rw [← e1, ← hy]
          cases tb (mL σ 86 q) (nn (mI σ 84 10) - 1) <;> cases ly <;> rfl
        have hr1 : Eqv σ1 (gd σ1) := ft_eqv 0 σ1
        have r84 : mI (gd σ1) 84 = mI σ 84 := by rw [gd_84]; exact funext fun j => e8.1 84 j (by omega)
        have r88 : mI (gd σ1) 88 = mI σ 88 := by rw [gd_88]; exact funext fun j => e8.1 88 j (by omega)
        have r86 : mL (gd σ1) 86 = mL σ 86 := by rw [gd_86]; exact funext fun j => e8.2.1 86 j (by unfold gQ; omega)
        have hRB : RB (gd σ1) := by
          unfold RB
          rw [r84, r86, r88, gd_14, e8.1 81 14 (by omega)]
          exact ⟨h14, hCW.1.1⟩
        have g22 : mI (gd σ1) 81 22 = oi c := by
          rw [hr1.1 81 22 (by unfold scr; omega), e8.1 81 22 (by omega)]; exact c3
        obtain ⟨σ2, s1, s2, s3, s4, s5, s6⟩ := answers_r hRB (by rw [r84]; exact ha) (by rw [r84]; exact hq) (by rw [r84]; exact hT) (by rw [r88]; exact hN) (!ly) c1 g22
        rw [r84, r86, hy] at s1 s2
        rw [r88] at s2 s5
        refine ⟨b2 yy, σ1, σ2, f1, ?_, ?_, by rw [e8.2.2], by rw [s6.2.2]; rfl⟩
        · exact s1
        · have q0 : ∀ b j, b ≠ 81 → mI (gd σ1) b j = mI σ1 b j := fun b j hb => ft_o 0 σ1 hb
          have q1 : ∀ b j, b ≠ 81 → b ≠ 88 → b ≠ 89 → mI σ2 b j = mI σ1 b j := fun b j p1 p2 p3 => by
            rw [s6.1 b j (by omega)]; exact q0 b j p1
          refine act_fin hi hw h0 hW ?_ (sAdd_TB hCW.1.1.2 hN ha hHb hq hQb yy) s2 (CT_congr (fun b j p => q1 b j (by omega) (by omega) (by omega)) e2) (CM_congr (fun j => q1 _ j (by omega) (by omega) (by omega)) e3) ?_ ?_ ?_
          · have k1 : Fr (aP w) (gQ w) σ σ1 := fr_mono (fun b j p => by unfold aP; omega) (fun _ p => p) e8
            have k2 : Fr (aP w) (gQ w) σ1 (gd σ1) := fr_I (fr_I (fr_rfl _ _ _) (by unfold aP; omega)) (by unfold aP; omega)
            have k3 : Fr (aP w) (gQ w) (gd σ1) σ2 := fr_mono (fun b j p => by unfold aP; omega) (fun _ p => p.elim) s6
            exact fr_tr k1 (fr_tr k2 k3)
          · refine UR_push c1 c4 c5 hCW.1.1.2 (sAdd_Act hCW.1.1.2 hN (oi a) (oi q) yy) s2 ?_ s3 (fun j hj => ?_) ?_ (fun k j hk' hj => ?_) s5
            · rw [q1 _ _ (by omega) (by omega) (by omega)]; exact e5
            · rw [q1 _ _ (by omega) (by omega) (by omega), q1 _ _ (by omega) (by omega) (by omega), q1 _ _ (by omega) (by omega) (by omega)]; exact e6 j hj
            · rw [q1 _ _ (by omega) (by omega) (by omega), q1 _ _ (by omega) (by omega) (by omega), q1 _ _ (by omega) (by omega) (by omega)]; exact e7
            · rw [s4 k j hk' hj, q0 _ _ (by omega), e8.1 89 _ (by omega)]
          · rw [q1 _ _ (by omega) (by omega) (by omega), e4, s6.1 81 11 (by omega)]; exact (ft_11 0 σ1).symm
          · rw [q1 _ _ (by omega) (by omega) (by omega), e4]; decide
      · refine refd 3 (by decide) ?_ ?_
        · unfold fX9_tell
          rw [isH_c hCW.1 h0 hk, obi_s, hb0, if_neg (by decide), isQ_c hCW.1 h0 hk, obi_s, hb1, if_neg (by decide), h0, ogd_d hk, ct.1, decide_eq_true hT, if_neg (by decide), ogd_d hk, x_N hCW.1, lt20, if_neg (by rw [oi_lt (by omega) (by omega)]; exact hN)]; rfl
        · unfold fX10_answers fX10_isPair
          rw [isH_r (rbt 3), obi_s, (rows 3).1, hb0, if_neg (by decide), isQ_r (rbt 3), obi_s, (rows 3).1, hb1, if_neg (by decide), obi_s, if_neg (by decide), (rows 3).1, (rows 3).2.2, if_neg (by rw [hT1.1, oi_ne0 (nn_lt _)]; omega), if_pos (by rw [hCW.1.1.2.2.1.1, lt20, oi_inj (by omega) (by omega)]; omega)]; rfl
    · refine refd 6 (by decide) ?_ ?_
      · unfold fX9_tell
        rw [isH_c hCW.1 h0 hk, obi_s, hb0, if_neg (by decide), isQ_c hCW.1 h0 hk, obi_s, hb1, if_neg (by decide), h0, ogd_d hk, ct.1, decide_eq_false hT, if_pos (by decide)]; rfl
      · unfold fX10_answers fX10_isPair
        rw [isH_r (rbt 6), obi_s, (rows 6).1, hb0, if_neg (by decide), isQ_r (rbt 6), obi_s, (rows 6).1, hb1, if_neg (by decide), obi_s, if_neg (by decide), (rows 6).1, if_pos (by rw [hT1.1, oi_ne0 (nn_lt _)]; omega)]; rfl
  · have e14 : mI (gd (sI σ 0 9 1)) 81 14 = 0 := by rw [gd_14, mI_sI, if_neg (by omega)]; exact hN.1.2.1
    refine refd 1 (by decide) ?_ ?_
    · unfold fX9_tell
      rw [nH_c hN rfl hk, obi_s, if_pos rfl]; rfl
    · unfold fX10_answers fX10_isPair
      rw [nH_r e14, obi_s, if_pos rfl, obi_s, if_pos rfl]; rfl
theorem m_ask (n : Nat) (x y : Int32) : okC n (fX9_ask x y) (fX10_ask x y) := by
  have e1 : fX9_ask x y = fX9_tell x y (b2 false) := funext fun σ => obi_eta _
  have e2 : fX10_ask x y = fun σ => obv (fX10_good σ) (fun σ2 => fX10_answers x y (b2 (!false)) σ2) := funext fun σ => by
    unfold fX10_ask
    rw [good_eq, obv_s, obv_s]; exact obi_eta _
  rw [e1, e2]; exact tell_ok n x y false
theorem m_lie (n : Nat) (x y : Int32) : okC n (fX9_lie x y) (fX10_lie x y) := by
  have e1 : fX9_lie x y = fX9_tell x y (b2 true) := funext fun σ => obi_eta _
  have e2 : fX10_lie x y = fun σ => obv (fX10_good σ) (fun σ2 => fX10_answers x y (b2 (!true)) σ2) := funext fun σ => by
    unfold fX10_lie
    rw [good_eq, obv_s, obv_s]; exact obi_eta _
  rw [e1, e2]; exact tell_ok n x y true
