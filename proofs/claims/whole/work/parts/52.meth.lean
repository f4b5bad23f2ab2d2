/-! sets of bits, counted -/
theorem cnt_and {p q : Nat → Bool} : ∀ n, cnt p n = cnt (fun k => p k && q k) n + cnt (fun k => p k && !(q k)) n
  | 0 => rfl
  | n + 1 => by
    have ih := cnt_and (p := p) (q := q) n
    have e1 : cnt p (n + 1) = cnt p n + if p n then 1 else 0 := rfl
    have e2 : cnt (fun k => p k && q k) (n + 1) = cnt (fun k => p k && q k) n + if (p n && q n) then 1 else 0 := rfl
    have e3 : cnt (fun k => p k && !(q k)) (n + 1) = cnt (fun k => p k && !(q k)) n + if (p n && !(q n)) then 1 else 0 := rfl
    rw [e1, e2, e3]
    cases hp : p n <;> cases hq : q n <;> simp <;> omega
theorem pc_split (x y : Int64) : pc x = pc (x &&& y) + pc (x &&& (y ^^^ (-1))) := by
  unfold pc
  rw [cnt_and (p := tb x) (q := tb y) 64]
  congr 1
  · exact cnt_congr (fun k _ => (tb_and x y k).symm)
  · exact cnt_congr (fun k hk => by rw [tb_and, tb_not y hk])
def sLie (Z : Nat → Int64) (s : Nat → Int32) (H x : Nat) : Int32 := match sLi Z s H with
  | none => -2
  | some m => b2 (anyN (fun k => sFew Z s m k && k.testBit x) (2 ^ H)) + b2 (allN (fun k => !(sFew Z s m k) || k.testBit x) (2 ^ H))
theorem lie_end {Z : Nat → Int64} {s : Nat → Int32} {H m x : Nat} (hH : H ≤ 6) (h : sLi Z s H = some m) (τ : OM) : fX10_lies_b107 (oi (cnt (sFew Z s m) (2 ^ H))) (oi (cnt (fun k => sFew Z s m k && k.testBit x) (2 ^ H))) τ = some (sLie Z s H x, τ) := by
  obtain ⟨-, -, h3⟩ := mi_all Z s hH
  obtain ⟨-, -, a3, a4, -⟩ := h3 m h
  have h64 := p2_le hH
  have c1 := cnt_le (sFew Z s m) (2 ^ H)
  have c2 := cnt_le (fun k => sFew Z s m k && k.testBit x) (2 ^ H)
  have hm : sFew Z s m m = true := by unfold sFew; rw [a3, decide_eq_true rfl]; rfl
  unfold fX10_lies_b107 sLie
  rw [h, ite_iff (oi_ne0 (by omega)), ite_iff (oi_le (by omega) (by omega))]
  show _ = some (b2 (anyN (fun k => sFew Z s m k && k.testBit x) (2 ^ H)) + b2 (allN (fun k => !(sFew Z s m k) || k.testBit x) (2 ^ H)), τ)
  by_cases e0 : cnt (fun k => sFew Z s m k && k.testBit x) (2 ^ H) = 0
  · rw [if_pos e0]
    have e1 := cnt_zero.mp e0
    rw [anyN_no e1]
    have e2 : allN (fun k => !(sFew Z s m k) || k.testBit x) (2 ^ H) = false := by
      cases e : allN (fun k => !(sFew Z s m k) || k.testBit x) (2 ^ H)
      · rfl
      · have q := allN_iff.mp e m a4
        have q2 := e1 m a4
        simp only [hm] at q q2
        simp at q q2
        rw [q] at q2; cases q2
    rw [e2]; rfl
  · rw [if_neg e0]
    have e1 : anyN (fun k => sFew Z s m k && k.testBit x) (2 ^ H) = true := by
      cases e : anyN (fun k => sFew Z s m k && k.testBit x) (2 ^ H)
      · refine absurd (cnt_zero.mpr (fun k hk => ?_)) e0
        cases e3 : (sFew Z s m k && k.testBit x)
        · rfl
        · rw [anyN_iff.mpr ⟨k, hk, e3⟩] at e; cases e
      · rfl
    rw [e1]
    by_cases e2 : cnt (sFew Z s m) (2 ^ H) ≤ cnt (fun k => sFew Z s m k && k.testBit x) (2 ^ H)
    · have hs : cnt (fun k => sFew Z s m k && k.testBit x) (2 ^ H) ≤ cnt (sFew Z s m) (2 ^ H) := cnt_sub (fun k _ hp => (Bool.and_eq_true_iff.mp hp).1)
      have q := cnt_same (p := fun k => sFew Z s m k && k.testBit x) (q := sFew Z s m) (n := 2 ^ H) (fun k _ hp => (Bool.and_eq_true_iff.mp hp).1) (by omega)
      rw [if_pos e2, allN_yes]
      · rfl
      · intro k hk
        have := q k hk
        cases hf : sFew Z s m k
        · rfl
        · rw [hf] at this; simpa using this
    · rw [if_neg e2]
      have e3 : allN (fun k => !(sFew Z s m k) || k.testBit x) (2 ^ H) = false := by
        cases e : allN (fun k => !(sFew Z s m k) || k.testBit x) (2 ^ H)
        · rfl
        · refine absurd (cnt_sub (fun k hk hp => ?_)) e2
          have := allN_iff.mp e k hk
          rw [hp] at this ⊢; simpa using this
      rw [e3]; rfl
theorem pair_cnt {p q : Nat → Bool} : ∀ n, ofd (fun k (a : Nat × Nat) => if p k then (a.1 + 1, a.2 + if q k then 1 else 0) else a) (0, 0) n = (cnt p n, cnt (fun k => p k && q k) n)
  | 0 => rfl
  | n + 1 => by
    show (if p n then _ else _) = _
    rw [pair_cnt n]
    show _ = (cnt p n + (if p n then 1 else 0), cnt (fun k => p k && q k) n + (if (p n && q n) then 1 else 0))
    cases p n <;> cases q n <;> rfl
theorem m_lies (n : Nat) (x : Int32) : okC n (fX9_lies x) (fX10_lies x) := by
  refine look1 (fun R Z s => (if (oin x (nn (R 3))) = true then sLie Z s (nn (R 3)) (nn x) else -1 : Int32)) (fun R Z s => (sTr (oin x (nn (R 3))) : Int32)) (-1) ?_ ?_ ?_ ?_ ?_
  · intro σ w R Z s h0 hk h7 h
    unfold fX9_lies
    have h64 := p2_le (x_Fb h.1)
    have hHb := x_Hb h.1
    have hQb := x_Qb h.1
    have hNb := x_Nb h.1
    have hSb := x_Sb h.1
    rw [isH_c h.1 h0 hk, obi_s]
    cases hb0 : oin x (nn (R 3))
    · rw [if_pos (by decide)]; rfl
    obtain ⟨a, ha, ha2, rfl⟩ := oin_iff hb0
    rw [if_neg (by decide)]
    have hc := cnt_le (sCan Z s) (2 ^ nn (R 3))
    have h6 := p2_le hHb
    obtain ⟨m1, m2, m3⟩ := mi_all Z s hHb
    rw [h0, ogd_d hk, w_sets h, ite_iff (oi_ne0 (by omega)), nn_oi ha2]
    cases e : sLi Z s (nn (R 3)) with
    | none =>
      rw [if_pos ((li_none hHb).mpr e)]
      unfold sLie
      rw [e]; rfl
    | some m =>
      obtain ⟨-, -, -, -, -, a6, a7⟩ := m3 m e
      rw [if_neg (fun e2 => by rw [(li_none hHb).mp e2] at e; cases e), bitOfW_eq _ (by omega), obi_s, bitOfW_eq _ (by omega), obi_s, h.2.2.2.1, h.2.2.2.2, a6 a (by omega), a7 a (by omega)]
      unfold sLie
      rw [e]; rfl
  · intro σ h
    unfold fX10_lies
    rw [good_eq, obv_s]
    generalize gd σ = τ at h ⊢
    have h64 := p2_le h.2.1.1.1.2
    have hHb := h.2.1.1.2.2.1.2
    have hQb := h.2.1.1.2.2.2.2.1.2
    have hNb := h.2.2.2.1.2
    have hSb := h.2.1.1.2.2.2.2.2.1.2
    rw [isH_r h, obi_s]
    cases hb0 : oin x (nn (mI τ 84 3))
    · rw [if_pos (by decide)]; rfl
    obtain ⟨a, ha, ha2, rfl⟩ := oin_iff hb0
    rw [if_neg (by decide)]
    have hH := h.2.1.1.2.2.1
    have h6 := p2_le hHb
    rw [liarsOf_eq h.2.2 hQb hH, obi_s, nn_oi ha2]
    cases e : sLi (mL τ 86) (mI τ 88) (nn (mI τ 84 3)) with
    | none =>
      rw [if_pos (show oE none = -2 from rfl)]
      unfold sLie
      rw [e]; rfl
    | some m =>
      have hm := (sLi_lt _ _ _ m e).1
      have hne : ∀ m, m < 64 → ¬ (oi m = -2) := by decide +kernel
      rw [show oE (some m) = oi m from rfl, if_neg (hne m (by omega))]
      refine (lup0 (g := fun f (b : Nat × Nat) k => fX10_lies_b40 f (oi a) (oi m) (oi b.1) (oi b.2) (oi k) τ) (a := (0, 0)) (step := fun k b => if sFew (mL τ 86) (mI τ 88) m k then (b.1 + 1, b.2 + if k.testBit a then 1 else 0) else b) (fin := fun b => fX10_lies_b107 (oi b.1) (oi b.2) τ) (n := 2 ^ nn (mI τ 84 3)) ?_ ?_ oF (by unfold oF; omega)).trans ?_
      · intro f b k hk'
        show fX10_lies_b40 (f + 1) (oi a) (oi m) (oi b.1) (oi b.2) (oi k) τ = fX10_lies_b40 f (oi a) (oi m) (oi _) (oi _) (oi (k + 1)) τ
        have p1 := pc_le (ol k)
        have p2 := pc_le (ol m)
        rw [fX10_lies_b40, shlH hH (by decide), if_neg (by rw [oi_le (by omega) (by omega)]; omega), oi_long (by omega), oi_long (by omega), ones_eq, obi_s, ones_eq, obi_s, ite_iff (oi_inj (by omega) (by omega))]
        unfold sFew
        by_cases ep : pc (ol k) = pc (ol m)
        · rw [if_pos ep, canLie_eq h.2.2 hQb, obi_s, decide_eq_true ep]
          show (if b2 (sCan _ _ k) = 0 then _ else _) = _
          cases sCan (mL τ 86) (mI τ 88) k
          · rw [if_pos (by decide), oi_succ]; rfl
          · rw [if_neg (by decide), hasBit_eq _ (by omega), obi_s, tw_oi _ _ (by omega)]
            cases k.testBit a
            · rw [if_pos (by decide), oi_succ, oi_succ, Int32.add_zero]; rfl
            · rw [if_neg (by decide), oi_succ, oi_succ, oi_succ]; rfl
        · rw [if_neg ep, decide_eq_false ep, Bool.and_false, oi_succ]; rfl
      · intro f b
        show fX10_lies_b40 (f + 1) (oi a) (oi m) (oi b.1) (oi b.2) (oi _) τ = _
        rw [fX10_lies_b40, shlH hH (by decide), if_pos ((oi_le (by omega) (by omega)).mpr (Nat.le_refl _))]
      · rw [pair_cnt]
        exact lie_end hHb e τ
  · intro R Z s; exact sTr_ne _
  · intro σ w h0 hk h
    unfold fX9_lies
    rw [nH_c h h0 hk, obi_s, if_pos rfl]; rfl
  · intro σ h
    unfold fX10_lies
    rw [good_eq, obv_s]
    generalize gd σ = τ at h ⊢
    rw [nH_r h, obi_s, if_pos rfl]; rfl
theorem worldsOf_eq {f : Nat} (hf : f < 6) (σ : OM) : fX10_worldsOf (oi f) σ = some (oho f, σ) := by
  unfold fX10_worldsOf
  refine (lup0 (g := fun m x k => fX10_worldsOf_b4 m (oi f) x (oi k) σ) (step := fun k x => if tw (oi k) f then x ||| (1 : Int64) <<< ((oi k).toInt64 &&& 63) else x) (fin := fun x => some (x, σ)) (n := 64) ?_ ?_ oF (by unfold oF; omega)).trans ?_
  · intro m x k hk
    show fX10_worldsOf_b4 (m + 1) (oi f) x (oi k) σ = fX10_worldsOf_b4 m (oi f) _ (oi (k + 1)) σ
    rw [fX10_worldsOf_b4, lt64, if_neg (by rw [oi_le (by omega) (by omega)]; omega), bitW _ (by omega)]
    cases tw (oi k) f
    · rw [if_neg (by decide), oi_succ, Int64.or_zero]; rfl
    · rw [if_pos (by decide), oi_succ]; rfl
  · intro m x
    show fX10_worldsOf_b4 (m + 1) (oi f) x (oi 64) σ = _
    rw [fX10_worldsOf_b4, if_pos (by decide)]
  · exact congrArg (fun x => some (x, σ)) ((by decide +kernel : ∀ f, f < 6 → ofd (fun k x => if tw (oi k) f then x ||| (1 : Int64) <<< ((oi k).toInt64 &&& 63) else x) 0 64 = oho f) f hf)
theorem m_fact (n : Nat) (x y : Int32) : okC n (fX9_fact x y) (fX10_fact x y) := by
  refine look1 (fun R Z s => if (oin x (nn (R 3)) && oin y (nn (R 1))) = true then sBy (sKn R Z s (sKin s (nn x))) (oho (nn y)) else -1) (fun R Z s => sTr (oin x (nn (R 3)) && oin y (nn (R 1)))) (-1) ?_ ?_ (fun R Z s => sTr_ne _) ?_ ?_
  · intro σ w R Z s h0 hk h7 h
    unfold fX9_fact
    have hFb := x_Fb h.1
    rw [isH_c h.1 h0 hk, obi_s]
    cases hb0 : oin x (nn (R 3))
    · rw [if_pos (by decide)]; rfl
    obtain ⟨a, ha, ha2, rfl⟩ := oin_iff hb0
    rw [if_neg (by decide)]
    rcases oi_cases y with hy | ⟨b, hb, rfl⟩
    · rw [if_pos hy, oin_neg hy]; rfl
    · rw [if_neg (oi_nneg hb), h0, ogd_d hk, x_F h.1, oin_oi (n := nn (R 1)) hb, ite_iff (oi_le (by omega) hb), lt6, ite_iff (oi_lt hb (by omega))]
      by_cases hbF : b < nn (R 1)
      · rw [if_neg (by omega), if_pos (by omega), ogd_d hk, ofK_eq h ha, obi_s, ogi (by omega) (by omega), oi_nat hb, verdict_eq, obi_s, decide_eq_true hbF, nn_oi ha2, nn_oi hb]; rfl
      · rw [if_pos (by omega), decide_eq_false hbF]; rfl
  · intro σ h
    unfold fX10_fact
    rw [good_eq, obv_s]
    generalize gd σ = τ at h ⊢
    have hF := h.2.1.1.1
    have hFb := hF.2
    rw [isH_r h, obi_s]
    cases hb0 : oin x (nn (mI τ 84 3))
    · rw [if_pos (by decide)]; rfl
    obtain ⟨a, ha, ha2, rfl⟩ := oin_iff hb0
    rw [if_neg (by decide), hF.1, in_r _ (nn_lt _), obi_s, nn_oi (nn_lt _)]
    cases hb1 : oin y (nn (mI τ 84 1))
    · rw [if_pos (by decide)]; rfl
    obtain ⟨b, hb, hb2, rfl⟩ := oin_iff hb1
    rw [if_neg (by decide), kin_r h ha, obi_s, kn_r h, obi_s, worldsOf_eq (by omega), obi_s, answerBy_eq, obi_s, nn_oi ha2, nn_oi hb2]; rfl
  · intro σ w h0 hk h
    unfold fX9_fact
    rw [nH_c h h0 hk, obi_s, if_pos rfl]; rfl
  · intro σ h
    unfold fX10_fact
    rw [good_eq, obv_s]
    generalize gd σ = τ at h ⊢
    rw [nH_r h, obi_s, if_pos rfl]; rfl
def sOt (R : Nat → Int32) (Z : Nat → Int64) (s : Nat → Int32) (a : Nat) (b : Int32) : Int32 := b &&& (ofd (sKo Z (sKn R Z s (sKin s a))) 0 (nn (R 5)) ^^^ (-1))
theorem m_onlyTogether (n : Nat) : okC n (fX9_onlyTogether) (fX10_onlyTogether) := by
  refine look1 (fun R Z s => (ofd (sOt R Z s) (ofd (sKo Z (sKn R Z s 63)) 0 (nn (R 5))) (nn (R 3)) : Int32)) (fun R Z s => (0 : Int32)) (-1) ?_ ?_ ?_ ?_ ?_
  · intro σ w R Z s h0 hk h7 h
    unfold fX9_onlyTogether
    have h64 := p2_le (x_Fb h.1)
    have hHb := x_Hb h.1
    have hQb := x_Qb h.1
    have hNb := x_Nb h.1
    have hSb := x_Sb h.1
    rw [if_neg (by rw [h7]; decide)]
    rw [h0, ogd_d hk, ogd_d hk, all_eq h, obi_s, settled_eq h.1 (sKn_sub _ _ _ _), obi_s]
    refine lup0 (g := fun f b k => fX9_onlyTogether_b38 f w b (oi k) σ) (step := sOt R Z s) (fin := fun b => some (b, sI σ 0 9 0)) (n := nn (R 3)) ?_ ?_ oF (by unfold oF; omega)
    · intro f b k hk'
      show fX9_onlyTogether_b38 (f + 1) w b (oi k) σ = fX9_onlyTogether_b38 f w _ (oi (k + 1)) σ
      rw [fX9_onlyTogether_b38, h0, ogd_d hk, x_H h.1, if_neg (by rw [oi_le (by omega) (by omega)]; omega), ogd_d hk, ofK_eq h hk', obi_s, settled_eq h.1 (sKn_sub _ _ _ _), obi_s, oi_succ]; rfl
    · intro f b
      show fX9_onlyTogether_b38 (f + 1) w b (oi _) σ = _
      rw [fX9_onlyTogether_b38, h0, ogd_d hk, x_H h.1, if_pos ((oi_le (by omega) (by omega)).mpr (Nat.le_refl _))]; rfl
  · intro σ h
    unfold fX10_onlyTogether
    rw [good_eq, obv_s]
    generalize gd σ = τ at h ⊢
    have h64 := p2_le h.2.1.1.1.2
    have hHb := h.2.1.1.2.2.1.2
    have hQb := h.2.1.1.2.2.2.2.1.2
    have hNb := h.2.2.2.1.2
    have hSb := h.2.1.1.2.2.2.2.2.1.2
    rw [if_neg (by rw [h.1]; decide)]
    have hH := h.2.1.1.2.2.1
    have hQ := h.2.1.1.2.2.2.2.1
    rw [kn_r h, obi_s, knownOf_eq hQ, obi_s]
    refine lup0 (g := fun f b k => fX10_onlyTogether_b30 f b (oi k) τ) (step := sOt (mI τ 84) (mL τ 86) (mI τ 88)) (fin := fun b => some (b, τ)) (n := nn (mI τ 84 3)) ?_ ?_ oF (by unfold oF; omega)
    · intro f b k hk'
      show fX10_onlyTogether_b30 (f + 1) b (oi k) τ = fX10_onlyTogether_b30 f _ (oi (k + 1)) τ
      rw [fX10_onlyTogether_b30, hH.1, if_neg (by rw [oi_le (by omega) (by omega)]; omega), kin_r h hk', obi_s, kn_r h, obi_s, knownOf_eq hQ, obi_s, oi_succ]; rfl
    · intro f b
      show fX10_onlyTogether_b30 (f + 1) b (oi _) τ = _
      rw [fX10_onlyTogether_b30, hH.1, nn_oi (nn_lt _), if_pos ((oi_le (by omega) (by omega)).mpr (Nat.le_refl _))]
  · intro R Z s; decide
  · intro σ w h0 hk h
    unfold fX9_onlyTogether
    rw [if_pos h.1.1]; rfl
  · intro σ h
    unfold fX10_onlyTogether
    rw [good_eq, obv_s]
    generalize gd σ = τ at h ⊢
    rw [if_pos h]; rfl
theorem m_chanceOf (n : Nat) (x : Int32) (y : Int32) (lo : Bool) : okC n (fX9_chanceOf x y (b2 lo)) (fX10_chanceOf x y (b2 lo)) := by
  refine look1 (fun R Z s => (if (oin x (nn (R 3)) && oin y (nn (R 5))) = true then (if sKn R Z s (sKin s (nn x)) = 0 then -1 else sFr (sWt R (sKn R Z s (sKin s (nn x)) &&& Z (nn y))) (sWt R (sKn R Z s (sKin s (nn x)))) lo) else -1 : Int64)) (fun R Z s => (if (oin x (nn (R 3)) && oin y (nn (R 5))) = true then (if sKn R Z s (sKin s (nn x)) = 0 then 6 else 0) else 1 : Int32)) (-1) ?_ ?_ ?_ ?_ ?_
  · intro σ w R Z s h0 hk h7 h
    unfold fX9_chanceOf
    have h64 := p2_le (x_Fb h.1)
    have hHb := x_Hb h.1
    have hQb := x_Qb h.1
    have hNb := x_Nb h.1
    have hSb := x_Sb h.1
    rw [isH_c h.1 h0 hk, obi_s]
    cases hb0 : oin x (nn (R 3))
    · rw [if_pos (by decide)]; rfl
    obtain ⟨a, ha, ha2, rfl⟩ := oin_iff hb0
    rw [if_neg (by decide)]
    rw [isQ_c h.1 h0 hk, obi_s]
    cases hb1 : oin y (nn (R 5))
    · rw [if_pos (by decide)]; rfl
    obtain ⟨b, hb, hb2, rfl⟩ := oin_iff hb1
    rw [if_neg (by decide)]
    rw [h0, ogd_d hk, ofK_eq h ha, obi_s, nn_oi ha2, nn_oi hb2]
    simp only [cmp_eq]
    by_cases e : sKn R Z s (sKin s a) = 0
    · rw [if_pos e, if_pos e, if_pos e]; rfl
    · rw [if_neg e, if_neg e, if_neg e, chanceIn_eq h.1 h0 hk (sKn_sub _ _ _ _) e hb lo, obi_s]; rfl
  · intro σ h
    unfold fX10_chanceOf
    rw [good_eq, obv_s]
    generalize gd σ = τ at h ⊢
    have h64 := p2_le h.2.1.1.1.2
    have hHb := h.2.1.1.2.2.1.2
    have hQb := h.2.1.1.2.2.2.2.1.2
    have hNb := h.2.2.2.1.2
    have hSb := h.2.1.1.2.2.2.2.2.1.2
    rw [isH_r h, obi_s]
    cases hb0 : oin x (nn (mI τ 84 3))
    · rw [if_pos (by decide)]; rfl
    obtain ⟨a, ha, ha2, rfl⟩ := oin_iff hb0
    rw [if_neg (by decide)]
    rw [isQ_r h, obi_s]
    cases hb1 : oin y (nn (mI τ 84 5))
    · rw [if_pos (by decide)]; rfl
    obtain ⟨b, hb, hb2, rfl⟩ := oin_iff hb1
    rw [if_neg (by decide)]
    rw [kin_r h ha, obi_s, kn_r h, obi_s, nn_oi ha2, nn_oi hb2]
    simp only [cmp_eq]
    by_cases e : sKn (mI τ 84) (mL τ 86) (mI τ 88) (sKin (mI τ 88) a) = 0
    · rw [if_pos e, if_pos e, if_pos e]; rfl
    · have l1 := wt_le h.2.1 (sKn (mI τ 84) (mL τ 86) (mI τ 88) (sKin (mI τ 88) a) &&& mL τ 86 b)
      have l2 := wt_le h.2.1 (sKn (mI τ 84) (mL τ 86) (mI τ 88) (sKin (mI τ 88) a))
      have l3 := wt_pos h.2.1 e
      rw [if_neg e, if_neg e, if_neg e, ogi (by omega) (by omega), oi_nat (by omega), weight_eq h.2.1.1.1 h.2.1.2.1, obi_s, weight_eq h.2.1.1.1 h.2.1.2.1, obi_s, lowest_eq (by omega) (by omega) l3, obi_s]; rfl
  · intro R Z s; (try dsimp only); split <;> first | decide | (split <;> decide)
  · intro σ w h0 hk h
    unfold fX9_chanceOf
    rw [nH_c h h0 hk, obi_s, if_pos rfl]; rfl
  · intro σ h
    unfold fX10_chanceOf
    rw [good_eq, obv_s]
    generalize gd σ = τ at h ⊢
    rw [nH_r h, obi_s, if_pos rfl]; rfl
theorem m_wouldKnow (n : Nat) (x : Int32) (y : Int32) (yes : Bool) : okC n (fX9_wouldKnow x y (b2 yes)) (fX10_wouldKnow x y (b2 yes)) := by
  refine look1 (fun R Z s => (if (oin x (nn (R 3)) && oin y (nn (R 5))) = true then (if sKn R Z s (sKin s (nn x)) &&& sYn Z (nn y) yes = 0 then -2 else ofd (sKo Z (sKn R Z s (sKin s (nn x)) &&& sYn Z (nn y) yes)) 0 (nn (R 5))) else -1 : Int32)) (fun R Z s => (sTr (oin x (nn (R 3)) && oin y (nn (R 5))) : Int32)) (-1) ?_ ?_ ?_ ?_ ?_
  · intro σ w R Z s h0 hk h7 h
    unfold fX9_wouldKnow
    have h64 := p2_le (x_Fb h.1)
    have hHb := x_Hb h.1
    have hQb := x_Qb h.1
    have hNb := x_Nb h.1
    have hSb := x_Sb h.1
    rw [isH_c h.1 h0 hk, obi_s]
    cases hb0 : oin x (nn (R 3))
    · rw [if_pos (by decide)]; rfl
    obtain ⟨a, ha, ha2, rfl⟩ := oin_iff hb0
    rw [if_neg (by decide)]
    rw [isQ_c h.1 h0 hk, obi_s]
    cases hb1 : oin y (nn (R 5))
    · rw [if_pos (by decide)]; rfl
    obtain ⟨b, hb, hb2, rfl⟩ := oin_iff hb1
    rw [if_neg (by decide)]
    rw [h0, ogd_d hk, ofK_eq h ha, obi_s, h0, ogd_d hk, worldsWith_eq h.1 hb, obi_s, nn_oi ha2, nn_oi hb2, sub_drop (sKn_sub _ _ _ _)]
    simp only [cmp_eq]
    by_cases e : sKn R Z s (sKin s a) &&& sYn Z b yes = 0
    · rw [if_pos e, if_pos e]; rfl
    · rw [if_neg e, if_neg e, h0, ogd_d hk, settled_eq h.1 (sub_an _ (sKn_sub _ _ _ _)), obi_s]; rfl
  · intro σ h
    unfold fX10_wouldKnow
    rw [good_eq, obv_s]
    generalize gd σ = τ at h ⊢
    have h64 := p2_le h.2.1.1.1.2
    have hHb := h.2.1.1.2.2.1.2
    have hQb := h.2.1.1.2.2.2.2.1.2
    have hNb := h.2.2.2.1.2
    have hSb := h.2.1.1.2.2.2.2.2.1.2
    rw [isH_r h, obi_s]
    cases hb0 : oin x (nn (mI τ 84 3))
    · rw [if_pos (by decide)]; rfl
    obtain ⟨a, ha, ha2, rfl⟩ := oin_iff hb0
    rw [if_neg (by decide)]
    rw [isQ_r h, obi_s]
    cases hb1 : oin y (nn (mI τ 84 5))
    · rw [if_pos (by decide)]; rfl
    obtain ⟨b, hb, hb2, rfl⟩ := oin_iff hb1
    rw [if_neg (by decide)]
    have hQ := h.2.1.1.2.2.2.2.1
    have go : ∀ z, fX10_wouldKnow_b58 (sKn (mI τ 84) (mL τ 86) (mI τ 88) (sKin (mI τ 88) a)) z τ = some (if sKn (mI τ 84) (mL τ 86) (mI τ 88) (sKin (mI τ 88) a) &&& z = 0 then -2 else ofd (sKo (mL τ 86) (sKn (mI τ 84) (mL τ 86) (mI τ 88) (sKin (mI τ 88) a) &&& z)) 0 (nn (mI τ 84 5)), τ) := by
      intro z
      unfold fX10_wouldKnow_b58
      simp only [cmp_eq]
      split
      · rfl
      · rw [knownOf_eq hQ, obi_s]
    rw [kin_r h ha, obi_s, kn_r h, obi_s, ogi (by omega) (by omega), ogi (by omega) (by omega), oi_nat (by omega), go, go, nn_oi ha2, nn_oi hb2]
    cases yes
    · rw [if_pos (by decide)]; rfl
    · rw [if_neg (by decide)]; rfl
  · intro R Z s; exact sTr_ne _
  · intro σ w h0 hk h
    unfold fX9_wouldKnow
    rw [nH_c h h0 hk, obi_s, if_pos rfl]; rfl
  · intro σ h
    unfold fX10_wouldKnow
    rw [good_eq, obv_s]
    generalize gd σ = τ at h ⊢
    rw [nH_r h, obi_s, if_pos rfl]; rfl
