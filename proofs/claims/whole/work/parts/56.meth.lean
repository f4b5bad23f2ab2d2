def sTo (R : Nat → Int32) (Z : Nat → Int64) (s : Nat → Int32) (k : Nat) (y : Int32) : Int32 :=
  if y = 0 then s (2 + 3 * k) else if y = 1 then s (3 + 3 * k) else if y = 2 then s (4 + 3 * k) else if y = 3 then b2 (decide (sTk R Z s k = 0)) else if y = 4 then oi (cnt (fun j => decide (j ≠ k) && sCl Z s k j) (nn (s 1))) else -1
theorem oin5 {y : Int32} (h : oin y 5 = true) : y = 0 ∨ y = 1 ∨ y = 2 ∨ y = 3 ∨ y = 4 := by
  obtain ⟨b, hb, -, rfl⟩ := oin_iff h
  match b, hb with
  | 0, _ => exact Or.inl rfl
  | 1, _ => exact Or.inr (Or.inl rfl)
  | 2, _ => exact Or.inr (Or.inr (Or.inl rfl))
  | 3, _ => exact Or.inr (Or.inr (Or.inr (Or.inl rfl)))
  | 4, _ => exact Or.inr (Or.inr (Or.inr (Or.inr rfl)))
  | b + 5, hb => omega
theorem not5 {y : Int32} (h : oin y 5 = false) : ¬ y = 0 ∧ ¬ y = 1 ∧ ¬ y = 2 ∧ ¬ y = 3 ∧ ¬ y = 4 := by
  refine ⟨fun e => ?_, fun e => ?_, fun e => ?_, fun e => ?_, fun e => ?_⟩ <;> (rw [e] at h; exact absurd h (by decide))
theorem toldC_eq {τ : OM} (h : RB τ) {k : Nat} (hk : k < nn (mI τ 88 1)) : fX10_told_b69 oF (oi k) 0 (oi 0) τ = some (oi (cnt (fun j => decide (j ≠ k) && sCl (mL τ 86) (mI τ 88) k j) (nn (mI τ 88 1))), τ) := by
  obtain ⟨-, hA, -, -, -⟩ := h.2.2
  have hNb := hA.2
  rw [← cnt_ofd]
  refine lup0 (g := fun f v j => fX10_told_b69 f (oi k) (oi v) (oi j) τ) (a := 0) (step := fun j v => v + if (decide (j ≠ k) && sCl (mL τ 86) (mI τ 88) k j) then 1 else 0) (fin := fun v => some (oi v, τ)) (n := nn (mI τ 88 1)) ?_ ?_ oF (by unfold oF; omega)
  · intro f v j hj
    show fX10_told_b69 (f + 1) (oi k) (oi v) (oi j) τ = fX10_told_b69 f (oi k) (oi (v + if (decide (j ≠ k) && sCl (mL τ 86) (mI τ 88) k j) then 1 else 0)) (oi (j + 1)) τ
    rw [fX10_told_b69, hA.1, if_neg (by rw [oi_le (by omega) (by omega)]; omega)]
    by_cases e : j = k
    · rw [if_pos (by rw [e]), oi_succ, Int32.add_zero, decide_eq_false (fun h => h e)]; rfl
    · rw [if_neg (by rw [oi_inj (by omega) (by omega)]; exact e), doClash_eq h hj hk, obi_s, sCl_comm, decide_eq_true e]
      cases sCl (mL τ 86) (mI τ 88) k j
      · rw [if_pos (by decide), oi_succ, Int32.add_zero]; rfl
      · rw [if_neg (by decide), oi_succ, oi_succ]; rfl
  · intro f v
    show fX10_told_b69 (f + 1) (oi k) (oi v) (oi _) τ = _
    rw [fX10_told_b69, hA.1, nn_oi (nn_lt _), if_pos ((oi_le (by omega) (by omega)).mpr (Nat.le_refl _))]
theorem m_told (n : Nat) (x y : Int32) : okC n (fX9_told x y) (fX10_told x y) := by
  refine look1 (fun R Z s => if oin x (nn (s 1)) = true then sTo R Z s (nn x) y else -1) (fun R Z s => sTr (oin x (nn (s 1)) && oin y 5)) (-1) ?_ ?_ (fun R Z s => sTr_ne _) ?_ ?_
  · intro σ w R Z s h0 hk h7 h
    unfold fX9_told
    have hNb := x_Nb h.1
    rw [isA_c h.1 h0 hk, obi_s]
    cases hb0 : oin x (nn (s 1))
    · rw [if_pos (by decide)]; rfl
    obtain ⟨a, ha, ha2, rfl⟩ := oin_iff hb0
    obtain ⟨q1, -⟩ := x_h h.1 ha
    obtain ⟨q2, -⟩ := x_q h.1 ha
    obtain ⟨t1, -, t2, -, t3⟩ := h.1.1.2.2.2.1 a ha
    rw [if_neg (by decide), nn_oi ha2, h0]
    cases hb1 : oin y 5
    · obtain ⟨n0, n1, n2, n3, n4⟩ := not5 hb1
      unfold sTo
      rw [if_neg n0, if_neg n1, if_neg n2, if_neg n3, if_neg n4, if_neg n0, if_neg n1, if_neg n2, if_neg n3, if_neg n4]; rfl
    · unfold sTo
      rcases oin5 hb1 with rfl | rfl | rfl | rfl | rfl
      · rw [if_pos rfl, ogd_d hk, ogi (by omega) (by omega), oi_nat (by omega), q1, ← t1.1]; rfl
      · rw [if_neg (by decide), if_pos rfl, ogd_d hk, ogi (by omega) (by omega), oi_nat (by omega), q2, ← t2.1]; rfl
      · rw [if_neg (by decide), if_neg (by decide), if_pos rfl, ogd_d hk, ogi (by omega) (by omega), oi_nat (by omega), x_y h.1 ha]
        rcases t3 with t3 | t3 <;> rw [t3] <;> rfl
      · rw [if_neg (by decide), if_neg (by decide), if_neg (by decide), if_pos rfl, ogd_d hk, takenBy_eq h ha, obi_s, ite_iff (oi_ne0 (by have := pc_le (sLeft Z s 63 (oi (sTu Z s (nn (R 3)))) a &&& (sAns Z s a (tw (oi (sTu Z s (nn (R 3)))) (nn (s (2 + 3 * a)))) ^^^ (-1))); unfold sTk; omega))]
        by_cases e : sTk R Z s a = 0
        · rw [if_pos e, decide_eq_true e]; rfl
        · rw [if_neg e, decide_eq_false e]; rfl
      · rw [if_neg (by decide), if_neg (by decide), if_neg (by decide), if_neg (by decide), if_pos rfl, ogd_d hk]
        have e := clashesOf_eq h.1 ha (Nat.zero_le _)
        rw [show fX3_clashesOf w (oi a) 0 σ = fX3_clashesOf w (oi a) (oi 0) σ from rfl, e, obi_s]
        simp only [Nat.zero_add, Nat.sub_zero]
        rfl
  · intro σ h
    unfold fX10_told
    rw [good_eq, obv_s]
    generalize gd σ = τ at h ⊢
    have hNb := h.2.2.2.1.2
    rw [isA_r h, obi_s]
    cases hb0 : oin x (nn (mI τ 88 1))
    · rw [if_pos (by decide)]; rfl
    obtain ⟨a, ha, ha2, rfl⟩ := oin_iff hb0
    rw [if_neg (by decide), nn_oi ha2]
    have hin := in_r y (N := 5) (by decide) τ
    rw [show fX10_in y 0 4 τ = fX10_in y 0 (oi 5 - 1) τ from rfl, hin, obi_s]
    show _ = some (sTo (mI τ 84) (mL τ 86) (mI τ 88) a y, ft (sTr (oin y 5)) τ)
    cases hb1 : oin y 5
    · obtain ⟨n0, n1, n2, n3, n4⟩ := not5 hb1
      unfold sTo
      rw [if_pos (by decide), if_neg n0, if_neg n1, if_neg n2, if_neg n3, if_neg n4]; rfl
    · rcases oin5 hb1 with rfl | rfl | rfl | rfl | rfl
      · rw [if_neg (by decide), if_neg (by decide), show ((2 : Int32) + (3 : Int32) * oi a) + (0 : Int32) = oi (2 + 3 * a) by rw [Int32.add_zero, ix2], ogi (by omega) (by omega), oi_nat (by omega)]; rfl
      · rw [if_neg (by decide), if_neg (by decide), ix3, ogi (by omega) (by omega), oi_nat (by omega)]; rfl
      · rw [if_neg (by decide), if_neg (by decide), ix4, ogi (by omega) (by omega), oi_nat (by omega)]; rfl
      · have lp := pc_le (sLeft (mL τ 86) (mI τ 88) 63 (oi (sTu (mL τ 86) (mI τ 88) (nn (mI τ 84 3)))) a &&& (sAns (mL τ 86) (mI τ 88) a (tw (oi (sTu (mL τ 86) (mI τ 88) (nn (mI τ 84 3)))) (nn (mI τ 88 (2 + 3 * a)))) ^^^ (-1)))
        have lq : sTk (mI τ 84) (mL τ 86) (mI τ 88) a ≤ 64 := lp
        rw [if_neg (by decide), if_pos (by decide), if_pos rfl, takesOf_eq h ha, obi_s, ite_iff (oi_ne0 (by omega))]
        show _ = some (b2 (decide (sTk (mI τ 84) (mL τ 86) (mI τ 88) a = 0)), τ)
        by_cases e : sTk (mI τ 84) (mL τ 86) (mI τ 88) a = 0
        · rw [if_pos e, decide_eq_true e]; rfl
        · rw [if_neg e, decide_eq_false e]; rfl
      · rw [if_neg (by decide), if_pos (by decide), if_neg (by decide)]
        exact toldC_eq h ha
  · intro σ w h0 hk h
    unfold fX9_told
    rw [nA_c h h0 hk, obi_s, if_pos rfl]; rfl
  · intro σ h
    unfold fX10_told
    rw [good_eq, obv_s]
    generalize gd σ = τ at h ⊢
    rw [nA_r h, obi_s, if_pos rfl]; rfl
/-! answers that could be left out -/
def sNx (Z : Nat → Int64) (s : Nat → Int32) (hs ls : Int32) (k : Nat) : Int64 := ofd (sLx Z s (some k) hs ls) (Z 8) (nn (s 1))
def sNe (Z : Nat → Int64) (s : Nat → Int32) (hs ls : Int32) (k : Nat) (b : Int32) : Int32 := if tw hs (nn (s (2 + 3 * k))) = true ∧ pc (sNx Z s hs ls k) = pc (sLeft Z s hs ls (nn (s 1))) then b ||| (1 : Int32) <<< (oi k &&& 31) else b
theorem lx_sup (Z : Nat → Int64) (s : Nat → Int32) (hs ls : Int32) (k : Nat) : ∀ n i, tb (ofd (sLs Z s hs ls) (Z 8) n) i = true → tb (ofd (sLx Z s (some k) hs ls) (Z 8) n) i = true := by
  intro n
  induction n with
  | zero => intro i h; exact h
  | succ n ih =>
    intro i h
    have h' : tb (sLs Z s hs ls n (ofd (sLs Z s hs ls) (Z 8) n)) i = true := h
    show tb (sLx Z s (some k) hs ls n (ofd (sLx Z s (some k) hs ls) (Z 8) n)) i = true
    have ih := ih i
    revert ih h'
    generalize ofd (sLs Z s hs ls) (Z 8) n = X
    generalize ofd (sLx Z s (some k) hs ls) (Z 8) n = Y
    intro h' ih
    unfold sLx
    unfold sLs at h'
    split
    · split at h'
      · rw [tb_and] at h'; exact ih (Bool.and_eq_true_iff.mp h').1
      · exact ih h'
    · unfold sLs
      split at h'
      · rename_i hc
        rw [if_pos hc]
        rw [tb_and] at h' ⊢
        have h2 := Bool.and_eq_true_iff.mp h'
        rw [ih h2.1, h2.2]; rfl
      · rename_i hc
        rw [if_neg hc]; exact ih h'
theorem nx_iff (Z : Nat → Int64) (s : Nat → Int32) (hs ls : Int32) (k : Nat) : sNx Z s hs ls k = sLeft Z s hs ls (nn (s 1)) ↔ pc (sNx Z s hs ls k) = pc (sLeft Z s hs ls (nn (s 1))) := by
  refine ⟨fun e => by rw [e], fun e => ?_⟩
  refine (tb_ext (fun i hi => ?_)).symm
  exact cnt_same (p := tb (sLeft Z s hs ls (nn (s 1)))) (q := tb (sNx Z s hs ls k)) (n := 64) (fun i _ h => lx_sup Z s hs ls k _ i h) e.symm i hi
theorem m_needless (n : Nat) (x : Int32) : okC n (fX9_needless x) (fX10_needless x) := by
  refine look1 (fun R Z s => (if (oin x (nn (R 3))) = true then ofd (sNe Z s (sKin s (nn x)) (oi (sTu Z s (nn (R 3))))) 0 (nn (s 1)) else -1 : Int32)) (fun R Z s => (sTr (oin x (nn (R 3))) : Int32)) (-1) ?_ ?_ ?_ ?_ ?_
  · intro σ w R Z s h0 hk h7 h
    unfold fX9_needless
    have h64 := p2_le (x_Fb h.1)
    have hHb := x_Hb h.1
    have hQb := x_Qb h.1
    have hNb := x_Nb h.1
    have hSb := x_Sb h.1
    rw [isH_c h.1 h0 hk, obi_s]
    cases hb0 : oin x (nn (R 3))
    · rw [if_pos (by decide)]; rfl
    obtain ⟨a, ha, ha2, rfl⟩ := oin_iff hb0
    rw [if_neg (by decide)]
    rw [h0, ogd_d hk, ogd_d hk, kinOf_c (s := s) (fun i hi => x_w h.1 hi), obi_s, nn_oi ha2]
    generalize hK : sKin s a = K
    have key : fX3_needlessTo w K σ = some (ofd (sNe Z s K (oi (sTu Z s (nn (R 3))))) 0 (nn (s 1)), σ) := by
      unfold fX3_needlessTo
      rw [by_eq h.1 (w_li h), obi_s]
      refine lup0 (g := fun f b k => fX3_needlessTo_b12 f w K (sLeft Z s K (oi (sTu Z s (nn (R 3)))) (nn (s 1))) b (oi k) σ) (step := sNe Z s K (oi (sTu Z s (nn (R 3))))) (fin := fun b => some (b, σ)) (n := nn (s 1)) ?_ ?_ oF (by unfold oF; omega)
      · intro f b k hk'
        obtain ⟨c, d⟩ := x_h h.1 hk'
        show fX3_needlessTo_b12 (f + 1) w K _ b (oi k) σ = fX3_needlessTo_b12 f w K _ _ (oi (k + 1)) σ
        rw [fX3_needlessTo_b12, x_N h.1, if_neg (by rw [oi_le (by omega) (by omega)]; omega), lt20, if_neg (by rw [oi_le (by omega) (by omega)]; omega), ogi (by omega) (by omega), oi_nat (by omega), c, bitOfW_eq _ (by omega), obi_s]
        unfold sNe
        cases hb : tw K (nn (s (2 + 3 * k)))
        · rw [if_neg (by decide), if_neg (by intro e; cases e.1), oi_succ]
        · rw [if_pos (by decide)]
          have e1 := without_eq h.1 (w_li h) (some k) (fun m e => by cases e; omega) K
          rw [show fX3_worldsWithout w (oi k) K σ = fX3_worldsWithout w (oLo (some k)) K σ from rfl, e1, obi_s]
          show (if lg_cmp (sNx Z s K (oi (sTu Z s (nn (R 3)))) k) (sLeft Z s K (oi (sTu Z s (nn (R 3)))) (nn (s 1))) = 0 then _ else _) = _
          rw [ite_iff ((cmp_eq _ _).trans (nx_iff _ _ _ _ _))]
          by_cases e : pc (sNx Z s K (oi (sTu Z s (nn (R 3)))) k) = pc (sLeft Z s K (oi (sTu Z s (nn (R 3)))) (nn (s 1)))
          · rw [if_pos e, if_pos ⟨rfl, e⟩, oi_succ]
          · rw [if_neg e, if_neg (fun e2 => e e2.2), oi_succ]
      · intro f b
        show fX3_needlessTo_b12 (f + 1) w K _ b (oi _) σ = _
        rw [fX3_needlessTo_b12, x_N h.1, if_pos ((oi_le (by omega) (by omega)).mpr (Nat.le_refl _))]
    rw [key, obi_s]; rfl
  · intro σ h
    unfold fX10_needless
    rw [good_eq, obv_s]
    generalize gd σ = τ at h ⊢
    have h64 := p2_le h.2.1.1.1.2
    have hHb := h.2.1.1.2.2.1.2
    have hQb := h.2.1.1.2.2.2.2.1.2
    have hNb := h.2.2.2.1.2
    have hSb := h.2.1.1.2.2.2.2.2.1.2
    rw [isH_r h, obi_s]
    cases hb0 : oin x (nn (mI τ 84 3))
    · rw [if_pos (by decide)]; rfl
    obtain ⟨a, ha, ha2, rfl⟩ := oin_iff hb0
    rw [if_neg (by decide)]
    obtain ⟨-, hA, hk0, -, -⟩ := h.2.2
    rw [kin_r h ha, obi_s, turnedOf_eq h.2.2 hQb h.2.1.1.2.2.1, obi_s, show mI τ 88 1 = oi (nn (mI τ 88 1)) from hA.1, leftBy_eq h.2.2 hQb _ _ (Nat.le_refl _), obi_s, ones_eq, obi_s, nn_oi ha2, nn_oi (nn_lt _)]
    generalize sKin (mI τ 88) a = K
    generalize oi (sTu (mL τ 86) (mI τ 88) (nn (mI τ 84 3))) = L
    generalize hP : pc (sLeft (mL τ 86) (mI τ 88) K L (nn (mI τ 88 1))) = P
    have hPl : P ≤ 64 := by rw [← hP]; exact pc_le _
    have hin : ∀ (rc : Int32 → Int32 → Int32 → Int32 → Int32 → OM → Option (Int32 × OM)) (b : Int32) (k : Nat), k < nn (mI τ 88 1) → fX10_needless_b96 rc oF K L (oi P) b (oi k) (mL τ 86 8) (oi 0) τ = rc K L (oi P) (if pc (sNx (mL τ 86) (mI τ 88) K L k) = P then b ||| (1 : Int32) <<< (oi k &&& 31) else b) (oi (k + 1)) τ := by
      intro rc b k hk'
      refine (lup0 (g := fun f x j => fX10_needless_b96 rc f K L (oi P) b (oi k) x (oi j) τ) (step := sLx (mL τ 86) (mI τ 88) (some k) K L) (fin := fun x => fX10_needless_b164 rc K L (oi P) b (oi k) x τ) (n := nn (mI τ 88 1)) ?_ ?_ oF (by unfold oF; omega)).trans ?_
      · intro f x j hj
        obtain ⟨b1, -, b3, -, -⟩ := hk0 j hj
        show fX10_needless_b96 rc (f + 1) K L (oi P) b (oi k) x (oi j) τ = fX10_needless_b96 rc f K L (oi P) b (oi k) _ (oi (j + 1)) τ
        rw [fX10_needless_b96, hA.1, if_neg (by rw [oi_le (by omega) (by omega)]; omega)]
        unfold sLx
        by_cases e : j = k
        · rw [if_pos (by rw [e]), if_pos (by rw [e]), oi_succ]
        · obtain ⟨u, hu, hx⟩ := bd_ex b1
          rw [if_neg (by rw [oi_inj (by omega) (by omega)]; exact e), if_neg (fun e2 => e (Option.some.inj e2).symm), ix2, ogi (by omega) (by omega), oi_nat (by omega), hx, hasBit_eq _ (by omega), obi_s]
          unfold sLs
          rw [hx, nn_oi (by omega)]
          cases hh : tw K u
          · rw [if_pos (by decide), if_neg (by decide), oi_succ]
          · rw [if_neg (by decide), if_pos rfl, ogi (by omega) (by omega), hasBit_eq _ (by omega), obi_s, answerSet_eq (by omega) (bd_mono b3 (by omega)), obi_s, oi_succ]
      · intro f x
        show fX10_needless_b96 rc (f + 1) K L (oi P) b (oi k) x (oi _) τ = _
        rw [fX10_needless_b96, hA.1, nn_oi (nn_lt _), if_pos ((oi_le (by omega) (by omega)).mpr (Nat.le_refl _))]
      · show fX10_needless_b164 rc K L (oi P) b (oi k) (sNx (mL τ 86) (mI τ 88) K L k) τ = _
        have l := pc_le (sNx (mL τ 86) (mI τ 88) K L k)
        unfold fX10_needless_b164
        rw [ones_eq, obi_s, ite_iff (oi_inj (by omega) (by omega)), oi_succ, Int32.or_zero]
        split <;> rfl
    refine lup0 (g := fun f b k => fX10_needless_b52 f K L (oi P) b (oi k) τ) (step := sNe (mL τ 86) (mI τ 88) K L) (fin := fun b => some (b, τ)) (n := nn (mI τ 88 1)) ?_ ?_ oF (by unfold oF; omega)
    · intro f b k hk'
      obtain ⟨b1, -, -, -, -⟩ := hk0 k hk'
      obtain ⟨u, hu, hx⟩ := bd_ex b1
      show fX10_needless_b52 (f + 1) K L (oi P) b (oi k) τ = fX10_needless_b52 f K L (oi P) _ (oi (k + 1)) τ
      rw [fX10_needless_b52, hA.1, if_neg (by rw [oi_le (by omega) (by omega)]; omega), ix2, ogi (by omega) (by omega), oi_nat (by omega), hx, hasBit_eq _ (by omega), obi_s]
      unfold sNe
      rw [hx, nn_oi (by omega), hP]
      cases hh : tw K u
      · rw [if_pos (by decide), if_neg (by intro e; cases e.1), oi_succ]
      · rw [if_neg (by decide)]
        refine (hin _ b k hk').trans ?_
        congr 1
        by_cases e : pc (sNx (mL τ 86) (mI τ 88) K L k) = P
        · rw [if_pos e, if_pos ⟨rfl, e⟩]
        · rw [if_neg e, if_neg (fun e2 => e e2.2)]
    · intro f b
      show fX10_needless_b52 (f + 1) K L (oi P) b (oi _) τ = _
      rw [fX10_needless_b52, hA.1, nn_oi (nn_lt _), if_pos ((oi_le (by omega) (by omega)).mpr (Nat.le_refl _))]
  · intro R Z s; exact sTr_ne _
  · intro σ w h0 hk h
    unfold fX9_needless
    rw [nH_c h h0 hk, obi_s, if_pos rfl]; rfl
  · intro σ h
    unfold fX10_needless
    rw [good_eq, obv_s]
    generalize gd σ = τ at h ⊢
    rw [nH_r h, obi_s, if_pos rfl]; rfl
