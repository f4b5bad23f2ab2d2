theorem m_canBe (n : Nat) (x : Int32) : okC n (fX9_canBe x) (fX10_canBe x) := by
  refine look1 (fun R Z s => (if (oin x (2 ^ nn (R 1))) = true then b2 (tb (Z 8) (nn x)) else -1 : Int32)) (fun R Z s => (sTr (oin x (2 ^ nn (R 1))) : Int32)) (-1) ?_ ?_ ?_ ?_ ?_
  · intro σ w R Z s h0 hk h7 h
    unfold fX9_canBe
    have h64 := p2_le (x_Fb h.1)
    have hHb := x_Hb h.1
    have hQb := x_Qb h.1
    have hNb := x_Nb h.1
    have hSb := x_Sb h.1
    rw [isW_c h.1 h0 hk h7, obi_s]
    cases hb0 : oin x (2 ^ nn (R 1))
    · rw [if_pos (by decide)]; rfl
    obtain ⟨a, ha, ha2, rfl⟩ := oin_iff hb0
    rw [if_neg (by decide)]
    rw [h0, ogd_d hk, x_C h.1, bitOf_eq _ (by omega), obi_s, nn_oi ha2]; rfl
  · intro σ h
    unfold fX10_canBe
    rw [good_eq, obv_s]
    generalize gd σ = τ at h ⊢
    have h64 := p2_le h.2.1.1.1.2
    have hHb := h.2.1.1.2.2.1.2
    have hQb := h.2.1.1.2.2.2.2.1.2
    have hNb := h.2.2.2.1.2
    have hSb := h.2.1.1.2.2.2.2.2.1.2
    rw [isW_r h, obi_s]
    cases hb0 : oin x (2 ^ nn (mI τ 84 1))
    · rw [if_pos (by decide)]; rfl
    obtain ⟨a, ha, ha2, rfl⟩ := oin_iff hb0
    rw [if_neg (by decide)]
    rw [bitS _ (by omega), nn_oi ha2]
    cases tb (mL τ 86 8) a <;> rfl
  · intro R Z s; exact sTr_ne _
  · intro σ w h0 hk h
    unfold fX9_canBe
    rw [nW_c h, obi_s, if_pos rfl]; rfl
  · intro σ h
    unfold fX10_canBe
    rw [good_eq, obv_s]
    generalize gd σ = τ at h ⊢
    rw [nW_r h, obi_s, if_pos rfl]; rfl
theorem m_worlds (n : Nat) : okC n (fX9_worlds) (fX10_worlds) := by
  refine look1 (fun R Z s => (oi (pc (Z 8)) : Int32)) (fun R Z s => (0 : Int32)) (-1) ?_ ?_ ?_ ?_ ?_
  · intro σ w R Z s h0 hk h7 h
    unfold fX9_worlds
    have h64 := p2_le (x_Fb h.1)
    have hHb := x_Hb h.1
    have hQb := x_Qb h.1
    have hNb := x_Nb h.1
    have hSb := x_Sb h.1
    rw [if_neg (by rw [h7]; decide)]
    rw [h0, ogd_d hk, x_C h.1, bcL, obi_s]; rfl
  · intro σ h
    unfold fX10_worlds
    rw [good_eq, obv_s]
    generalize gd σ = τ at h ⊢
    have h64 := p2_le h.2.1.1.1.2
    have hHb := h.2.1.1.2.2.1.2
    have hQb := h.2.1.1.2.2.2.2.1.2
    have hNb := h.2.2.2.1.2
    have hSb := h.2.1.1.2.2.2.2.2.1.2
    rw [if_neg (by rw [h.1]; decide)]
    rw [ones_eq, obi_s]; rfl
  · intro R Z s; decide
  · intro σ w h0 hk h
    unfold fX9_worlds
    rw [if_pos h.1.1]; rfl
  · intro σ h
    unfold fX10_worlds
    rw [good_eq, obv_s]
    generalize gd σ = τ at h ⊢
    rw [if_pos h]; rfl
theorem m_odds (n : Nat) (x : Int32) : okC n (fX9_odds x) (fX10_odds x) := by
  refine look1 (fun R Z s => (if (oin x (2 ^ nn (R 1))) = true then oi (sOd R (nn x)) else -1 : Int32)) (fun R Z s => (sTr (oin x (2 ^ nn (R 1))) : Int32)) (-1) ?_ ?_ ?_ ?_ ?_
  · intro σ w R Z s h0 hk h7 h
    unfold fX9_odds
    have h64 := p2_le (x_Fb h.1)
    have hHb := x_Hb h.1
    have hQb := x_Qb h.1
    have hNb := x_Nb h.1
    have hSb := x_Sb h.1
    rw [isW_c h.1 h0 hk h7, obi_s]
    cases hb0 : oin x (2 ^ nn (R 1))
    · rw [if_pos (by decide)]; rfl
    obtain ⟨a, ha, ha2, rfl⟩ := oin_iff hb0
    rw [if_neg (by decide)]
    rw [h0, ogd_d hk, ogi (by omega) (by omega), oi_nat (by omega), x_W h.1 ha, nn_oi ha2]; rfl
  · intro σ h
    unfold fX10_odds
    rw [good_eq, obv_s]
    generalize gd σ = τ at h ⊢
    have h64 := p2_le h.2.1.1.1.2
    have hHb := h.2.1.1.2.2.1.2
    have hQb := h.2.1.1.2.2.2.2.1.2
    have hNb := h.2.2.2.1.2
    have hSb := h.2.1.1.2.2.2.2.2.1.2
    rw [isW_r h, obi_s]
    cases hb0 : oin x (2 ^ nn (mI τ 84 1))
    · rw [if_pos (by decide)]; rfl
    obtain ⟨a, ha, ha2, rfl⟩ := oin_iff hb0
    rw [if_neg (by decide)]
    rw [oddsOf_eq h.2.1.1.1 h.2.1.2.1 (by omega), obi_s, nn_oi ha2]; rfl
  · intro R Z s; exact sTr_ne _
  · intro σ w h0 hk h
    unfold fX9_odds
    rw [nW_c h, obi_s, if_pos rfl]; rfl
  · intro σ h
    unfold fX10_odds
    rw [good_eq, obv_s]
    generalize gd σ = τ at h ⊢
    rw [nW_r h, obi_s, if_pos rfl]; rfl
theorem m_isSo (n : Nat) (x : Int32) (y : Int32) : okC n (fX9_isSo x y) (fX10_isSo x y) := by
  refine look1 (fun R Z s => (if (oin x (nn (R 5)) && oin y (2 ^ nn (R 1))) = true then b2 (tb (Z (nn x)) (nn y)) else -1 : Int32)) (fun R Z s => (sTr (oin x (nn (R 5)) && oin y (2 ^ nn (R 1))) : Int32)) (-1) ?_ ?_ ?_ ?_ ?_
  · intro σ w R Z s h0 hk h7 h
    unfold fX9_isSo
    have h64 := p2_le (x_Fb h.1)
    have hHb := x_Hb h.1
    have hQb := x_Qb h.1
    have hNb := x_Nb h.1
    have hSb := x_Sb h.1
    rw [isQ_c h.1 h0 hk, obi_s]
    cases hb0 : oin x (nn (R 5))
    · rw [if_pos (by decide)]; rfl
    obtain ⟨a, ha, ha2, rfl⟩ := oin_iff hb0
    rw [if_neg (by decide)]
    rw [isW_c h.1 h0 hk h7, obi_s]
    cases hb1 : oin y (2 ^ nn (R 1))
    · rw [if_pos (by decide)]; rfl
    obtain ⟨b, hb, hb2, rfl⟩ := oin_iff hb1
    rw [if_neg (by decide)]
    rw [h0, ogd_d hk, soWorlds_eq (by omega), obi_s, bitOf_eq _ (by omega), obi_s, h.1.2.1.2.2.1.2 a ha b hb, nn_oi ha2, nn_oi hb2]; rfl
  · intro σ h
    unfold fX10_isSo
    rw [good_eq, obv_s]
    generalize gd σ = τ at h ⊢
    have h64 := p2_le h.2.1.1.1.2
    have hHb := h.2.1.1.2.2.1.2
    have hQb := h.2.1.1.2.2.2.2.1.2
    have hNb := h.2.2.2.1.2
    have hSb := h.2.1.1.2.2.2.2.2.1.2
    rw [isQ_r h, obi_s]
    cases hb0 : oin x (nn (mI τ 84 5))
    · rw [if_pos (by decide)]; rfl
    obtain ⟨a, ha, ha2, rfl⟩ := oin_iff hb0
    rw [if_neg (by decide)]
    rw [isW_r h, obi_s]
    cases hb1 : oin y (2 ^ nn (mI τ 84 1))
    · rw [if_pos (by decide)]; rfl
    obtain ⟨b, hb, hb2, rfl⟩ := oin_iff hb1
    rw [if_neg (by decide)]
    rw [ogi (by omega) (by omega), oi_nat (by omega), bitS _ (by omega), nn_oi ha2, nn_oi hb2]
    cases tb (mL τ 86 a) b <;> rfl
  · intro R Z s; exact sTr_ne _
  · intro σ w h0 hk h
    unfold fX9_isSo
    rw [nQ_c h h0 hk, obi_s, if_pos rfl]; rfl
  · intro σ h
    unfold fX10_isSo
    rw [good_eq, obv_s]
    generalize gd σ = τ at h ⊢
    rw [nQ_r h, obi_s, if_pos rfl]; rfl
theorem m_chance (n : Nat) (x : Int32) (lo : Bool) : okC n (fX9_chance x (b2 lo)) (fX10_chance x (b2 lo)) := by
  refine look1 (fun R Z s => (if (oin x (nn (R 5))) = true then sFr (sWt R (Z 8 &&& Z (nn x))) (sWt R (Z 8)) lo else -1 : Int64)) (fun R Z s => (sTr (oin x (nn (R 5))) : Int32)) (-1) ?_ ?_ ?_ ?_ ?_
  · intro σ w R Z s h0 hk h7 h
    unfold fX9_chance
    have h64 := p2_le (x_Fb h.1)
    have hHb := x_Hb h.1
    have hQb := x_Qb h.1
    have hNb := x_Nb h.1
    have hSb := x_Sb h.1
    rw [isQ_c h.1 h0 hk, obi_s]
    cases hb0 : oin x (nn (R 5))
    · rw [if_pos (by decide)]; rfl
    obtain ⟨a, ha, ha2, rfl⟩ := oin_iff hb0
    rw [if_neg (by decide)]
    rw [h0, ogd_d hk, x_C h.1, chanceIn_eq h.1 h0 hk Int64.and_self (x_ne h.1) ha lo, obi_s, nn_oi ha2]; rfl
  · intro σ h
    unfold fX10_chance
    rw [good_eq, obv_s]
    generalize gd σ = τ at h ⊢
    have h64 := p2_le h.2.1.1.1.2
    have hHb := h.2.1.1.2.2.1.2
    have hQb := h.2.1.1.2.2.2.2.1.2
    have hNb := h.2.2.2.1.2
    have hSb := h.2.1.1.2.2.2.2.2.1.2
    rw [isQ_r h, obi_s]
    cases hb0 : oin x (nn (mI τ 84 5))
    · rw [if_pos (by decide)]; rfl
    obtain ⟨a, ha, ha2, rfl⟩ := oin_iff hb0
    rw [if_neg (by decide)]
    have l1 := wt_le h.2.1 (mL τ 86 8 &&& mL τ 86 a)
    have l2 := wt_le h.2.1 (mL τ 86 8)
    have l3 := wt_pos h.2.1 h.2.1.2.2.2.2.2.2.2
    rw [ogi (by omega) (by omega), oi_nat (by omega), weight_eq h.2.1.1.1 h.2.1.2.1, obi_s, weight_eq h.2.1.1.1 h.2.1.2.1, obi_s, lowest_eq (by omega) (by omega) l3, obi_s, nn_oi ha2]; rfl
  · intro R Z s; exact sTr_ne _
  · intro σ w h0 hk h
    unfold fX9_chance
    rw [nQ_c h h0 hk, obi_s, if_pos rfl]; rfl
  · intro σ h
    unfold fX10_chance
    rw [good_eq, obv_s]
    generalize gd σ = τ at h ⊢
    rw [nQ_r h, obi_s, if_pos rfl]; rfl
def sAl (Z : Nat → Int64) (a q : Nat) (b : Int32) : Int32 := if (Z a ^^^ Z q) &&& Z 8 = 0 then b ||| (1 : Int32) <<< (oi q &&& 31) else b
theorem m_alike (n : Nat) (x : Int32) : okC n (fX9_alike x) (fX10_alike x) := by
  refine look1 (fun R Z s => (if (oin x (nn (R 5))) = true then ofd (sAl Z (nn x)) 0 (nn (R 5)) else -1 : Int32)) (fun R Z s => (sTr (oin x (nn (R 5))) : Int32)) (-1) ?_ ?_ ?_ ?_ ?_
  · intro σ w R Z s h0 hk h7 h
    unfold fX9_alike
    have h64 := p2_le (x_Fb h.1)
    have hHb := x_Hb h.1
    have hQb := x_Qb h.1
    have hNb := x_Nb h.1
    have hSb := x_Sb h.1
    rw [isQ_c h.1 h0 hk, obi_s]
    cases hb0 : oin x (nn (R 5))
    · rw [if_pos (by decide)]; rfl
    obtain ⟨a, ha, ha2, rfl⟩ := oin_iff hb0
    rw [if_neg (by decide)]
    rw [h0, ogd_d hk, nn_oi ha2]
    refine lup0 (g := fun f b k => fX9_alike_b27 f (oi a) w b (oi k) σ) (step := sAl Z a) (fin := fun b => some (b, sI σ 0 9 0)) (n := nn (R 5)) ?_ ?_ oF (by unfold oF; omega)
    · intro f b k hk'
      show fX9_alike_b27 (f + 1) (oi a) w b (oi k) σ = fX9_alike_b27 f (oi a) w _ (oi (k + 1)) σ
      have e : (mL σ (w + 3) a ^^^ mL σ (w + 3) k) &&& Z 8 = (Z a ^^^ Z k) &&& Z 8 := by
        rw [Int64.and_comm _ (Z 8), Int64.and_comm _ (Z 8)]
        exact z_and (fun i hi hz => by rw [tb_xor, tb_xor, x_so h.1 ha i hi hz, x_so h.1 hk' i hi hz])
      rw [fX9_alike_b27, x_Q h.1, if_neg (by rw [oi_le (by omega) (by omega)]; omega), soWorlds_eq (by omega), obi_s, soWorlds_eq (by omega), obi_s, x_C h.1, e]
      unfold sAl
      simp only [cmp_eq]
      split <;> rw [oi_succ]
    · intro f b
      show fX9_alike_b27 (f + 1) (oi a) w b (oi _) σ = _
      rw [fX9_alike_b27, x_Q h.1, if_pos ((oi_le (by omega) (by omega)).mpr (Nat.le_refl _))]; rfl
  · intro σ h
    unfold fX10_alike
    rw [good_eq, obv_s]
    generalize gd σ = τ at h ⊢
    have h64 := p2_le h.2.1.1.1.2
    have hHb := h.2.1.1.2.2.1.2
    have hQb := h.2.1.1.2.2.2.2.1.2
    have hNb := h.2.2.2.1.2
    have hSb := h.2.1.1.2.2.2.2.2.1.2
    rw [isQ_r h, obi_s]
    cases hb0 : oin x (nn (mI τ 84 5))
    · rw [if_pos (by decide)]; rfl
    obtain ⟨a, ha, ha2, rfl⟩ := oin_iff hb0
    rw [if_neg (by decide)]
    have hQ := h.2.1.1.2.2.2.2.1
    rw [nn_oi ha2]
    refine lup0 (g := fun f b k => fX10_alike_b22 f (oi a) b (oi k) τ) (step := sAl (mL τ 86) a) (fin := fun b => some (b, τ)) (n := nn (mI τ 84 5)) ?_ ?_ oF (by unfold oF; omega)
    · intro f b k hk'
      show fX10_alike_b22 (f + 1) (oi a) b (oi k) τ = fX10_alike_b22 f (oi a) _ (oi (k + 1)) τ
      rw [fX10_alike_b22, hQ.1, if_neg (by rw [oi_le (by omega) (by omega)]; omega), ogi (by omega) (by omega), ogi (by omega) (by omega), oi_nat (by omega), oi_nat (by omega), Int64.xor_comm]
      unfold sAl
      simp only [cmp_eq]
      split <;> rw [oi_succ]
      rw [Int32.or_zero]
    · intro f b
      show fX10_alike_b22 (f + 1) (oi a) b (oi _) τ = _
      rw [fX10_alike_b22, hQ.1, nn_oi (nn_lt _), if_pos ((oi_le (by omega) (by omega)).mpr (Nat.le_refl _))]
  · intro R Z s; exact sTr_ne _
  · intro σ w h0 hk h
    unfold fX9_alike
    rw [nQ_c h h0 hk, obi_s, if_pos rfl]; rfl
  · intro σ h
    unfold fX10_alike
    rw [good_eq, obv_s]
    generalize gd σ = τ at h ⊢
    rw [nQ_r h, obi_s, if_pos rfl]; rfl
theorem m_implies (n : Nat) (x : Int32) (y : Int32) : okC n (fX9_implies x y) (fX10_implies x y) := by
  refine look1 (fun R Z s => (if (oin x (nn (R 5)) && oin y (nn (R 5))) = true then b2 (decide ((Z 8 &&& Z (nn x)) &&& (Z (nn y) ^^^ (-1)) = 0)) else -1 : Int32)) (fun R Z s => (sTr (oin x (nn (R 5)) && oin y (nn (R 5))) : Int32)) (-1) ?_ ?_ ?_ ?_ ?_
  · intro σ w R Z s h0 hk h7 h
    unfold fX9_implies
    have h64 := p2_le (x_Fb h.1)
    have hHb := x_Hb h.1
    have hQb := x_Qb h.1
    have hNb := x_Nb h.1
    have hSb := x_Sb h.1
    rw [isQ_c h.1 h0 hk, obi_s]
    cases hb0 : oin x (nn (R 5))
    · rw [if_pos (by decide)]; rfl
    obtain ⟨a, ha, ha2, rfl⟩ := oin_iff hb0
    rw [if_neg (by decide)]
    rw [isQ_c h.1 h0 hk, obi_s]
    cases hb1 : oin y (nn (R 5))
    · rw [if_pos (by decide)]; rfl
    obtain ⟨b, hb, hb2, rfl⟩ := oin_iff hb1
    rw [if_neg (by decide)]
    have e : (Z 8 &&& mL σ (w + 3) a) &&& (mL σ (w + 3) b ^^^ (-1)) = (Z 8 &&& Z a) &&& (Z b ^^^ (-1)) := by
      rw [x_and h.1 Int64.and_self ha, Int64.and_assoc, Int64.and_assoc]
      exact z_and (fun i hi hz => by rw [tb_and, tb_and, x_sn h.1 hb i hi hz])
    rw [h0, ogd_d hk, soWorlds_eq (by omega), obi_s, soWorlds_eq (by omega), obi_s, x_C h.1, e, nn_oi ha2, nn_oi hb2]
    simp only [cmp_eq]
    by_cases e2 : (Z 8 &&& Z a) &&& (Z b ^^^ (-1)) = 0
    · rw [if_pos e2, decide_eq_true e2]; rfl
    · rw [if_neg e2, decide_eq_false e2]; rfl
  · intro σ h
    unfold fX10_implies
    rw [good_eq, obv_s]
    generalize gd σ = τ at h ⊢
    have h64 := p2_le h.2.1.1.1.2
    have hHb := h.2.1.1.2.2.1.2
    have hQb := h.2.1.1.2.2.2.2.1.2
    have hNb := h.2.2.2.1.2
    have hSb := h.2.1.1.2.2.2.2.2.1.2
    rw [isQ_r h, obi_s]
    cases hb0 : oin x (nn (mI τ 84 5))
    · rw [if_pos (by decide)]; rfl
    obtain ⟨a, ha, ha2, rfl⟩ := oin_iff hb0
    rw [if_neg (by decide)]
    rw [isQ_r h, obi_s]
    cases hb1 : oin y (nn (mI τ 84 5))
    · rw [if_pos (by decide)]; rfl
    obtain ⟨b, hb, hb2, rfl⟩ := oin_iff hb1
    rw [if_neg (by decide)]
    rw [ogi (by omega) (by omega), ogi (by omega) (by omega), oi_nat (by omega), oi_nat (by omega), nn_oi ha2, nn_oi hb2]
    simp only [cmp_eq]
    by_cases e2 : (mL τ 86 8 &&& mL τ 86 a) &&& (mL τ 86 b ^^^ (-1)) = 0
    · rw [if_pos e2, decide_eq_true e2]; rfl
    · rw [if_neg e2, decide_eq_false e2]; rfl
  · intro R Z s; exact sTr_ne _
  · intro σ w h0 hk h
    unfold fX9_implies
    rw [nQ_c h h0 hk, obi_s, if_pos rfl]; rfl
  · intro σ h
    unfold fX10_implies
    rw [good_eq, obv_s]
    generalize gd σ = τ at h ⊢
    rw [nQ_r h, obi_s, if_pos rfl]; rfl
theorem li_none {Z : Nat → Int64} {s : Nat → Int32} {H : Nat} (hH : H ≤ 6) : cnt (sCan Z s) (2 ^ H) = 0 ↔ sLi Z s H = none := by
  obtain ⟨-, h2, h3⟩ := mi_all Z s hH
  constructor
  · intro e
    cases h : sLi Z s H with
    | none => rfl
    | some m =>
      obtain ⟨-, -, a3, a4, -⟩ := h3 m h
      rw [cnt_zero.mp e m a4] at a3; cases a3
  · intro e
    exact cnt_zero.mpr (h2 e).2.2.2.2
theorem w_sets {σ : OM} {w : Nat} {R : Nat → Int32} {Z : Nat → Int64} {s : Nat → Int32} (h : CW σ w R Z s) : mI σ (w + 10) 5 = oi (cnt (sCan Z s) (2 ^ nn (R 3))) := by
  rw [h.2.2.1, (mi_all Z s (x_Hb h.1)).1]
theorem m_liars (n : Nat) : okC n (fX9_liars) (fX10_liars) := by
  refine look1 (fun R Z s => (oE (sLi Z s (nn (R 3))) : Int32)) (fun R Z s => (0 : Int32)) (-1) ?_ ?_ ?_ ?_ ?_
  · intro σ w R Z s h0 hk h7 h
    unfold fX9_liars
    have h64 := p2_le (x_Fb h.1)
    have hHb := x_Hb h.1
    have hQb := x_Qb h.1
    have hNb := x_Nb h.1
    have hSb := x_Sb h.1
    rw [if_neg (by rw [h7]; decide)]
    have hc := cnt_le (sCan Z s) (2 ^ nn (R 3))
    have h6 := p2_le hHb
    rw [h0, ogd_d hk, w_sets h, ite_iff (oi_ne0 (by omega)), w_li h]
    cases e : sLi Z s (nn (R 3)) with
    | none => rw [if_pos ((li_none hHb).mpr e)]; rfl
    | some m =>
      rw [if_neg (fun e2 => by rw [(li_none hHb).mp e2] at e; cases e), ogd_d hk]
      unfold sTu
      rw [e]; rfl
  · intro σ h
    unfold fX10_liars
    rw [good_eq, obv_s]
    generalize gd σ = τ at h ⊢
    have h64 := p2_le h.2.1.1.1.2
    have hHb := h.2.1.1.2.2.1.2
    have hQb := h.2.1.1.2.2.2.2.1.2
    have hNb := h.2.2.2.1.2
    have hSb := h.2.1.1.2.2.2.2.2.1.2
    rw [if_neg (by rw [h.1]; decide)]
    rw [liarsOf_eq h.2.2 hQb h.2.1.1.2.2.1, obi_s]; rfl
  · intro R Z s; decide
  · intro σ w h0 hk h
    unfold fX9_liars
    rw [if_pos h.1.1]; rfl
  · intro σ h
    unfold fX10_liars
    rw [good_eq, obv_s]
    generalize gd σ = τ at h ⊢
    rw [if_pos h]; rfl
theorem m_sets (n : Nat) : okC n (fX9_sets) (fX10_sets) := by
  refine look1 (fun R Z s => (oi (cnt (sCan Z s) (2 ^ nn (R 3))) : Int32)) (fun R Z s => (0 : Int32)) (-1) ?_ ?_ ?_ ?_ ?_
  · intro σ w R Z s h0 hk h7 h
    unfold fX9_sets
    have h64 := p2_le (x_Fb h.1)
    have hHb := x_Hb h.1
    have hQb := x_Qb h.1
    have hNb := x_Nb h.1
    have hSb := x_Sb h.1
    rw [if_neg (by rw [h7]; decide)]
    rw [h0, ogd_d hk, w_sets h]; rfl
  · intro σ h
    unfold fX10_sets
    rw [good_eq, obv_s]
    generalize gd σ = τ at h ⊢
    have h64 := p2_le h.2.1.1.1.2
    have hHb := h.2.1.1.2.2.1.2
    have hQb := h.2.1.1.2.2.2.2.1.2
    have hNb := h.2.2.2.1.2
    have hSb := h.2.1.1.2.2.2.2.2.1.2
    rw [if_neg (by rw [h.1]; decide)]
    have hH := h.2.1.1.2.2.1
    have h6 := p2_le hHb
    refine lup0 (g := fun f v k => fX10_sets_b21 f (oi v) (oi k) τ) (a := 0) (step := fun k v => v + if sCan (mL τ 86) (mI τ 88) k then 1 else 0) (fin := fun v => some (oi v, τ)) (n := 2 ^ nn (mI τ 84 3)) ?_ ?_ oF (by unfold oF; omega) |>.trans ?_
    · intro f v k hk'
      show fX10_sets_b21 (f + 1) (oi v) (oi k) τ = fX10_sets_b21 f (oi _) (oi (k + 1)) τ
      rw [fX10_sets_b21, shlH hH (by decide), if_neg (by rw [oi_le (by omega) (by omega)]; omega), canLie_eq h.2.2 hQb, obi_s]
      show (if b2 (sCan _ _ k) = 0 then _ else _) = _
      cases sCan (mL τ 86) (mI τ 88) k
      · rw [if_pos (by decide), oi_succ, Int32.add_zero]; rfl
      · rw [if_neg (by decide), oi_succ, oi_succ]; rfl
    · intro f v
      show fX10_sets_b21 (f + 1) (oi v) (oi _) τ = _
      rw [fX10_sets_b21, shlH hH (by decide), if_pos ((oi_le (by omega) (by omega)).mpr (Nat.le_refl _))]
    · have e : ∀ n, ofd (fun k v => v + if sCan (mL τ 86) (mI τ 88) k then 1 else 0) 0 n = cnt (sCan (mL τ 86) (mI τ 88)) n := by
        intro n
        induction n with
        | zero => rfl
        | succ n ih => show ofd _ 0 n + _ = cnt _ n + _; rw [ih]
      rw [e]; rfl
  · intro R Z s; decide
  · intro σ w h0 hk h
    unfold fX9_sets
    rw [if_pos h.1.1]; rfl
  · intro σ h
    unfold fX10_sets
    rw [good_eq, obv_s]
    generalize gd σ = τ at h ⊢
    rw [if_pos h]; rfl
theorem m_kin (n : Nat) (x : Int32) : okC n (fX9_kin x) (fX10_kin x) := by
  refine look1 (fun R Z s => (if (oin x (nn (R 3))) = true then sKin s (nn x) else -1 : Int32)) (fun R Z s => (sTr (oin x (nn (R 3))) : Int32)) (-1) ?_ ?_ ?_ ?_ ?_
  · intro σ w R Z s h0 hk h7 h
    unfold fX9_kin
    have h64 := p2_le (x_Fb h.1)
    have hHb := x_Hb h.1
    have hQb := x_Qb h.1
    have hNb := x_Nb h.1
    have hSb := x_Sb h.1
    rw [isH_c h.1 h0 hk, obi_s]
    cases hb0 : oin x (nn (R 3))
    · rw [if_pos (by decide)]; rfl
    obtain ⟨a, ha, ha2, rfl⟩ := oin_iff hb0
    rw [if_neg (by decide)]
    rw [h0, ogd_d hk, kinOf_c (s := s) (fun i hi => x_w h.1 hi), obi_s, nn_oi ha2]; rfl
  · intro σ h
    unfold fX10_kin
    rw [good_eq, obv_s]
    generalize gd σ = τ at h ⊢
    have h64 := p2_le h.2.1.1.1.2
    have hHb := h.2.1.1.2.2.1.2
    have hQb := h.2.1.1.2.2.2.2.1.2
    have hNb := h.2.2.2.1.2
    have hSb := h.2.1.1.2.2.2.2.2.1.2
    rw [isH_r h, obi_s]
    cases hb0 : oin x (nn (mI τ 84 3))
    · rw [if_pos (by decide)]; rfl
    obtain ⟨a, ha, ha2, rfl⟩ := oin_iff hb0
    rw [if_neg (by decide)]
    rw [kin_r h ha, obi_s, nn_oi ha2]; rfl
  · intro R Z s; exact sTr_ne _
  · intro σ w h0 hk h
    unfold fX9_kin
    rw [nH_c h h0 hk, obi_s, if_pos rfl]; rfl
  · intro σ h
    unfold fX10_kin
    rw [good_eq, obv_s]
    generalize gd σ = τ at h ⊢
    rw [nH_r h, obi_s, if_pos rfl]; rfl
theorem m_left (n : Nat) (x : Int32) : okC n (fX9_left x) (fX10_left x) := by
  refine look1 (fun R Z s => (if (oin x (nn (R 3))) = true then oi (pc (sKn R Z s (sKin s (nn x)))) else -1 : Int32)) (fun R Z s => (sTr (oin x (nn (R 3))) : Int32)) (-1) ?_ ?_ ?_ ?_ ?_
  · intro σ w R Z s h0 hk h7 h
    unfold fX9_left
    have h64 := p2_le (x_Fb h.1)
    have hHb := x_Hb h.1
    have hQb := x_Qb h.1
    have hNb := x_Nb h.1
    have hSb := x_Sb h.1
    rw [isH_c h.1 h0 hk, obi_s]
    cases hb0 : oin x (nn (R 3))
    · rw [if_pos (by decide)]; rfl
    obtain ⟨a, ha, ha2, rfl⟩ := oin_iff hb0
    rw [if_neg (by decide)]
    rw [h0, ogd_d hk, ofK_eq h ha, obi_s, bcL, obi_s, nn_oi ha2]; rfl
  · intro σ h
    unfold fX10_left
    rw [good_eq, obv_s]
    generalize gd σ = τ at h ⊢
    have h64 := p2_le h.2.1.1.1.2
    have hHb := h.2.1.1.2.2.1.2
    have hQb := h.2.1.1.2.2.2.2.1.2
    have hNb := h.2.2.2.1.2
    have hSb := h.2.1.1.2.2.2.2.2.1.2
    rw [isH_r h, obi_s]
    cases hb0 : oin x (nn (mI τ 84 3))
    · rw [if_pos (by decide)]; rfl
    obtain ⟨a, ha, ha2, rfl⟩ := oin_iff hb0
    rw [if_neg (by decide)]
    rw [kin_r h ha, obi_s, kn_r h, obi_s, ones_eq, obi_s, nn_oi ha2]; rfl
  · intro R Z s; exact sTr_ne _
  · intro σ w h0 hk h
    unfold fX9_left
    rw [nH_c h h0 hk, obi_s, if_pos rfl]; rfl
  · intro σ h
    unfold fX10_left
    rw [good_eq, obv_s]
    generalize gd σ = τ at h ⊢
    rw [nH_r h, obi_s, if_pos rfl]; rfl
theorem m_known (n : Nat) (x : Int32) (y : Int32) : okC n (fX9_known x y) (fX10_known x y) := by
  refine look1 (fun R Z s => (if (oin x (nn (R 3)) && oin y (nn (R 5))) = true then sBy (sKn R Z s (sKin s (nn x))) (Z (nn y)) else -1 : Int32)) (fun R Z s => (sTr (oin x (nn (R 3)) && oin y (nn (R 5))) : Int32)) (-1) ?_ ?_ ?_ ?_ ?_
  · intro σ w R Z s h0 hk h7 h
    unfold fX9_known
    have h64 := p2_le (x_Fb h.1)
    have hHb := x_Hb h.1
    have hQb := x_Qb h.1
    have hNb := x_Nb h.1
    have hSb := x_Sb h.1
    rw [isH_c h.1 h0 hk, obi_s]
    cases hb0 : oin x (nn (R 3))
    · rw [if_pos (by decide)]; rfl
    obtain ⟨a, ha, ha2, rfl⟩ := oin_iff hb0
    rw [if_neg (by decide)]
    rw [isQ_c h.1 h0 hk, obi_s]
    cases hb1 : oin y (nn (R 5))
    · rw [if_pos (by decide)]; rfl
    obtain ⟨b, hb, hb2, rfl⟩ := oin_iff hb1
    rw [if_neg (by decide)]
    rw [h0, ogd_d hk, ofK_eq h ha, obi_s, h0, ogd_d hk, soWorlds_eq (by omega), obi_s, verdict_eq, obi_s, verd_q h.1 (sKn_sub _ _ _ _) hb, nn_oi ha2, nn_oi hb2]; rfl
  · intro σ h
    unfold fX10_known
    rw [good_eq, obv_s]
    generalize gd σ = τ at h ⊢
    have h64 := p2_le h.2.1.1.1.2
    have hHb := h.2.1.1.2.2.1.2
    have hQb := h.2.1.1.2.2.2.2.1.2
    have hNb := h.2.2.2.1.2
    have hSb := h.2.1.1.2.2.2.2.2.1.2
    rw [isH_r h, obi_s]
    cases hb0 : oin x (nn (mI τ 84 3))
    · rw [if_pos (by decide)]; rfl
    obtain ⟨a, ha, ha2, rfl⟩ := oin_iff hb0
    rw [if_neg (by decide)]
    rw [isQ_r h, obi_s]
    cases hb1 : oin y (nn (mI τ 84 5))
    · rw [if_pos (by decide)]; rfl
    obtain ⟨b, hb, hb2, rfl⟩ := oin_iff hb1
    rw [if_neg (by decide)]
    rw [kin_r h ha, obi_s, kn_r h, obi_s, ogi (by omega) (by omega), oi_nat (by omega), answerBy_eq, obi_s, nn_oi ha2, nn_oi hb2]; rfl
  · intro R Z s; exact sTr_ne _
  · intro σ w h0 hk h
    unfold fX9_known
    rw [nH_c h h0 hk, obi_s, if_pos rfl]; rfl
  · intro σ h
    unfold fX10_known
    rw [good_eq, obv_s]
    generalize gd σ = τ at h ⊢
    rw [nH_r h, obi_s, if_pos rfl]; rfl
theorem m_knownByAll (n : Nat) (x : Int32) : okC n (fX9_knownByAll x) (fX10_knownByAll x) := by
  refine look1 (fun R Z s => (if (oin x (nn (R 5))) = true then sBy (sKn R Z s 63) (Z (nn x)) else -1 : Int32)) (fun R Z s => (sTr (oin x (nn (R 5))) : Int32)) (-1) ?_ ?_ ?_ ?_ ?_
  · intro σ w R Z s h0 hk h7 h
    unfold fX9_knownByAll
    have h64 := p2_le (x_Fb h.1)
    have hHb := x_Hb h.1
    have hQb := x_Qb h.1
    have hNb := x_Nb h.1
    have hSb := x_Sb h.1
    rw [isQ_c h.1 h0 hk, obi_s]
    cases hb0 : oin x (nn (R 5))
    · rw [if_pos (by decide)]; rfl
    obtain ⟨a, ha, ha2, rfl⟩ := oin_iff hb0
    rw [if_neg (by decide)]
    rw [h0, ogd_d hk, all_eq h, obi_s, h0, ogd_d hk, soWorlds_eq (by omega), obi_s, verdict_eq, obi_s, verd_q h.1 (sKn_sub _ _ _ _) ha, nn_oi ha2]; rfl
  · intro σ h
    unfold fX10_knownByAll
    rw [good_eq, obv_s]
    generalize gd σ = τ at h ⊢
    have h64 := p2_le h.2.1.1.1.2
    have hHb := h.2.1.1.2.2.1.2
    have hQb := h.2.1.1.2.2.2.2.1.2
    have hNb := h.2.2.2.1.2
    have hSb := h.2.1.1.2.2.2.2.2.1.2
    rw [isQ_r h, obi_s]
    cases hb0 : oin x (nn (mI τ 84 5))
    · rw [if_pos (by decide)]; rfl
    obtain ⟨a, ha, ha2, rfl⟩ := oin_iff hb0
    rw [if_neg (by decide)]
    rw [kn_r h, obi_s, ogi (by omega) (by omega), oi_nat (by omega), answerBy_eq, obi_s, nn_oi ha2]; rfl
  · intro R Z s; exact sTr_ne _
  · intro σ w h0 hk h
    unfold fX9_knownByAll
    rw [nQ_c h h0 hk, obi_s, if_pos rfl]; rfl
  · intro σ h
    unfold fX10_knownByAll
    rw [good_eq, obv_s]
    generalize gd σ = τ at h ⊢
    rw [nQ_r h, obi_s, if_pos rfl]; rfl
