/-! calls that only look -/
def gd (σ : OM) : OM := sI (sI σ 81 0 0) 81 11 0
theorem good_eq (σ : OM) : fX10_good σ = some (gd σ) := rfl
theorem gd_84 (σ : OM) : mI (gd σ) 84 = mI σ 84 := by unfold gd; rw [mI_row (by decide), mI_row (by decide)]
theorem gd_88 (σ : OM) : mI (gd σ) 88 = mI σ 88 := by unfold gd; rw [mI_row (by decide), mI_row (by decide)]
theorem gd_86 (σ : OM) : mL (gd σ) = mL σ := rfl
theorem gd_14 (σ : OM) : mI (gd σ) 81 14 = mI σ 81 14 := by unfold gd; rw [mI_sI, if_neg (by decide), mI_sI, if_neg (by decide)]
def RB (σ : OM) : Prop := mI σ 81 14 = 1 ∧ MB (mI σ 84) (mL σ 86) ∧ TB (mI σ 84) (mI σ 88)
theorem RB_gd {σ : OM} (h : RB σ) : RB (gd σ) := by
  unfold RB
  rw [gd_84, gd_88, gd_86, gd_14]; exact h
theorem RB_of {σ : OM} {w : Nat} (h : WI σ w) : RB σ := ⟨h.2.1, h.2.2.1.1.1⟩
def ft (t : Int32) (σ : OM) : OM := if t = 0 then σ else sI σ 81 11 t
theorem ft_0 (σ : OM) : ft 0 σ = σ := rfl
theorem ft_1 (σ : OM) : ft 1 σ = sI σ 81 11 1 := rfl
theorem ft_eqv (t : Int32) (σ : OM) : Eqv σ (ft t (gd σ)) := by
  have h1 : Eqv σ (gd σ) := eqv_I (eqv_I (eqv_rfl σ) (by unfold scr; omega) _) (by unfold scr; omega) _
  unfold ft
  split
  · exact h1
  · exact eqv_I h1 (by unfold scr; omega) _
theorem ft_11 (t : Int32) (σ : OM) : mI (ft t (gd σ)) 81 11 = t := by
  unfold ft
  split
  · rename_i e; rw [e]; exact mI_at
  · exact mI_at
theorem ft_o (t : Int32) (σ : OM) {a j : Nat} (h : a ≠ 81) : mI (ft t (gd σ)) a j = mI σ a j := by
  unfold ft gd
  split
  · rw [mI_sI, if_neg (by omega), mI_sI, if_neg (by omega)]
  · rw [mI_sI, if_neg (by omega), mI_sI, if_neg (by omega), mI_sI, if_neg (by omega)]
theorem PL_9 {n : Nat} {σ : OM} (t : Int32) (h : PL n σ) : PL (n + 1) (sI σ 0 9 t) := by
  obtain ⟨p, h1, h2, h3⟩ := h
  refine ⟨p, by omega, ?_, fun j hj => ?_⟩
  · rw [mI_sI, if_neg (by omega)]; exact h2
  · rw [mI_sI, if_neg (by omega)]; exact h3 j hj
/-- a call that only looks, its answer and its trouble as functions of the rows -/
theorem look1 {α : Type} {f g : OM → Option (α × OM)} {n : Nat} (val : (Nat → Int32) → (Nat → Int64) → (Nat → Int32) → α) (tr : (Nat → Int32) → (Nat → Int64) → (Nat → Int32) → Int32) (v0 : α)
    (hc : ∀ σ w R Z s, mR σ 0 0 = w → okd w = 8 → mI σ 0 7 = 1 → CW σ w R Z s → f σ = some (val R Z s, sI σ 0 9 (tr R Z s)))
    (hr : ∀ σ, RB (gd σ) → g σ = some (val (mI (gd σ) 84) (mL (gd σ) 86) (mI (gd σ) 88), ft (tr (mI (gd σ) 84) (mL (gd σ) 86) (mI (gd σ) 88)) (gd σ)))
    (ht : ∀ R Z s, tr R Z s ≠ 4)
    (hn : ∀ σ w, mR σ 0 0 = w → okd w = 8 → NW σ w → f σ = some (v0, sI σ 0 9 1))
    (hm : ∀ σ, mI (gd σ) 81 14 = 0 → g σ = some (v0, ft 1 (gd σ))) : okC n f g := by
  refine look ?_ ?_
  · intro σ w hw h0 hk h
    refine ⟨_, _, _, hc σ w _ _ _ h0 hk h.1 h.2.2.1, eqv_I (eqv_rfl σ) (by unfold scr; omega) _, fun n hp => PL_9 _ hp, mI_at, ht _ _ _, fun σ' he h' => ?_⟩
    have e := hr σ' (RB_gd (RB_of h'))
    rw [gd_84, gd_88, gd_86] at e
    obtain ⟨r1, r2, r3⟩ := eqv_row he
    rw [r1, r2, r3] at e
    exact ⟨_, e, ft_eqv _ _, fun j => ft_o _ _ (by decide), ft_o _ _ (by decide), ft_o _ _ (by decide), ft_11 _ _⟩
  · intro σ w hw h0 hk h
    refine ⟨_, _, _, hn σ w h0 hk h, eqv_I (eqv_rfl σ) (by unfold scr; omega) _, fun n hp => PL_9 _ hp, mI_at, by decide, fun σ' he h' => ?_⟩
    have e := hm σ' (by rw [gd_14]; exact h'.1.2.1)
    exact ⟨_, e, ft_eqv _ _, fun j => ft_o _ _ (by decide), ft_o _ _ (by decide), ft_o _ _ (by decide), ft_11 _ _⟩
/-! what there is -/
theorem ite_iff {α : Type} {p q : Prop} {d : Decidable p} (h : p ↔ q) {a b : α} : @ite α p d a b = @ite α q (@decidable_of_iff q p h d) a b := by
  by_cases e : p
  · rw [if_pos e, if_pos (h.mp e)]
  · rw [if_neg e, if_neg (fun e2 => e (h.mpr e2))]
theorem is_gen {N B a : Nat} (hN : N ≤ B) (hB : B < 2147483648) (ha : a < 2147483648) (σ : OM) : (if oi N ≤ oi a then some ((0 : Int32), σ) else if oi B ≤ oi a then some ((0 : Int32), σ) else some ((1 : Int32), σ)) = some (b2 (decide (a < N)), σ) := by
  rw [ite_iff (oi_le (by omega) ha), ite_iff (oi_le hB ha)]
  by_cases h : a < N
  · rw [if_neg (by omega), if_neg (by omega), decide_eq_true h]; rfl
  · rw [if_pos (by omega), decide_eq_false h]; rfl
section
variable {σ : OM} {w : Nat} {R : Nat → Int32} {Z : Nat → Int64} {s : Nat → Int32}
theorem isH_c (h : CX σ w R Z s) (h0 : mR σ 0 0 = w) (hk : okd w = 8) (x : Int32) : fX9_isHouse x σ = some (b2 (oin x (nn (R 3))), σ) := by
  unfold fX9_isHouse
  rcases oi_cases x with hx | ⟨a, ha, rfl⟩
  · rw [if_pos hx, oin_neg hx]; rfl
  · rw [if_neg (oi_nneg ha), h0, ogd_d hk, x_H h, oin_oi ha]
    exact is_gen (x_Hb h) (by decide) ha σ
theorem isQ_c (h : CX σ w R Z s) (h0 : mR σ 0 0 = w) (hk : okd w = 8) (x : Int32) : fX9_isQuestion x σ = some (b2 (oin x (nn (R 5))), σ) := by
  unfold fX9_isQuestion
  rcases oi_cases x with hx | ⟨a, ha, rfl⟩
  · rw [if_pos hx, oin_neg hx]; rfl
  · rw [if_neg (oi_nneg ha), h0, ogd_d hk, x_Q h, oin_oi ha]
    exact is_gen (x_Qb h) (by decide) ha σ
theorem isA_c (h : CX σ w R Z s) (h0 : mR σ 0 0 = w) (hk : okd w = 8) (x : Int32) : fX9_isAnswer x σ = some (b2 (oin x (nn (s 1))), σ) := by
  unfold fX9_isAnswer
  rcases oi_cases x with hx | ⟨a, ha, rfl⟩
  · rw [if_pos hx, oin_neg hx]; rfl
  · rw [if_neg (oi_nneg ha), h0, ogd_d hk, x_N h, oin_oi ha]
    exact is_gen (x_Nb h) (by decide) ha σ
theorem isS_c (h : CX σ w R Z s) (h0 : mR σ 0 0 = w) (hk : okd w = 8) (x : Int32) : fX9_isStone x σ = some (b2 (oin x (nn (R 7))), σ) := by
  unfold fX9_isStone
  have hb := x_Sb h
  rcases oi_cases x with hx | ⟨a, ha, rfl⟩
  · rw [if_pos hx, oin_neg hx]; rfl
  · rw [if_neg (oi_nneg ha), h0, ogd_d hk, x_S h, oin_oi ha, ite_iff (oi_le (by omega) ha)]
    by_cases e : a < nn (R 7)
    · rw [if_neg (by omega), decide_eq_true e]; rfl
    · rw [if_pos (by omega), decide_eq_false e]; rfl
theorem isW_c (h : CX σ w R Z s) (h0 : mR σ 0 0 = w) (hk : okd w = 8) (h7 : mI σ 0 7 = 1) (x : Int32) : fX9_isWorld x σ = some (b2 (oin x (2 ^ nn (R 1))), σ) := by
  unfold fX9_isWorld
  rw [if_neg (by rw [h7]; decide)]
  rcases oi_cases x with hx | ⟨a, ha, rfl⟩
  · rw [if_pos hx, oin_neg hx]; rfl
  · rw [if_neg (oi_nneg ha), h0, ogd_d hk, x_F h, shlW _ (by have := x_Fb h; omega), oin_oi ha]
    exact is_gen (p2_le (x_Fb h)) (by decide) ha σ
theorem nH_c (h : NW σ w) (h0 : mR σ 0 0 = w) (hk : okd w = 8) (x : Int32) : fX9_isHouse x σ = some (0, σ) := by
  unfold fX9_isHouse
  rcases oi_cases x with hx | ⟨a, ha, rfl⟩
  · rw [if_pos hx]
  · rw [if_neg (oi_nneg ha), h0, ogd_d hk, h.2.1, if_pos (by rw [show (0 : Int32) = oi 0 from rfl, oi_le (by decide) ha]; omega)]
theorem nQ_c (h : NW σ w) (h0 : mR σ 0 0 = w) (hk : okd w = 8) (x : Int32) : fX9_isQuestion x σ = some (0, σ) := by
  unfold fX9_isQuestion
  rcases oi_cases x with hx | ⟨a, ha, rfl⟩
  · rw [if_pos hx]
  · rw [if_neg (oi_nneg ha), h0, ogd_d hk, h.2.2.2.2.2.2.1, if_pos (by rw [show (0 : Int32) = oi 0 from rfl, oi_le (by decide) ha]; omega)]
theorem nA_c (h : NW σ w) (h0 : mR σ 0 0 = w) (hk : okd w = 8) (x : Int32) : fX9_isAnswer x σ = some (0, σ) := by
  unfold fX9_isAnswer
  rcases oi_cases x with hx | ⟨a, ha, rfl⟩
  · rw [if_pos hx]
  · rw [if_neg (oi_nneg ha), h0, ogd_d hk, h.2.2.2.2.2.2.2.2.1, if_pos (by rw [show (0 : Int32) = oi 0 from rfl, oi_le (by decide) ha]; omega)]
theorem nS_c (h : NW σ w) (h0 : mR σ 0 0 = w) (hk : okd w = 8) (x : Int32) : fX9_isStone x σ = some (0, σ) := by
  unfold fX9_isStone
  rcases oi_cases x with hx | ⟨a, ha, rfl⟩
  · rw [if_pos hx]
  · rw [if_neg (oi_nneg ha), h0, ogd_d hk, h.2.2.2.2.2.2.2.1, if_pos (by rw [show (0 : Int32) = oi 0 from rfl, oi_le (by decide) ha]; omega)]
theorem nW_c (h : NW σ w) (x : Int32) : fX9_isWorld x σ = some (0, σ) := by
  unfold fX9_isWorld
  rw [if_pos h.1.1]
theorem in_r (x : Int32) {N : Nat} (hN : N < 2147483648) (σ : OM) : fX10_in x 0 (oi N - 1) σ = some (b2 (oin x N), σ) := by
  unfold fX10_in
  rcases oi_cases x with hx | ⟨a, ha, rfl⟩
  · rw [if_pos hx, oin_neg hx]; rfl
  · rw [if_neg (oi_nneg ha), oin_oi ha]
    by_cases h0 : N = 0
    · subst h0
      rw [if_pos, decide_eq_false (by omega)]
      · rfl
      · rw [Int32.lt_iff_toInt_lt, oi_int ha, show (oi 0 - 1).toInt = -1 by decide]; omega
    · rw [show (1 : Int32) = oi 1 from rfl, oi_sub (by omega), ite_iff (oi_lt (by omega) ha)]
      by_cases e : a < N
      · rw [if_neg (by omega), decide_eq_true e]; rfl
      · rw [if_pos (by omega), decide_eq_false e]; rfl
theorem b2_ite (b : Bool) (σ : OM) : (if b2 b = 0 then some ((0 : Int32), σ) else some ((1 : Int32), σ)) = some (b2 b, σ) := by cases b <;> rfl
theorem isH_r {τ : OM} (h : RB τ) (x : Int32) : fX10_isHouse x τ = some (b2 (oin x (nn (mI τ 84 3))), τ) := by
  unfold fX10_isHouse
  have e := h.2.1.1.2.2.1.1
  rw [if_neg (by rw [h.1]; decide), e, in_r x (nn_lt _), obi_s, nn_oi (nn_lt _)]
  exact b2_ite _ _
theorem isQ_r {τ : OM} (h : RB τ) (x : Int32) : fX10_isQuestion x τ = some (b2 (oin x (nn (mI τ 84 5))), τ) := by
  unfold fX10_isQuestion
  have e := h.2.1.1.2.2.2.2.1.1
  rw [if_neg (by rw [h.1]; decide), e, in_r x (nn_lt _), obi_s, nn_oi (nn_lt _)]
  exact b2_ite _ _
theorem isA_r {τ : OM} (h : RB τ) (x : Int32) : fX10_isAnswer x τ = some (b2 (oin x (nn (mI τ 88 1))), τ) := by
  unfold fX10_isAnswer
  have e := h.2.2.2.1.1
  rw [if_neg (by rw [h.1]; decide), e, in_r x (nn_lt _), obi_s, nn_oi (nn_lt _)]
  exact b2_ite _ _
theorem isS_r {τ : OM} (h : RB τ) (x : Int32) : fX10_isStone x τ = some (b2 (oin x (nn (mI τ 84 7))), τ) := by
  unfold fX10_isStone
  have e := h.2.1.1.2.2.2.2.2.1.1
  rw [if_neg (by rw [h.1]; decide), e, in_r x (nn_lt _), obi_s, nn_oi (nn_lt _)]
  exact b2_ite _ _
theorem isW_r {τ : OM} (h : RB τ) (x : Int32) : fX10_isWorld x τ = some (b2 (oin x (2 ^ nn (mI τ 84 1))), τ) := by
  unfold fX10_isWorld
  have e := h.2.1.1.1
  have := p2_le e.2
  rw [if_neg (by rw [h.1]; decide), shlH e (by decide), in_r x (by omega), obi_s]
  exact b2_ite _ _
theorem nH_r {τ : OM} (h : mI τ 81 14 = 0) (x : Int32) : fX10_isHouse x τ = some (0, τ) := by unfold fX10_isHouse; rw [if_pos h]
theorem nQ_r {τ : OM} (h : mI τ 81 14 = 0) (x : Int32) : fX10_isQuestion x τ = some (0, τ) := by unfold fX10_isQuestion; rw [if_pos h]
theorem nA_r {τ : OM} (h : mI τ 81 14 = 0) (x : Int32) : fX10_isAnswer x τ = some (0, τ) := by unfold fX10_isAnswer; rw [if_pos h]
theorem nS_r {τ : OM} (h : mI τ 81 14 = 0) (x : Int32) : fX10_isStone x τ = some (0, τ) := by unfold fX10_isStone; rw [if_pos h]
theorem nW_r {τ : OM} (h : mI τ 81 14 = 0) (x : Int32) : fX10_isWorld x τ = some (0, τ) := by unfold fX10_isWorld; rw [if_pos h]
end
/-! the reference's sets over a house -/
theorem kn_r {τ : OM} (h : RB τ) (hs : Int32) : fX10_knownSet hs τ = some (sKn (mI τ 84) (mL τ 86) (mI τ 88) hs, τ) := knownSet_eq h.2.2 h.2.1.1.2.2.2.2.1.2 h.2.1.1.2.2.1 hs
theorem kin_r {τ : OM} (h : RB τ) {a : Nat} (ha : a < nn (mI τ 84 3)) : fX10_kinOf (oi a) τ = some (sKin (mI τ 88) a, τ) := by
  have hH := h.2.1.1.2.2.1
  refine kinOf_r hH ⟨fun i hi j hj => ?_, by have := hH.2; omega⟩
  obtain ⟨g1, g2, -⟩ := h.2.2.2.2.2.1 i hi j hj
  exact ⟨g1, by have := hH.2; omega⟩
def sTr (b : Bool) : Int32 := if b then 0 else 1
theorem sTr_ne (b : Bool) : sTr b ≠ 4 := by cases b <;> decide
