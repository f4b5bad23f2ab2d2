/-! the best wedding -/
def sQk (R : Nat → Int32) (Z : Nat → Int64) (s : Nat → Int32) (hs : Int32) : Int32 := ofd (sKo Z (sKn R Z s hs)) 0 (nn (R 5))
def sGa (R : Nat → Int32) (Z : Nat → Int64) (s : Nat → Int32) (a b : Nat) : Nat := pcw (sQk R Z s (sKin s a ||| sKin s b) &&& ((sQk R Z s (sKin s a) ||| sQk R Z s (sKin s b)) ^^^ (-1)))
def sBw (R : Nat → Int32) (Z : Nat → Int64) (s : Nat → Int32) (a b : Nat) (x : Option (Nat × Nat)) : Option (Nat × Nat) := if tw (sKin s a) b then x else match x with
  | none => some (sGa R Z s a b, 10 * a + b)
  | some p => if p.1 < sGa R Z s a b then some (sGa R Z s a b, 10 * a + b) else some p
def sBo (R : Nat → Int32) (Z : Nat → Int64) (s : Nat → Int32) (H a : Nat) (x : Option (Nat × Nat)) : Option (Nat × Nat) := ofd (fun j => sBw R Z s a (a + 1 + j)) x (H - (a + 1))
def oG1 (x : Option (Nat × Nat)) : Int32 := match x with
  | none => -1
  | some p => oi p.1
def oG2 (x : Option (Nat × Nat)) : Int32 := match x with
  | none => -2
  | some p => oi p.2
def gOk (x : Option (Nat × Nat)) : Prop := ∀ p, x = some p → p.1 ≤ 32
theorem sBw_ok {R : Nat → Int32} {Z : Nat → Int64} {s : Nat → Int32} {a b : Nat} {x : Option (Nat × Nat)} (h : gOk x) : gOk (sBw R Z s a b x) := by
  intro p e
  unfold sBw at e
  split at e
  · exact h p e
  · cases x with
    | none => cases e; exact pcw_le _
    | some q =>
      have e' : (if q.1 < sGa R Z s a b then some (sGa R Z s a b, 10 * a + b) else some q) = some p := e
      split at e' <;> cases e'
      · exact pcw_le _
      · exact h _ rfl
theorem not_or3 (t a b : Int32) : (t &&& (a ^^^ (-1))) &&& (b ^^^ (-1)) = t &&& ((a ||| b) ^^^ (-1)) := by
  apply tw_ext; intro i hi
  rw [tw_and, tw_and, tw_and, tw_not _ hi, tw_not _ hi, tw_not _ hi, tw_or]
  cases tw t i <;> cases tw a i <;> cases tw b i <;> rfl
section
variable {σ : OM} {w : Nat} {R : Nat → Int32} {Z : Nat → Int64} {s : Nat → Int32}
theorem gain_eq (h : CW σ w R Z s) (h0 : mR σ 0 0 = w) (hk : okd w = 8) {a b : Nat} (ha : a < nn (R 3)) (hb : b < nn (R 3)) : fX9_gainOfWedding (oi a) (oi b) σ = some (if tw (sKin s a) b then -1 else oi (sGa R Z s a b), σ) := by
  have hH := x_Hb h.1
  have hkin := fun c => kinOf_c (σ := σ) (t := w + 5) (s := s) (fun i hi => x_w h.1 hi) c
  unfold fX9_gainOfWedding
  rw [h0, ogd_d hk, hkin, obi_s, bitOfW_eq _ (by omega), obi_s]
  cases tw (sKin s a) b
  · rw [if_neg (by decide), h0, ogd_d hk, ogd_d hk, ogd_d hk, hkin, obi_s, kby_eq h, obi_s, settled_eq h.1 (sKn_sub _ _ _ _), obi_s, h0, ogd_d hk, ofK_eq h ha, obi_s, settled_eq h.1 (sKn_sub _ _ _ _), obi_s, h0, ogd_d hk, ofK_eq h hb, obi_s, settled_eq h.1 (sKn_sub _ _ _ _), obi_s, bcW, obi_s]; rfl
  · rw [if_pos (by decide)]; rfl
end
theorem m_bestWedding (n : Nat) : okC n (fX9_bestWedding) (fX10_bestWedding) := by
  refine look1 (fun R Z s => (oG2 (ofd (sBo R Z s (nn (R 3))) none (nn (R 3))) : Int32)) (fun R Z s => (0 : Int32)) (-1) ?_ ?_ ?_ ?_ ?_
  · intro σ w R Z s h0 hk h7 h
    unfold fX9_bestWedding
    have h64 := p2_le (x_Fb h.1)
    have hHb := x_Hb h.1
    have hQb := x_Qb h.1
    have hNb := x_Nb h.1
    have hSb := x_Sb h.1
    rw [if_neg (by rw [h7]; decide)]
    have hin : ∀ (rc : Int32 → Int32 → Int32 → OM → Option (Int32 × OM)) (x : Option (Nat × Nat)) (a : Nat), gOk x → a < nn (R 3) → fX9_bestWedding_b36 rc oF (oG1 x) (oG2 x) (oi a) (oi (a + 1 + 0)) σ = rc (oG1 (sBo R Z s (nn (R 3)) a x)) (oG2 (sBo R Z s (nn (R 3)) a x)) (oi (a + 1)) σ := by
      intro rc x a hx ha
      refine lup (g := fun f x j => fX9_bestWedding_b36 rc f (oG1 x) (oG2 x) (oi a) (oi (a + 1 + j)) σ) (a := x) (step := fun j => sBw R Z s a (a + 1 + j)) (fin := fun x => rc (oG1 x) (oG2 x) (oi (a + 1)) σ) (n := nn (R 3) - (a + 1)) (I := fun _ x => gOk x) hx (fun k y _ hy => sBw_ok hy) ?_ ?_ oF (by unfold oF; omega)
      · intro f y j hj hy
        show fX9_bestWedding_b36 rc (f + 1) (oG1 y) (oG2 y) (oi a) (oi (a + 1 + j)) σ = fX9_bestWedding_b36 rc f (oG1 (sBw R Z s a (a + 1 + j) y)) (oG2 (sBw R Z s a (a + 1 + j) y)) (oi a) (oi (a + 1 + j + 1)) σ
        rw [fX9_bestWedding_b36, h0, ogd_d hk, x_H h.1, if_neg (by rw [oi_le (by omega) (by omega)]; omega), gain_eq h h0 hk ha (by omega), obi_s, oi_succ]
        have lg : sGa R Z s a (a + 1 + j) ≤ 32 := pcw_le _
        unfold sBw
        cases tw (sKin s a) (a + 1 + j)
        · rw [if_neg (show ¬ (false = true) by decide), if_neg (show ¬ (false = true) by decide)]
          cases y with
          | none =>
            rw [if_neg (show ¬ oi (sGa R Z s a (a + 1 + j)) ≤ oG1 none from fun e => by
              have e1 := m1_lt (show sGa R Z s a (a + 1 + j) < 2147483648 by omega)
              exact absurd (Int32.lt_of_lt_of_le e1 e) (by decide))]
            rw [show (10 : Int32) * oi a + oi (a + 1 + j) = oi (10 * a + (a + 1 + j)) by rw [lt10, oi_mul, oi_add]]; rfl
          | some p =>
            have lp := hy p rfl
            show (if oi (sGa R Z s a (a + 1 + j)) ≤ oi p.1 then _ else _) = fX9_bestWedding_b36 rc f (oG1 (if p.1 < sGa R Z s a (a + 1 + j) then some (sGa R Z s a (a + 1 + j), 10 * a + (a + 1 + j)) else some p)) (oG2 (if p.1 < sGa R Z s a (a + 1 + j) then some (sGa R Z s a (a + 1 + j), 10 * a + (a + 1 + j)) else some p)) (oi a) _ σ
            rw [ite_iff (oi_le (by omega) (by omega))]
            by_cases e : p.1 < sGa R Z s a (a + 1 + j)
            · rw [if_neg (by omega), if_pos e, show (10 : Int32) * oi a + oi (a + 1 + j) = oi (10 * a + (a + 1 + j)) by rw [lt10, oi_mul, oi_add]]; rfl
            · rw [if_pos (by omega), if_neg e]
        · rw [if_pos rfl, if_pos rfl, if_pos]
          cases y with
          | none => decide
          | some p => exact Int32.le_of_lt (m1_lt (by have := hy p rfl; omega))
      · intro f y hy
        show fX9_bestWedding_b36 rc (f + 1) (oG1 y) (oG2 y) (oi a) (oi (a + 1 + (nn (R 3) - (a + 1)))) σ = _
        rw [fX9_bestWedding_b36, h0, ogd_d hk, x_H h.1, if_pos ((oi_le (by omega) (by omega)).mpr (by omega)), oi_succ]
    have hall : ∀ (a : Nat) (x : Option (Nat × Nat)), gOk x → gOk (sBo R Z s (nn (R 3)) a x) := fun a x hx => ofd_ind (P := fun _ y => gOk y) hx (fun k y _ hy => sBw_ok hy)
    refine lup (g := fun f x a => fX9_bestWedding_b20 f (oG1 x) (oG2 x) (oi a) σ) (a := none) (step := sBo R Z s (nn (R 3))) (fin := fun x => some (oG2 x, sI σ 0 9 0)) (n := nn (R 3)) (I := fun _ x => gOk x) (fun p e => by cases e) (fun k y _ hy => hall k y hy) ?_ ?_ oF (by unfold oF; omega)
    · intro f x a ha hx
      show fX9_bestWedding_b20 (f + 1) (oG1 x) (oG2 x) (oi a) σ = fX9_bestWedding_b20 f (oG1 (sBo R Z s (nn (R 3)) a x)) (oG2 (sBo R Z s (nn (R 3)) a x)) (oi (a + 1)) σ
      rw [fX9_bestWedding_b20, h0, ogd_d hk, x_H h.1, if_neg (by rw [oi_le (by omega) (by omega)]; omega), oi_succ]
      exact hin _ x a hx ha
    · intro f x hx
      show fX9_bestWedding_b20 (f + 1) (oG1 x) (oG2 x) (oi _) σ = _
      rw [fX9_bestWedding_b20, h0, ogd_d hk, x_H h.1, if_pos ((oi_le (by omega) (by omega)).mpr (Nat.le_refl _))]; rfl
  · intro σ h
    unfold fX10_bestWedding
    rw [good_eq, obv_s]
    generalize gd σ = τ at h ⊢
    have h64 := p2_le h.2.1.1.1.2
    have hHb := h.2.1.1.2.2.1.2
    have hQb := h.2.1.1.2.2.2.2.1.2
    have hNb := h.2.2.2.1.2
    have hSb := h.2.1.1.2.2.2.2.2.1.2
    rw [if_neg (by rw [h.1]; decide)]
    have hH := h.2.1.1.2.2.1
    have hQ := h.2.1.1.2.2.2.2.1
    have hin : ∀ (rc : Int32 → Int32 → Int32 → OM → Option (Int32 × OM)) (x : Option (Nat × Nat)) (a : Nat), gOk x → a < nn (mI τ 84 3) → fX10_bestWedding_b39 rc oF (oG2 x) (oG1 x) (oi a) (oi (a + 1 + 0)) τ = rc (oG2 (sBo (mI τ 84) (mL τ 86) (mI τ 88) (nn (mI τ 84 3)) a x)) (oG1 (sBo (mI τ 84) (mL τ 86) (mI τ 88) (nn (mI τ 84 3)) a x)) (oi (a + 1)) τ := by
      intro rc x a hx ha
      refine lup (g := fun f x j => fX10_bestWedding_b39 rc f (oG2 x) (oG1 x) (oi a) (oi (a + 1 + j)) τ) (a := x) (step := fun j => sBw (mI τ 84) (mL τ 86) (mI τ 88) a (a + 1 + j)) (fin := fun x => rc (oG2 x) (oG1 x) (oi (a + 1)) τ) (n := nn (mI τ 84 3) - (a + 1)) (I := fun _ x => gOk x) hx (fun k y _ hy => sBw_ok hy) ?_ ?_ oF (by unfold oF; omega)
      · intro f y j hj hy
        show fX10_bestWedding_b39 rc (f + 1) (oG2 y) (oG1 y) (oi a) (oi (a + 1 + j)) τ = fX10_bestWedding_b39 rc f (oG2 (sBw (mI τ 84) (mL τ 86) (mI τ 88) a (a + 1 + j) y)) (oG1 (sBw (mI τ 84) (mL τ 86) (mI τ 88) a (a + 1 + j) y)) (oi a) (oi (a + 1 + j + 1)) τ
        rw [fX10_bestWedding_b39, hH.1, if_neg (by rw [oi_le (by omega) (by omega)]; omega), kin_r h ha, obi_s, hasBit_eq _ (by omega), obi_s, oi_succ]
        have lg : sGa (mI τ 84) (mL τ 86) (mI τ 88) a (a + 1 + j) ≤ 32 := pcw_le _
        unfold sBw
        cases tw (sKin (mI τ 88) a) (a + 1 + j)
        · rw [if_pos (by decide), if_neg (show ¬ (false = true) by decide), kin_r h ha, obi_s, kin_r h (by omega), obi_s, kn_r h, obi_s, knownOf_eq hQ, obi_s, kin_r h ha, obi_s, kn_r h, obi_s, knownOf_eq hQ, obi_s, kin_r h (by omega), obi_s, kn_r h, obi_s, knownOf_eq hQ, obi_s, not_or3, ones_eq, obi_s]
          rw [pc_long (fun i hi => by
            rw [tw_and] at hi
            have := sKo_bits (mL τ 86) _ (show nn (mI τ 84 5) ≤ 31 by omega) i (Bool.and_eq_true_iff.mp hi).1
            omega)]
          show (if oG1 y < oi (sGa (mI τ 84) (mL τ 86) (mI τ 88) a (a + 1 + j)) then _ else _) = _
          cases y with
          | none =>
            rw [if_pos (show oG1 none < oi _ from m1_lt (by omega)), show (10 : Int32) * oi a + oi (a + 1 + j) = oi (10 * a + (a + 1 + j)) by rw [lt10, oi_mul, oi_add]]; rfl
          | some p =>
            have lp := hy p rfl
            show (if oi p.1 < oi (sGa (mI τ 84) (mL τ 86) (mI τ 88) a (a + 1 + j)) then _ else _) = fX10_bestWedding_b39 rc f (oG2 (if p.1 < sGa (mI τ 84) (mL τ 86) (mI τ 88) a (a + 1 + j) then some (sGa (mI τ 84) (mL τ 86) (mI τ 88) a (a + 1 + j), 10 * a + (a + 1 + j)) else some p)) (oG1 (if p.1 < sGa (mI τ 84) (mL τ 86) (mI τ 88) a (a + 1 + j) then some (sGa (mI τ 84) (mL τ 86) (mI τ 88) a (a + 1 + j), 10 * a + (a + 1 + j)) else some p)) (oi a) _ τ
            rw [ite_iff (oi_lt (by omega) (by omega))]
            by_cases e : p.1 < sGa (mI τ 84) (mL τ 86) (mI τ 88) a (a + 1 + j)
            · rw [if_pos e, if_pos e, show (10 : Int32) * oi a + oi (a + 1 + j) = oi (10 * a + (a + 1 + j)) by rw [lt10, oi_mul, oi_add]]; rfl
            · rw [if_neg e, if_neg e]
        · rw [if_neg (by decide), if_pos rfl]
      · intro f y hy
        show fX10_bestWedding_b39 rc (f + 1) (oG2 y) (oG1 y) (oi a) (oi (a + 1 + (nn (mI τ 84 3) - (a + 1)))) τ = _
        rw [fX10_bestWedding_b39, hH.1, nn_oi (nn_lt _), if_pos ((oi_le (by omega) (by omega)).mpr (by omega)), oi_succ]
    have hall : ∀ (a : Nat) (x : Option (Nat × Nat)), gOk x → gOk (sBo (mI τ 84) (mL τ 86) (mI τ 88) (nn (mI τ 84 3)) a x) := fun a x hx => ofd_ind (P := fun _ y => gOk y) hx (fun k y _ hy => sBw_ok hy)
    refine lup (g := fun f x a => fX10_bestWedding_b24 f (oG2 x) (oG1 x) (oi a) τ) (a := none) (step := sBo (mI τ 84) (mL τ 86) (mI τ 88) (nn (mI τ 84 3))) (fin := fun x => some (oG2 x, τ)) (n := nn (mI τ 84 3)) (I := fun _ x => gOk x) (fun p e => by cases e) (fun k y _ hy => hall k y hy) ?_ ?_ oF (by unfold oF; omega)
    · intro f x a ha hx
      show fX10_bestWedding_b24 (f + 1) (oG2 x) (oG1 x) (oi a) τ = fX10_bestWedding_b24 f (oG2 (sBo _ _ _ (nn (mI τ 84 3)) a x)) (oG1 (sBo _ _ _ (nn (mI τ 84 3)) a x)) (oi (a + 1)) τ
      rw [fX10_bestWedding_b24, hH.1, if_neg (by rw [oi_le (by omega) (by omega)]; omega), oi_succ, nn_oi (nn_lt _)]
      exact hin _ x a hx ha
    · intro f x hx
      show fX10_bestWedding_b24 (f + 1) (oG2 x) (oG1 x) (oi _) τ = _
      rw [fX10_bestWedding_b24, hH.1, nn_oi (nn_lt _), if_pos ((oi_le (by omega) (by omega)).mpr (Nat.le_refl _))]
  · intro R Z s; decide
  · intro σ w h0 hk h
    unfold fX9_bestWedding
    rw [if_pos h.1.1]; rfl
  · intro σ h
    unfold fX10_bestWedding
    rw [good_eq, obv_s]
    generalize gd σ = τ at h ⊢
    rw [if_pos h]; rfl
