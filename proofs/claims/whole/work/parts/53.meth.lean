theorem ofd_stop {α : Type} {step : Nat → α → α} {a : α} {m n : Nat} (h : m ≤ n) (hs : ∀ k x, m ≤ k → k < n → step k x = x) : ofd step a n = ofd step a m := by
  induction n with
  | zero => have : m = 0 := by omega
            subst this; rfl
  | succ n ih =>
    by_cases e : m = n + 1
    · subst e; rfl
    · show step n (ofd step a n) = _
      rw [hs n _ (by omega) (by omega)]
      exact ih (by omega) (fun k x h1 h2 => hs k x h1 (by omega))
/-- the likeliest so far -/
def sLk (R : Nat → Int32) (x : Int64) (k : Nat) (b : Option Nat) : Option Nat := if tb x k then (match b with
  | none => some k
  | some m => if sOd R m < sOd R k then some k else some m) else b
def oOd (R : Nat → Int32) (b : Option Nat) : Int32 := match b with
  | none => 0
  | some m => oi (sOd R m)
theorem ne2 : ∀ m, m < 64 → ¬ (oi m = -2) := by decide +kernel
theorem m_likeliest (n : Nat) (x : Int32) : okC n (fX9_likeliest x) (fX10_likeliest x) := by
  refine look1 (fun R Z s => (if (oin x (nn (R 3))) = true then oE (ofd (sLk R (sKn R Z s (sKin s (nn x)))) none (2 ^ nn (R 1))) else -1 : Int32)) (fun R Z s => (sTr (oin x (nn (R 3))) : Int32)) (-1) ?_ ?_ ?_ ?_ ?_
  · intro σ w R Z s h0 hk h7 h
    unfold fX9_likeliest
    have h64 := p2_le (x_Fb h.1)
    have hHb := x_Hb h.1
    have hQb := x_Qb h.1
    have hNb := x_Nb h.1
    have hSb := x_Sb h.1
    rw [isH_c h.1 h0 hk, obi_s]
    cases hb0 : oin x (nn (R 3))
    · rw [if_pos (by decide)]; rfl
    obtain ⟨a, ha, ha2, rfl⟩ := oin_iff hb0
    rw [if_neg (by decide)]
    have hod := fun k => sOd_lt (x_Fb h.1) (x_o h.1) k
    rw [h0, ogd_d hk, ogd_d hk, ofK_eq h ha, obi_s, nn_oi ha2]
    have key : fX2_likeliestOf w (sKn R Z s (sKin s a)) σ = some (oE (ofd (sLk R (sKn R Z s (sKin s a))) none 64), σ) := by
      unfold fX2_likeliestOf
      refine lup0 (g := fun f (b : Option Nat) k => fX2_likeliestOf_b9 f w (sKn R Z s (sKin s a)) (oE b) (oOd R b) (oi k) σ) (a := none) (step := sLk R (sKn R Z s (sKin s a))) (fin := fun b => some (oE b, σ)) (n := 64) ?_ ?_ oF (by unfold oF; omega)
      · intro f b k hk'
        show fX2_likeliestOf_b9 (f + 1) w (sKn R Z s (sKin s a)) (oE b) (oOd R b) (oi k) σ = fX2_likeliestOf_b9 f w (sKn R Z s (sKin s a)) (oE (sLk _ _ k b)) (oOd R (sLk _ _ k b)) (oi (k + 1)) σ
        rw [fX2_likeliestOf_b9, lt64, if_neg (by rw [oi_le (by omega) (by omega)]; omega), bitOf_eq _ hk', obi_s]
        unfold sLk
        cases hb : tb (sKn R Z s (sKin s a)) k
        · rw [if_neg (by decide), if_neg (by decide), oi_succ]
        · have hF : k < 2 ^ nn (R 1) := x_in h.1 8 (Nat.le_refl _) k (sub_tb (sKn_sub _ _ _ _) hb)
          have l1 := hod k
          rw [if_pos (by decide), if_pos rfl, ogi (by omega) (by omega), ogi (by omega) (by omega), oi_nat (by omega), x_W h.1 hF, oi_succ]
          cases b with
          | none =>
            show (if oi (sOd R k) ≤ 0 then _ else _) = fX2_likeliestOf_b9 f w _ (oi k) (oi (sOd R k)) _ σ
            rw [show (0 : Int32) = oi 0 from rfl, ite_iff (oi_le (by omega) (by omega)), if_neg (by omega)]
          | some m =>
            have l2 := hod m
            show (if oi (sOd R k) ≤ oi (sOd R m) then _ else _) = fX2_likeliestOf_b9 f w _ (oE (if sOd R m < sOd R k then some k else some m)) (oOd R (if sOd R m < sOd R k then some k else some m)) _ σ
            rw [ite_iff (oi_le (by omega) (by omega))]
            by_cases e : sOd R m < sOd R k
            · rw [if_neg (by omega), if_pos e]; rfl
            · rw [if_pos (by omega), if_neg e]
      · intro f b
        show fX2_likeliestOf_b9 (f + 1) w _ (oE b) (oOd R b) (oi 64) σ = _
        rw [fX2_likeliestOf_b9, if_pos (by decide)]
    rw [key, obi_s, ofd_stop (m := 2 ^ nn (R 1)) (by omega) (fun k b h1 h2 => ?_)]
    · rfl
    · unfold sLk
      rw [if_neg]
      intro e
      have := x_in h.1 8 (Nat.le_refl _) k (sub_tb (sKn_sub _ _ _ _) e)
      omega
  · intro σ h
    unfold fX10_likeliest
    rw [good_eq, obv_s]
    generalize gd σ = τ at h ⊢
    have h64 := p2_le h.2.1.1.1.2
    have hHb := h.2.1.1.2.2.1.2
    have hQb := h.2.1.1.2.2.2.2.1.2
    have hNb := h.2.2.2.1.2
    have hSb := h.2.1.1.2.2.2.2.2.1.2
    rw [isH_r h, obi_s]
    cases hb0 : oin x (nn (mI τ 84 3))
    · rw [if_pos (by decide)]; rfl
    obtain ⟨a, ha, ha2, rfl⟩ := oin_iff hb0
    rw [if_neg (by decide)]
    have hF := h.2.1.1.1
    have ho := h.2.1.2.1
    have hod := fun k => sOd_lt hF.2 ho k
    rw [kin_r h ha, obi_s, kn_r h, obi_s, nn_oi ha2]
    refine lup (g := fun f (b : Option Nat) k => fX10_likeliest_b35 f (sKn (mI τ 84) (mL τ 86) (mI τ 88) (sKin (mI τ 88) a)) (oE b) (oi k) τ) (a := none) (step := sLk (mI τ 84) (sKn (mI τ 84) (mL τ 86) (mI τ 88) (sKin (mI τ 88) a))) (fin := fun b => some (oE b, τ)) (n := 2 ^ nn (mI τ 84 1)) (I := fun n b => ∀ m, b = some m → m < n) (fun m e => by cases e) ?_ ?_ ?_ oF (by unfold oF; omega)
    · intro k b hk' hI m e
      unfold sLk at e
      split at e
      · cases b with
        | none => cases e; omega
        | some m' =>
          have := hI m' rfl
          have e' : (if sOd (mI τ 84) m' < sOd (mI τ 84) k then some k else some m') = some m := e
          split at e' <;> cases e' <;> omega
      · have := hI m e; omega
    · intro f b k hk' hI
      show fX10_likeliest_b35 (f + 1) (sKn (mI τ 84) (mL τ 86) (mI τ 88) (sKin (mI τ 88) a)) (oE b) (oi k) τ = fX10_likeliest_b35 f (sKn (mI τ 84) (mL τ 86) (mI τ 88) (sKin (mI τ 88) a)) (oE (sLk _ _ k b)) (oi (k + 1)) τ
      rw [fX10_likeliest_b35, shlH hF (by decide), if_neg (by rw [oi_le (by omega) (by omega)]; omega), bitS _ (by omega)]
      unfold sLk
      cases hb : tb (sKn (mI τ 84) (mL τ 86) (mI τ 88) (sKin (mI τ 88) a)) k
      · rw [if_neg (by decide), if_neg (by decide), oi_succ]
      · rw [if_pos (by decide), if_pos rfl, oi_succ]
        cases b with
        | none =>
          rw [if_pos (show oE none < 0 by decide)]; rfl
        | some m =>
          have hm := hI m rfl
          have l1 := hod k
          have l2 := hod m
          show (if oi m < 0 then _ else obi (fX10_oddsOf (oi k) τ) (fun r1 σ2 => obi (fX10_oddsOf (oi m) σ2) _)) = fX10_likeliest_b35 f _ (oE (if sOd (mI τ 84) m < sOd (mI τ 84) k then some k else some m)) _ τ
          rw [if_neg (oi_nneg (by omega)), oddsOf_eq hF ho (by omega), obi_s, oddsOf_eq hF ho (by omega), obi_s, ite_iff (oi_le (by omega) (by omega))]
          by_cases e : sOd (mI τ 84) m < sOd (mI τ 84) k
          · rw [if_neg (by omega), if_pos e]; rfl
          · rw [if_pos (by omega), if_neg e]
    · intro f b hI
      show fX10_likeliest_b35 (f + 1) _ (oE b) (oi _) τ = _
      rw [fX10_likeliest_b35, shlH hF (by decide), if_pos ((oi_le (by omega) (by omega)).mpr (Nat.le_refl _))]
  · intro R Z s; exact sTr_ne _
  · intro σ w h0 hk h
    unfold fX9_likeliest
    rw [nH_c h h0 hk, obi_s, if_pos rfl]; rfl
  · intro σ h
    unfold fX10_likeliest
    rw [good_eq, obv_s]
    generalize gd σ = τ at h ⊢
    rw [nH_r h, obi_s, if_pos rfl]; rfl
def sGv (s : Nat → Int32) (a k v : Nat) : Nat := v + if nn (s (2 + 3 * k)) = a ∧ s (4 + 3 * k) = 1 then 1 else 0
theorem m_graves (n : Nat) (x : Int32) : okC n (fX9_graves x) (fX10_graves x) := by
  refine look1 (fun R Z s => (if (oin x (nn (R 3))) = true then oi (ofd (sGv s (nn x)) 0 (nn (s 1))) else -1 : Int32)) (fun R Z s => (sTr (oin x (nn (R 3))) : Int32)) (-1) ?_ ?_ ?_ ?_ ?_
  · intro σ w R Z s h0 hk h7 h
    unfold fX9_graves
    have h64 := p2_le (x_Fb h.1)
    have hHb := x_Hb h.1
    have hQb := x_Qb h.1
    have hNb := x_Nb h.1
    have hSb := x_Sb h.1
    rw [isH_c h.1 h0 hk, obi_s]
    cases hb0 : oin x (nn (R 3))
    · rw [if_pos (by decide)]; rfl
    obtain ⟨a, ha, ha2, rfl⟩ := oin_iff hb0
    rw [if_neg (by decide)]
    rw [h0, ogd_d hk, nn_oi ha2]
    have key : fX7_yesBy (w + 5) (oi a) σ = some (oi (ofd (sGv s a) 0 (nn (s 1))), σ) := by
      unfold fX7_yesBy
      refine lup0 (g := fun f v k => fX7_yesBy_b4 f (w + 5) (oi a) (oi v) (oi k) σ) (a := 0) (step := sGv s a) (fin := fun v => some (oi v, σ)) (n := nn (s 1)) ?_ ?_ oF (by unfold oF; omega)
      · intro f v k hk'
        obtain ⟨c, d⟩ := x_h h.1 hk'
        show fX7_yesBy_b4 (f + 1) (w + 5) (oi a) (oi v) (oi k) σ = fX7_yesBy_b4 f (w + 5) (oi a) (oi _) (oi (k + 1)) σ
        rw [fX7_yesBy_b4, x_N h.1, if_neg (by rw [oi_le (by omega) (by omega)]; omega), lt20, if_neg (by rw [oi_le (by omega) (by omega)]; omega), ogi (by omega) (by omega), ogi (by omega) (by omega), oi_nat (by omega)]
        rw [show mI σ (w + 5 + 1) k = mI σ (w + 6) k from rfl, show mI σ (w + 5 + 3) k = mI σ (w + 8) k from rfl, c, x_y h.1 hk', ite_iff (oi_inj (by omega) (by omega)), ite_iff (b2_0 _)]
        unfold sGv
        by_cases e1 : nn (s (2 + 3 * k)) = a
        · rw [if_pos e1]
          by_cases e2 : s (4 + 3 * k) = 1
          · rw [if_neg (by rw [decide_eq_true e2]; decide), if_pos ⟨e1, e2⟩, oi_succ, oi_succ]
          · rw [if_pos (decide_eq_false e2), if_neg (fun e => e2 e.2), oi_succ]; rfl
        · rw [if_neg e1, if_neg (fun e => e1 e.1), oi_succ]; rfl
      · intro f v
        show fX7_yesBy_b4 (f + 1) (w + 5) (oi a) (oi v) (oi _) σ = _
        rw [fX7_yesBy_b4, x_N h.1, if_pos ((oi_le (by omega) (by omega)).mpr (Nat.le_refl _))]
    rw [key, obi_s]; rfl
  · intro σ h
    unfold fX10_graves
    rw [good_eq, obv_s]
    generalize gd σ = τ at h ⊢
    have h64 := p2_le h.2.1.1.1.2
    have hHb := h.2.1.1.2.2.1.2
    have hQb := h.2.1.1.2.2.2.2.1.2
    have hNb := h.2.2.2.1.2
    have hSb := h.2.1.1.2.2.2.2.2.1.2
    rw [isH_r h, obi_s]
    cases hb0 : oin x (nn (mI τ 84 3))
    · rw [if_pos (by decide)]; rfl
    obtain ⟨a, ha, ha2, rfl⟩ := oin_iff hb0
    rw [if_neg (by decide)]
    obtain ⟨-, hA, hk0, -, -⟩ := h.2.2
    rw [nn_oi ha2]
    refine lup0 (g := fun f v k => fX10_graves_b22 f (oi a) (oi v) (oi k) τ) (a := 0) (step := sGv (mI τ 88) a) (fin := fun v => some (oi v, τ)) (n := nn (mI τ 88 1)) ?_ ?_ oF (by unfold oF; omega)
    · intro f v k hk'
      obtain ⟨b1, -, -, -, -⟩ := hk0 k hk'
      show fX10_graves_b22 (f + 1) (oi a) (oi v) (oi k) τ = fX10_graves_b22 f (oi a) (oi _) (oi (k + 1)) τ
      rw [fX10_graves_b22, hA.1, if_neg (by rw [oi_le (by omega) (by omega)]; omega), ix4, ix2, ogi (by omega) (by omega), ogi (by omega) (by omega), oi_nat (by omega), oi_nat (by omega), b1.1, ite_iff (oi_inj (nn_lt _) ha2)]
      unfold sGv
      by_cases e1 : nn (mI τ 88 (2 + 3 * k)) = a
      · rw [if_pos e1]
        by_cases e2 : mI τ 88 (4 + 3 * k) = 1
        · rw [if_pos e2, if_pos ⟨e1, e2⟩, oi_succ, oi_succ]
        · rw [if_neg e2, if_neg (fun e => e2 e.2), oi_succ, Int32.add_zero]; rfl
      · rw [if_neg e1, if_neg (fun e => e1 e.1), oi_succ, Int32.add_zero]; rfl
    · intro f v
      show fX10_graves_b22 (f + 1) (oi a) (oi v) (oi _) τ = _
      rw [fX10_graves_b22, hA.1, nn_oi (nn_lt _), if_pos ((oi_le (by omega) (by omega)).mpr (Nat.le_refl _))]
  · intro R Z s; exact sTr_ne _
  · intro σ w h0 hk h
    unfold fX9_graves
    rw [nH_c h h0 hk, obi_s, if_pos rfl]; rfl
  · intro σ h
    unfold fX10_graves
    rw [good_eq, obv_s]
    generalize gd σ = τ at h ⊢
    rw [nH_r h, obi_s, if_pos rfl]; rfl
/-- how many worlds an answer takes -/
def sTk (R : Nat → Int32) (Z : Nat → Int64) (s : Nat → Int32) (k : Nat) : Nat := pc (sLeft Z s 63 (oi (sTu Z s (nn (R 3)))) k &&& (sAns Z s k (tw (oi (sTu Z s (nn (R 3)))) (nn (s (2 + 3 * k)))) ^^^ (-1)))
theorem tw63 : ∀ i, i < 6 → tw 63 i = true := by decide +kernel
section
variable {σ : OM} {w : Nat} {R : Nat → Int32} {Z : Nat → Int64} {s : Nat → Int32}
theorem left_step {k : Nat} (hh : nn (s (2 + 3 * k)) < 6) (ls : Int32) : sLeft Z s 63 ls (k + 1) = sLeft Z s 63 ls k &&& sAns Z s k (tw ls (nn (s (2 + 3 * k)))) := by
  show sLs Z s 63 ls k (sLeft Z s 63 ls k) = _
  unfold sLs
  rw [if_pos (tw63 _ hh)]
theorem takenBy_eq (h : CW σ w R Z s) {k : Nat} (hk : k < nn (s 1)) : fX3_takenBy w (oi k) σ = some (oi (sTk R Z s k), σ) := by
  have hN := x_Nb h.1
  have hH := x_Hb h.1
  unfold fX3_takenBy
  rw [x_C h.1]
  refine lup (g := fun f x j => fX3_takenBy_b11 f w (oi k) x (oi j) σ) (step := sLs Z s 63 (oi (sTu Z s (nn (R 3))))) (fin := fun x => some (oi (pc (x &&& (sAns Z s k (tw (oi (sTu Z s (nn (R 3)))) (nn (s (2 + 3 * k)))) ^^^ (-1)))), σ)) (n := k) (I := fun _ x => x &&& Z 8 = x) Int64.and_self ?_ ?_ ?_ oF (by unfold oF; omega)
  · intro j x hj hx
    unfold sLs
    split
    · exact sub_and hx
    · exact hx
  · intro f x j hj hx
    obtain ⟨-, d⟩ := x_h h.1 (show j < nn (s 1) by omega)
    show fX3_takenBy_b11 (f + 1) w (oi k) x (oi j) σ = fX3_takenBy_b11 f w (oi k) _ (oi (j + 1)) σ
    rw [fX3_takenBy_b11, if_neg (by rw [oi_le (by omega) (by omega)]; omega), x_N h.1, if_neg (by rw [oi_le (by omega) (by omega)]; omega), byAnswer_eq h.1 (by omega) (w_li h), obi_s, sub_drop hx, oi_succ]
    unfold sLs
    rw [if_pos (tw63 _ (by omega))]
  · intro f x hx
    show fX3_takenBy_b11 (f + 1) w (oi k) x (oi k) σ = _
    rw [fX3_takenBy_b11, if_pos ((oi_le (by omega) (by omega)).mpr (Nat.le_refl _))]
    unfold fX3_takenBy_b44
    rw [byAnswer_eq h.1 hk (w_li h), obi_s, bcL, obi_s]
    congr 4
    apply tb_ext
    intro i hi
    rw [tb_and, tb_and, tb_not _ hi, tb_not _ hi, tb_and]
    cases hb : tb x i
    · rfl
    · rw [sub_tb hx hb]; rfl
theorem takesOf_eq {τ : OM} (h : RB τ) {k : Nat} (hk : k < nn (mI τ 88 1)) : fX10_takesOf (oi k) τ = some (oi (sTk (mI τ 84) (mL τ 86) (mI τ 88) k), τ) := by
  have hQb := h.2.1.1.2.2.2.2.1.2
  have hHb := h.2.1.1.2.2.1.2
  have hNb := h.2.2.2.1.2
  obtain ⟨-, -, hk0, -, -⟩ := h.2.2
  obtain ⟨-, b2', -⟩ := hk0 k hk
  unfold fX10_takesOf
  rw [turnedOf_eq h.2.2 hQb h.2.1.1.2.2.1, obi_s, leftBy_eq h.2.2 hQb _ _ (by omega), obi_s, ones_eq, obi_s, oi_succ, leftBy_eq h.2.2 hQb _ _ (by omega), obi_s, ones_eq, obi_s, left_step (by omega)]
  have e := pc_split (sLeft (mL τ 86) (mI τ 88) 63 (oi (sTu (mL τ 86) (mI τ 88) (nn (mI τ 84 3)))) k) (sAns (mL τ 86) (mI τ 88) k (tw (oi (sTu (mL τ 86) (mI τ 88) (nn (mI τ 84 3)))) (nn (mI τ 88 (2 + 3 * k)))))
  rw [oi_sub (by omega)]
  unfold sTk
  congr 3
  omega
end
theorem m_takes (n : Nat) (x : Int32) : okC n (fX9_takes x) (fX10_takes x) := by
  refine look1 (fun R Z s => (if (oin x (nn (s 1))) = true then oi (sTk R Z s (nn x)) else -1 : Int32)) (fun R Z s => (sTr (oin x (nn (s 1))) : Int32)) (-1) ?_ ?_ ?_ ?_ ?_
  · intro σ w R Z s h0 hk h7 h
    unfold fX9_takes
    have h64 := p2_le (x_Fb h.1)
    have hHb := x_Hb h.1
    have hQb := x_Qb h.1
    have hNb := x_Nb h.1
    have hSb := x_Sb h.1
    rw [isA_c h.1 h0 hk, obi_s]
    cases hb0 : oin x (nn (s 1))
    · rw [if_pos (by decide)]; rfl
    obtain ⟨a, ha, ha2, rfl⟩ := oin_iff hb0
    rw [if_neg (by decide)]
    rw [h0, ogd_d hk, takenBy_eq h ha, obi_s, nn_oi ha2]; rfl
  · intro σ h
    unfold fX10_takes
    rw [good_eq, obv_s]
    generalize gd σ = τ at h ⊢
    have h64 := p2_le h.2.1.1.1.2
    have hHb := h.2.1.1.2.2.1.2
    have hQb := h.2.1.1.2.2.2.2.1.2
    have hNb := h.2.2.2.1.2
    have hSb := h.2.1.1.2.2.2.2.2.1.2
    rw [isA_r h, obi_s]
    cases hb0 : oin x (nn (mI τ 88 1))
    · rw [if_pos (by decide)]; rfl
    obtain ⟨a, ha, ha2, rfl⟩ := oin_iff hb0
    rw [if_neg (by decide)]
    rw [takesOf_eq h ha, obi_s, nn_oi ha2]; rfl
  · intro R Z s; exact sTr_ne _
  · intro σ w h0 hk h
    unfold fX9_takes
    rw [nA_c h h0 hk, obi_s, if_pos rfl]; rfl
  · intro σ h
    unfold fX10_takes
    rw [good_eq, obv_s]
    generalize gd σ = τ at h ⊢
    rw [nA_r h, obi_s, if_pos rfl]; rfl
