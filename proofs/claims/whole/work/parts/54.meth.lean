/-! stones -/
def sCo (Z : Nat → Int64) (x : Int64) (y : Bool) (q : Nat) (b : Int32) : Int32 := if x &&& sYn Z q y = 0 then b else b ||| (1 : Int32) <<< (oi q &&& 31)
def sAk (R : Nat → Int32) (Z : Nat → Int64) (x : Int64) (k : Nat) : Int32 := ofd (sCo Z x (decide (R (89 + k) = 1))) 0 (nn (R 5))
def sSu (Z : Nat → Int64) (x : Int64) (y : Bool) (q : Nat) (b : Int32) : Int32 := if sBy x (Z q) = b2 y then b ||| (1 : Int32) <<< (oi q &&& 31) else b
section
variable {σ : OM} {w : Nat} {R : Nat → Int32} {Z : Nat → Int64} {s : Nat → Int32}
theorem stone_eq (h : CX σ w R Z s) {k : Nat} (hk : k < nn (R 7)) : fX2_stoneSaysYes w (oi k) σ = some (b2 (decide (R (89 + k) = 1)), σ) := by
  have hS := x_Sb h
  unfold fX2_stoneSaysYes
  rw [bitOfW_eq _ (by omega), obi_s, h.2.1.2.2.2.1.2 k hk]
  cases decide (R (89 + k) = 1) <;> rfl
theorem askable_eq (h : CX σ w R Z s) {k : Nat} (hk : k < nn (R 7)) {x : Int64} (hx : x &&& Z 8 = x) : fX2_askable w (oi k) x σ = some (sAk R Z x k, σ) := by
  have hQ := x_Qb h
  unfold fX2_askable sAk
  refine lup0 (g := fun f b q => fX2_askable_b6 f w (oi k) x b (oi q) σ) (step := sCo Z x (decide (R (89 + k) = 1))) (fin := fun b => some (b, σ)) (n := nn (R 5)) ?_ ?_ oF (by unfold oF; omega)
  · intro f b q hq
    show fX2_askable_b6 (f + 1) w (oi k) x b (oi q) σ = fX2_askable_b6 f w (oi k) x _ (oi (q + 1)) σ
    rw [fX2_askable_b6, x_Q h, if_neg (by rw [oi_le (by omega) (by omega)]; omega), stone_eq h hk, obi_s, worldsWith_eq h hq, obi_s, sub_drop hx]
    unfold sCo
    simp only [cmp_eq]
    split <;> rw [oi_succ]
  · intro f b
    show fX2_askable_b6 (f + 1) w (oi k) x b (oi _) σ = _
    rw [fX2_askable_b6, x_Q h, if_pos ((oi_le (by omega) (by omega)).mpr (Nat.le_refl _))]
theorem ix89 (k : Nat) : (89 : Int32) + oi k = oi (89 + k) := oi_add 89 k
theorem sCo_0 (Z : Nat → Int64) (y : Bool) (n : Nat) : ofd (sCo Z 0 y) 0 n = 0 := by
  induction n with
  | zero => rfl
  | succ n ih =>
    show sCo Z 0 y n (ofd (sCo Z 0 y) 0 n) = 0
    rw [ih]; unfold sCo
    rw [if_pos (by rw [Int64.zero_and])]
theorem couldOf_eq {τ : OM} (h : RB τ) {k : Nat} (hk : k < nn (mI τ 84 7)) (x : Int64) : fX10_couldOf (oi k) x 0 τ = some (sAk (mI τ 84) (mL τ 86) x k, τ) := by
  have hQ := h.2.1.1.2.2.2.2.1
  have hQb := hQ.2
  have hSb := h.2.1.1.2.2.2.2.2.1.2
  have go : ∀ y : Bool, fX10_couldOf_b26 oF x 0 (b2 y) 0 (oi 0) τ = some (ofd (sCo (mL τ 86) x y) 0 (nn (mI τ 84 5)), τ) := by
    intro y
    refine (lup0 (g := fun f b q => fX10_couldOf_b26 f x 0 (b2 y) b (oi q) τ) (step := sCo (mL τ 86) x y) (fin := fun b => fX10_couldOf_b108 x b τ) (n := nn (mI τ 84 5)) ?_ ?_ oF (by unfold oF; omega)).trans ?_
    · intro f b q hq
      show fX10_couldOf_b26 (f + 1) x 0 (b2 y) b (oi q) τ = fX10_couldOf_b26 f x 0 (b2 y) _ (oi (q + 1)) τ
      rw [fX10_couldOf_b26, hQ.1, if_neg (by rw [oi_le (by omega) (by omega)]; omega), ogi (by omega) (by omega), ogi (by omega) (by omega), oi_nat (by omega)]
      unfold fX10_couldOf_b64 sCo
      simp only [cmp_eq]
      cases y
      · rw [if_pos (show b2 false = 0 from rfl), if_pos trivial, sYn_f]
        split <;> rw [oi_succ]
        rw [Int32.or_zero]
      · rw [if_neg (show ¬ b2 true = 0 by decide), if_pos trivial, sYn_t]
        split <;> rw [oi_succ]
        rw [Int32.or_zero]
    · intro f b
      show fX10_couldOf_b26 (f + 1) x 0 (b2 y) b (oi _) τ = _
      rw [fX10_couldOf_b26, hQ.1, nn_oi (nn_lt _), if_pos ((oi_le (by omega) (by omega)).mpr (Nat.le_refl _))]
    · unfold fX10_couldOf_b108
      simp only [cmp_eq]
      split
      · rename_i e; rw [e, sCo_0]
      · rfl
  unfold fX10_couldOf
  rw [ix89, ogi (by omega) (by omega), oi_nat (by omega)]
  unfold sAk
  by_cases e : mI τ 84 (89 + k) = 1
  · rw [if_pos e, decide_eq_true e]; exact go true
  · rw [if_neg e, decide_eq_false e]; exact go false
theorem su_iff {x z : Int64} (hx : x ≠ 0) : (sBy x z = 1 ↔ x &&& z = x) ∧ (sBy x z = 0 ↔ x &&& (z ^^^ (-1)) = x) := by
  have e1 : x &&& (z ^^^ (-1)) = 0 ↔ x &&& z = x := by
    constructor
    · intro e; apply tb_ext; intro i hi
      have := tb_eq0.mp e i hi
      rw [tb_and, tb_not _ hi] at this
      rw [tb_and]
      cases hb : tb x i <;> cases hz : tb z i <;> simp_all
    · intro e; apply tb_eq0.mpr; intro i hi
      have : tb (x &&& z) i = tb x i := by rw [e]
      rw [tb_and] at this
      rw [tb_and, tb_not _ hi]
      cases hb : tb x i <;> cases hz : tb z i <;> simp_all
  have e2 : x &&& z = 0 ↔ x &&& (z ^^^ (-1)) = x := by
    constructor
    · intro e; apply tb_ext; intro i hi
      have := tb_eq0.mp e i hi
      rw [tb_and] at this
      rw [tb_and, tb_not _ hi]
      cases hb : tb x i <;> cases hz : tb z i <;> simp_all
    · intro e; apply tb_eq0.mpr; intro i hi
      have : tb (x &&& (z ^^^ (-1))) i = tb x i := by rw [e]
      rw [tb_and, tb_not _ hi] at this
      rw [tb_and]
      cases hb : tb x i <;> cases hz : tb z i <;> simp_all
  unfold sBy
  rw [if_neg hx]
  by_cases g1 : x &&& (z ^^^ (-1)) = 0
  · rw [if_pos g1]
    refine ⟨⟨fun _ => e1.mp g1, fun _ => rfl⟩, ⟨fun e => absurd e (by decide), fun e => ?_⟩⟩
    rw [g1] at e; exact absurd e.symm hx
  · rw [if_neg g1]
    by_cases g2 : x &&& z = 0
    · rw [if_pos g2]
      exact ⟨⟨fun e => absurd e (by decide), fun e => absurd (e1.mpr e) g1⟩, ⟨fun _ => e2.mp g2, fun _ => rfl⟩⟩
    · rw [if_neg g2]
      exact ⟨⟨fun e => absurd e (by decide), fun e => absurd (e1.mpr e) g1⟩, ⟨fun e => absurd e (by decide), fun e => absurd (e2.mpr e) g2⟩⟩
theorem su_yn {Z : Nat → Int64} {x : Int64} (hx : x ≠ 0) (q : Nat) (y : Bool) : sBy x (Z q) = b2 y ↔ x &&& sYn Z q y = x := by
  cases y
  · exact (su_iff (z := Z q) hx).2
  · exact (su_iff (z := Z q) hx).1
theorem sSu_0 (Z : Nat → Int64) (y : Bool) (n : Nat) : ofd (sSu Z 0 y) 0 n = 0 := by
  induction n with
  | zero => rfl
  | succ n ih =>
    show sSu Z 0 y n (ofd (sSu Z 0 y) 0 n) = 0
    rw [ih]; unfold sSu sBy
    rw [if_pos rfl, if_neg (by cases y <;> decide)]
theorem surelyOf_eq {τ : OM} (h : RB τ) {k : Nat} (hk : k < nn (mI τ 84 7)) (x : Int64) : fX10_couldOf (oi k) x 1 τ = some (ofd (sSu (mL τ 86) x (decide (mI τ 84 (89 + k) = 1))) 0 (nn (mI τ 84 5)), τ) := by
  have hQ := h.2.1.1.2.2.2.2.1
  have hQb := hQ.2
  have hSb := h.2.1.1.2.2.2.2.2.1.2
  have go : ∀ y : Bool, fX10_couldOf_b26 oF x 1 (b2 y) 0 (oi 0) τ = some (ofd (sSu (mL τ 86) x y) 0 (nn (mI τ 84 5)), τ) := by
    intro y
    by_cases hx : x = 0
    · subst hx
      rw [sSu_0]
      refine (lup0 (g := fun f b q => fX10_couldOf_b26 f 0 1 (b2 y) b (oi q) τ) (step := fun q b => b ||| (1 : Int32) <<< (oi q &&& 31)) (fin := fun b => fX10_couldOf_b108 0 b τ) (n := nn (mI τ 84 5)) ?_ ?_ oF (by unfold oF; omega)).trans ?_
      · intro f b q hq
        show fX10_couldOf_b26 (f + 1) 0 1 (b2 y) b (oi q) τ = fX10_couldOf_b26 f 0 1 (b2 y) _ (oi (q + 1)) τ
        rw [fX10_couldOf_b26, hQ.1, if_neg (by rw [oi_le (by omega) (by omega)]; omega), ogi (by omega) (by omega), ogi (by omega) (by omega), oi_nat (by omega)]
        unfold fX10_couldOf_b64
        simp only [cmp_eq]
        cases y
        · rw [if_pos (show b2 false = 0 from rfl), if_neg (by decide), if_pos (Int64.zero_and), oi_succ]
        · rw [if_neg (show ¬ b2 true = 0 by decide), if_neg (by decide), if_pos (Int64.zero_and), oi_succ]
      · intro f b
        show fX10_couldOf_b26 (f + 1) 0 1 (b2 y) b (oi _) τ = _
        rw [fX10_couldOf_b26, hQ.1, nn_oi (nn_lt _), if_pos ((oi_le (by omega) (by omega)).mpr (Nat.le_refl _))]
      · unfold fX10_couldOf_b108
        rw [if_pos (by decide)]
    · refine (lup0 (g := fun f b q => fX10_couldOf_b26 f x 1 (b2 y) b (oi q) τ) (step := sSu (mL τ 86) x y) (fin := fun b => fX10_couldOf_b108 x b τ) (n := nn (mI τ 84 5)) ?_ ?_ oF (by unfold oF; omega)).trans ?_
      · intro f b q hq
        show fX10_couldOf_b26 (f + 1) x 1 (b2 y) b (oi q) τ = fX10_couldOf_b26 f x 1 (b2 y) _ (oi (q + 1)) τ
        rw [fX10_couldOf_b26, hQ.1, if_neg (by rw [oi_le (by omega) (by omega)]; omega), ogi (by omega) (by omega), ogi (by omega) (by omega), oi_nat (by omega)]
        unfold fX10_couldOf_b64 sSu
        simp only [cmp_eq, su_yn hx]
        cases y
        · rw [if_pos (show b2 false = 0 from rfl), if_neg (by decide), sYn_f]
          split <;> rw [oi_succ]
          rw [Int32.or_zero]
        · rw [if_neg (show ¬ b2 true = 0 by decide), if_neg (by decide), sYn_t]
          split <;> rw [oi_succ]
          rw [Int32.or_zero]
      · intro f b
        show fX10_couldOf_b26 (f + 1) x 1 (b2 y) b (oi _) τ = _
        rw [fX10_couldOf_b26, hQ.1, nn_oi (nn_lt _), if_pos ((oi_le (by omega) (by omega)).mpr (Nat.le_refl _))]
      · unfold fX10_couldOf_b108
        rw [if_neg (by rw [cmp_eq]; exact hx)]
  unfold fX10_couldOf
  rw [ix89, ogi (by omega) (by omega), oi_nat (by omega)]
  by_cases e : mI τ 84 (89 + k) = 1
  · rw [if_pos e, decide_eq_true e]; exact go true
  · rw [if_neg e, decide_eq_false e]; exact go false
end
theorem m_could (n : Nat) (x : Int32) : okC n (fX9_could x) (fX10_could x) := by
  refine look1 (fun R Z s => (if (oin x (nn (R 7))) = true then sAk R Z (sKn R Z s 63) (nn x) else -1 : Int32)) (fun R Z s => (sTr (oin x (nn (R 7))) : Int32)) (-1) ?_ ?_ ?_ ?_ ?_
  · intro σ w R Z s h0 hk h7 h
    unfold fX9_could
    have h64 := p2_le (x_Fb h.1)
    have hHb := x_Hb h.1
    have hQb := x_Qb h.1
    have hNb := x_Nb h.1
    have hSb := x_Sb h.1
    rw [isS_c h.1 h0 hk, obi_s]
    cases hb0 : oin x (nn (R 7))
    · rw [if_pos (by decide)]; rfl
    obtain ⟨a, ha, ha2, rfl⟩ := oin_iff hb0
    rw [if_neg (by decide)]
    rw [h0, ogd_d hk, ogd_d hk, all_eq h, obi_s, askable_eq h.1 ha (sKn_sub _ _ _ _), obi_s, nn_oi ha2]; rfl
  · intro σ h
    unfold fX10_could
    rw [good_eq, obv_s]
    generalize gd σ = τ at h ⊢
    have h64 := p2_le h.2.1.1.1.2
    have hHb := h.2.1.1.2.2.1.2
    have hQb := h.2.1.1.2.2.2.2.1.2
    have hNb := h.2.2.2.1.2
    have hSb := h.2.1.1.2.2.2.2.2.1.2
    rw [isS_r h, obi_s]
    cases hb0 : oin x (nn (mI τ 84 7))
    · rw [if_pos (by decide)]; rfl
    obtain ⟨a, ha, ha2, rfl⟩ := oin_iff hb0
    rw [if_neg (by decide)]
    rw [kn_r h, obi_s, couldOf_eq h ha, obi_s, nn_oi ha2]; rfl
  · intro R Z s; exact sTr_ne _
  · intro σ w h0 hk h
    unfold fX9_could
    rw [nS_c h h0 hk, obi_s, if_pos rfl]; rfl
  · intro σ h
    unfold fX10_could
    rw [good_eq, obv_s]
    generalize gd σ = τ at h ⊢
    rw [nS_r h, obi_s, if_pos rfl]; rfl
theorem m_surely (n : Nat) (x : Int32) : okC n (fX9_surely x) (fX10_surely x) := by
  refine look1 (fun R Z s => (if (oin x (nn (R 7))) = true then ofd (sSu Z (sKn R Z s 63) (decide (R (89 + nn x) = 1))) 0 (nn (R 5)) else -1 : Int32)) (fun R Z s => (sTr (oin x (nn (R 7))) : Int32)) (-1) ?_ ?_ ?_ ?_ ?_
  · intro σ w R Z s h0 hk h7 h
    unfold fX9_surely
    have h64 := p2_le (x_Fb h.1)
    have hHb := x_Hb h.1
    have hQb := x_Qb h.1
    have hNb := x_Nb h.1
    have hSb := x_Sb h.1
    rw [isS_c h.1 h0 hk, obi_s]
    cases hb0 : oin x (nn (R 7))
    · rw [if_pos (by decide)]; rfl
    obtain ⟨a, ha, ha2, rfl⟩ := oin_iff hb0
    rw [if_neg (by decide)]
    have go : ∀ y : Bool, fX9_surely_b54 oF w (sKn R Z s 63) (b2 y) 0 (oi 0) σ = some (ofd (sSu Z (sKn R Z s 63) y) 0 (nn (R 5)), sI σ 0 9 0) := by
      intro y
      refine lup0 (g := fun f b q => fX9_surely_b54 f w (sKn R Z s 63) (b2 y) b (oi q) σ) (step := sSu Z (sKn R Z s 63) y) (fin := fun b => some (b, sI σ 0 9 0)) (n := nn (R 5)) ?_ ?_ oF (by unfold oF; omega)
      · intro f b q hq
        show fX9_surely_b54 (f + 1) w (sKn R Z s 63) (b2 y) b (oi q) σ = fX9_surely_b54 f w (sKn R Z s 63) (b2 y) _ (oi (q + 1)) σ
        rw [fX9_surely_b54, x_Q h.1, if_neg (by rw [oi_le (by omega) (by omega)]; omega), soWorlds_eq (by omega), obi_s, verdict_eq, obi_s, verd_q h.1 (sKn_sub _ _ _ _) hq]
        unfold sSu
        split <;> rw [oi_succ]
      · intro f b
        show fX9_surely_b54 (f + 1) w (sKn R Z s 63) (b2 y) b (oi _) σ = _
        rw [fX9_surely_b54, x_Q h.1, if_pos ((oi_le (by omega) (by omega)).mpr (Nat.le_refl _))]; rfl
    rw [h0, ogd_d hk, ogd_d hk, all_eq h, obi_s, stone_eq h.1 ha, obi_s, nn_oi ha2]
    cases decide (R (89 + a) = 1)
    · rw [if_pos (by decide)]; exact go false
    · rw [if_neg (by decide)]; exact go true
  · intro σ h
    unfold fX10_surely
    rw [good_eq, obv_s]
    generalize gd σ = τ at h ⊢
    have h64 := p2_le h.2.1.1.1.2
    have hHb := h.2.1.1.2.2.1.2
    have hQb := h.2.1.1.2.2.2.2.1.2
    have hNb := h.2.2.2.1.2
    have hSb := h.2.1.1.2.2.2.2.2.1.2
    rw [isS_r h, obi_s]
    cases hb0 : oin x (nn (mI τ 84 7))
    · rw [if_pos (by decide)]; rfl
    obtain ⟨a, ha, ha2, rfl⟩ := oin_iff hb0
    rw [if_neg (by decide)]
    rw [kn_r h, obi_s, surelyOf_eq h ha, obi_s, nn_oi ha2]; rfl
  · intro R Z s; exact sTr_ne _
  · intro σ w h0 hk h
    unfold fX9_surely
    rw [nS_c h h0 hk, obi_s, if_pos rfl]; rfl
  · intro σ h
    unfold fX10_surely
    rw [good_eq, obv_s]
    generalize gd σ = τ at h ⊢
    rw [nS_r h, obi_s, if_pos rfl]; rfl
/-! the best question -/
def sML (R : Nat → Int32) (Z : Nat → Int64) (x : Int64) (q : Nat) : Nat := Nat.max (sWt R (x &&& Z q)) (sWt R (x &&& (Z q ^^^ (-1))))
/-- the first with the least -/
def sMn (v : Nat → Nat) (k : Nat) (b : Option Nat) : Option Nat := match b with
  | none => some k
  | some m => if v k < v m then some k else some m
def oV (v : Nat → Nat) (b : Option Nat) : Int32 := match b with
  | none => 0
  | some m => oi (v m)
theorem max_eq {a b : Nat} (ha : a < 2147483648) (hb : b < 2147483648) (σ : OM) : fJ9_max_7cf53 (oi a) (oi b) σ = some (oi (Nat.max a b), σ) := by
  unfold fJ9_max_7cf53
  rw [ite_iff (oi_lt ha hb)]
  by_cases h : a < b
  · rw [if_pos h, show Nat.max a b = b from Nat.max_eq_right (Nat.le_of_lt h)]
  · rw [if_neg h, show Nat.max a b = a from Nat.max_eq_left (by omega)]
theorem greater_eq {a b : Nat} (ha : a < 9223372036854775808) (hb : b < 9223372036854775808) (σ : OM) : fX10_greater (ol a) (ol b) σ = some (ol (Nat.max a b), σ) := by
  unfold fX10_greater
  rw [ite_iff ((cmp_le _ _).trans (ol_le ha hb))]
  by_cases h : a ≤ b
  · rw [if_pos h, show Nat.max a b = b from Nat.max_eq_right h]
  · rw [if_neg h, show Nat.max a b = a from Nat.max_eq_left (by omega)]
theorem sMn_lt (v : Nat → Nat) (n : Nat) : ∀ m, ofd (sMn v) none n = some m → m < n := by
  have h := ofd_ind (s := sMn v) (a := none) (n := n) (P := fun n b => ∀ m, b = some m → m < n) (fun m e => by cases e) (fun k b hk hb m e => by
    cases b with
    | none => cases e; omega
    | some a =>
      have ha := hb a rfl
      have e' : (if v k < v a then some k else some a) = some m := e
      split at e' <;> cases e' <;> omega)
  exact h
theorem sMn_none (v : Nat → Nat) {n : Nat} : ofd (sMn v) none n = none ↔ n = 0 := by
  cases n with
  | zero => exact ⟨fun _ => rfl, fun _ => rfl⟩
  | succ n =>
    refine ⟨fun e => ?_, fun e => by omega⟩
    have e1 : sMn v n (ofd (sMn v) none n) = none := e
    cases h : ofd (sMn v) none n with
    | none => rw [h] at e1; cases e1
    | some a =>
      rw [h] at e1
      have e' : (if v n < v a then some n else some a) = none := e1
      split at e' <;> cases e'
section
variable {σ : OM} {w : Nat} {R : Nat → Int32} {Z : Nat → Int64} {s : Nat → Int32}
theorem sML_le (h : MB R Z) (x : Int64) (q : Nat) : sML R Z x q ≤ 34012224 := Nat.max_le.mpr ⟨wt_le h _, wt_le h _⟩
theorem mostLeft_eq (h : CX σ w R Z s) {x : Int64} (hx : x &&& Z 8 = x) {q : Nat} (hq : q < nn (R 5)) : fX2_mostLeft w x (oi q) σ = some (oi (sML R Z x q), σ) := by
  have l1 := wt_le h.1.1 (x &&& Z q)
  have l2 := wt_le h.1.1 (x &&& (Z q ^^^ (-1)))
  have w1 := worldsWith_eq h hq true
  have w0 := worldsWith_eq h hq false
  unfold fX2_mostLeft
  rw [show (1 : Int32) = b2 true from rfl, show (0 : Int32) = b2 false from rfl, w1, obi_s, sub_drop hx, sYn_t, weigh_eq h (sub_an _ hx), obi_s, w0, obi_s, sub_drop hx, sYn_f, weigh_eq h (sub_an _ hx), obi_s, max_eq (by omega) (by omega), obi_s]; rfl
theorem bestIn_eq (h : CX σ w R Z s) {x : Int64} (hx : x &&& Z 8 = x) : fX2_bestIn w x σ = some (oE (ofd (sMn (sML R Z x)) none (nn (R 5))), σ) := by
  have hQ := x_Qb h
  unfold fX2_bestIn
  refine lup (g := fun f (b : Option Nat) k => fX2_bestIn_b9 f w x (oE b) (oV (sML R Z x) b) (oi k) σ) (a := none) (step := sMn (sML R Z x)) (fin := fun b => some (oE b, σ)) (n := nn (R 5)) (I := fun n b => ∀ m, b = some m → m < n) (fun m e => by cases e) ?_ ?_ ?_ oF (by unfold oF; omega)
  · intro k b hk hI m e
    cases b with
    | none => cases e; omega
    | some a =>
      have ha := hI a rfl
      have e' : (if sML R Z x k < sML R Z x a then some k else some a) = some m := e
      split at e' <;> cases e' <;> omega
  · intro f b k hk hI
    show fX2_bestIn_b9 (f + 1) w x (oE b) (oV (sML R Z x) b) (oi k) σ = fX2_bestIn_b9 f w x (oE (sMn _ k b)) (oV (sML R Z x) (sMn _ k b)) (oi (k + 1)) σ
    have l1 := sML_le h.1.1 x k
    rw [fX2_bestIn_b9, x_Q h, if_neg (by rw [oi_le (by omega) (by omega)]; omega), mostLeft_eq h hx hk, obi_s, oi_succ]
    cases b with
    | none => rw [if_pos (show oE none = -2 from rfl)]; rfl
    | some m =>
      have hm := hI m rfl
      have l2 := sML_le h.1.1 x m
      rw [if_neg (show ¬ oE (some m) = -2 from ne2 m (by omega))]
      show (if oi (sML R Z x m) ≤ oi (sML R Z x k) then _ else _) = fX2_bestIn_b9 f w x (oE (if sML R Z x k < sML R Z x m then some k else some m)) (oV (sML R Z x) (if sML R Z x k < sML R Z x m then some k else some m)) _ σ
      rw [ite_iff (oi_le (by omega) (by omega))]
      by_cases e : sML R Z x k < sML R Z x m
      · rw [if_neg (by omega), if_pos e]; rfl
      · rw [if_pos (by omega), if_neg e]
  · intro f b hI
    show fX2_bestIn_b9 (f + 1) w x (oE b) (oV (sML R Z x) b) (oi _) σ = _
    rw [fX2_bestIn_b9, x_Q h, if_pos ((oi_le (by omega) (by omega)).mpr (Nat.le_refl _))]
theorem atMost_eq {τ : OM} (h : RB τ) (x : Int64) {q : Nat} (hq : q < nn (mI τ 84 5)) : fX10_leftAtMost x (oi q) τ = some (ol (sML (mI τ 84) (mL τ 86) x q), τ) := by
  have hQb := h.2.1.1.2.2.2.2.1.2
  have l1 := wt_le h.2.1 (x &&& mL τ 86 q)
  have l2 := wt_le h.2.1 (x &&& (mL τ 86 q ^^^ (-1)))
  unfold fX10_leftAtMost
  rw [ogi (by omega) (by omega), oi_nat (by omega), weight_eq h.2.1.1.1 h.2.1.2.1, obi_s, ogi (by omega) (by omega), weight_eq h.2.1.1.1 h.2.1.2.1, obi_s, greater_eq (by omega) (by omega), obi_s]; rfl
theorem bestOf_eq {τ : OM} (h : RB τ) (x : Int64) : fX10_bestOf x τ = some (oE (ofd (sMn (sML (mI τ 84) (mL τ 86) x)) none (nn (mI τ 84 5))), τ) := by
  have hQ := h.2.1.1.2.2.2.2.1
  have hQb := hQ.2
  unfold fX10_bestOf
  refine lup (g := fun f (b : Option Nat) k => fX10_bestOf_b6 f x (oE b) (oi k) τ) (a := none) (step := sMn (sML (mI τ 84) (mL τ 86) x)) (fin := fun b => some (oE b, τ)) (n := nn (mI τ 84 5)) (I := fun n b => ∀ m, b = some m → m < n) (fun m e => by cases e) ?_ ?_ ?_ oF (by unfold oF; omega)
  · intro k b hk hI m e
    cases b with
    | none => cases e; omega
    | some a =>
      have ha := hI a rfl
      have e' : (if sML (mI τ 84) (mL τ 86) x k < sML (mI τ 84) (mL τ 86) x a then some k else some a) = some m := e
      split at e' <;> cases e' <;> omega
  · intro f b k hk hI
    show fX10_bestOf_b6 (f + 1) x (oE b) (oi k) τ = fX10_bestOf_b6 f x (oE (sMn _ k b)) (oi (k + 1)) τ
    have l1 := sML_le h.2.1 x k
    rw [fX10_bestOf_b6, hQ.1, if_neg (by rw [oi_le (by omega) (by omega)]; omega), oi_succ]
    cases b with
    | none => rw [if_pos (show oE none = -2 from rfl)]; rfl
    | some m =>
      have hm := hI m rfl
      have l2 := sML_le h.2.1 x m
      rw [if_neg (show ¬ oE (some m) = -2 from ne2 m (by omega)), atMost_eq h x hk, obi_s, show oE (some m) = oi m from rfl, atMost_eq h x (by omega), obi_s, ite_iff ((cmp_ge _ _).trans (ol_le (by omega) (by omega)))]
      show _ = fX10_bestOf_b6 f x (oE (if sML (mI τ 84) (mL τ 86) x k < sML (mI τ 84) (mL τ 86) x m then some k else some m)) _ τ
      by_cases e : sML (mI τ 84) (mL τ 86) x k < sML (mI τ 84) (mL τ 86) x m
      · rw [if_neg (by omega), if_pos e]; rfl
      · rw [if_pos (by omega), if_neg e]; rfl
  · intro f b hI
    show fX10_bestOf_b6 (f + 1) x (oE b) (oi _) τ = _
    rw [fX10_bestOf_b6, hQ.1, nn_oi (nn_lt _), if_pos ((oi_le (by omega) (by omega)).mpr (Nat.le_refl _))]
end
def sBl (R : Nat → Int32) (Z : Nat → Int64) (x : Int64) : Int32 := match ofd (sMn (sML R Z x)) none (nn (R 5)) with
  | none => -1
  | some m => oi (sML R Z x m)
theorem m_best (n : Nat) (x : Int32) : okC n (fX9_best x) (fX10_best x) := by
  refine look1 (fun R Z s => (if (oin x (nn (R 3))) = true then oE (ofd (sMn (sML R Z (sKn R Z s (sKin s (nn x))))) none (nn (R 5))) else -1 : Int32)) (fun R Z s => (sTr (oin x (nn (R 3))) : Int32)) (-1) ?_ ?_ ?_ ?_ ?_
  · intro σ w R Z s h0 hk h7 h
    unfold fX9_best
    have h64 := p2_le (x_Fb h.1)
    have hHb := x_Hb h.1
    have hQb := x_Qb h.1
    have hNb := x_Nb h.1
    have hSb := x_Sb h.1
    rw [isH_c h.1 h0 hk, obi_s]
    cases hb0 : oin x (nn (R 3))
    · rw [if_pos (by decide)]; rfl
    obtain ⟨a, ha, ha2, rfl⟩ := oin_iff hb0
    rw [if_neg (by decide)]
    rw [h0, ogd_d hk, ogd_d hk, ofK_eq h ha, obi_s, bestIn_eq h.1 (sKn_sub _ _ _ _), obi_s, nn_oi ha2]; rfl
  · intro σ h
    unfold fX10_best
    rw [good_eq, obv_s]
    generalize gd σ = τ at h ⊢
    have h64 := p2_le h.2.1.1.1.2
    have hHb := h.2.1.1.2.2.1.2
    have hQb := h.2.1.1.2.2.2.2.1.2
    have hNb := h.2.2.2.1.2
    have hSb := h.2.1.1.2.2.2.2.2.1.2
    rw [isH_r h, obi_s]
    cases hb0 : oin x (nn (mI τ 84 3))
    · rw [if_pos (by decide)]; rfl
    obtain ⟨a, ha, ha2, rfl⟩ := oin_iff hb0
    rw [if_neg (by decide)]
    rw [kin_r h ha, obi_s, kn_r h, obi_s, bestOf_eq h, obi_s, nn_oi ha2]; rfl
  · intro R Z s; exact sTr_ne _
  · intro σ w h0 hk h
    unfold fX9_best
    rw [nH_c h h0 hk, obi_s, if_pos rfl]; rfl
  · intro σ h
    unfold fX10_best
    rw [good_eq, obv_s]
    generalize gd σ = τ at h ⊢
    rw [nH_r h, obi_s, if_pos rfl]; rfl
theorem m_bestLeft (n : Nat) (x : Int32) : okC n (fX9_bestLeft x) (fX10_bestLeft x) := by
  refine look1 (fun R Z s => (if (oin x (nn (R 3))) = true then sBl R Z (sKn R Z s (sKin s (nn x))) else -1 : Int32)) (fun R Z s => (if (oin x (nn (R 3))) = true then (if nn (R 5) = 0 then 6 else 0) else 1 : Int32)) (-1) ?_ ?_ ?_ ?_ ?_
  · intro σ w R Z s h0 hk h7 h
    unfold fX9_bestLeft
    have h64 := p2_le (x_Fb h.1)
    have hHb := x_Hb h.1
    have hQb := x_Qb h.1
    have hNb := x_Nb h.1
    have hSb := x_Sb h.1
    rw [isH_c h.1 h0 hk, obi_s]
    cases hb0 : oin x (nn (R 3))
    · rw [if_pos (by decide)]; rfl
    obtain ⟨a, ha, ha2, rfl⟩ := oin_iff hb0
    rw [if_neg (by decide)]
    rw [h0, ogd_d hk, ofK_eq h ha, obi_s, h0, ogd_d hk, bestIn_eq h.1 (sKn_sub _ _ _ _), obi_s, isQ_c h.1 h0 hk, obi_s, nn_oi ha2]
    unfold sBl
    cases e : ofd (sMn (sML R Z (sKn R Z s (sKin s a)))) none (nn (R 5)) with
    | none =>
      have e0 := (sMn_none _).mp e
      rw [oin_neg (show oE none < 0 by decide), if_pos (by decide), if_pos e0]; rfl
    | some m =>
      have hm := sMn_lt _ _ m e
      rw [show oE (some m) = oi m from rfl, oin_oi (by omega), decide_eq_true hm, if_neg (by decide), h0, ogd_d hk, mostLeft_eq h.1 (sKn_sub _ _ _ _) hm, obi_s, if_neg (show ¬ nn (R 5) = 0 by omega)]; rfl
  · intro σ h
    unfold fX10_bestLeft
    rw [good_eq, obv_s]
    generalize gd σ = τ at h ⊢
    have h64 := p2_le h.2.1.1.1.2
    have hHb := h.2.1.1.2.2.1.2
    have hQb := h.2.1.1.2.2.2.2.1.2
    have hNb := h.2.2.2.1.2
    have hSb := h.2.1.1.2.2.2.2.2.1.2
    rw [isH_r h, obi_s]
    cases hb0 : oin x (nn (mI τ 84 3))
    · rw [if_pos (by decide)]; rfl
    obtain ⟨a, ha, ha2, rfl⟩ := oin_iff hb0
    rw [if_neg (by decide)]
    have hQ := h.2.1.1.2.2.2.2.1
    rw [nn_oi ha2]
    unfold sBl
    cases e : ofd (sMn (sML (mI τ 84) (mL τ 86) (sKn (mI τ 84) (mL τ 86) (mI τ 88) (sKin (mI τ 88) a)))) none (nn (mI τ 84 5)) with
    | none =>
      have e0 := (sMn_none _).mp e
      rw [if_pos (by rw [hQ.1, e0]; rfl), if_pos e0]; rfl
    | some m =>
      have hm := sMn_lt _ _ m e
      have l1 := sML_le h.2.1 (sKn (mI τ 84) (mL τ 86) (mI τ 88) (sKin (mI τ 88) a)) m
      rw [if_neg (by rw [hQ.1, oi_ne0 (nn_lt _)]; omega), kin_r h ha, obi_s, kn_r h, obi_s, bestOf_eq h, obi_s, e, show oE (some m) = oi m from rfl, atMost_eq h _ hm, obi_s, ol_int32 (by omega), if_neg (show ¬ nn (mI τ 84 5) = 0 by omega)]; rfl
  · intro R Z s; (try dsimp only); split <;> first | decide | (split <;> decide)
  · intro σ w h0 hk h
    unfold fX9_bestLeft
    rw [nH_c h h0 hk, obi_s, if_pos rfl]; rfl
  · intro σ h
    unfold fX10_bestLeft
    rw [good_eq, obv_s]
    generalize gd σ = τ at h ⊢
    rw [nH_r h, obi_s, if_pos rfl]; rfl
theorem m_leftMean (n : Nat) (x : Int32) (y : Int32) (lo : Bool) : okC n (fX9_leftMean x y (b2 lo)) (fX10_leftMean x y (b2 lo)) := by
  refine look1 (fun R Z s => (if (oin x (nn (R 3)) && oin y (nn (R 5))) = true then (if sKn R Z s (sKin s (nn x)) = 0 then -1 else sFr (sWt R (sKn R Z s (sKin s (nn x)) &&& Z (nn y)) * sWt R (sKn R Z s (sKin s (nn x)) &&& Z (nn y)) + sWt R (sKn R Z s (sKin s (nn x)) &&& (Z (nn y) ^^^ (-1))) * sWt R (sKn R Z s (sKin s (nn x)) &&& (Z (nn y) ^^^ (-1)))) (sWt R (sKn R Z s (sKin s (nn x)))) lo) else -1 : Int64)) (fun R Z s => (if (oin x (nn (R 3)) && oin y (nn (R 5))) = true then (if sKn R Z s (sKin s (nn x)) = 0 then 6 else 0) else 1 : Int32)) (-1) ?_ ?_ ?_ ?_ ?_
  · intro σ w R Z s h0 hk h7 h
    unfold fX9_leftMean
    have h64 := p2_le (x_Fb h.1)
    have hHb := x_Hb h.1
    have hQb := x_Qb h.1
    have hNb := x_Nb h.1
    have hSb := x_Sb h.1
    rw [isH_c h.1 h0 hk, obi_s]
    cases hb0 : oin x (nn (R 3))
    · rw [if_pos (by decide)]; rfl
    obtain ⟨a, ha, ha2, rfl⟩ := oin_iff hb0
    rw [if_neg (by decide)]
    rw [isQ_c h.1 h0 hk, obi_s]
    cases hb1 : oin y (nn (R 5))
    · rw [if_pos (by decide)]; rfl
    obtain ⟨b, hb, hb2, rfl⟩ := oin_iff hb1
    rw [if_neg (by decide)]
    rw [h0, ogd_d hk, ogd_d hk, ofK_eq h ha, obi_s, nn_oi ha2, nn_oi hb2]
    generalize hX : sKn R Z s (sKin s a) = X
    have hs : X &&& Z 8 = X := by rw [← hX]; exact sKn_sub _ _ _ _
    simp only [cmp_eq]
    by_cases e : X = 0
    · rw [if_pos e, if_pos e, if_pos e]; rfl
    · have l0 := wt_le h.1.1.1 X
      have l1 := wt_le h.1.1.1 (X &&& Z b)
      have l2 := wt_le h.1.1.1 (X &&& (Z b ^^^ (-1)))
      have l3 := wt_pos h.1.1.1 e
      have l4 := sWt_split R X (Z b)
      rw [if_neg e, if_neg e, if_neg e, weigh_eq h.1 hs, obi_s, soWorlds_eq (by omega), obi_s, x_and h.1 hs hb, weigh_eq h.1 (sub_an _ hs), obi_s, oi_long (by omega), oi_long (by omega), ol_sub (by omega), ol_mul, ol_mul, ol_add]
      rw [show sWt R X - sWt R (X &&& Z b) = sWt R (X &&& (Z b ^^^ (-1))) by omega]
      have m1 : sWt R (X &&& Z b) * sWt R (X &&& Z b) ≤ 34012224 * 34012224 := Nat.mul_le_mul l1 l1
      have m2 : sWt R (X &&& (Z b ^^^ (-1))) * sWt R (X &&& (Z b ^^^ (-1))) ≤ 34012224 * 34012224 := Nat.mul_le_mul l2 l2
      rw [terms_eq (by omega) (by omega) l3, obi_s]; rfl
  · intro σ h
    unfold fX10_leftMean
    rw [good_eq, obv_s]
    generalize gd σ = τ at h ⊢
    have h64 := p2_le h.2.1.1.1.2
    have hHb := h.2.1.1.2.2.1.2
    have hQb := h.2.1.1.2.2.2.2.1.2
    have hNb := h.2.2.2.1.2
    have hSb := h.2.1.1.2.2.2.2.2.1.2
    rw [isH_r h, obi_s]
    cases hb0 : oin x (nn (mI τ 84 3))
    · rw [if_pos (by decide)]; rfl
    obtain ⟨a, ha, ha2, rfl⟩ := oin_iff hb0
    rw [if_neg (by decide)]
    rw [isQ_r h, obi_s]
    cases hb1 : oin y (nn (mI τ 84 5))
    · rw [if_pos (by decide)]; rfl
    obtain ⟨b, hb, hb2, rfl⟩ := oin_iff hb1
    rw [if_neg (by decide)]
    rw [kin_r h ha, obi_s, kn_r h, obi_s, nn_oi ha2, nn_oi hb2]
    generalize hX : sKn (mI τ 84) (mL τ 86) (mI τ 88) (sKin (mI τ 88) a) = X
    simp only [cmp_eq]
    by_cases e : X = 0
    · rw [if_pos e, if_pos e, if_pos e]; rfl
    · have l0 := wt_le h.2.1 X
      have l1 := wt_le h.2.1 (X &&& mL τ 86 b)
      have l2 := wt_le h.2.1 (X &&& (mL τ 86 b ^^^ (-1)))
      have l3 := wt_pos h.2.1 e
      have l4 := sWt_split (mI τ 84) X (mL τ 86 b)
      have m1 : sWt (mI τ 84) (X &&& mL τ 86 b) * sWt (mI τ 84) (X &&& mL τ 86 b) ≤ 34012224 * 34012224 := Nat.mul_le_mul l1 l1
      have m2 : sWt (mI τ 84) (X &&& (mL τ 86 b ^^^ (-1))) * sWt (mI τ 84) (X &&& (mL τ 86 b ^^^ (-1))) ≤ 34012224 * 34012224 := Nat.mul_le_mul l2 l2
      rw [if_neg e, if_neg e, if_neg e, ogi (by omega) (by omega), oi_nat (by omega), weight_eq h.2.1.1.1 h.2.1.2.1, obi_s, ogi (by omega) (by omega), weight_eq h.2.1.1.1 h.2.1.2.1, obi_s, ol_mul, ol_mul, ol_add, ol_add, ← l4, lowest_eq (by omega) (by omega) l3, obi_s]; rfl
  · intro R Z s; (try dsimp only); split <;> first | decide | (split <;> decide)
  · intro σ w h0 hk h
    unfold fX9_leftMean
    rw [nH_c h h0 hk, obi_s, if_pos rfl]; rfl
  · intro σ h
    unfold fX10_leftMean
    rw [good_eq, obv_s]
    generalize gd σ = τ at h ⊢
    rw [nH_r h, obi_s, if_pos rfl]; rfl
