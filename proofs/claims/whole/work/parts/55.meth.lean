theorem pc_long {y : Int32} (h : ∀ j, tw y j = true → j < 31) : pc y.toInt64 = pcw y := by
  unfold pc pcw
  rw [show 64 = 32 + 32 from rfl, cnt_add]
  have e1 : cnt (tb y.toInt64) 32 = cnt (tw y) 32 := cnt_congr (fun k hk => tb_long y hk)
  have e2 : cnt (fun i => tb y.toInt64 (32 + i)) 32 = 0 := cnt_zero.mpr (fun k hk => by
    show tb y.toInt64 (32 + k) = false
    unfold tb
    rw [Int32.toBitVec_toInt64, BitVec.getLsbD_signExtend, if_neg (by omega)]
    have h31 : y.toBitVec.msb = false := by
      rw [BitVec.msb_eq_getLsbD_last]
      cases e : y.toBitVec.getLsbD 31
      · rfl
      · exact absurd (h 31 e) (by omega)
    rw [h31, Bool.and_false])
  rw [e1, e2]; rfl
theorem or_bit {b : Int32} {k n : Nat} (hk : k < n) (hn : n ≤ 31) (h : ∀ j, tw b j = true → j < k) : ∀ j, tw (b ||| (1 : Int32) <<< (oi k &&& 31)) j = true → j < k + 1 := by
  intro j hj
  rcases tw_or_iff hj with h1 | h1
  · have := h j h1; omega
  · have h2 := tw_lt h1
    rw [tw_shl k (by omega) j h2] at h1
    have := of_decide_eq_true h1; omega
theorem sCo_bits (Z : Nat → Int64) (x : Int64) (y : Bool) {n : Nat} (hn : n ≤ 31) : ∀ j, tw (ofd (sCo Z x y) 0 n) j = true → j < n :=
  ofd_ind (s := sCo Z x y) (a := 0) (n := n) (P := fun n b => ∀ j, tw b j = true → j < n) (fun j hj => by rw [tw_0] at hj; cases hj) (fun k b hk hb => by
    unfold sCo
    split
    · exact fun j hj => by have := hb j hj; omega
    · exact or_bit hk hn hb)
theorem sKo_bits (Z : Nat → Int64) (x : Int64) {n : Nat} (hn : n ≤ 31) : ∀ j, tw (ofd (sKo Z x) 0 n) j = true → j < n :=
  ofd_ind (s := sKo Z x) (a := 0) (n := n) (P := fun n b => ∀ j, tw b j = true → j < n) (fun j hj => by rw [tw_0] at hj; cases hj) (fun k b hk hb => by
    unfold sKo
    split
    · rw [Int32.or_zero]; exact fun j hj => by have := hb j hj; omega
    · exact or_bit hk hn hb)
theorem pcw_le (y : Int32) : pcw y ≤ 32 := cnt_le _ _
def sAa (R : Nat → Int32) (Z : Nat → Int64) (x : Int64) : Nat := ofd (fun k v => v + pcw (sAk R Z x k)) 0 (nn (R 7))
theorem sAa_le {R : Nat → Int32} (hS : nn (R 7) ≤ 4) (Z : Nat → Int64) (x : Int64) : sAa R Z x ≤ 128 := by
  have h : sAa R Z x ≤ 32 * nn (R 7) := ofd_ind (s := fun k v => v + pcw (sAk R Z x k)) (a := 0) (n := nn (R 7)) (P := fun n v => v ≤ 32 * n) (Nat.zero_le _) (fun k v hk hv => by
    have := pcw_le (sAk R Z x k)
    show v + _ ≤ _
    omega)
  omega
def sTv (R : Nat → Int32) (Z : Nat → Int64) (x : Int64) (q : Nat) : Nat := Nat.max (sAa R Z (x &&& Z q)) (sAa R Z (x &&& (Z q ^^^ (-1))))
theorem sTv_le {R : Nat → Int32} (hS : nn (R 7) ≤ 4) (Z : Nat → Int64) (x : Int64) (q : Nat) : sTv R Z x q ≤ 128 := Nat.max_le.mpr ⟨sAa_le hS _ _, sAa_le hS _ _⟩
section
variable {σ : OM} {w : Nat} {R : Nat → Int32} {Z : Nat → Int64} {s : Nat → Int32}
theorem ofAllA_eq (h : CX σ w R Z s) {x : Int64} (hx : x &&& Z 8 = x) : fX2_askableOfAll w x σ = some (oi (sAa R Z x), σ) := by
  have hS := x_Sb h
  unfold fX2_askableOfAll
  refine lup0 (g := fun f v k => fX2_askableOfAll_b5 f w x (oi v) (oi k) σ) (a := 0) (step := fun k v => v + pcw (sAk R Z x k)) (fin := fun v => some (oi v, σ)) (n := nn (R 7)) ?_ ?_ oF (by unfold oF; omega)
  · intro f v k hk
    show fX2_askableOfAll_b5 (f + 1) w x (oi v) (oi k) σ = fX2_askableOfAll_b5 f w x (oi _) (oi (k + 1)) σ
    rw [fX2_askableOfAll_b5, x_S h, if_neg (by rw [oi_le (by omega) (by omega)]; omega), askable_eq h hk hx, obi_s, bcW, obi_s, oi_add, oi_succ]
  · intro f v
    show fX2_askableOfAll_b5 (f + 1) w x (oi v) (oi _) σ = _
    rw [fX2_askableOfAll_b5, x_S h, if_pos ((oi_le (by omega) (by omega)).mpr (Nat.le_refl _))]
theorem mostAsk_eq (h : CX σ w R Z s) {x : Int64} (hx : x &&& Z 8 = x) {q : Nat} (hq : q < nn (R 5)) : fX2_mostAskable w x (oi q) σ = some (oi (sTv R Z x q), σ) := by
  have l1 := sAa_le (x_Sb h) Z (x &&& Z q)
  have l2 := sAa_le (x_Sb h) Z (x &&& (Z q ^^^ (-1)))
  have w1 := worldsWith_eq h hq true
  have w0 := worldsWith_eq h hq false
  unfold fX2_mostAskable
  rw [show (1 : Int32) = b2 true from rfl, show (0 : Int32) = b2 false from rfl, w1, obi_s, sub_drop hx, sYn_t, ofAllA_eq h (sub_an _ hx), obi_s, w0, obi_s, sub_drop hx, sYn_f, ofAllA_eq h (sub_an _ hx), obi_s, max_eq (by omega) (by omega), obi_s]; rfl
theorem allCould_eq {τ : OM} (h : RB τ) (x : Int64) : fX10_allCould x τ = some (oi (sAa (mI τ 84) (mL τ 86) x), τ) := by
  have hS := h.2.1.1.2.2.2.2.2.1
  have hSb := hS.2
  have hQb := h.2.1.1.2.2.2.2.1.2
  unfold fX10_allCould
  refine lup0 (g := fun f v k => fX10_allCould_b5 f x (oi v) (oi k) τ) (a := 0) (step := fun k v => v + pcw (sAk (mI τ 84) (mL τ 86) x k)) (fin := fun v => some (oi v, τ)) (n := nn (mI τ 84 7)) ?_ ?_ oF (by unfold oF; omega)
  · intro f v k hk
    show fX10_allCould_b5 (f + 1) x (oi v) (oi k) τ = fX10_allCould_b5 f x (oi _) (oi (k + 1)) τ
    rw [fX10_allCould_b5, hS.1, if_neg (by rw [oi_le (by omega) (by omega)]; omega), couldOf_eq h hk, obi_s, ones_eq, obi_s, pc_long (fun j hj => by have := sCo_bits (mL τ 86) x _ (n := nn (mI τ 84 5)) (by omega) j hj; omega), oi_add, oi_succ]
  · intro f v
    show fX10_allCould_b5 (f + 1) x (oi v) (oi _) τ = _
    rw [fX10_allCould_b5, hS.1, nn_oi (nn_lt _), if_pos ((oi_le (by omega) (by omega)).mpr (Nat.le_refl _))]
end
def oLl (v : Nat → Nat) (b : Option Nat) : Int64 := match b with
  | none => 1000000
  | some m => ol (v m)
theorem m_tells (n : Nat) : okC n (fX9_tells) (fX10_tells) := by
  refine look1 (fun R Z s => (oE (ofd (sMn (sTv R Z (sKn R Z s 63))) none (nn (R 5))) : Int32)) (fun R Z s => (0 : Int32)) (-1) ?_ ?_ ?_ ?_ ?_
  · intro σ w R Z s h0 hk h7 h
    unfold fX9_tells
    have h64 := p2_le (x_Fb h.1)
    have hHb := x_Hb h.1
    have hQb := x_Qb h.1
    have hNb := x_Nb h.1
    have hSb := x_Sb h.1
    rw [if_neg (by rw [h7]; decide)]
    rw [h0, ogd_d hk, all_eq h, obi_s]
    generalize hX : sKn R Z s 63 = X
    have hs : X &&& Z 8 = X := by rw [← hX]; exact sKn_sub _ _ _ _
    refine lup (g := fun f (b : Option Nat) k => fX9_tells_b33 f X (oV (sTv R Z X) b) (oE b) (oi k) σ) (a := none) (step := sMn (sTv R Z X)) (fin := fun b => some (oE b, sI σ 0 9 0)) (n := nn (R 5)) (I := fun n b => ∀ m, b = some m → m < n) (fun m e => by cases e) ?_ ?_ ?_ oF (by unfold oF; omega)
    · intro k b hk' hI m e
      cases b with
      | none => cases e; omega
      | some a =>
        have ha := hI a rfl
        have e' : (if sTv R Z X k < sTv R Z X a then some k else some a) = some m := e
        split at e' <;> cases e' <;> omega
    · intro f b k hk' hI
      show fX9_tells_b33 (f + 1) X (oV (sTv R Z X) b) (oE b) (oi k) σ = fX9_tells_b33 f X (oV (sTv R Z X) (sMn _ k b)) (oE (sMn _ k b)) (oi (k + 1)) σ
      have l1 := sTv_le hSb Z X k
      rw [fX9_tells_b33, h0, ogd_d hk, x_Q h.1, if_neg (by rw [oi_le (by omega) (by omega)]; omega), ogd_d hk, mostAsk_eq h.1 hs hk', obi_s, oi_succ]
      cases b with
      | none => rw [if_pos (show oE none = -2 from rfl)]; rfl
      | some m =>
        have hm := hI m rfl
        have l2 := sTv_le hSb Z X m
        rw [if_neg (show ¬ oE (some m) = -2 from ne2 m (by omega))]
        show (if oi (sTv R Z X m) ≤ oi (sTv R Z X k) then _ else _) = fX9_tells_b33 f X (oV (sTv R Z X) (if sTv R Z X k < sTv R Z X m then some k else some m)) (oE (if sTv R Z X k < sTv R Z X m then some k else some m)) _ σ
        rw [ite_iff (oi_le (by omega) (by omega))]
        by_cases e : sTv R Z X k < sTv R Z X m
        · rw [if_neg (by omega), if_pos e]; rfl
        · rw [if_pos (by omega), if_neg e]
    · intro f b hI
      show fX9_tells_b33 (f + 1) X (oV (sTv R Z X) b) (oE b) (oi _) σ = _
      rw [fX9_tells_b33, h0, ogd_d hk, x_Q h.1, if_pos ((oi_le (by omega) (by omega)).mpr (Nat.le_refl _))]; rfl
  · intro σ h
    unfold fX10_tells
    rw [good_eq, obv_s]
    generalize gd σ = τ at h ⊢
    have h64 := p2_le h.2.1.1.1.2
    have hHb := h.2.1.1.2.2.1.2
    have hQb := h.2.1.1.2.2.2.2.1.2
    have hNb := h.2.2.2.1.2
    have hSb := h.2.1.1.2.2.2.2.2.1.2
    rw [if_neg (by rw [h.1]; decide)]
    have hQ := h.2.1.1.2.2.2.2.1
    rw [kn_r h, obi_s]
    generalize sKn (mI τ 84) (mL τ 86) (mI τ 88) 63 = X
    refine lup (g := fun f (b : Option Nat) k => fX10_tells_b35 f X (oE b) (oLl (sTv (mI τ 84) (mL τ 86) X) b) (oi k) τ) (a := none) (step := sMn (sTv (mI τ 84) (mL τ 86) X)) (fin := fun b => some (oE b, τ)) (n := nn (mI τ 84 5)) (I := fun n b => ∀ m, b = some m → m < n) (fun m e => by cases e) ?_ ?_ ?_ oF (by unfold oF; omega)
    · intro k b hk' hI m e
      cases b with
      | none => cases e; omega
      | some a =>
        have ha := hI a rfl
        have e' : (if sTv (mI τ 84) (mL τ 86) X k < sTv (mI τ 84) (mL τ 86) X a then some k else some a) = some m := e
        split at e' <;> cases e' <;> omega
    · intro f b k hk' hI
      show fX10_tells_b35 (f + 1) X (oE b) (oLl (sTv (mI τ 84) (mL τ 86) X) b) (oi k) τ = fX10_tells_b35 f X (oE (sMn _ k b)) (oLl (sTv (mI τ 84) (mL τ 86) X) (sMn _ k b)) (oi (k + 1)) τ
      have l1 := sTv_le hSb (mL τ 86) X k
      have m1 := sAa_le hSb (mL τ 86) (X &&& mL τ 86 k)
      have m2 := sAa_le hSb (mL τ 86) (X &&& (mL τ 86 k ^^^ (-1)))
      rw [fX10_tells_b35, hQ.1, if_neg (by rw [oi_le (by omega) (by omega)]; omega), ogi (by omega) (by omega), oi_nat (by omega), allCould_eq h, obi_s, ogi (by omega) (by omega), allCould_eq h, obi_s, oi_long (by omega), oi_long (by omega), greater_eq (by omega) (by omega), obi_s, oi_succ]
      show (if lg_cmp (ol (sTv (mI τ 84) (mL τ 86) X k)) _ < 0 then _ else _) = _
      cases b with
      | none =>
        rw [if_pos (by rw [cmp_lt]; show ol _ < ol 1000000; rw [ol_lt (by omega) (by omega)]; omega)]; rfl
      | some m =>
        have hm := hI m rfl
        have l2 := sTv_le hSb (mL τ 86) X m
        show (if lg_cmp (ol (sTv (mI τ 84) (mL τ 86) X k)) (ol (sTv (mI τ 84) (mL τ 86) X m)) < 0 then _ else _) = fX10_tells_b35 f X (oE (if sTv (mI τ 84) (mL τ 86) X k < sTv (mI τ 84) (mL τ 86) X m then some k else some m)) (oLl (sTv (mI τ 84) (mL τ 86) X) (if sTv (mI τ 84) (mL τ 86) X k < sTv (mI τ 84) (mL τ 86) X m then some k else some m)) _ τ
        rw [ite_iff ((cmp_lt _ _).trans (ol_lt (by omega) (by omega)))]
        by_cases e : sTv (mI τ 84) (mL τ 86) X k < sTv (mI τ 84) (mL τ 86) X m
        · rw [if_pos e, if_pos e]; rfl
        · rw [if_neg e, if_neg e]
    · intro f b hI
      show fX10_tells_b35 (f + 1) X (oE b) _ (oi _) τ = _
      rw [fX10_tells_b35, hQ.1, nn_oi (nn_lt _), if_pos ((oi_le (by omega) (by omega)).mpr (Nat.le_refl _))]
  · intro R Z s; decide
  · intro σ w h0 hk h
    unfold fX9_tells
    rw [if_pos h.1.1]; rfl
  · intro σ h
    unfold fX10_tells
    rw [good_eq, obv_s]
    generalize gd σ = τ at h ⊢
    rw [if_pos h]; rfl
/-! clashes -/
def sCl (Z : Nat → Int64) (s : Nat → Int32) (a b : Nat) : Bool := decide ((sAns Z s a false &&& sAns Z s b false) &&& Z 8 = 0)
theorem sCl_comm (Z : Nat → Int64) (s : Nat → Int32) (a b : Nat) : sCl Z s a b = sCl Z s b a := by unfold sCl; rw [Int64.and_comm (sAns Z s a false)]
theorem cnt_ofd {p : Nat → Bool} : ∀ n, ofd (fun k v => v + if p k then 1 else 0) 0 n = cnt p n
  | 0 => rfl
  | n + 1 => by show ofd _ 0 n + _ = cnt p n + _; rw [cnt_ofd n]
theorem pairs_eq {C : Nat → Nat → Bool} (hC : ∀ a b, C a b = C b a) : ∀ N, ofd (fun k v => v + cnt (fun j => C k (k + 1 + j)) (N - (k + 1))) 0 N = ofd (fun a v => v + cnt (fun b => C a b) a) 0 N
  | 0 => rfl
  | N + 1 => by
    show ofd (fun k v => v + cnt (fun j => C k (k + 1 + j)) (N + 1 - (k + 1))) 0 N + cnt (fun j => C N (N + 1 + j)) (N + 1 - (N + 1)) = ofd (fun a v => v + cnt (fun b => C a b) a) 0 N + cnt (fun b => C N b) N
    have e1 : ofd (fun k v => v + cnt (fun j => C k (k + 1 + j)) (N + 1 - (k + 1))) 0 N = ofd (fun k v => v + (cnt (fun j => C k (k + 1 + j)) (N - (k + 1)) + if C k N then 1 else 0)) 0 N := by
      apply ofd_congr
      intro k v hk
      rw [show N + 1 - (k + 1) = (N - (k + 1)) + 1 by omega]
      show v + (cnt (fun j => C k (k + 1 + j)) (N - (k + 1)) + if C k (k + 1 + (N - (k + 1))) then 1 else 0) = _
      rw [show k + 1 + (N - (k + 1)) = N by omega]
    rw [e1, ofd_add, cnt_ofd, pairs_eq hC N, Nat.sub_self]
    show _ + cnt (fun k => C k N) N + 0 = _
    rw [cnt_congr (p := fun k => C k N) (q := fun b => C N b) (fun k _ => hC k N)]; rfl
section
variable {σ : OM} {w : Nat} {R : Nat → Int32} {Z : Nat → Int64} {s : Nat → Int32}
theorem clash_and (z a b : Int64) : (z &&& a) &&& (z &&& b) = (a &&& b) &&& z := by
  apply tb_ext; intro i hi
  simp only [tb_and]
  cases tb z i <;> cases tb a i <;> cases tb b i <;> rfl
theorem clashesOf_eq (h : CX σ w R Z s) {k fr : Nat} (hk : k < nn (s 1)) (hf : fr ≤ nn (s 1)) : fX3_clashesOf w (oi k) (oi fr) σ = some (oi (cnt (fun j => decide (fr + j ≠ k) && sCl Z s k (fr + j)) (nn (s 1) - fr)), σ) := by
  have hN := x_Nb h
  unfold fX3_clashesOf
  rw [← cnt_ofd]
  refine lup0 (g := fun f v j => fX3_clashesOf_b5 f w (oi k) (oi v) (oi (fr + j)) σ) (a := 0) (step := fun j v => v + if (decide (fr + j ≠ k) && sCl Z s k (fr + j)) then 1 else 0) (fin := fun v => some (oi v, σ)) (n := nn (s 1) - fr) ?_ ?_ oF (by unfold oF; omega)
  · intro f v j hj
    show fX3_clashesOf_b5 (f + 1) w (oi k) (oi v) (oi (fr + j)) σ = fX3_clashesOf_b5 f w (oi k) (oi (v + if (decide (fr + j ≠ k) && sCl Z s k (fr + j)) then 1 else 0)) (oi (fr + (j + 1))) σ
    rw [fX3_clashesOf_b5, x_N h, if_neg (by rw [oi_le (by omega) (by omega)]; omega)]
    by_cases e : fr + j = k
    · rw [if_pos (by rw [e]), oi_succ, decide_eq_false (fun h => h e)]; rfl
    · rw [if_neg (by rw [oi_inj (by omega) (by omega)]; exact e), asTold_eq h hk, obi_s, asTold_eq h (by omega), obi_s, clash_and, decide_eq_true e]
      unfold sCl
      simp only [cmp_eq]
      by_cases e2 : (sAns Z s k false &&& sAns Z s (fr + j) false) &&& Z 8 = 0
      · rw [if_pos e2, decide_eq_true e2, oi_succ, oi_succ]; rfl
      · rw [if_neg e2, decide_eq_false e2, oi_succ]; rfl
  · intro f v
    show fX3_clashesOf_b5 (f + 1) w (oi k) (oi v) (oi (fr + (nn (s 1) - fr))) σ = _
    rw [fX3_clashesOf_b5, x_N h, if_pos ((oi_le (by omega) (by omega)).mpr (by omega))]
theorem doClash_eq {τ : OM} (h : RB τ) {a b : Nat} (ha : a < nn (mI τ 88 1)) (hb : b < nn (mI τ 88 1)) : fX10_doClash (oi a) (oi b) τ = some (b2 (sCl (mL τ 86) (mI τ 88) a b), τ) := by
  obtain ⟨-, hA, hk0, -, -⟩ := h.2.2
  have hN := hA.2
  obtain ⟨-, -, q1, -, -⟩ := hk0 a ha
  obtain ⟨-, -, q2, -, -⟩ := hk0 b hb
  have e1 : fX10_answerSet (oi a) 0 τ = _ := answerSet_eq (σ := τ) (k := a) (by omega) (bd_mono q1 (by omega)) false
  have e2 : fX10_answerSet (oi b) 0 τ = _ := answerSet_eq (σ := τ) (k := b) (by omega) (bd_mono q2 (by omega)) false
  unfold fX10_doClash
  rw [e1, obi_s, e2, obi_s]
  unfold sCl
  simp only [cmp_eq]
  split
  · rename_i e; rw [decide_eq_true e]; rfl
  · rename_i e; rw [decide_eq_false e]; rfl
end
theorem m_clashes (n : Nat) : okC n (fX9_clashes) (fX10_clashes) := by
  refine look1 (fun R Z s => (oi (ofd (fun a v => v + cnt (fun b => sCl Z s a b) a) 0 (nn (s 1))) : Int32)) (fun R Z s => (0 : Int32)) (-1) ?_ ?_ ?_ ?_ ?_
  · intro σ w R Z s h0 hk h7 h
    unfold fX9_clashes
    have h64 := p2_le (x_Fb h.1)
    have hHb := x_Hb h.1
    have hQb := x_Qb h.1
    have hNb := x_Nb h.1
    have hSb := x_Sb h.1
    rw [if_neg (by rw [h7]; decide)]
    rw [← pairs_eq (sCl_comm Z s)]
    refine lup0 (g := fun f v k => fX9_clashes_b17 f (oi v) (oi k) σ) (a := 0) (step := fun k v => v + cnt (fun j => sCl Z s k (k + 1 + j)) (nn (s 1) - (k + 1))) (fin := fun v => some (oi v, sI σ 0 9 0)) (n := nn (s 1)) ?_ ?_ oF (by unfold oF; omega)
    · intro f v k hk'
      show fX9_clashes_b17 (f + 1) (oi v) (oi k) σ = fX9_clashes_b17 f (oi (v + cnt (fun j => sCl Z s k (k + 1 + j)) (nn (s 1) - (k + 1)))) (oi (k + 1)) σ
      rw [fX9_clashes_b17, h0, ogd_d hk, x_N h.1, if_neg (by rw [oi_le (by omega) (by omega)]; omega), ogd_d hk, oi_succ, clashesOf_eq h.1 hk' (by omega), obi_s, oi_add]
      rw [cnt_congr (p := fun j => decide (k + 1 + j ≠ k) && sCl Z s k (k + 1 + j)) (q := fun j => sCl Z s k (k + 1 + j)) (fun j _ => by rw [decide_eq_true (by omega)]; rfl)]
    · intro f v
      show fX9_clashes_b17 (f + 1) (oi v) (oi _) σ = _
      rw [fX9_clashes_b17, h0, ogd_d hk, x_N h.1, if_pos ((oi_le (by omega) (by omega)).mpr (Nat.le_refl _))]; rfl
  · intro σ h
    unfold fX10_clashes
    rw [good_eq, obv_s]
    generalize gd σ = τ at h ⊢
    have h64 := p2_le h.2.1.1.1.2
    have hHb := h.2.1.1.2.2.1.2
    have hQb := h.2.1.1.2.2.2.2.1.2
    have hNb := h.2.2.2.1.2
    have hSb := h.2.1.1.2.2.2.2.2.1.2
    rw [if_neg (by rw [h.1]; decide)]
    obtain ⟨-, hA, -, -, -⟩ := h.2.2
    have hin : ∀ (rc : Int32 → Int32 → OM → Option (Int32 × OM)) (v k : Nat), k < nn (mI τ 88 1) → fX10_clashes_b33 rc oF (oi v) (oi k) (oi 0) τ = rc (oi (v + cnt (fun b => sCl (mL τ 86) (mI τ 88) k b) k)) (oi (k + 1)) τ := by
      intro rc v k hk
      refine (lup0 (g := fun f u j => fX10_clashes_b33 rc f (oi u) (oi k) (oi j) τ) (a := v) (step := fun j u => u + if sCl (mL τ 86) (mI τ 88) k j then 1 else 0) (fin := fun u => rc (oi u) (oi (k + 1)) τ) (n := k) ?_ ?_ oF (by unfold oF; omega)).trans ?_
      · intro f u j hj
        show fX10_clashes_b33 rc (f + 1) (oi u) (oi k) (oi j) τ = fX10_clashes_b33 rc f (oi (u + if sCl (mL τ 86) (mI τ 88) k j then 1 else 0)) (oi k) (oi (j + 1)) τ
        rw [fX10_clashes_b33, if_neg (by rw [oi_le (by omega) (by omega)]; omega), doClash_eq h hk (by omega), obi_s]
        cases sCl (mL τ 86) (mI τ 88) k j
        · rw [if_pos (by decide), oi_succ, Int32.add_zero]; rfl
        · rw [if_neg (by decide), oi_succ, oi_succ]; rfl
      · intro f u
        show fX10_clashes_b33 rc (f + 1) (oi u) (oi k) (oi k) τ = _
        rw [fX10_clashes_b33, if_pos ((oi_le (by omega) (by omega)).mpr (Nat.le_refl _)), oi_succ]
      · have e : ∀ n, ofd (fun j u => u + if sCl (mL τ 86) (mI τ 88) k j then 1 else 0) v n = v + cnt (fun b => sCl (mL τ 86) (mI τ 88) k b) n := by
          intro n
          induction n with
          | zero => rfl
          | succ n ih => show ofd _ v n + _ = v + (cnt _ n + _); rw [ih, Nat.add_assoc]
        rw [e]
    refine lup0 (g := fun f v k => fX10_clashes_b21 f (oi v) (oi k) τ) (a := 0) (step := fun a v => v + cnt (fun b => sCl (mL τ 86) (mI τ 88) a b) a) (fin := fun v => some (oi v, τ)) (n := nn (mI τ 88 1)) ?_ ?_ oF (by unfold oF; omega)
    · intro f v k hk'
      show fX10_clashes_b21 (f + 1) (oi v) (oi k) τ = fX10_clashes_b21 f (oi _) (oi (k + 1)) τ
      rw [fX10_clashes_b21, hA.1, if_neg (by rw [oi_le (by omega) (by omega)]; omega)]
      exact hin _ v k hk'
    · intro f v
      show fX10_clashes_b21 (f + 1) (oi v) (oi _) τ = _
      rw [fX10_clashes_b21, hA.1, nn_oi (nn_lt _), if_pos ((oi_le (by omega) (by omega)).mpr (Nat.le_refl _))]
  · intro R Z s; decide
  · intro σ w h0 hk h
    unfold fX9_clashes
    rw [if_pos h.1.1]; rfl
  · intro σ h
    unfold fX10_clashes
    rw [good_eq, obv_s]
    generalize gd σ = τ at h ⊢
    rw [if_pos h]; rfl
