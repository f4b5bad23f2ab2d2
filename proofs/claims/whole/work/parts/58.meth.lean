theorem oi_m2 {a : Nat} (h : a < 2147483648) : ¬ (oi a = -2) := fun e => by
  have e1 := congrArg Int32.toInt e
  rw [oi_int h, show (-2 : Int32).toInt = -2 by decide] at e1
  omega
theorem oi_m1 {a : Nat} (h : a < 2147483648) : ¬ (oi a = -1) := fun e => by
  have e1 := congrArg Int32.toInt e
  rw [oi_int h, show (-1 : Int32).toInt = -1 by decide] at e1
  omega
theorem m1_lt {a : Nat} (h : a < 2147483648) : (-1 : Int32) < oi a := by
  rw [Int32.lt_iff_toInt_lt, oi_int h, show (-1 : Int32).toInt = -1 by decide]; omega
def sNg (R : Nat → Int32) (h now : Nat) : Nat := if now ≤ nn (R (17 + 4 * h)) then 0 else (now - nn (R (17 + 4 * h)) + nn (R (18 + 4 * h)) - 1) / nn (R (18 + 4 * h))
theorem sYr_none {R : Nat → Int32} {h g g' : Nat} (e : sYr R h g = none) (hg : g ≤ g') : sYr R h g' = none := by
  have hm : nn (R (18 + 4 * h)) * g ≤ nn (R (18 + 4 * h)) * g' := Nat.mul_le_mul_left _ hg
  unfold sYr at e ⊢
  split at e
  · rw [if_pos (by omega)]
  · cases e
theorem sYr_some {R : Nat → Int32} {h g y : Nat} (e : sYr R h g = some y) : y = nn (R (17 + 4 * h)) + nn (R (18 + 4 * h)) * g := by
  unfold sYr at e
  split at e
  · cases e
  · cases e; rfl
theorem sNg_lt {R : Nat → Int32} {h now g : Nat} (hE : 1 ≤ nn (R (18 + 4 * h))) (hg : g < sNg R h now) : nn (R (17 + 4 * h)) + nn (R (18 + 4 * h)) * g < now := by
  unfold sNg at hg
  split at hg
  · omega
  · have h1 : (g + 1) * nn (R (18 + 4 * h)) ≤ now - nn (R (17 + 4 * h)) + nn (R (18 + 4 * h)) - 1 := (Nat.le_div_iff_mul_le (by omega)).mp (show g + 1 ≤ _ from hg)
    rw [Nat.add_mul, Nat.one_mul, Nat.mul_comm g] at h1
    omega
theorem sNg_ge {R : Nat → Int32} {h now : Nat} (hE : 1 ≤ nn (R (18 + 4 * h))) : now ≤ nn (R (17 + 4 * h)) + nn (R (18 + 4 * h)) * sNg R h now := by
  unfold sNg
  split
  · omega
  · have h1 := Nat.div_add_mod (now - nn (R (17 + 4 * h)) + nn (R (18 + 4 * h)) - 1) (nn (R (18 + 4 * h)))
    have h2 := Nat.mod_lt (now - nn (R (17 + 4 * h)) + nn (R (18 + 4 * h)) - 1) (show nn (R (18 + 4 * h)) > 0 by omega)
    omega
theorem sNg_le {R : Nat → Int32} {h now : Nat} (hn : now ≤ 999) (hE : nn (R (18 + 4 * h)) ≤ 99) : sNg R h now ≤ 1100 := by
  unfold sNg
  split
  · omega
  · exact Nat.le_trans (Nat.div_le_self _ _) (by omega)
theorem m_next (n : Nat) (x : Int32) : okC n (fX9_next x) (fX10_next x) := by
  refine look1 (fun R Z s => (if (oin x (nn (R 3))) = true then oY (sYr R (nn x) (sNg R (nn x) (nn (s 0)))) else -1 : Int32)) (fun R Z s => (sTr (oin x (nn (R 3))) : Int32)) (-1) ?_ ?_ ?_ ?_ ?_
  · intro σ w R Z s h0 hk h7 h
    unfold fX9_next
    have h64 := p2_le (x_Fb h.1)
    have hHb := x_Hb h.1
    have hQb := x_Qb h.1
    have hNb := x_Nb h.1
    have hSb := x_Sb h.1
    rw [isH_c h.1 h0 hk, obi_s]
    cases hb0 : oin x (nn (R 3))
    · rw [if_pos (by decide)]; rfl
    obtain ⟨a, ha, ha2, rfl⟩ := oin_iff hb0
    rw [if_neg (by decide)]
    obtain ⟨c1, c2, -, -, -⟩ := x_house h.1 ha
    obtain ⟨b1, b2', b3, -, -⟩ := HB h.1.1.1 ha
    obtain ⟨F, hF, eF⟩ := bd_ex b1
    obtain ⟨E, hE, eE⟩ := bd_ex b2'
    have hs := h.1.1.2.1
    have hn := hs.2
    have e0 : mI σ (w + 5) 6 = oi (nn (s 0)) := h.1.2.2.2.1.trans hs.1
    rw [h0, ogd_d hk, ogi (by omega) (by omega), ogd_d hk, oi_nat (by omega), e0, nn_oi ha2]
    have key : fX1_yearFrom (w + 14 + a) (oi (nn (s 0))) σ = some (oY (sYr R a (sNg R a (nn (s 0)))), σ) := by
      have l := sNg_le (R := R) (h := a) hn b2'.2
      unfold fX1_yearFrom
      rw [c1, c2, eF, eE, ite_iff (oi_le (by omega) (by omega))]
      unfold sNg at l ⊢
      rw [eF, eE, nn_oi (by omega), nn_oi (by omega)] at l ⊢
      rw [eE, nn_oi (by omega)] at b3
      by_cases e1 : nn (s 0) ≤ F
      · rw [if_pos e1, if_pos e1, show (0 : Int32) = oi 0 from rfl, yearOf_c h.1 ha (by omega), obi_s]
      · rw [if_neg e1, if_neg e1, show (1 : Int32) = oi 1 from rfl, if_pos ((oi_le (by omega) (by omega)).mpr b3), ogd_d (by rw [oi_ne0 (by omega)]; omega), oi_sub (by omega), oi_add, oi_sub (by omega), oi_div (by omega) (by omega), yearOf_c h.1 ha (by rw [if_neg e1] at l; omega), obi_s]
    rw [key, obi_s]; rfl
  · intro σ h
    unfold fX10_next
    rw [good_eq, obv_s]
    generalize gd σ = τ at h ⊢
    have h64 := p2_le h.2.1.1.1.2
    have hHb := h.2.1.1.2.2.1.2
    have hQb := h.2.1.1.2.2.2.2.1.2
    have hNb := h.2.2.2.1.2
    have hSb := h.2.1.1.2.2.2.2.2.1.2
    rw [isH_r h, obi_s]
    cases hb0 : oin x (nn (mI τ 84 3))
    · rw [if_pos (by decide)]; rfl
    obtain ⟨a, ha, ha2, rfl⟩ := oin_iff hb0
    rw [if_neg (by decide)]
    obtain ⟨b1, b2', b3, -, -⟩ := HB h.2.1 ha
    have hs := h.2.2.1
    have hn := hs.2
    have l := sNg_le (R := mI τ 84) (h := a) hn b2'.2
    have hm := mul_bd b2'.2 (show sNg (mI τ 84) a (nn (mI τ 88 0)) ≤ 100000 by omega)
    have go : ∀ d g m, g + d = sNg (mI τ 84) a (nn (mI τ 88 0)) → d < m → fX10_next_b20 m (oi a) (oi g) τ = some (oY (sYr (mI τ 84) a (sNg (mI τ 84) a (nn (mI τ 88 0)))), τ) := by
      intro d
      induction d with
      | zero =>
        intro g m h1 h2
        obtain ⟨m, rfl⟩ : ∃ m', m = m' + 1 := ⟨m - 1, by omega⟩
        have hg : g = sNg (mI τ 84) a (nn (mI τ 88 0)) := by omega
        rw [fX10_next_b20, yearOf_r h ha (by omega), obi_s]
        unfold fX10_next_b52
        rw [yearOf_r h ha (by omega), obi_s, obi_s, ← hg]
        cases e : sYr (mI τ 84) a g with
        | none => rw [if_pos (show oY none = -2 from rfl)]
        | some y =>
          have ey := sYr_some e
          have eg := sNg_ge (R := mI τ 84) (h := a) (now := nn (mI τ 88 0)) b3
          rw [← hg] at eg hm
          have := b1.2
          rw [if_neg (show ¬ oY (some y) = -2 from oi_m2 (by omega)), if_pos (show mI τ 88 0 ≤ oY (some y) by rw [hs.1, show oY (some y) = oi y from rfl, oi_le (nn_lt _) (by omega)]; omega), yearOf_r h ha (by omega), obi_s, e]
      | succ d ih =>
        intro g m h1 h2
        obtain ⟨m, rfl⟩ : ∃ m', m = m' + 1 := ⟨m - 1, by omega⟩
        rw [fX10_next_b20, yearOf_r h ha (by omega), obi_s]
        unfold fX10_next_b52
        rw [yearOf_r h ha (by omega), obi_s, obi_s]
        cases e : sYr (mI τ 84) a g with
        | none => rw [if_pos (show oY none = -2 from rfl), sYr_none e (by omega)]
        | some y =>
          have ey := sYr_some e
          have eg := sNg_lt (R := mI τ 84) (h := a) (now := nn (mI τ 88 0)) b3 (show g < _ by omega)
          rw [if_neg (show ¬ oY (some y) = -2 from oi_m2 (by omega)), if_neg (show ¬ mI τ 88 0 ≤ oY (some y) by rw [hs.1, show oY (some y) = oi y from rfl, oi_le (nn_lt _) (by omega)]; omega), oi_succ]
          exact ih (g + 1) m (by omega) (by omega)
    rw [show (0 : Int32) = oi 0 from rfl, go _ 0 oF (Nat.zero_add _) (by unfold oF; omega), nn_oi ha2]; rfl
  · intro R Z s; exact sTr_ne _
  · intro σ w h0 hk h
    unfold fX9_next
    rw [nH_c h h0 hk, obi_s, if_pos rfl]; rfl
  · intro σ h
    unfold fX10_next
    rw [good_eq, obv_s]
    generalize gd σ = τ at h ⊢
    rw [nH_r h, obi_s, if_pos rfl]; rfl
/-! turns up to a year -/
def sUb (R : Nat → Int32) (h Y : Nat) : Nat := if 0 < nn (R (20 + 4 * h)) ∧ nn (R (20 + 4 * h)) ≤ Y + 1 then nn (R (20 + 4 * h)) - 1 else Y + 1
def sGn (R : Nat → Int32) (h Y : Nat) : Nat := if sUb R h Y ≤ nn (R (17 + 4 * h)) then 0 else (sUb R h Y - 1 - nn (R (17 + 4 * h))) / nn (R (18 + 4 * h)) + 1
def sHt (R : Nat → Int32) (h Y : Nat) : Nat := sGn R h Y + cnt (sTw R h) (sGn R h Y)
theorem sGn_lt {R : Nat → Int32} {h Y g : Nat} (hE : 1 ≤ nn (R (18 + 4 * h))) : g < sGn R h Y ↔ nn (R (17 + 4 * h)) + nn (R (18 + 4 * h)) * g < sUb R h Y := by
  unfold sGn
  split
  · have := Nat.zero_le (nn (R (18 + 4 * h)) * g)
    omega
  · have h1 : g ≤ (sUb R h Y - 1 - nn (R (17 + 4 * h))) / nn (R (18 + 4 * h)) ↔ g * nn (R (18 + 4 * h)) ≤ sUb R h Y - 1 - nn (R (17 + 4 * h)) := Nat.le_div_iff_mul_le (by omega)
    rw [Nat.mul_comm g] at h1
    omega
theorem sGn_yes {R : Nat → Int32} {h Y g : Nat} (hE : 1 ≤ nn (R (18 + 4 * h))) (hg : g < sGn R h Y) : sYr R h g = some (nn (R (17 + 4 * h)) + nn (R (18 + 4 * h)) * g) ∧ nn (R (17 + 4 * h)) + nn (R (18 + 4 * h)) * g ≤ Y := by
  have h1 := (sGn_lt hE).mp hg
  unfold sUb at h1
  unfold sYr
  split at h1
  · rw [if_neg (by omega)]; exact ⟨rfl, by omega⟩
  · rw [if_neg (by omega)]; exact ⟨rfl, by omega⟩
theorem sGn_no {R : Nat → Int32} {h Y y : Nat} (hE : 1 ≤ nn (R (18 + 4 * h))) (e : sYr R h (sGn R h Y) = some y) : Y < y := by
  have h1 : ¬ (nn (R (17 + 4 * h)) + nn (R (18 + 4 * h)) * sGn R h Y < sUb R h Y) := fun h2 => absurd ((sGn_lt hE).mpr h2) (by omega)
  have ey := sYr_some e
  unfold sYr at e
  split at e
  · cases e
  · unfold sUb at h1
    split at h1 <;> omega
theorem sGn_le {R : Nat → Int32} {h Y : Nat} (hY : Y ≤ 999) : sGn R h Y ≤ 1001 := by
  have : sUb R h Y ≤ 1000 := by unfold sUb; split <;> omega
  unfold sGn
  split
  · omega
  · have := Nat.div_le_self (sUb R h Y - 1 - nn (R (17 + 4 * h))) (nn (R (18 + 4 * h)))
    omega
theorem ofd_from {f : Nat → Nat} (v : Nat) : ∀ n, ofd (fun k u => u + f k) v n = v + ofd (fun k u => u + f k) 0 n
  | 0 => rfl
  | n + 1 => by show ofd (fun k u => u + f k) v n + f n = v + (ofd (fun k u => u + f k) 0 n + f n); rw [ofd_from v n, Nat.add_assoc]
theorem sAi_sum (R : Nat → Int32) (h : Nat) : ∀ n, ofd (fun k u => u + sAi R h k) 0 n = n + cnt (sTw R h) n
  | 0 => rfl
  | n + 1 => by
    have e : cnt (sTw R h) (n + 1) = cnt (sTw R h) n + if sTw R h n then 1 else 0 := rfl
    show ofd (fun k u => u + sAi R h k) 0 n + sAi R h n = _
    rw [sAi_sum R h n, e]
    unfold sAi
    split <;> omega
theorem cnt_stop {p : Nat → Bool} {m n : Nat} (h : m ≤ n) (hs : ∀ k, m ≤ k → k < n → p k = false) : cnt p n = cnt p m := by
  induction n with
  | zero => have : m = 0 := by omega
            subst this; rfl
  | succ n ih =>
    by_cases e : m = n + 1
    · subst e; rfl
    · show cnt p n + (if p n then 1 else 0) = _
      rw [hs n (by omega) (by omega), ih (by omega) (fun k h1 h2 => hs k h1 (by omega))]; rfl
theorem cnt_cut {p : Nat → Bool} {m n : Nat} (h : m ≤ n) : cnt (fun j => p j && decide (j < m)) n = cnt p m := by
  rw [cnt_stop (m := m) h (fun k h1 h2 => by rw [decide_eq_false (by omega), Bool.and_false])]
  exact cnt_congr (fun k hk => by rw [decide_eq_true hk, Bool.and_true])
section
variable {σ : OM} {w : Nat} {R : Nat → Int32} {Z : Nat → Int64} {s : Nat → Int32}
theorem askTo_eq (h : CX σ w R Z s) {k Y : Nat} (hk : k < nn (R 3)) (hY : Y ≤ 999) : fX1_askingsTo (w + 14 + k) (oi Y) σ = some (oi (sHt R k Y), σ) := by
  obtain ⟨c1, c2, -, c4, c5⟩ := x_house h hk
  obtain ⟨b1, b2', b3, -, b5⟩ := HB h.1.1 hk
  have hGl := sGn_le (R := R) (h := k) hY
  have hcn := cnt_le (sTw R k) (sGn R k Y)
  have key : ∀ U, 1 ≤ U → U ≤ 1000 → U = sUb R k Y → fX1_askingsTo_b26 (w + 14 + k) (oi (U - 1)) σ = some (oi (sHt R k Y), σ) := by
    intro U hU hU2 eU
    unfold fX1_askingsTo_b26
    have eG : sGn R k Y = if U ≤ nn (R (17 + 4 * k)) then 0 else (U - 1 - nn (R (17 + 4 * k))) / nn (R (18 + 4 * k)) + 1 := by rw [eU]; rfl
    have l1 := b1.2
    have l2 := b2'.2
    rw [c1, c2, b1.1, b2'.1, ite_iff (oi_lt (by omega) (by omega))]
    by_cases e1 : U ≤ nn (R (17 + 4 * k))
    · rw [if_pos (by omega)]
      rw [if_pos e1] at eG
      unfold sHt
      rw [eG]; rfl
    · rw [if_neg e1] at eG
      rw [if_neg (by omega), show (1 : Int32) = oi 1 from rfl, if_pos ((oi_le (by omega) (by omega)).mpr b3), ogd_d (by rw [oi_ne0 (by omega)]; omega), oi_sub (by omega), oi_div (by omega) (by omega), oi_add, ← eG, show (30 : Int32) = oi 30 from rfl, ite_iff (oi_le (by omega) (by omega))]
      unfold sHt
      by_cases e2 : sGn R k Y ≤ 30
      · rw [if_pos e2, show (oi 1 : Int32) <<< (oi (sGn R k Y) &&& 31) = oi (2 ^ sGn R k Y) from shlW _ (by omega), oi_sub (Nat.one_le_two_pow), bcW, obi_s, oi_add]
        congr 3
        unfold pcw
        rw [← cnt_cut (p := sTw R k) (show sGn R k Y ≤ 32 by omega)]
        congr 1
        apply cnt_congr
        intro j hj
        have hp : 2 ^ sGn R k Y ≤ 2 ^ 30 := Nat.pow_le_pow_right (by decide : 2 > 0) e2
        rw [tw_and, c5 j hj, tw_oi _ _ (by omega), Nat.testBit_two_pow_sub_one]
      · rw [if_neg e2, bcW, obi_s, oi_add]
        congr 3
        unfold pcw
        have q1 : cnt (tw (mI σ (w + 14 + k) 3)) 32 = cnt (sTw R k) 32 := cnt_congr (fun j hj => c5 j hj)
        have q2 : ∀ j, 31 ≤ j → j < 2147483648 → sTw R k j = false := by
          intro j hj hj2
          cases ht : sTw R k j
          · rfl
          · have := sTw_le h.1.1 hj2 ht; omega
        have q3 : cnt (sTw R k) 32 = cnt (sTw R k) 31 := cnt_stop (by omega) (fun j h1 h2 => q2 j h1 (by omega))
        have q4 : cnt (sTw R k) (sGn R k Y) = cnt (sTw R k) 31 := cnt_stop (by omega) (fun j h1 h2 => q2 j h1 (by omega))
        rw [q1, q3, q4]
  unfold fX1_askingsTo
  have l5 := b5.2
  rw [c4, b5.1]
  by_cases e0 : nn (R (20 + 4 * k)) = 0
  · rw [if_pos (by rw [e0]; decide)]
    have := key (Y + 1) (by omega) (by omega) (by unfold sUb; rw [if_neg (by omega)])
    rw [Nat.add_sub_cancel] at this
    exact this
  · rw [show oi (nn (R (20 + 4 * k))) - 1 = oi (nn (R (20 + 4 * k)) - 1) from oi_sub (b := 1) (by omega), if_neg (oi_m1 (by omega)), ite_iff (oi_lt (by omega) (by omega))]
    by_cases e1 : Y < nn (R (20 + 4 * k)) - 1
    · rw [if_pos e1]
      have := key (Y + 1) (by omega) (by omega) (by unfold sUb; rw [if_neg (by omega)])
      rw [Nat.add_sub_cancel] at this
      exact this
    · rw [if_neg e1]
      by_cases e2 : nn (R (20 + 4 * k)) = 1
      · have e3 : sUb R k Y = 0 := by unfold sUb; rw [if_pos (by omega), e2]
        have e4 : sGn R k Y = 0 := by unfold sGn; rw [if_pos (by omega)]
        unfold fX1_askingsTo_b26
        rw [c1, b1.1, e2, show (oi (1 - 1) - 1 : Int32) = -1 from rfl, if_pos (m1_lt (by have := b1.2; omega))]
        unfold sHt
        rw [e4]; rfl
      · have := key (nn (R (20 + 4 * k)) - 1) (by omega) (by omega) (by unfold sUb; rw [if_pos (by omega)])
        rw [show oi (nn (R (20 + 4 * k)) - 1) - 1 = oi (nn (R (20 + 4 * k)) - 1 - 1) from oi_sub (b := 1) (by omega)]
        exact this
end
theorem m_turnsTo (n : Nat) (x : Int32) : okC n (fX9_turnsTo x) (fX10_turnsTo x) := by
  refine look1 (fun R Z s => if oin x 1000 = true then oi (ofd (fun h v => v + sHt R h (nn x)) 0 (nn (R 3))) else -1) (fun R Z s => if oin x 1000 = true then 0 else 2) (-1) ?_ ?_ (fun R Z s => by split <;> decide) ?_ ?_
  · intro σ w R Z s h0 hk h7 h
    unfold fX9_turnsTo
    have hHb := x_Hb h.1
    rw [if_neg (by rw [h7]; decide)]
    rcases oi_cases x with hy | ⟨b, hb, rfl⟩
    · rw [if_pos hy, oin_neg hy]; rfl
    · rw [if_neg (oi_nneg hb), oin_oi (n := 1000) hb, show (999 : Int32) = oi 999 from rfl, ite_iff (oi_le hb (by omega)), nn_oi hb]
      by_cases e : b < 1000
      · rw [if_pos (by omega), h0, ogd_d hk, decide_eq_true e]
        have key : fX8_turnsUpTo w (oi b) σ = some (oi (ofd (fun h v => v + sHt R h b) 0 (nn (R 3))), σ) := by
          unfold fX8_turnsUpTo
          refine lup0 (g := fun f v k => fX8_turnsUpTo_b4 f w (oi b) (oi v) (oi k) σ) (a := 0) (step := fun h v => v + sHt R h b) (fin := fun v => some (oi v, σ)) (n := nn (R 3)) ?_ ?_ oF (by unfold oF; omega)
          · intro f v k hk'
            show fX8_turnsUpTo_b4 (f + 1) w (oi b) (oi v) (oi k) σ = fX8_turnsUpTo_b4 f w (oi b) (oi (v + sHt R k b)) (oi (k + 1)) σ
            rw [fX8_turnsUpTo_b4, x_H h.1, if_neg (by rw [oi_le (by omega) (by omega)]; omega), lt6, if_neg (by rw [oi_le (by omega) (by omega)]; omega), ogi (by omega) (by omega), oi_nat (by omega), askTo_eq h.1 hk' (by omega), obi_s, oi_add, oi_succ]
          · intro f v
            show fX8_turnsUpTo_b4 (f + 1) w (oi b) (oi v) (oi _) σ = _
            rw [fX8_turnsUpTo_b4, x_H h.1, if_pos ((oi_le (by omega) (by omega)).mpr (Nat.le_refl _))]
        rw [key, obi_s]; rfl
      · rw [if_neg (by omega), decide_eq_false e]; rfl
  · intro σ h
    unfold fX10_turnsTo
    rw [good_eq, obv_s]
    generalize gd σ = τ at h ⊢
    have hH := h.2.1.1.2.2.1
    have hHb := hH.2
    rw [if_neg (by rw [h.1]; decide), show fX10_in x 0 999 τ = fX10_in x 0 (oi 1000 - 1) τ from rfl, in_r x (N := 1000) (by decide), obi_s]
    cases hb1 : oin x 1000
    · rw [if_pos (by decide)]; rfl
    obtain ⟨b, hb, hb2, rfl⟩ := oin_iff hb1
    rw [if_neg (by decide), nn_oi hb2]
    have hin : ∀ (rc : Int32 → Int32 → Int32 → OM → Option (Int32 × OM)) (v k : Nat), k < nn (mI τ 84 3) → fX10_turnsTo_b51 rc oF (oi b) (oi v) (oi k) (oi 0) τ = rc (oi b) (oi (v + sHt (mI τ 84) k b)) (oi (k + 1)) τ := by
      intro rc v k hk
      obtain ⟨b1, b2', b3, -, -⟩ := HB h.2.1 hk
      have lG := sGn_le (R := mI τ 84) (h := k) (show b ≤ 999 by omega)
      refine (lup0 (g := fun f u g => fX10_turnsTo_b51 rc f (oi b) (oi u) (oi k) (oi g) τ) (a := v) (step := fun g u => u + sAi (mI τ 84) k g) (fin := fun u => rc (oi b) (oi u) (oi (k + 1)) τ) (n := sGn (mI τ 84) k b) ?_ ?_ oF (by unfold oF; omega)).trans ?_
      · intro f u g hg
        obtain ⟨y1, y2⟩ := sGn_yes b3 hg
        show fX10_turnsTo_b51 rc (f + 1) (oi b) (oi u) (oi k) (oi g) τ = fX10_turnsTo_b51 rc f (oi b) (oi (u + sAi (mI τ 84) k g)) (oi k) (oi (g + 1)) τ
        rw [fX10_turnsTo_b51, yearOf_r h hk (by omega), obi_s, y1, if_neg (show ¬ oY (some _) = -2 from oi_m2 (by omega)), yearOf_r h hk (by omega), obi_s, y1]
        rw [show oY (some (nn (mI τ 84 (17 + 4 * k)) + nn (mI τ 84 (18 + 4 * k)) * g)) = oi (nn (mI τ 84 (17 + 4 * k)) + nn (mI τ 84 (18 + 4 * k)) * g) from rfl, if_neg (by rw [oi_lt (by omega) (by omega)]; omega), askIn_eq h (by omega) (by omega), obi_s, oi_add, oi_succ]
      · intro f u
        show fX10_turnsTo_b51 rc (f + 1) (oi b) (oi u) (oi k) (oi (sGn (mI τ 84) k b)) τ = _
        rw [fX10_turnsTo_b51, yearOf_r h hk (by omega), obi_s]
        cases e : sYr (mI τ 84) k (sGn (mI τ 84) k b) with
        | none => rw [if_pos (show oY none = -2 from rfl), oi_succ]
        | some y =>
          have ey := sYr_some e
          have hm := mul_bd b2'.2 (show sGn (mI τ 84) k b ≤ 100000 by omega)
          have l1 := b1.2
          have en := sGn_no b3 e
          rw [if_neg (show ¬ oY (some y) = -2 from oi_m2 (by omega)), yearOf_r h hk (by omega), obi_s, e, show oY (some y) = oi y from rfl, if_pos ((oi_lt (by omega) (by omega)).mpr en), oi_succ]
      · rw [ofd_from, sAi_sum]; rfl
    refine lup0 (g := fun f v k => fX10_turnsTo_b38 f (oi b) (oi v) (oi k) τ) (a := 0) (step := fun h v => v + sHt (mI τ 84) h b) (fin := fun v => some (oi v, τ)) (n := nn (mI τ 84 3)) ?_ ?_ oF (by unfold oF; omega)
    · intro f v k hk'
      show fX10_turnsTo_b38 (f + 1) (oi b) (oi v) (oi k) τ = fX10_turnsTo_b38 f (oi b) (oi (v + sHt (mI τ 84) k b)) (oi (k + 1)) τ
      rw [fX10_turnsTo_b38, hH.1, if_neg (by rw [oi_le (by omega) (by omega)]; omega)]
      exact hin _ v k hk'
    · intro f v
      show fX10_turnsTo_b38 (f + 1) (oi b) (oi v) (oi _) τ = _
      rw [fX10_turnsTo_b38, hH.1, nn_oi (nn_lt _), if_pos ((oi_le (by omega) (by omega)).mpr (Nat.le_refl _))]
  · intro σ w h0 hk h
    unfold fX9_turnsTo
    rw [if_pos h.1.1]; rfl
  · intro σ h
    unfold fX10_turnsTo
    rw [good_eq, obv_s]
    generalize gd σ = τ at h ⊢
    rw [if_pos h]; rfl
/-! births -/
def sBr (tw' : Nat) (_ : Nat) (a : Nat × Nat) : Nat × Nat := ((75 * a.1 + 74) % 65537, a.2 + if (75 * a.1 + 74) % 65537 % 100 < tw' then 2 else 1)
theorem draw_eq {d : Nat} (hd : d ≤ 65536) : ((75 : Int32) * oi d + (74 : Int32)) - ((75 : Int32) * oi d + (74 : Int32)) / (65537 : Int32) * (65537 : Int32) = oi ((75 * d + 74) % 65537) := by
  rw [show (75 : Int32) * oi d + (74 : Int32) = oi (75 * d + 74) by show oi 75 * oi d + oi 74 = _; rw [oi_mul, oi_add], show (65537 : Int32) = oi 65537 from rfl, oi_rem (by omega) (by omega)]
theorem m_births (n : Nat) (x y z : Int32) : okC n (fX9_births x y z) (fX10_births x y z) := by
  refine look1 (fun R Z s => if (oin x (nn (R 3)) && (oin y 65537 && oin z 100)) = true then oi (ofd (sBr (nn (R (19 + 4 * nn x)))) (nn y, 0) (nn z)).2 else -1) (fun R Z s => if oin x (nn (R 3)) then (if (oin y 65537 && oin z 100) = true then 0 else 2) else 1) (-1) ?_ ?_ (fun R Z s => by split <;> first | decide | (split <;> decide)) ?_ ?_
  · intro σ w R Z s h0 hk h7 h
    unfold fX9_births
    have hHb := x_Hb h.1
    rw [isH_c h.1 h0 hk, obi_s]
    cases hb0 : oin x (nn (R 3))
    · rw [if_pos (by decide)]; rfl
    obtain ⟨a, ha, ha2, rfl⟩ := oin_iff hb0
    obtain ⟨-, -, c3, -, -⟩ := x_house h.1 ha
    obtain ⟨-, -, -, b4, -⟩ := HB h.1.1.1 ha
    have l4 := b4.2
    rw [if_neg (by decide), nn_oi ha2]
    rcases oi_cases y with hy | ⟨b, hb, rfl⟩
    · rw [if_pos hy, oin_neg hy]; rfl
    · rw [if_neg (oi_nneg hb), oin_oi (n := 65537) hb, show (65537 : Int32) = oi 65537 from rfl, ite_iff (oi_le (by omega) hb), nn_oi hb]
      by_cases e : b < 65537
      · rw [if_neg (by omega), decide_eq_true e]
        rcases oi_cases z with hz | ⟨c, hc, rfl⟩
        · rw [if_pos hz, oin_neg hz]; rfl
        · rw [if_neg (oi_nneg hc), oin_oi (n := 100) hc, show (99 : Int32) = oi 99 from rfl, ite_iff (oi_le hc (by omega)), nn_oi hc]
          by_cases e2 : c < 100
          · rw [if_pos (by omega), decide_eq_true e2]
            refine lup (g := fun f (p : Nat × Nat) k => fX9_births_b50 f (oi a) (oi c) (oi p.2) (oi p.1) (oi k) σ) (a := (b, 0)) (step := sBr (nn (R (19 + 4 * a)))) (fin := fun p => some (oi p.2, sI σ 0 9 0)) (n := c) (I := fun _ p => p.1 ≤ 65536) (by show b ≤ 65536; omega) ?_ ?_ ?_ oF (by unfold oF; omega)
            · intro k p _ _
              show (75 * p.1 + 74) % 65537 ≤ 65536
              omega
            · intro f p k hk' hI
              show fX9_births_b50 (f + 1) (oi a) (oi c) (oi p.2) (oi p.1) (oi k) σ = fX9_births_b50 f (oi a) (oi c) (oi (p.2 + if (75 * p.1 + 74) % 65537 % 100 < nn (R (19 + 4 * a)) then 2 else 1)) (oi ((75 * p.1 + 74) % 65537)) (oi (k + 1)) σ
              rw [fX9_births_b50, if_neg (by rw [oi_le (by omega) (by omega)]; omega), h0, ogd_d hk, ogi (by omega) (by omega), oi_nat (by omega), draw_eq hI, c3, b4.1, show (100 : Int32) = oi 100 from rfl, oi_rem (by omega) (by omega), ite_iff (oi_le (by omega) (by omega)), nn_oi (nn_lt _), oi_succ, oi_succ, lt2, oi_add]
              by_cases e3 : (75 * p.1 + 74) % 65537 % 100 < nn (R (19 + 4 * a))
              · rw [if_neg (by omega), if_pos e3]
              · rw [if_pos (by omega), if_neg e3]
            · intro f p hI
              show fX9_births_b50 (f + 1) (oi a) (oi c) (oi p.2) (oi p.1) (oi c) σ = _
              rw [fX9_births_b50, if_pos ((oi_le (by omega) (by omega)).mpr (Nat.le_refl _))]; rfl
          · rw [if_neg (by omega), decide_eq_false e2]; rfl
      · rw [if_pos (by omega), decide_eq_false e]; rfl
  · intro σ h
    unfold fX10_births
    rw [good_eq, obv_s]
    generalize gd σ = τ at h ⊢
    have hHb := h.2.1.1.2.2.1.2
    rw [isH_r h, obi_s]
    cases hb0 : oin x (nn (mI τ 84 3))
    · rw [if_pos (by decide)]; rfl
    obtain ⟨a, ha, ha2, rfl⟩ := oin_iff hb0
    obtain ⟨-, -, -, b4, -⟩ := HB h.2.1 ha
    have l4 := b4.2
    rw [if_neg (by decide), nn_oi ha2, show fX10_in y 0 65536 τ = fX10_in y 0 (oi 65537 - 1) τ from rfl, in_r y (N := 65537) (by decide), obi_s]
    cases hb1 : oin y 65537
    · rw [if_pos (by decide)]; rfl
    obtain ⟨b, hb, hb2, rfl⟩ := oin_iff hb1
    rw [if_neg (by decide), nn_oi hb2, show fX10_in z 0 99 τ = fX10_in z 0 (oi 100 - 1) τ from rfl, in_r z (N := 100) (by decide), obi_s]
    cases hb3 : oin z 100
    · rw [if_pos (by decide)]; rfl
    obtain ⟨c, hc, hc2, rfl⟩ := oin_iff hb3
    rw [if_neg (by decide), nn_oi hc2]
    refine lup (g := fun f (p : Nat × Nat) k => fX10_births_b54 f (oi a) (oi c) (oi p.1) (oi p.2) (oi k) τ) (a := (b, 0)) (step := sBr (nn (mI τ 84 (19 + 4 * a)))) (fin := fun p => some (oi p.2, τ)) (n := c) (I := fun _ p => p.1 ≤ 65536) (by show b ≤ 65536; omega) ?_ ?_ ?_ oF (by unfold oF; omega)
    · intro k p _ _
      show (75 * p.1 + 74) % 65537 ≤ 65536
      omega
    · intro f p k hk' hI
      show fX10_births_b54 (f + 1) (oi a) (oi c) (oi p.1) (oi p.2) (oi k) τ = fX10_births_b54 f (oi a) (oi c) (oi ((75 * p.1 + 74) % 65537)) (oi (p.2 + if (75 * p.1 + 74) % 65537 % 100 < nn (mI τ 84 (19 + 4 * a)) then 2 else 1)) (oi (k + 1)) τ
      rw [fX10_births_b54, if_neg (by rw [oi_le (by omega) (by omega)]; omega), ix17, lt2, ixk, ogi (by omega) (by omega), oi_nat (by omega), show 17 + 4 * a + 2 = 19 + 4 * a by omega, draw_eq hI, b4.1, show (100 : Int32) = oi 100 from rfl, oi_rem (by omega) (by omega), ite_iff (oi_le (by omega) (by omega)), nn_oi (nn_lt _), oi_succ, oi_succ, oi_add]
      by_cases e3 : (75 * p.1 + 74) % 65537 % 100 < nn (mI τ 84 (19 + 4 * a))
      · rw [if_neg (by omega), if_pos e3]
      · rw [if_pos (by omega), if_neg e3]
    · intro f p hI
      show fX10_births_b54 (f + 1) (oi a) (oi c) (oi p.1) (oi p.2) (oi c) τ = _
      rw [fX10_births_b54, if_pos ((oi_le (by omega) (by omega)).mpr (Nat.le_refl _))]
  · intro σ w h0 hk h
    unfold fX9_births
    rw [nH_c h h0 hk, obi_s, if_pos rfl]; rfl
  · intro σ h
    unfold fX10_births
    rw [good_eq, obv_s]
    generalize gd σ = τ at h ⊢
    rw [nH_r h, obi_s, if_pos rfl]; rfl
