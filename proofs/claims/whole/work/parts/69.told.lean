/-! what is told: no trouble of its own -/
theorem thr_fin {n : Nat} {σ : OM} (v : Int32) (hi : Inv n σ) : Inv (n + 1) (sI σ 81 0 v) := by
  obtain ⟨h1, ⟨p, p1, p2, p3⟩, ⟨t1, t2⟩, h4⟩ := hi
  refine ⟨Core_eqv (eqv_I (eqv_rfl σ) (by unfold scr; omega) v) h1, ⟨p, by omega, ?_, fun j hj => ?_⟩, ⟨?_, fun e => ?_⟩, ?_⟩
  · rw [mI_sI, if_neg (by omega)]; exact p2
  · rw [mI_sI, if_neg (by omega)]; exact p3 j hj
  · rw [mI_sI, if_neg (by omega), mI_sI, if_neg (by omega)]; exact t1
  · rw [mI_sI, if_neg (by omega)] at e
    rw [mI_sI, if_neg (by omega), mI_sI, if_neg (by omega)]; exact t2 e
  · show mR σ 96 0 ≤ n + 1; omega
theorem m_fault (n : Nat) : okC n fX9_fault fX10_fault := fun σ hi => ⟨mI σ 0 10, σ, sI σ 81 0 0, rfl, by
  unfold fX10_fault
  rw [mI_sI, if_neg (by omega), hi.1.2.2.1], thr_fin 0 hi, rfl, rfl⟩
theorem m_trouble (n : Nat) : okC n fX9_trouble fX10_trouble := fun σ hi => ⟨mI σ 0 9, σ, sI σ 81 0 0, rfl, by
  unfold fX10_trouble
  rw [mI_sI, if_neg (by omega), hi.2.2.1.1], thr_fin 0 hi, rfl, rfl⟩
theorem m_where (n : Nat) : okC n fX9_where fX10_where := by
  intro σ hi
  obtain ⟨t1, t2⟩ := hi.2.2.1
  refine ⟨if mI σ 0 9 = 4 then mI σ 0 11 else -1, σ, sI σ 81 0 0, ?_, ?_, thr_fin 0 hi, rfl, rfl⟩
  · unfold fX9_where
    split <;> rfl
  · unfold fX10_where
    have r11 : mI (sI σ 81 0 0) 81 11 = mI σ 0 9 := by rw [mI_sI, if_neg (by omega)]; exact t1.symm
    have r10 : mI (sI σ 81 0 0) 81 10 = mI σ 81 10 := by rw [mI_sI, if_neg (by omega)]
    rw [r11, r10]
    by_cases e : mI σ 0 9 = 4
    · rw [if_pos e, if_pos e, t2 e]
    · rw [if_neg e, if_neg e]
theorem weddings_eq {τ : OM} (hT : TB (mI τ 84) (mI τ 88)) (hH : nn (mI τ 84 3) ≤ 6) : fX10_weddings τ = some (oi (sWd (mI τ 88) / 2), τ) := by
  unfold fX10_weddings
  refine (lup (g := fun f v k => fX10_weddings_b4 f (oi v) (oi k) τ) (a := 0) (step := fun i v => v + pcw (mI τ 88 (62 + i))) (fin := fun v => some (oi (v / 2), τ)) (n := 6) (I := fun n v => v ≤ 32 * n) (Nat.zero_le _) ?_ ?_ ?_ oF (by unfold oF; omega))
  · intro k v hk hv
    have := pcw_le (mI τ 88 (62 + k))
    show v + _ ≤ _
    omega
  · intro f v k hk hv
    show fX10_weddings_b4 (f + 1) (oi v) (oi k) τ = fX10_weddings_b4 f (oi (v + pcw (mI τ 88 (62 + k)))) (oi (k + 1)) τ
    rw [fX10_weddings_b4, lt6, if_neg (by rw [oi_le (by omega) (by omega)]; omega), show (62 : Int32) + oi k = oi (62 + k) from oi_add 62 k, ogi (by omega) (by omega), oi_nat (by omega), ones_eq, obi_s, pc_long (fun j hj => by
      have := hT.2.2.2.1 k hk j hj
      omega), oi_add, oi_succ]
  · intro f v hv
    show fX10_weddings_b4 (f + 1) (oi v) (oi 6) τ = _
    rw [fX10_weddings_b4, if_pos (by decide), lt2, oi_div (by omega) (by omega)]
theorem m_size (n : Nat) (x : Int32) : okC n (fX9_size x) (fX10_size x) := by
  intro σ hi
  have hC := hi.1
  have hk := okW_kd hC.1
  have fin : ∀ r, fX9_size x σ = some (r, σ) → fX10_size x σ = some (r, sI σ 81 0 0) → ∃ r σ1 σ2, fX9_size x σ = some (r, σ1) ∧ fX10_size x σ1 = some (r, σ2) ∧ Inv (n + 1) σ2 ∧ mR σ1 96 0 = mR σ 96 0 ∧ mR σ2 96 0 = mR σ1 96 0 := fun r e1 e2 => ⟨r, σ, sI σ 81 0 0, e1, e2, thr_fin 0 hi, rfl, rfl⟩
  have r14 : mI (sI σ 81 0 0) 81 14 = mI σ 81 14 := by rw [mI_sI, if_neg (by omega)]
  have r84 : ∀ j, mI (sI σ 81 0 0) 84 j = mI σ 84 j := fun j => by rw [mI_sI, if_neg (by omega)]
  have r88 : ∀ j, mI (sI σ 81 0 0) 88 j = mI σ 88 j := fun j => by rw [mI_sI, if_neg (by omega)]
  by_cases x12 : x = 12
  · subst x12
    obtain ⟨T, t1, t2, t3, t4⟩ := hC.2.1
    refine fin (oi T) ?_ ?_
    · show some (mI σ 43 1, σ) = _
      rw [t2]
    · show some (mI (sI σ 81 0 0) 81 2, sI σ 81 0 0) = _
      rw [mI_sI, if_neg (by omega), t3]
  have other : (¬ x = 0 ∧ ¬ x = 1 ∧ ¬ x = 2 ∧ ¬ x = 3 ∧ ¬ x = 4 ∧ ¬ x = 5 ∧ ¬ x = 6 ∧ ¬ x = 7 ∧ ¬ x = 8 ∧ ¬ x = 9 ∧ ¬ x = 10 ∧ ¬ x = 11) → fX9_size x σ = some (-1, σ) := by
    rintro ⟨q0, q1, q2, q3, q4, q5, q6, q7, q8, q9, q10, q11⟩
    unfold fX9_size
    rw [if_neg q0, if_neg q1, if_neg q2, if_neg q3, if_neg q4, if_neg q5, if_neg q6, if_neg q7, if_neg q8, if_neg q9, if_neg q10, if_neg q11, if_neg x12]
  have all12 : oin x 12 = true → x = 0 ∨ x = 1 ∨ x = 2 ∨ x = 3 ∨ x = 4 ∨ x = 5 ∨ x = 6 ∨ x = 7 ∨ x = 8 ∨ x = 9 ∨ x = 10 ∨ x = 11 := by
    intro h
    obtain ⟨b, hb, -, rfl⟩ := oin_iff h
    match b, hb with
    | 0, _ => exact Or.inl rfl
    | 1, _ => exact Or.inr (Or.inl rfl)
    | 2, _ => exact Or.inr (Or.inr (Or.inl rfl))
    | 3, _ => exact Or.inr (Or.inr (Or.inr (Or.inl rfl)))
    | 4, _ => exact Or.inr (Or.inr (Or.inr (Or.inr (Or.inl rfl))))
    | 5, _ => exact Or.inr (Or.inr (Or.inr (Or.inr (Or.inr (Or.inl rfl)))))
    | 6, _ => exact Or.inr (Or.inr (Or.inr (Or.inr (Or.inr (Or.inr (Or.inl rfl))))))
    | 7, _ => exact Or.inr (Or.inr (Or.inr (Or.inr (Or.inr (Or.inr (Or.inr (Or.inl rfl)))))))
    | 8, _ => exact Or.inr (Or.inr (Or.inr (Or.inr (Or.inr (Or.inr (Or.inr (Or.inr (Or.inl rfl))))))))
    | 9, _ => exact Or.inr (Or.inr (Or.inr (Or.inr (Or.inr (Or.inr (Or.inr (Or.inr (Or.inr (Or.inl rfl)))))))))
    | 10, _ => exact Or.inr (Or.inr (Or.inr (Or.inr (Or.inr (Or.inr (Or.inr (Or.inr (Or.inr (Or.inr (Or.inl rfl))))))))))
    | 11, _ => exact Or.inr (Or.inr (Or.inr (Or.inr (Or.inr (Or.inr (Or.inr (Or.inr (Or.inr (Or.inr (Or.inr rfl))))))))))
    | b + 12, hb => omega
  have no12 : oin x 12 = false → (¬ x = 0 ∧ ¬ x = 1 ∧ ¬ x = 2 ∧ ¬ x = 3 ∧ ¬ x = 4 ∧ ¬ x = 5 ∧ ¬ x = 6 ∧ ¬ x = 7 ∧ ¬ x = 8 ∧ ¬ x = 9 ∧ ¬ x = 10 ∧ ¬ x = 11) := by
    intro h
    refine ⟨fun e => ?_, fun e => ?_, fun e => ?_, fun e => ?_, fun e => ?_, fun e => ?_, fun e => ?_, fun e => ?_, fun e => ?_, fun e => ?_, fun e => ?_, fun e => ?_⟩ <;> (rw [e] at h; exact absurd h (by decide))
  rcases hC.2.2.2 with hW | hN
  · have hnz : ¬ mI (sI σ 81 0 0) 81 14 = 0 := by rw [r14, hW.2.1]; decide
    have hCW := hW.2.2.1
    generalize h0 : mR σ 0 0 = w at hk hW hCW
    have cs := hCW.1.2.1
    have ct := hCW.1.2.2
    cases hb : oin x 12
    · have q := no12 hb
      refine fin (-1) (other q) ?_
      obtain ⟨q0, q1, q2, q3, q4, q5, q6, q7, q8, q9, q10, q11⟩ := q
      unfold fX10_size
      rw [if_neg x12, if_neg hnz, if_neg q0, if_neg q1, if_neg q2, if_neg q3, if_neg q4, if_neg q5, if_neg q6, if_neg q7, if_neg q8, if_neg q9, if_neg q10, if_neg q11]
    · rcases all12 hb with rfl | rfl | rfl | rfl | rfl | rfl | rfl | rfl | rfl | rfl | rfl | rfl
      · refine fin (mI σ 84 1) ?_ ?_
        · show ogd (decide (okd (mR σ 0 0) = 8)) (some (mI σ ((mR σ 0 0) + 1) 0, σ)) = _
          rw [h0, ogd_d hk, cs.1.1]
        · unfold fX10_size
          rw [if_neg (by decide), if_neg hnz]
          show some (mI (sI σ 81 0 0) 84 1, sI σ 81 0 0) = _
          rw [r84]
      · refine fin (mI σ 84 2) ?_ ?_
        · show ogd (decide (okd (mR σ 0 0) = 8)) (some (mI σ ((mR σ 0 0) + 1) 2, σ)) = _
          rw [h0, ogd_d hk, cs.1.2.2.1]
        · unfold fX10_size
          rw [if_neg (by decide), if_neg hnz]
          show some (mI (sI σ 81 0 0) 84 2, sI σ 81 0 0) = _
          rw [r84]
      · refine fin (mI σ 84 3) ?_ ?_
        · show ogd (decide (okd (mR σ 0 0) = 8)) (some (mI σ (mR σ 0 0) 4, σ)) = _
          rw [h0, ogd_d hk, cs.2.2.2.2.2.1.1]
        · unfold fX10_size
          rw [if_neg (by decide), if_neg hnz]
          show some (mI (sI σ 81 0 0) 84 3, sI σ 81 0 0) = _
          rw [r84]
      · refine fin (mI σ 84 4) ?_ ?_
        · show ogd (decide (okd (mR σ 0 0) = 8)) (some (mI σ (mR σ 0 0) 5, σ)) = _
          rw [h0, ogd_d hk, cs.2.2.2.2.2.1.2]
        · unfold fX10_size
          rw [if_neg (by decide), if_neg hnz]
          show some (mI (sI σ 81 0 0) 84 4, sI σ 81 0 0) = _
          rw [r84]
      · refine fin (mI σ 84 5) ?_ ?_
        · show ogd (decide (okd (mR σ 0 0) = 8)) (some (mI σ ((mR σ 0 0) + 1) 6, σ)) = _
          rw [h0, ogd_d hk, cs.2.2.1.1]
        · unfold fX10_size
          rw [if_neg (by decide), if_neg hnz]
          show some (mI (sI σ 81 0 0) 84 5, sI σ 81 0 0) = _
          rw [r84]
      · refine fin (mI σ 88 1) ?_ ?_
        · show ogd (decide (okd (mR σ 0 0) = 8)) (some (mI σ ((mR σ 0 0) + 5) 0, σ)) = _
          rw [h0, ogd_d hk, ct.1]
        · unfold fX10_size
          rw [if_neg (by decide), if_neg hnz]
          show some (mI (sI σ 81 0 0) 88 1, sI σ 81 0 0) = _
          rw [r88]
      · refine fin (mI σ 84 7) ?_ ?_
        · show ogd (decide (okd (mR σ 0 0) = 8)) (some (mI σ ((mR σ 0 0) + 1) 8, σ)) = _
          rw [h0, ogd_d hk, cs.2.2.2.1.1]
        · unfold fX10_size
          rw [if_neg (by decide), if_neg hnz]
          show some (mI (sI σ 81 0 0) 84 7, sI σ 81 0 0) = _
          rw [r84]
      · refine fin (oi (sWd (mI σ 88) / 2)) ?_ ?_
        · show ogd (decide (okd (mR σ 0 0) = 8)) (some (mI σ ((mR σ 0 0) + 5) 5, σ)) = _
          rw [h0, ogd_d hk, ct.2.2.2.2]
        · unfold fX10_size
          rw [if_neg (by decide), if_neg hnz]
          show obi (fX10_weddings (sI σ 81 0 0)) (fun r1 σ2 => some (r1, σ2)) = _
          have e84 : mI (sI σ 81 0 0) 84 = mI σ 84 := funext r84
          have e88 : mI (sI σ 81 0 0) 88 = mI σ 88 := funext r88
          rw [weddings_eq (by rw [e84, e88]; exact hCW.1.1.2) (by rw [e84]; exact x_Hb hCW.1), obi_s, e88]
      · refine fin (mI σ 88 0) ?_ ?_
        · show ogd (decide (okd (mR σ 0 0) = 8)) (some (mI σ ((mR σ 0 0) + 5) 6, σ)) = _
          rw [h0, ogd_d hk, ct.2.1]
        · unfold fX10_size
          rw [if_neg (by decide), if_neg hnz]
          show some (mI (sI σ 81 0 0) 88 0, sI σ 81 0 0) = _
          rw [r88]
      · have hT1 := hCW.1.1.1.1.2.2.2.2.2.2
        refine fin (b2 (decide (0 < nn (mI σ 84 10)))) ?_ ?_
        · show ogd (decide (okd (mR σ 0 0) = 8)) (if mI σ ((mR σ 0 0) + 1) 4 = 0 then some ((0 : Int32), σ) else some ((1 : Int32), σ)) = _
          rw [h0, ogd_d hk, cs.2.1.1]
          exact b2_ite _ _
        · unfold fX10_size
          rw [if_neg (by decide), if_neg hnz]
          show (if mI (sI σ 81 0 0) 84 10 ≤ 0 then some ((0 : Int32), sI σ 81 0 0) else some ((1 : Int32), sI σ 81 0 0)) = _
          rw [r84, hT1.1, nn_oi (nn_lt _)]
          by_cases e : 0 < nn (mI σ 84 10)
          · rw [if_neg (by show ¬ oi _ ≤ oi 0; rw [oi_le (nn_lt _) (by omega)]; omega), decide_eq_true e]; rfl
          · rw [if_pos (by show oi _ ≤ oi 0; rw [oi_le (nn_lt _) (by omega)]; omega), decide_eq_false e]; rfl
      · obtain ⟨c, c1, c2, c3, -, -⟩ := hW.2.2.2.1
        refine fin (oi c) ?_ ?_
        · show some (mI σ 61 3, σ) = _
          rw [c2]
        · unfold fX10_size
          rw [if_neg (by decide), if_neg hnz]
          show some (mI (sI σ 81 0 0) 81 22, sI σ 81 0 0) = _
          rw [mI_sI, if_neg (by omega), c3]
      · obtain ⟨m, m1, m2, m3, -⟩ := hW.2.2.2.2
        refine fin (oi m) ?_ ?_
        · show some (mI σ 0 8, σ) = _
          rw [m2]
        · unfold fX10_size
          rw [if_neg (by decide), if_neg hnz]
          show some (mI (sI σ 81 0 0) 81 23, sI σ 81 0 0) = _
          rw [mI_sI, if_neg (by omega), m3]
  · have hz : mI (sI σ 81 0 0) 81 14 = 0 := by rw [r14]; exact hN.1.2.1
    have e11 := in_r x (N := 12) (by decide) (sI σ 81 0 0)
    generalize h0 : mR σ 0 0 = w at hk hN
    have ref : fX10_size x σ = some (if oin x 12 then 0 else -1, sI σ 81 0 0) := by
      unfold fX10_size
      rw [if_neg x12, if_pos hz, show fX10_in x 0 11 (sI σ 81 0 0) = fX10_in x 0 (oi 12 - 1) (sI σ 81 0 0) from rfl, e11, obi_s]
      cases oin x 12
      · rw [if_pos (by decide)]; rfl
      · rw [if_neg (by decide)]; rfl
    cases hb : oin x 12
    · refine fin (-1) (other (no12 hb)) ?_
      rw [ref, hb]; rfl
    · refine fin 0 ?_ (by rw [ref, hb]; rfl)
      obtain ⟨⟨-, -, n8, n61, -, -⟩, n1, n2, n3, n4, n5, n6, n7, n10, n11, n12⟩ := hN
      rcases all12 hb with rfl | rfl | rfl | rfl | rfl | rfl | rfl | rfl | rfl | rfl | rfl | rfl
      · show ogd (decide (okd (mR σ 0 0) = 8)) (some (mI σ ((mR σ 0 0) + 1) 0, σ)) = _
        rw [h0, ogd_d hk, n3]
      · show ogd (decide (okd (mR σ 0 0) = 8)) (some (mI σ ((mR σ 0 0) + 1) 2, σ)) = _
        rw [h0, ogd_d hk, n4]
      · show ogd (decide (okd (mR σ 0 0) = 8)) (some (mI σ (mR σ 0 0) 4, σ)) = _
        rw [h0, ogd_d hk, n1]
      · show ogd (decide (okd (mR σ 0 0) = 8)) (some (mI σ (mR σ 0 0) 5, σ)) = _
        rw [h0, ogd_d hk, n2]
      · show ogd (decide (okd (mR σ 0 0) = 8)) (some (mI σ ((mR σ 0 0) + 1) 6, σ)) = _
        rw [h0, ogd_d hk, n6]
      · show ogd (decide (okd (mR σ 0 0) = 8)) (some (mI σ ((mR σ 0 0) + 5) 0, σ)) = _
        rw [h0, ogd_d hk, n10]
      · show ogd (decide (okd (mR σ 0 0) = 8)) (some (mI σ ((mR σ 0 0) + 1) 8, σ)) = _
        rw [h0, ogd_d hk, n7]
      · show ogd (decide (okd (mR σ 0 0) = 8)) (some (mI σ ((mR σ 0 0) + 5) 5, σ)) = _
        rw [h0, ogd_d hk, n11]
      · show ogd (decide (okd (mR σ 0 0) = 8)) (some (mI σ ((mR σ 0 0) + 5) 6, σ)) = _
        rw [h0, ogd_d hk, n12]
      · show ogd (decide (okd (mR σ 0 0) = 8)) (if mI σ ((mR σ 0 0) + 1) 4 = 0 then some ((0 : Int32), σ) else some ((1 : Int32), σ)) = _
        rw [h0, ogd_d hk, n5, if_pos rfl]
      · show some (mI σ 61 3, σ) = _
        rw [n61]
      · show some (mI σ 0 8, σ) = _
        rw [n8]
/-! wasted answers -/
def sLd (R : Nat → Int32) (Z : Nat → Int64) (s : Nat → Int32) (x : Int32) : Nat → Nat → Nat → Option Nat
  | 0, _, _ => none
  | d + 1, k, v => if sTk R Z s k = 0 then (if oi v = x then some k else sLd R Z s x d (k + 1) (v + 1)) else sLd R Z s x d (k + 1) v
theorem sTk_le (R : Nat → Int32) (Z : Nat → Int64) (s : Nat → Int32) (k : Nat) : sTk R Z s k ≤ 64 := pc_le _
theorem led_c {σ : OM} {w : Nat} {R : Nat → Int32} {Z : Nat → Int64} {s : Nat → Int32} (h : CW σ w R Z s) (h0 : mR σ 0 0 = w) (hk : okd w = 8) (x : Int32) : ∀ d k v m, k + d = nn (s 1) → v ≤ k → d < m → fX9_led_b4 m x (oi v) (oi k) σ = some (oW (sLd R Z s x d k v), σ) := by
  have hN := x_Nb h.1
  intro d
  induction d with
  | zero =>
    intro k v m h1 h2 h3
    obtain ⟨m, rfl⟩ : ∃ m', m = m' + 1 := ⟨m - 1, by omega⟩
    rw [fX9_led_b4, h0, ogd_d hk, x_N h.1, if_pos ((oi_le (by omega) (by omega)).mpr (by omega))]; rfl
  | succ d ih =>
    intro k v m h1 h2 h3
    obtain ⟨m, rfl⟩ : ∃ m', m = m' + 1 := ⟨m - 1, by omega⟩
    have lt := sTk_le R Z s k
    rw [fX9_led_b4, h0, ogd_d hk, x_N h.1, if_neg (by rw [oi_le (by omega) (by omega)]; omega), ogd_d hk, takenBy_eq h (by omega), obi_s, ite_iff (oi_ne0 (by omega))]
    unfold sLd
    by_cases e : sTk R Z s k = 0
    · rw [if_pos e, if_pos e]
      by_cases e2 : oi v = x
      · rw [if_pos e2, if_pos e2, ogd_d (oi_m1 (by omega))]; rfl
      · rw [if_neg e2, if_neg e2, oi_succ, oi_succ]
        exact ih (k + 1) (v + 1) m (by omega) (by omega) (by omega)
    · rw [if_neg e, if_neg e, oi_succ]
      exact ih (k + 1) v m (by omega) (by omega) (by omega)
def oL0 (b : Option Nat) : Int32 := match b with
  | none => 0
  | some k => oi k
def oL1 (b : Option Nat) : Int32 := match b with
  | none => 1
  | some _ => 0
theorem led_r {τ : OM} (h : RB τ) (x : Int32) : ∀ d k v m, k + d = nn (mI τ 88 1) → v ≤ k → d < m → fX10_led_b4 m x (oi v) (oi k) τ = some (oL0 (sLd (mI τ 84) (mL τ 86) (mI τ 88) x d k v), sI τ 81 0 (oL1 (sLd (mI τ 84) (mL τ 86) (mI τ 88) x d k v))) := by
  have hA := h.2.2.2.1
  have hN := hA.2
  intro d
  induction d with
  | zero =>
    intro k v m h1 h2 h3
    obtain ⟨m, rfl⟩ : ∃ m', m = m' + 1 := ⟨m - 1, by omega⟩
    rw [fX10_led_b4, if_neg (by rw [h.1]; decide), hA.1, if_pos ((oi_le (by omega) (by omega)).mpr (by omega))]; rfl
  | succ d ih =>
    intro k v m h1 h2 h3
    obtain ⟨m, rfl⟩ : ∃ m', m = m' + 1 := ⟨m - 1, by omega⟩
    have lt := sTk_le (mI τ 84) (mL τ 86) (mI τ 88) k
    rw [fX10_led_b4, if_neg (by rw [h.1]; decide), if_neg (by rw [hA.1, oi_le (by omega) (by omega)]; omega), takesOf_eq h (by omega), obi_s, ite_iff (oi_ne0 (by omega))]
    unfold sLd
    by_cases e : sTk (mI τ 84) (mL τ 86) (mI τ 88) k = 0
    · rw [if_pos e, if_pos e]
      by_cases e2 : oi v = x
      · rw [if_pos e2, if_pos e2]; rfl
      · rw [if_neg e2, if_neg e2, oi_succ, oi_succ]
        exact ih (k + 1) (v + 1) m (by omega) (by omega) (by omega)
    · rw [if_neg e, if_neg e, oi_succ]
      exact ih (k + 1) v m (by omega) (by omega) (by omega)
theorem Core_96 {σ : OM} (v : Nat) (h : Core σ) : Core (sR σ 96 0 v) := h
theorem m_led {n : Nat} (hn : n < 600) (x : Int32) {σ : OM} (hi : Inv n σ) : ∃ r2 r6 σ3 σ7, fL_led x σ = some (r2, σ3) ∧ fX10_led x σ3 = some (r6, σ7) ∧ mR σ7 96 0 = mR σ3 96 0 ∧ mI σ7 81 0 = r2 ∧ (r2 = 0 → mL σ7 94 0 = r6.toInt64) ∧ (r2 = 0 ∨ r2 = 1) ∧ Inv (n + 1) σ7 := by
  have hC := hi.1
  have hk := okW_kd hC.1
  have hD := hi.2.2.2
  have inv : ∀ (σ1 : OM) (v : Int32), Eqv σ σ1 → (∀ j, mI σ1 60 j = mI σ 60 j) → (∀ j, mI σ1 56 j = mI σ 56 j) → (∀ j, mI σ1 0 j = mI σ 0 j) → (∀ j, mI σ1 81 j = mI σ 81 j) → Inv (n + 1) (sI (sR σ1 96 0 (mR σ 96 0 + 1)) 81 0 v) := by
    intro σ1 v he e60 e56 e0 e81
    obtain ⟨h1, ⟨p, p1, p2, p3⟩, ⟨t1, t2⟩, h4⟩ := hi
    refine ⟨Core_eqv (eqv_I (eqv_rfl _) (by unfold scr; omega) v) (Core_96 _ (Core_eqv he h1)), ⟨p, by omega, ?_, fun j hj => ?_⟩, ⟨?_, fun e => ?_⟩, ?_⟩
    · rw [mI_sI, if_neg (by omega)]; exact (e56 9).trans p2
    · rw [mI_sI, if_neg (by omega)]
      obtain ⟨a, a1, a2⟩ := p3 j hj
      exact ⟨a, a1, (e60 j).trans a2⟩
    · rw [mI_sI, if_neg (by omega), mI_sI, if_neg (by omega)]
      exact (e0 9).trans (t1.trans (e81 11).symm)
    · rw [mI_sI, if_neg (by omega)] at e
      rw [mI_sI, if_neg (by omega), mI_sI, if_neg (by omega)]
      exact (e0 11).trans ((t2 ((e0 9).symm.trans e)).trans (e81 10).symm)
    · show (if (96 : Nat) = 96 ∧ (0 : Nat) = 0 then mR σ 96 0 + 1 else mR σ1 96 0) ≤ n + 1
      rw [if_pos ⟨rfl, rfl⟩]; omega
  rcases hC.2.2.2 with hW | hN
  · generalize h0 : mR σ 0 0 = w at hk hW
    have hCW := hW.2.2.1
    have hNb := x_Nb hCW.1
    have c1 : fX9_led x σ = some (oW (sLd (mI σ 84) (mL σ 86) (mI σ 88) x (nn (mI σ 88 1)) 0 0), σ) := led_c hCW h0 hk x _ 0 0 oF (Nat.zero_add _) (Nat.le_refl _) (by unfold oF; omega)
    have hRB : RB σ := RB_of hW
    unfold fL_led
    rw [ogd_d (show mR σ 96 0 < 600 by omega), c1, obi_s]
    have rr : ∀ σ3 : OM, mI σ3 = mI σ → mL σ3 86 = mL σ 86 → fX10_led x σ3 = some (oL0 (sLd (mI σ 84) (mL σ 86) (mI σ 88) x (nn (mI σ 88 1)) 0 0), sI σ3 81 0 (oL1 (sLd (mI σ 84) (mL σ 86) (mI σ 88) x (nn (mI σ 88 1)) 0 0))) := by
      intro σ3 e1 e2
      have hR3 : RB σ3 := by unfold RB; rw [e1, e2]; exact hRB
      have := led_r hR3 x (nn (mI σ3 88 1)) 0 0 oF (Nat.zero_add _) (Nat.le_refl _) (by have := hR3.2.2.2.1.2; unfold oF; omega)
      rw [e1, e2] at this
      exact this
    cases hs : sLd (mI σ 84) (mL σ 86) (mI σ 88) x (nn (mI σ 88 1)) 0 0 with
    | none =>
      rw [hs] at rr
      rw [if_pos (show oW none = -1 from rfl)]
      exact ⟨1, 0, _, _, rfl, rr _ rfl rfl, rfl, mI_at, fun e => absurd e (by decide), Or.inr rfl, inv σ 1 (eqv_rfl σ) (fun _ => rfl) (fun _ => rfl) (fun _ => rfl) (fun _ => rfl)⟩
    | some k =>
      rw [hs] at rr
      have hkl : ∀ d a v, a + d ≤ nn (mI σ 88 1) → ∀ q, sLd (mI σ 84) (mL σ 86) (mI σ 88) x d a v = some q → q < nn (mI σ 88 1) := by
        intro d
        induction d with
        | zero => intro a v _ q e; cases e
        | succ d ih =>
          intro a v h1 q e
          unfold sLd at e
          split at e
          · split at e
            · cases e; omega
            · exact ih _ _ (by omega) q e
          · exact ih _ _ (by omega) q e
      have hq := hkl _ 0 0 (by omega) k hs
      rw [if_neg (show ¬ oW (some k) = -1 from oi_m1 (by omega))]
      refine ⟨0, oi k, _, _, rfl, rr _ rfl rfl, rfl, mI_at, fun _ => ?_, Or.inl rfl, inv (sL σ 94 0 (oi k).toInt64) 0 (eqv_L (eqv_rfl σ) (by unfold scl; omega) _) (fun _ => rfl) (fun _ => rfl) (fun _ => rfl) (fun _ => rfl)⟩
      exact mL_at (σ := σ) (a := 94) (j := 0) (v := (oi k).toInt64)
  · have h5 : mI σ (mR σ 0 0 + 5) 0 = 0 := hN.2.2.2.2.2.2.2.2.1
    have c1 : fX9_led x σ = some (-1, σ) := by
      unfold fX9_led
      rw [show oF = 99999 + 1 from rfl, fX9_led_b4, ogd_d hk, h5, if_pos (by decide)]; rfl
    have c2 : fX10_led x (sR σ 96 0 (mR σ 96 0 + 1)) = some (0, sI (sR σ 96 0 (mR σ 96 0 + 1)) 81 0 1) := by
      unfold fX10_led
      rw [show oF = 99999 + 1 from rfl, fX10_led_b4, if_pos (show mI (sR σ 96 0 (mR σ 96 0 + 1)) 81 14 = 0 from hN.1.2.1)]
    unfold fL_led
    rw [ogd_d (show mR σ 96 0 < 600 by omega), c1, obi_s, if_pos rfl]
    exact ⟨1, 0, _, _, rfl, c2, rfl, mI_at, fun e => absurd e (by decide), Or.inr rfl, inv σ 1 (eqv_rfl σ) (fun _ => rfl) (fun _ => rfl) (fun _ => rfl) (fun _ => rfl)⟩
