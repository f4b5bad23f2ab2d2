/-! weddings -/
def sWed (s : Nat → Int32) (a b : Nat) : Nat → Int32 := fun j => if j = 62 + a then s (62 + a) ||| (1 : Int32) <<< (oi b &&& 31) else if j = 62 + b then s (62 + b) ||| (1 : Int32) <<< (oi a &&& 31) else s j
theorem xor_or {x : Int32} {k : Nat} (hk : k < 32) (h : tw x k = false) : x ^^^ (1 : Int32) <<< (oi k &&& 31) = x ||| (1 : Int32) <<< (oi k &&& 31) := by
  apply tw_ext; intro i hi
  rw [tw_xor, tw_or, tw_shl k hk i hi]
  by_cases e : i = k
  · rw [e, h, decide_eq_true rfl]; rfl
  · rw [decide_eq_false e]; cases tw x i <;> rfl
theorem or_xor {x : Int32} {k : Nat} (hk : k < 32) (h : tw x k = false) : (x ||| (1 : Int32) <<< (oi k &&& 31)) ^^^ (1 : Int32) <<< (oi k &&& 31) = x := by
  apply tw_ext; intro i hi
  rw [tw_xor, tw_or, tw_shl k hk i hi]
  by_cases e : i = k
  · rw [e, h, decide_eq_true rfl]; rfl
  · rw [decide_eq_false e]; cases tw x i <;> rfl
theorem pcw_or {x : Int32} {k : Nat} (hk : k < 32) (h : tw x k = false) : pcw (x ||| (1 : Int32) <<< (oi k &&& 31)) = pcw x + 1 := by
  unfold pcw
  refine cnt_upd (i := k) hk ?_ h ?_
  · rw [tw_or, tw_shl k hk k hk, decide_eq_true rfl, Bool.or_true]
  · intro j hj hjk
    rw [tw_or, tw_shl k hk j hj, decide_eq_false hjk, Bool.or_false]
theorem sWed_a (s : Nat → Int32) (a b : Nat) : sWed s a b (62 + a) = s (62 + a) ||| (1 : Int32) <<< (oi b &&& 31) := if_pos rfl
theorem sWed_b (s : Nat → Int32) {a b : Nat} (h : a ≠ b) : sWed s a b (62 + b) = s (62 + b) ||| (1 : Int32) <<< (oi a &&& 31) := by
  unfold sWed; rw [if_neg (by omega), if_pos rfl]
theorem sWed_o (s : Nat → Int32) {a b j : Nat} (h1 : j ≠ 62 + a) (h2 : j ≠ 62 + b) : sWed s a b j = s j := by
  unfold sWed; rw [if_neg h1, if_neg h2]
theorem sWed_bit (s : Nat → Int32) {a b i j : Nat} (ha : a < 6) (hb : b < 6) (hab : a ≠ b) (hj : j < 32) : tw (sWed s a b (62 + i)) j = (tw (s (62 + i)) j || (decide (i = a) && decide (j = b)) || (decide (i = b) && decide (j = a))) := by
  by_cases e1 : i = a
  · rw [e1, sWed_a, tw_or, tw_shl b (by omega) j hj, decide_eq_true rfl, decide_eq_false hab]; simp
  · by_cases e2 : i = b
    · rw [e2, sWed_b s hab, tw_or, tw_shl a (by omega) j hj, decide_eq_true rfl, decide_eq_false (show ¬ b = a from fun e => hab e.symm)]; simp
    · rw [sWed_o s (by omega) (by omega), decide_eq_false e1, decide_eq_false e2]; simp
theorem sWed_TB {R s : Nat → Int32} (hT : TB R s) {a b : Nat} (ha : a < nn (R 3)) (hb : b < nn (R 3)) (hH : nn (R 3) ≤ 6) (hab : a ≠ b) : TB R (sWed s a b) := by
  obtain ⟨a1, a2, a3, a4, a5⟩ := hT
  have hN := a2.2
  have e1 : sWed s a b 1 = s 1 := sWed_o s (by omega) (by omega)
  refine ⟨by rw [sWed_o s (by omega) (by omega)]; exact a1, by rw [e1]; exact a2, fun k hk => ?_, fun i hi j hj => ?_, fun i hi j hj => ?_⟩
  · rw [e1] at hk
    rw [sWed_o s (by omega) (by omega), sWed_o s (by omega) (by omega), sWed_o s (by omega) (by omega)]; exact a3 k hk
  · have hj32 := tw_lt hj
    rw [sWed_bit s (by omega) (by omega) hab hj32] at hj
    cases h1 : tw (s (62 + i)) j
    · rw [h1] at hj
      simp only [Bool.false_or, Bool.or_eq_true, Bool.and_eq_true, decide_eq_true_eq] at hj
      rcases hj with ⟨r1, r2⟩ | ⟨r1, r2⟩ <;> exact ⟨by omega, by omega, by omega⟩
    · exact a4 i hi j h1
  · rw [sWed_bit s (by omega) (by omega) hab (by omega), sWed_bit s (by omega) (by omega) hab (by omega), a5 i hi j hj]
    by_cases q1 : i = a <;> by_cases q2 : j = b <;> by_cases q3 : i = b <;> by_cases q4 : j = a <;> simp [q1, q2, q3, q4] <;> omega
theorem sWed_Act (s : Nat → Int32) {R : Nat → Int32} (hT : TB R s) {a b : Nat} (ha : a < 6) (hb : b < 6) (hab : a ≠ b) (h : tw (s (62 + a)) b = false) : Act 1 (oi a) (oi b) s (sWed s a b) := by
  have hN := hT.2.1.2
  refine Or.inr (Or.inl ⟨rfl, sWed_o s (by omega) (by omega), sWed_o s (by omega) (by omega), fun j hj => ⟨sWed_o s (by omega) (by omega), sWed_o s (by omega) (by omega), sWed_o s (by omega) (by omega)⟩, a, b, ha, hb, hab, rfl, rfl, h, fun i hi => ?_⟩)
  by_cases e1 : i = a
  · rw [if_pos e1, e1, sWed_a]
  · rw [if_neg e1]
    by_cases e2 : i = b
    · rw [if_pos e2, e2, sWed_b s hab]
    · rw [if_neg e2, sWed_o s (by omega) (by omega)]
/-- two more bits -/
theorem wd_two {s s' : Nat → Int32} {a b : Nat} (ha : a < 6) (hb : b < 6) (hab : a ≠ b) (h1 : tw (s (62 + a)) b = false) (h2 : tw (s (62 + b)) a = false) (h : ∀ i, i < 6 → s' (62 + i) = if i = a then s (62 + a) ||| (1 : Int32) <<< (oi b &&& 31) else if i = b then s (62 + b) ||| (1 : Int32) <<< (oi a &&& 31) else s (62 + i)) : sWd s' = sWd s + 2 := by
  have e1 : sWd s' = ofd (fun k v => v + if k = a then pcw (s (62 + a)) + 1 else pcw (s (62 + k)) + if k = b then 1 else 0) 0 6 := by
    unfold sWd
    apply ofd_congr
    intro k v hk
    rw [h k hk]
    by_cases q1 : k = a
    · rw [if_pos q1, if_pos q1, pcw_or (by omega) h1]
    · rw [if_neg q1, if_neg q1]
      by_cases q2 : k = b
      · rw [if_pos q2, if_pos q2, pcw_or (by omega) h2, q2]
      · rw [if_neg q2, if_neg q2]; rfl
  have e2 := sum_upd (f := fun k => if k = a then pcw (s (62 + a)) + 1 else pcw (s (62 + k)) + if k = b then 1 else 0) (g := fun k => pcw (s (62 + k)) + if k = b then 1 else 0) (i := a) (d := 1) (n := 6) ha (by
    show (if a = a then _ else _) = pcw (s (62 + a)) + (if a = b then 1 else 0) + 1
    rw [if_pos rfl, if_neg hab]) (fun k hk hka => by
    show (if k = a then _ else _) = _
    rw [if_neg hka])
  have e3 := sum_upd (f := fun k => pcw (s (62 + k)) + if k = b then 1 else 0) (g := fun k => pcw (s (62 + k))) (i := b) (d := 1) (n := 6) hb (by
    show pcw (s (62 + b)) + (if b = b then 1 else 0) = _
    rw [if_pos rfl]) (fun k hk hkb => by
    show pcw (s (62 + k)) + (if k = b then 1 else 0) = _
    rw [if_neg hkb]; rfl)
  rw [e1]
  refine e2.trans ?_
  rw [e3]; rfl
theorem sWd_le (s : Nat → Int32) : sWd s ≤ 192 := by
  have h : sWd s ≤ 32 * 6 := ofd_ind (s := fun i v => v + pcw (s (62 + i))) (a := 0) (n := 6) (P := fun n v => v ≤ 32 * n) (Nat.zero_le _) (fun k v hk hv => by
    have := pcw_le (s (62 + k))
    show v + _ ≤ _
    omega)
  exact h
theorem areWed_eq {σ : OM} {t : Nat} {a b : Nat} (ha : a < 6) (hb : b < 32) : fX7_areWed t (oi a) (oi b) σ = some (b2 (tw (mI σ (t + 4) a) b), σ) := by
  unfold fX7_areWed
  rw [if_neg (oi_nneg (by omega)), lt6, if_neg (by rw [oi_le (by omega) (by omega)]; omega), ogi (by omega) (by omega), oi_nat (by omega), bitOfW_eq _ hb, obi_s]
  cases tw (mI σ (t + 4) a) b <;> rfl
theorem turnW_eq {σ : OM} {t : Nat} {a b : Nat} (ha : a < 6) (hb : b < 6) (hab : a ≠ b) : fX7_turnWedding t (oi a) (oi b) σ = some (sI (sI σ (t + 4) a (mI σ (t + 4) a ^^^ (1 : Int32) <<< (oi b &&& 31))) (t + 4) b (mI σ (t + 4) b ^^^ (1 : Int32) <<< (oi a &&& 31))) := by
  unfold fX7_turnWedding
  rw [if_neg (oi_nneg (by omega)), lt6, if_neg (by rw [oi_le (by omega) (by omega)]; omega), if_neg (oi_nneg (by omega)), if_neg (by rw [oi_le (by omega) (by omega)]; omega), ogi (by omega) (by omega), ogi (by omega) (by omega), ogi (by omega) (by omega), ogi (by omega) (by omega), oi_nat (by omega), oi_nat (by omega)]
  congr 2
  rw [mI_sI, if_neg (by omega)]
theorem marry_eq {σ : OM} {t : Nat} {R s : Nat → Int32} (hT : TB R s) (hC : CT σ t s) {a b : Nat} (ha : a < 6) (hb : b < 6) (hab : a ≠ b) (h : tw (s (62 + a)) b = false) : ∃ σ1, fX7_marry t (oi a) (oi b) σ = some σ1 ∧ CT σ1 t (sWed s a b) ∧ Fr (fun c _ => t ≤ c ∧ c ≤ t + 4) noL σ σ1 := by
  obtain ⟨c1, c2, c3, c4, c5⟩ := hC
  have hN := hT.2.1.2
  have h' : tw (s (62 + b)) a = false := by rw [hT.2.2.2.2 b hb a ha]; exact h
  have e1 : sWed s a b 1 = s 1 := sWed_o s (by omega) (by omega)
  unfold fX7_marry
  rw [areWed_eq ha (by omega), obi_s, c4 a ha, h, if_pos (by decide), turnW_eq ha hb hab, obv_s]
  have i5 : mI (sI (sI σ (t + 4) a (mI σ (t + 4) a ^^^ (1 : Int32) <<< (oi b &&& 31))) (t + 4) b (mI σ (t + 4) b ^^^ (1 : Int32) <<< (oi a &&& 31))) t 5 = oi (sWd s / 2) := by
    rw [mI_sI, if_neg (by omega), mI_sI, if_neg (by omega)]; exact c5
  rw [i5, oi_succ]
  refine ⟨_, rfl, ⟨?_, ?_, fun k hk => ?_, fun i hi => ?_, ?_⟩, fr_I (fr_I (fr_I (fr_rfl _ _ _) (by omega)) (by omega)) (by omega)⟩
  · rw [e1, mI_sI, if_neg (by omega), mI_sI, if_neg (by omega), mI_sI, if_neg (by omega)]; exact c1
  · rw [sWed_o s (by omega) (by omega), mI_sI, if_neg (by omega), mI_sI, if_neg (by omega), mI_sI, if_neg (by omega)]; exact c2
  · rw [e1] at hk
    rw [sWed_o s (by omega) (by omega), sWed_o s (by omega) (by omega), sWed_o s (by omega) (by omega), mI_sI, if_neg (by omega), mI_sI, if_neg (by omega), mI_sI, if_neg (by omega), mI_sI, if_neg (by omega), mI_sI, if_neg (by omega), mI_sI, if_neg (by omega), mI_sI, if_neg (by omega), mI_sI, if_neg (by omega), mI_sI, if_neg (by omega)]
    exact c3 k hk
  · rw [mI_sI, if_neg (by omega), mI_sI]
    by_cases q2 : i = b
    · rw [if_pos ⟨rfl, q2⟩, q2, sWed_b s hab, c4 b hb, xor_or (by omega) h']
    · rw [if_neg (fun e => q2 e.2), mI_sI]
      by_cases q1 : i = a
      · rw [if_pos ⟨rfl, q1⟩, q1, sWed_a, c4 a ha, xor_or (by omega) h]
      · rw [if_neg (fun e => q1 e.2), sWed_o s (by omega) (by omega)]; exact c4 i hi
  · rw [mI_at, wd_two (s := s) (s' := sWed s a b) ha hb hab h h' (fun i hi => by
      by_cases q1 : i = a
      · rw [if_pos q1, q1, sWed_a]
      · rw [if_neg q1]
        by_cases q2 : i = b
        · rw [if_pos q2, q2, sWed_b s hab]
        · rw [if_neg q2, sWed_o s (by omega) (by omega)])]
    congr 1; omega
theorem isNot_eq (t : Int32) (σ : OM) : (obi (fX10_isNot t σ) (fun r s => ogd (oisb r) (some (r, s)))) = some (0, sI σ 81 11 t) := rfl
theorem wed_r {τ : OM} {a b : Nat} (ha : a < 6) (hb : b < 6) (hab : a ≠ b) {c : Nat} (hc : c ≤ 12) (h22 : mI τ 81 22 = oi c) : ∃ σ2, (obv (fX10_note τ) (fun σ23 => ogd (oin ((62 : Int32) + oi a) 68) (ogd (oin ((62 : Int32) + oi a) 68) (ogd (oin ((62 : Int32) + oi b) 68) (ogd (oin ((62 : Int32) + oi b) 68) (some ((1 : Int32), sI (sI σ23 88 (((62 : Int32) + oi a).toNatClampNeg) ((mI σ23 88 (((62 : Int32) + oi a).toNatClampNeg)) ||| ((1 : Int32) <<< (oi b &&& 31)))) 88 (((62 : Int32) + oi b).toNatClampNeg) ((mI (sI σ23 88 (((62 : Int32) + oi a).toNatClampNeg) ((mI σ23 88 (((62 : Int32) + oi a).toNatClampNeg)) ||| ((1 : Int32) <<< (oi b &&& 31)))) 88 (((62 : Int32) + oi b).toNatClampNeg)) ||| ((1 : Int32) <<< (oi a &&& 31)))))))))) = some (1, σ2) ∧ mI σ2 88 = sWed (mI τ 88) a b ∧ mI σ2 81 22 = oi (c - oO c + 1) ∧ (∀ k j, k < c - oO c → j < 68 → mI σ2 89 (68 * k + j) = mI τ 89 (68 * (k + oO c) + j)) ∧ (∀ j, j < 68 → mI σ2 89 (68 * (c - oO c) + j) = mI τ 88 j) ∧ Fr (fun a j => (a = 81 ∧ j = 22) ∨ a = 88 ∨ a = 89) noL τ σ2 := by
  obtain ⟨σ1, e1, e2, e3, e4, e5⟩ := note_eq τ hc h22
  have r88 : mI σ1 88 = mI τ 88 := funext fun j => e5.1 88 j (by omega)
  rw [e1, obv_s, show (62 : Int32) + oi a = oi (62 + a) from oi_add 62 a, show (62 : Int32) + oi b = oi (62 + b) from oi_add 62 b, ogi (by omega) (by omega), ogi (by omega) (by omega), ogi (by omega) (by omega), ogi (by omega) (by omega), oi_nat (by omega), oi_nat (by omega)]
  have g3 : Fr (fun a _ => a = 88) noL σ1 (sI (sI σ1 88 (62 + a) (mI σ1 88 (62 + a) ||| (1 : Int32) <<< (oi b &&& 31))) 88 (62 + b) (mI (sI σ1 88 (62 + a) (mI σ1 88 (62 + a) ||| (1 : Int32) <<< (oi b &&& 31))) 88 (62 + b) ||| (1 : Int32) <<< (oi a &&& 31))) := fr_I (fr_I (fr_rfl _ _ _) rfl) rfl
  refine ⟨_, rfl, ?_, ?_, fun k j hk hj => ?_, fun j hj => ?_, fr_tr (fr_mono (fun a j p => ?_) (fun _ p => p) e5) (fr_mono (fun a j p => ?_) (fun _ p => p) g3)⟩
  · funext j
    rw [mI_sI, mI_sI, mI_sI, if_neg (show ¬ ((88 : Nat) = 88 ∧ 62 + b = 62 + a) by omega), r88]
    unfold sWed
    by_cases q1 : j = 62 + b
    · rw [if_pos ⟨rfl, q1⟩, if_neg (by omega), if_pos q1]
    · rw [if_neg (fun e => q1 e.2)]
      by_cases q2 : j = 62 + a
      · rw [if_pos ⟨rfl, q2⟩, if_pos q2]
      · rw [if_neg (fun e => q2 e.2), if_neg q2, if_neg q1]
  · rw [g3.1 _ _ (by omega)]; exact e2
  · rw [g3.1 _ _ (by omega)]; exact e3 k j hk hj
  · rw [g3.1 _ _ (by omega)]; exact e4 j hj
  · omega
  · omega
/-- an act that leaves the answers: who lies stays -/
theorem act_fin2 {n : Nat} {σ σ1 σ2 : OM} {w : Nat} {s' : Nat → Int32} {k a b : Int32} {c : Nat} (hi : Inv n σ) (hw : w = 1 ∨ w = 22) (h0 : mR σ 0 0 = w) (hW : WI σ w) (c1 : c ≤ 12) (c4 : ∀ k, k < c → TB (mI σ 84) (uRow σ c k)) (c5 : ∀ k, k < c → Act (mI σ 62 k) (mI σ 63 k) (mI σ 64 k) (uRow σ c k) (uRow σ c (k + 1)))
    (hT : TB (mI σ 84) s') (hA : Act k a b (mI σ 88) s') (hs1 : s' 1 = mI σ 88 1) (hent : ∀ j, j < nn (mI σ 88 1) → s' (2 + 3 * j) = mI σ 88 (2 + 3 * j) ∧ s' (3 + 3 * j) = mI σ 88 (3 + 3 * j) ∧ s' (4 + 3 * j) = mI σ 88 (4 + 3 * j))
    (e2 : CT σ1 (w + 5) s') (e4 : mI σ1 0 9 = 0) (e5 : mI σ1 61 3 = oi (c - oO c + 1)) (e6 : ∀ j, j < c - oO c → mI σ1 62 j = mI σ 62 (j + oO c) ∧ mI σ1 63 j = mI σ 63 (j + oO c) ∧ mI σ1 64 j = mI σ 64 (j + oO c)) (e7 : mI σ1 62 (c - oO c) = k ∧ mI σ1 63 (c - oO c) = a ∧ mI σ1 64 (c - oO c) = b) (e8 : Fr (fun a j => (w + 5 ≤ a ∧ a ≤ w + 9) ∨ (61 ≤ a ∧ a ≤ 64) ∨ (a = 0 ∧ j = 9)) noL σ σ1)
    (s2 : mI σ2 88 = s') (s3 : mI σ2 81 22 = oi (c - oO c + 1)) (s4 : ∀ k j, k < c - oO c → j < 68 → mI σ2 89 (68 * k + j) = mI (gd σ1) 89 (68 * (k + oO c) + j)) (s5 : ∀ j, j < 68 → mI σ2 89 (68 * (c - oO c) + j) = mI (gd σ1) 88 j) (s6 : Fr (fun a j => (a = 81 ∧ j = 22) ∨ a = 88 ∨ a = 89) noL (gd σ1) σ2) : Inv (n + 1) σ2 := by
  have hCW := hW.2.2.1
  have q0 : ∀ b j, b ≠ 81 → mI (gd σ1) b j = mI σ1 b j := fun b j hb => ft_o 0 σ1 hb
  have q1 : ∀ b j, b ≠ 81 → b ≠ 88 → b ≠ 89 → mI σ2 b j = mI σ1 b j := fun b j p1 p2 p3 => by
    rw [s6.1 b j (by omega)]; exact q0 b j p1
  refine act_fin hi hw h0 hW ?_ hT s2 (CT_congr (fun b j p => q1 b j (by omega) (by omega) (by omega)) e2) ?_ ?_ ?_ ?_
  · have k1 : Fr (aP w) (gQ w) σ σ1 := fr_mono (fun b j p => by unfold aP; omega) (fun _ p => p.elim) e8
    have k2 : Fr (aP w) (gQ w) σ1 (gd σ1) := fr_I (fr_I (fr_rfl _ _ _) (by unfold aP; omega)) (by unfold aP; omega)
    have k3 : Fr (aP w) (gQ w) (gd σ1) σ2 := fr_mono (fun b j p => by unfold aP; omega) (fun _ p => p.elim) s6
    exact fr_tr k1 (fr_tr k2 k3)
  · refine CM_ext hs1 hent (CM_congr (fun j => ?_) hCW.2)
    rw [q1 _ _ (by omega) (by omega) (by omega), e8.1 _ _ (by omega)]
  · refine UR_push c1 c4 c5 hCW.1.1.2 hA s2 ?_ s3 (fun j hj => ?_) ?_ (fun k j hk' hj => ?_) (fun j hj => ?_)
    · rw [q1 _ _ (by omega) (by omega) (by omega)]; exact e5
    · rw [q1 _ _ (by omega) (by omega) (by omega), q1 _ _ (by omega) (by omega) (by omega), q1 _ _ (by omega) (by omega) (by omega)]; exact e6 j hj
    · rw [q1 _ _ (by omega) (by omega) (by omega), q1 _ _ (by omega) (by omega) (by omega), q1 _ _ (by omega) (by omega) (by omega)]; exact e7
    · rw [s4 k j hk' hj, q0 _ _ (by omega), e8.1 89 _ (by omega)]
    · rw [s5 j hj, q0 _ _ (by omega), e8.1 88 _ (by omega)]
  · rw [q1 _ _ (by omega) (by omega) (by omega), e4, s6.1 81 11 (by omega)]; exact (ft_11 0 σ1).symm
  · rw [q1 _ _ (by omega) (by omega) (by omega), e4]; decide
