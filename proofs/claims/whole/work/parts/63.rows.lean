/-! rows of what was told: only 68 places count -/
theorem TB_ext {R s s' : Nat → Int32} (h : ∀ j, j < 68 → s' j = s j) (hT : TB R s) : TB R s' := by
  obtain ⟨a1, a2, a3, a4, a5⟩ := hT
  have e1 : s' 1 = s 1 := h 1 (by omega)
  have hN := a2.2
  refine ⟨by rw [h 0 (by omega)]; exact a1, by rw [e1]; exact a2, fun k hk => ?_, fun i hi j hj => ?_, fun i hi j hj => ?_⟩
  · rw [e1] at hk
    rw [h _ (by omega), h _ (by omega), h _ (by omega)]; exact a3 k hk
  · rw [h _ (by omega)] at hj; exact a4 i hi j hj
  · rw [h _ (by omega), h _ (by omega)]; exact a5 i hi j hj
theorem sWd_ext {s s' : Nat → Int32} (h : ∀ i, i < 6 → s' (62 + i) = s (62 + i)) : sWd s' = sWd s := by
  unfold sWd
  apply ofd_congr
  intro k v hk
  rw [h k hk]
theorem CT_ext {σ : OM} {t : Nat} {s s' : Nat → Int32} (hN : nn (s 1) ≤ 20) (h : ∀ j, j < 68 → s' j = s j) (hC : CT σ t s) : CT σ t s' := by
  obtain ⟨a1, a2, a3, a4, a5⟩ := hC
  have e1 : s' 1 = s 1 := h 1 (by omega)
  refine ⟨by rw [e1]; exact a1, by rw [h 0 (by omega)]; exact a2, fun k hk => ?_, fun i hi => ?_, ?_⟩
  · rw [e1] at hk
    rw [h _ (by omega), h _ (by omega), h _ (by omega)]; exact a3 k hk
  · rw [h _ (by omega)]; exact a4 i hi
  · rw [sWd_ext (fun i hi => h _ (by omega))]; exact a5
theorem Act_ext {k a b : Int32} {u u' s s' : Nat → Int32} (hN : nn (u 1) ≤ 20) (hu : ∀ j, j < 68 → u' j = u j) (hs : ∀ j, j < 68 → s' j = s j) (h : Act k a b u s) : Act k a b u' s' := by
  have ent : (∀ j, j < nn (u 1) → s (2 + 3 * j) = u (2 + 3 * j) ∧ s (3 + 3 * j) = u (3 + 3 * j) ∧ s (4 + 3 * j) = u (4 + 3 * j)) → ∀ j, j < nn (u' 1) → s' (2 + 3 * j) = u' (2 + 3 * j) ∧ s' (3 + 3 * j) = u' (3 + 3 * j) ∧ s' (4 + 3 * j) = u' (4 + 3 * j) := by
    intro he j hj
    rw [hu 1 (by omega)] at hj
    rw [hs _ (by omega), hs _ (by omega), hs _ (by omega), hu _ (by omega), hu _ (by omega), hu _ (by omega)]
    exact he j hj
  rcases h with ⟨h1, h2, h3, h4, h5, h6⟩ | ⟨h1, h2, h3, h5, x, y, hx, hy, hxy, ea, eb, hb, h6⟩ | ⟨h1, h2, h3, h5, h6⟩
  · refine Or.inl ⟨h1, ?_, ?_, ?_, ent h5, fun i hi => ?_⟩
    · rw [hs _ (by omega), hu _ (by omega)]; exact h2
    · rw [hs _ (by omega), hu _ (by omega)]; exact h3
    · rw [hs _ (by omega), hu _ (by omega)]; exact h4
    · rw [hs _ (by omega), hu _ (by omega)]; exact h6 i hi
  · refine Or.inr (Or.inl ⟨h1, ?_, ?_, ent h5, x, y, hx, hy, hxy, ea, eb, ?_, fun i hi => ?_⟩)
    · rw [hs _ (by omega), hu _ (by omega)]; exact h2
    · rw [hs _ (by omega), hu _ (by omega)]; exact h3
    · rw [hu _ (by omega)]; exact hb
    · rw [hs _ (by omega), hu _ (by omega), hu _ (by omega), hu _ (by omega)]; exact h6 i hi
  · refine Or.inr (Or.inr ⟨h1, ?_, ?_, ent h5, fun i hi => ?_⟩)
    · rw [hs _ (by omega), hu _ (by omega)]; exact h2
    · rw [hs _ (by omega), hu _ (by omega)]; exact h3
    · rw [hs _ (by omega), hu _ (by omega)]; exact h6 i hi
/-- one more row for undoing -/
theorem UR_push {σ σ3 : OM} {R s' : Nat → Int32} {c : Nat} {k a b : Int32} (hc : c ≤ 12) (h4 : ∀ k, k < c → TB R (uRow σ c k)) (h5 : ∀ k, k < c → Act (mI σ 62 k) (mI σ 63 k) (mI σ 64 k) (uRow σ c k) (uRow σ c (k + 1))) (hT : TB R (mI σ 88)) (hA : Act k a b (mI σ 88) s') (h88 : mI σ3 88 = s')
    (e1 : mI σ3 61 3 = oi (c - oO c + 1)) (e2 : mI σ3 81 22 = oi (c - oO c + 1)) (e3 : ∀ j, j < c - oO c → mI σ3 62 j = mI σ 62 (j + oO c) ∧ mI σ3 63 j = mI σ 63 (j + oO c) ∧ mI σ3 64 j = mI σ 64 (j + oO c)) (e4 : mI σ3 62 (c - oO c) = k ∧ mI σ3 63 (c - oO c) = a ∧ mI σ3 64 (c - oO c) = b)
    (e5 : ∀ k j, k < c - oO c → j < 68 → mI σ3 89 (68 * k + j) = mI σ 89 (68 * (k + oO c) + j)) (e6 : ∀ j, j < 68 → mI σ3 89 (68 * (c - oO c) + j) = mI σ 88 j) : UR σ3 R := by
  have ho : oO c ≤ 1 ∧ oO c ≤ c ∧ c - oO c ≤ 11 := by unfold oO; split <;> omega
  have hr : ∀ q, q ≤ c - oO c → ∀ j, j < 68 → uRow σ3 (c - oO c + 1) q j = uRow σ c (q + oO c) j := by
    intro q hq j hj
    unfold uRow
    rw [if_pos (by omega)]
    by_cases e : q = c - oO c
    · rw [if_neg (by omega), e]; exact e6 j hj
    · rw [if_pos (by omega)]; exact e5 q j (by omega) hj
  have hTc : ∀ q, q ≤ c → TB R (uRow σ c q) := by
    intro q hq
    by_cases e : q < c
    · exact h4 q e
    · unfold uRow; rw [if_neg e]; exact hT
  refine ⟨c - oO c + 1, by omega, e1, e2, fun q hq => TB_ext (hr q (by omega)) (hTc _ (by omega)), fun q hq => ?_⟩
  by_cases e : q = c - oO c
  · rw [e, e4.1, e4.2.1, e4.2.2]
    refine Act_ext (u := mI σ 88) (s := s') hT.2.1.2 (fun j hj => ?_) (fun j hj => ?_) hA
    · rw [hr _ (Nat.le_refl _) j hj]
      unfold uRow
      rw [if_neg (by omega)]
    · unfold uRow
      rw [if_neg (by omega), h88]
  · obtain ⟨f1, f2, f3⟩ := e3 q (by omega)
    rw [f1, f2, f3]
    have := h5 (q + oO c) (by omega)
    refine Act_ext (hTc _ (by omega)).2.1.2 (hr q (by omega)) (fun j hj => ?_) this
    rw [hr (q + 1) (by omega) j hj, show q + 1 + oO c = q + oO c + 1 by omega]
/-! answers alone say who lies -/
theorem sLs_ext {Z : Nat → Int64} {s s' : Nat → Int32} {k : Nat} (h : s' (2 + 3 * k) = s (2 + 3 * k) ∧ s' (3 + 3 * k) = s (3 + 3 * k) ∧ s' (4 + 3 * k) = s (4 + 3 * k)) (hs ls : Int32) (x : Int64) : sLs Z s' hs ls k x = sLs Z s hs ls k x := by
  unfold sLs sAns
  rw [h.1, h.2.1, h.2.2]
theorem sMi_ext {Z : Nat → Int64} {s s' : Nat → Int32} (h1 : s' 1 = s 1) (h : ∀ k, k < nn (s 1) → s' (2 + 3 * k) = s (2 + 3 * k) ∧ s' (3 + 3 * k) = s (3 + 3 * k) ∧ s' (4 + 3 * k) = s (4 + 3 * k)) (H : Nat) : sMi Z s' H = sMi Z s H := by
  unfold sMi
  apply ofd_congr
  intro k a hk
  have e : sCan Z s' k = sCan Z s k := by
    unfold sCan sLeft
    rw [h1, ofd_congr (fun j x hj => sLs_ext (h j hj) _ _ _)]
  unfold sMs
  rw [e]
theorem CM_ext {σ : OM} {w : Nat} {R : Nat → Int32} {Z : Nat → Int64} {s s' : Nat → Int32} (h1 : s' 1 = s 1) (h : ∀ k, k < nn (s 1) → s' (2 + 3 * k) = s (2 + 3 * k) ∧ s' (3 + 3 * k) = s (3 + 3 * k) ∧ s' (4 + 3 * k) = s (4 + 3 * k)) (hM : CM σ w R Z s) : CM σ w R Z s' := by
  unfold CM at hM ⊢
  rw [sMi_ext h1 h]; exact hM
/-- what an act may change, in both memories -/
def aP (w : Nat) : Nat → Nat → Prop := fun a j => (w + 5 ≤ a ∧ a ≤ w + 10) ∨ (61 ≤ a ∧ a ≤ 64) ∨ (a = 0 ∧ j = 9) ∨ (a = 81 ∧ (j = 0 ∨ j = 11 ∨ j = 22)) ∨ a = 88 ∨ a = 89
theorem act_fin {n : Nat} {σ σ2 : OM} {w : Nat} {s' : Nat → Int32} (hi : Inv n σ) (hw : w = 1 ∨ w = 22) (h0 : mR σ 0 0 = w) (hW : WI σ w) (hf : Fr (aP w) (gQ w) σ σ2) (hT : TB (mI σ 84) s') (h88 : mI σ2 88 = s') (hC : CT σ2 (w + 5) s') (hM : CM σ2 w (mI σ 84) (mL σ 86) s') (hU : UR σ2 (mI σ 84)) (ht : mI σ2 0 9 = mI σ2 81 11) (ht4 : mI σ2 0 9 ≠ 4) : Inv (n + 1) σ2 := by
  obtain ⟨⟨c1, c2, c3, c4⟩, ⟨p, p1, p2, p3⟩, hT2, hD⟩ := hi
  obtain ⟨a1, a2, a3, a4, a5⟩ := hW
  have e84 : mI σ2 84 = mI σ 84 := funext fun j => hf.1 84 j (by unfold aP; omega)
  have e86 : mL σ2 86 = mL σ 86 := funext fun j => hf.2.1 86 j (by unfold gQ; omega)
  refine ⟨⟨?_, ?_, ?_, Or.inl ?_⟩, ⟨p, by omega, ?_, fun j hj => ?_⟩, ⟨ht, fun e => absurd e ht4⟩, ?_⟩
  · rw [hf.2.2]; exact c1
  · obtain ⟨T, t1, t2, t3, t4⟩ := c2
    refine ⟨T, t1, ?_, ?_, fun j hj => ?_⟩
    · rw [hf.1 _ _ (by unfold aP; omega)]; exact t2
    · rw [hf.1 _ _ (by unfold aP; omega)]; exact t3
    · rw [hf.1 _ _ (by unfold aP; omega), hf.1 _ _ (by unfold aP; omega)]; exact t4 j hj
  · rw [hf.1 _ _ (by unfold aP; omega), hf.1 _ _ (by unfold aP; omega)]; exact c3
  · rw [hf.2.2, h0]
    unfold WI
    rw [e84, e86, h88]
    refine ⟨?_, ?_, ⟨⟨⟨a3.1.1.1, hT⟩, CS_congr (fun a j q => hf.1 a j (by unfold aP; omega)) (fun a j q => hf.2.1 a j (by unfold gQ; omega)) (x_Hb a3.1) a3.1.2.1, hC⟩, hM⟩, hU, ?_⟩
    · rw [hf.1 _ _ (by unfold aP; omega)]; exact a1
    · rw [hf.1 _ _ (by unfold aP; omega)]; exact a2
    · obtain ⟨m, m1, m2, m3, m4⟩ := a5
      have hk : ∀ i, kRow σ2 i = kRow σ i := fun i => funext fun j => hf.1 90 _ (by unfold aP; omega)
      refine ⟨m, m1, ?_, ?_, fun i hi => ?_⟩
      · rw [hf.1 _ _ (by unfold aP; omega)]; exact m2
      · rw [hf.1 _ _ (by unfold aP; omega)]; exact m3
      · rw [hk]; exact ⟨(m4 i hi).1, CT_congr (fun a j q => hf.1 a j (by unfold aP; omega)) (m4 i hi).2⟩
  · rw [hf.1 _ _ (by unfold aP; omega)]; exact p2
  · rw [hf.1 _ _ (by unfold aP; omega)]; exact p3 j hj
  · rw [hf.2.2]; omega
/-! one more answer -/
def sAdd (s : Nat → Int32) (a q : Int32) (y : Bool) : Nat → Int32 := fun j => if j = 1 then s 1 + 1 else if j = 4 + 3 * nn (s 1) then b2 y else if j = 3 + 3 * nn (s 1) then q else if j = 2 + 3 * nn (s 1) then a else s j
theorem sAdd_1 {s : Nat → Int32} {R : Nat → Int32} (hT : TB R s) (a q : Int32) (y : Bool) : sAdd s a q y 1 = oi (nn (s 1) + 1) := by
  show (if 1 = 1 then s 1 + 1 else _) = _
  rw [if_pos rfl, hT.2.1.1, nn_oi (nn_lt _)]; exact oi_succ _
theorem sAdd_lo (s : Nat → Int32) (a q : Int32) (y : Bool) {j : Nat} (h1 : j ≠ 1) (h : j < 2 + 3 * nn (s 1)) : sAdd s a q y j = s j := by
  unfold sAdd
  rw [if_neg h1, if_neg (by omega), if_neg (by omega), if_neg (by omega)]
theorem sAdd_hi (s : Nat → Int32) (a q : Int32) (y : Bool) {j : Nat} (h : 4 + 3 * nn (s 1) < j) : sAdd s a q y j = s j := by
  unfold sAdd
  rw [if_neg (by omega), if_neg (by omega), if_neg (by omega), if_neg (by omega)]
theorem sAdd_at (s : Nat → Int32) (a q : Int32) (y : Bool) : sAdd s a q y (2 + 3 * nn (s 1)) = a ∧ sAdd s a q y (3 + 3 * nn (s 1)) = q ∧ sAdd s a q y (4 + 3 * nn (s 1)) = b2 y := by
  unfold sAdd
  refine ⟨?_, ?_, ?_⟩
  · rw [if_neg (by omega), if_neg (by omega), if_neg (by omega), if_pos rfl]
  · rw [if_neg (by omega), if_neg (by omega), if_pos rfl]
  · rw [if_neg (by omega), if_pos rfl]
theorem sAdd_TB {R s : Nat → Int32} (hT : TB R s) (hN : nn (s 1) < 20) {a q : Nat} (ha : a < nn (R 3)) (hH : nn (R 3) ≤ 6) (hq : q < nn (R 5)) (hQ : nn (R 5) ≤ 8) (y : Bool) : TB R (sAdd s (oi a) (oi q) y) := by
  obtain ⟨a1, a2, a3, a4, a5⟩ := hT
  obtain ⟨d1, d2, d3⟩ := sAdd_at s (oi a) (oi q) y
  have e1 := sAdd_1 (R := R) ⟨a1, a2, a3, a4, a5⟩ (oi a) (oi q) y
  have n1 : nn (sAdd s (oi a) (oi q) y 1) = nn (s 1) + 1 := by rw [e1, nn_oi (by omega)]
  refine ⟨by rw [sAdd_lo s _ _ _ (by omega) (by omega)]; exact a1, by rw [e1]; exact bd_of (by omega) (by omega), fun k hk => ?_, fun i hi j hj => ?_, fun i hi j hj => ?_⟩
  · rw [n1] at hk
    by_cases e : k = nn (s 1)
    · rw [e, d1, d2, d3, nn_oi (by omega), nn_oi (by omega)]
      exact ⟨bd_of (by omega) (by omega), ha, bd_of (by omega) (by omega), hq, by cases y; exact Or.inl rfl; exact Or.inr rfl⟩
    · rw [sAdd_lo s _ _ _ (by omega) (by omega), sAdd_lo s _ _ _ (by omega) (by omega), sAdd_lo s _ _ _ (by omega) (by omega)]
      exact a3 k (by omega)
  · rw [sAdd_hi s _ _ _ (by omega)] at hj; exact a4 i hi j hj
  · rw [sAdd_hi s _ _ _ (by omega), sAdd_hi s _ _ _ (by omega)]; exact a5 i hi j hj
theorem sAdd_Act {R s : Nat → Int32} (hT : TB R s) (hN : nn (s 1) < 20) (a q : Int32) (y : Bool) : Act 0 a q s (sAdd s a q y) := by
  have e1 := sAdd_1 hT a q y
  refine Or.inl ⟨rfl, sAdd_lo s _ _ _ (by omega) (by omega), ?_, by rw [e1, nn_oi (by omega)], fun j hj => ⟨sAdd_lo s _ _ _ (by omega) (by omega), sAdd_lo s _ _ _ (by omega) (by omega), sAdd_lo s _ _ _ (by omega) (by omega)⟩, fun i hi => sAdd_hi s _ _ _ (by omega)⟩
  show (if 1 = 1 then s 1 + 1 else _) = _
  rw [if_pos rfl]
theorem add_eq {σ : OM} {t : Nat} {R s : Nat → Int32} (hT : TB R s) (hN : nn (s 1) < 20) (hC : CT σ t s) (a q : Int32) (y : Bool) : ∃ σ1, fX7_add t a q (b2 y) σ = some σ1 ∧ CT σ1 t (sAdd s a q y) ∧ Fr (fun c _ => t ≤ c ∧ c ≤ t + 3) noL σ σ1 := by
  obtain ⟨c1, c2, c3, c4, c5⟩ := hC
  obtain ⟨d1, d2, d3⟩ := sAdd_at s a q y
  have e1 := sAdd_1 hT a q y
  generalize hN' : nn (s 1) = N at *
  have c0 : mI σ t 0 = oi N := by rw [c1, ← hN']; exact hT.2.1.1
  have r1 : ∀ v, mI (sI σ (t + 1) N v) t 0 = oi N := fun v => by rw [mI_sI, if_neg (by omega)]; exact c0
  have r2 : ∀ v u, mI (sI (sI σ (t + 1) N v) (t + 2) N u) t 0 = oi N := fun v u => by rw [mI_sI, if_neg (by omega)]; exact r1 v
  have r3 : ∀ v u x, mI (sI (sI (sI σ (t + 1) N v) (t + 2) N u) (t + 3) N x) t 0 = oi N := fun v u x => by rw [mI_sI, if_neg (by omega)]; exact r2 v u
  unfold fX7_add
  rw [c0, if_neg (oi_nneg (by omega)), lt20, if_pos ((oi_lt (by omega) (by omega)).mpr hN), ogi (by omega) (by omega), oi_nat (by omega), r1, ogi (by omega) (by omega), oi_nat (by omega), r2, ogi (by omega) (by omega), oi_nat (by omega), r3, oi_succ, oisb_v (show oisb (b2 y) = true by cases y <;> rfl)]
  refine ⟨_, rfl, ⟨?_, ?_, fun k hk => ?_, fun i hi => ?_, ?_⟩, fr_I (fr_I (fr_I (fr_I (fr_rfl _ _ _) (by omega)) (by omega)) (by omega)) (by omega)⟩
  · rw [e1, mI_at]
  · rw [sAdd_lo s _ _ _ (by omega) (by omega), mI_sI, if_neg (by omega), mI_sI, if_neg (by omega), mI_sI, if_neg (by omega), mI_sI, if_neg (by omega)]; exact c2
  · rw [e1, nn_oi (by omega)] at hk
    by_cases e : k = N
    · rw [e, d1, d2, d3]
      refine ⟨?_, ?_, ?_⟩
      · rw [mI_sI, if_neg (by omega), mI_sI, if_neg (by omega), mI_sI, if_neg (by omega), mI_at]
      · rw [mI_sI, if_neg (by omega), mI_sI, if_neg (by omega), mI_at]
      · rw [mI_sI, if_neg (by omega), mI_at]
    · obtain ⟨f1, f2, f3⟩ := c3 k (by omega)
      rw [sAdd_lo s _ _ _ (by omega) (by omega), sAdd_lo s _ _ _ (by omega) (by omega), sAdd_lo s _ _ _ (by omega) (by omega)]
      refine ⟨?_, ?_, ?_⟩
      · rw [mI_sI, if_neg (by omega), mI_sI, if_neg (by omega), mI_sI, if_neg (by omega), mI_sI, if_neg (by omega)]; exact f1
      · rw [mI_sI, if_neg (by omega), mI_sI, if_neg (by omega), mI_sI, if_neg (by omega), mI_sI, if_neg (by omega)]; exact f2
      · rw [mI_sI, if_neg (by omega), mI_sI, if_neg (by omega), mI_sI, if_neg (by omega), mI_sI, if_neg (by omega)]; exact f3
  · rw [sAdd_hi s _ _ _ (by omega), mI_sI, if_neg (by omega), mI_sI, if_neg (by omega), mI_sI, if_neg (by omega), mI_sI, if_neg (by omega)]; exact c4 i hi
  · rw [sWd_ext (fun i hi => sAdd_hi s _ _ _ (by omega)), mI_sI, if_neg (by omega), mI_sI, if_neg (by omega), mI_sI, if_neg (by omega), mI_sI, if_neg (by omega)]; exact c5
