/-! a plan is made -/
section
variable {w : Nat} {R : Nat → Int32} {Z : Nat → Int64} {s : Nat → Int32} {g Q : Nat} {b : Bool}
theorem make_eq {σ : OM} {X : Int64} {p : Nat} (h : CX σ w R Z s) (hw : w = 1 ∨ w = 22) (hkd : okd w = 8) (hQ : nn (R 5) = Q) (hg : g < Q) (hp : p < 1000000) (h9 : mI σ 56 9 = oi p) (h60 : ∀ j, j < 2187 → ∃ a, a ≤ p ∧ mI σ 60 j = oi a) (b : Bool) : ∃ τ, fX4_make w X (oi g) (b2 b) σ = fX4_priceOf oP X 0 0 τ ∧ PC τ w R Z s g Q b X (p + 1) ∧ mI τ 56 10 = 0 ∧ Eqv σ τ ∧ mR τ 56 0 = w + 1 ∧ mI τ 0 9 = mI σ 0 9 := by
  have hQ8 : Q ≤ 8 := by rw [← hQ]; exact x_Qb h
  -- the loop
  have go : ∀ d k m (τ : OM), k + d = Q → d < m → Eqv σ τ → mI τ 0 9 = mI σ 0 9 → (∀ j, mI τ 60 j = mI σ 60 j) → mR τ 56 0 = w + 1 → mI τ 56 2 = b2 b → mL τ 56 3 = X → mI τ 56 9 = oi (p + 1) → mI τ 56 10 = 0 → mI τ 56 6 = oi (if k ≤ g then k else k - 1) → (g < k → mL τ 56 1 = mL σ (w + 3) g) → (∀ i, i < (if k ≤ g then k else k - 1) → mL τ 57 i = mL σ (w + 3) (num g i) ∧ mI τ 58 i = oi (num g i)) → ∃ τ1, fX4_make_b39 m (oi g) (oi k) τ = fX4_priceOf oP X 0 0 τ1 ∧ PC τ1 w R Z s g Q b X (p + 1) ∧ mI τ1 56 10 = 0 ∧ Eqv σ τ1 ∧ mR τ1 56 0 = w + 1 ∧ mI τ1 0 9 = mI σ 0 9 := by
    intro d
    induction d with
    | zero =>
      intro k m τ h1 h2 he e09 e60 e0 e2 e3 e9 e10 e6 es eo
      obtain ⟨m, rfl⟩ : ∃ m', m = m' + 1 := ⟨m - 1, by omega⟩
      have hk : k = Q := by omega
      have cx := CX_eqv hw he h
      rw [if_neg (show ¬ k ≤ g by omega)] at e6 eo
      rw [fX4_make_b39, e0, Nat.add_sub_cancel, ogd_t (by rw [hkd]; simp), x_Q cx, hQ, if_pos ((oi_le (by omega) (by omega)).mpr (by omega))]
      unfold fX4_make_b135
      rw [e3, obi_eta]
      have so : ∀ q, mL τ (w + 3) q = mL σ (w + 3) q := fun q => he.2.1 _ _ (by unfold scl; omega)
      refine ⟨τ, rfl, ⟨cx, ⟨e0, ?_, e2, e3⟩, ⟨fun i hi => ?_, fun i hi => (eo i (by omega)).2, ?_, e9⟩, Or.inl e10, fun st hst hm => ?_, fun j hj => ?_⟩, e10, he, e0, e09⟩
      · rw [so]; exact es (by omega)
      · rw [so]; exact (eo i (by omega)).1
      · rw [e6, hk]
      · exfalso
        have h7 := p3_le (show Q - 1 ≤ 7 by omega)
        obtain ⟨a, a1, a2⟩ := h60 st (by omega)
        rw [e60, a2, oi_inj (by omega) (by omega)] at hm
        omega
      · obtain ⟨a, a1, a2⟩ := h60 j hj
        exact ⟨a, by omega, by rw [e60]; exact a2⟩
    | succ d ih =>
      intro k m τ h1 h2 he e09 e60 e0 e2 e3 e9 e10 e6 es eo
      obtain ⟨m, rfl⟩ : ∃ m', m = m' + 1 := ⟨m - 1, by omega⟩
      have cx := CX_eqv hw he h
      have so : ∀ q, mL τ (w + 3) q = mL σ (w + 3) q := fun q => he.2.1 _ _ (by unfold scl; omega)
      rw [fX4_make_b39, e0, Nat.add_sub_cancel, ogd_t (by rw [hkd]; simp), x_Q cx, hQ, if_neg (by rw [oi_le (by omega) (by omega)]; omega), lt8, if_neg (by rw [oi_le (by omega) (by omega)]; omega)]
      by_cases hkg : k = g
      · rw [if_pos (by rw [hkg]), ogd_t (by rw [hkd]; simp), soWorlds_eq (by omega), obi_s, oi_succ]
        refine ih (k + 1) m (sL τ 56 1 (mL τ (w + 3) k)) (by omega) (by omega) (eqv_L he (by unfold scl; omega) _) e09 e60 e0 e2 ?_ e9 e10 ?_ (fun _ => ?_) (fun i hi => ?_)
        · rw [mL_sL, if_neg (by omega)]; exact e3
        · rw [if_neg (by omega), Nat.add_sub_cancel]
          rw [if_pos (show k ≤ g by omega)] at e6; exact e6
        · rw [mL_at, so, hkg]
        · rw [if_neg (by omega), Nat.add_sub_cancel] at hi
          rw [if_pos (show k ≤ g by omega)] at eo
          rw [mL_sL, if_neg (by omega)]; exact eo i hi
      · have hc6 : (if k ≤ g then k else k - 1) ≤ 6 := by split <;> omega
        have hck : (if k + 1 ≤ g then k + 1 else k + 1 - 1) = (if k ≤ g then k else k - 1) + 1 := by split <;> split <;> omega
        have hnum : num g (if k ≤ g then k else k - 1) = k := by unfold num; split <;> split <;> omega
        generalize hC : (if k ≤ g then k else k - 1) = C at hc6 hck hnum e6 eo
        have r1 : mI (sL τ 57 C (mL τ (w + 3) k)) 56 6 = oi C := e6
        have r2 : mI (sI (sL τ 57 C (mL τ (w + 3) k)) 58 C (oi k)) 56 6 = oi C := by rw [mI_sI, if_neg (by omega)]; exact e6
        rw [if_neg (by rw [oi_inj (by omega) (by omega)]; exact hkg), e6, lt7, if_neg (by rw [oi_le (by omega) (by omega)]; omega), ogd_t (by rw [hkd]; simp), soWorlds_eq (by omega), obi_s, ogi (by omega) (by omega), oi_nat (by omega), r1, ogi (by omega) (by omega), oi_nat (by omega), r2, oi_succ, oi_succ]
        refine ih (k + 1) m _ (by omega) (by omega) (eqv_I (eqv_I (eqv_L he (by unfold scl; omega) _) (by unfold scr; omega) _) (by unfold scr; omega) _) ?_ (fun j => ?_) e0 ?_ ?_ ?_ ?_ ?_ (fun hgk => ?_) (fun i hi => ?_)
        · rw [mI_sI, if_neg (by omega), mI_sI, if_neg (by omega)]; exact e09
        · rw [mI_sI, if_neg (by omega), mI_sI, if_neg (by omega)]; exact e60 j
        · rw [mI_sI, if_neg (by omega), mI_sI, if_neg (by omega)]; exact e2
        · show mL (sL τ 57 C (mL τ (w + 3) k)) 56 3 = X
          rw [mL_sL, if_neg (by omega)]; exact e3
        · rw [mI_sI, if_neg (by omega), mI_sI, if_neg (by omega)]; exact e9
        · rw [mI_sI, if_neg (by omega), mI_sI, if_neg (by omega)]; exact e10
        · rw [hck, mI_at]
        · show mL (sL τ 57 C (mL τ (w + 3) k)) 56 1 = _
          rw [mL_sL, if_neg (by omega)]; exact es (by omega)
        · rw [hck] at hi
          rw [mI_sI, if_neg (by omega), mI_sI]
          show mL (sL τ 57 C (mL τ (w + 3) k)) 57 i = _ ∧ _
          rw [mL_sL]
          by_cases ei : i = C
          · rw [if_pos ⟨rfl, ei⟩, if_pos ⟨rfl, ei⟩, ei, hnum, so]; exact ⟨rfl, rfl⟩
          · rw [if_neg (fun q => ei q.2), if_neg (fun q => ei q.2)]; exact eo i (by omega)
  unfold fX4_make
  rw [ogd_t (show oisb (b2 b) = true by cases b <;> rfl)]
  have r9 : mI (sL (sI (sR σ 56 0 (w + 1)) 56 2 (b2 b)) 56 3 X) 56 9 + 1 = oi (p + 1) := by
    show mI (sI (sR σ 56 0 (w + 1)) 56 2 (b2 b)) 56 9 + 1 = _
    rw [mI_sI, if_neg (by omega)]
    show mI σ 56 9 + 1 = _
    rw [h9, oi_succ]
  rw [r9]
  refine go Q 0 oF _ (Nat.zero_add _) (by unfold oF; omega) (eqv_I (eqv_I (eqv_I (eqv_L (eqv_I (eqv_R (eqv_rfl σ) _) (by unfold scr; omega) _) (by unfold scl; omega) _) (by unfold scr; omega) _) (by unfold scr; omega) _) (by unfold scr; omega) _) ?_ (fun j => ?_) ?_ ?_ ?_ ?_ ?_ ?_ (fun hh => absurd hh (by omega)) (fun i hi => ?_)
  · rw [mI_sI, if_neg (by omega), mI_sI, if_neg (by omega), mI_sI, if_neg (by omega)]
    show mI (sI (sR σ 56 0 (w + 1)) 56 2 (b2 b)) 0 9 = _
    rw [mI_sI, if_neg (by omega)]; rfl
  · rw [mI_sI, if_neg (by omega), mI_sI, if_neg (by omega), mI_sI, if_neg (by omega)]
    show mI (sI (sR σ 56 0 (w + 1)) 56 2 (b2 b)) 60 j = _
    rw [mI_sI, if_neg (by omega)]; rfl
  · show mR (sR σ 56 0 (w + 1)) 56 0 = w + 1
    rw [mR_sR, if_pos ⟨rfl, rfl⟩]
  · rw [mI_sI, if_neg (by omega), mI_sI, if_neg (by omega), mI_sI, if_neg (by omega)]
    show mI (sI (sR σ 56 0 (w + 1)) 56 2 (b2 b)) 56 2 = b2 b
    exact mI_at
  · exact mL_at
  · rw [mI_sI, if_neg (by omega), mI_sI, if_neg (by omega), mI_at]
  · rw [mI_sI, if_neg (by omega), mI_at]
  · rw [if_pos (by omega), mI_at]; rfl
  · rw [if_pos (Nat.zero_le g)] at hi; omega
/-- the price of a whole plan -/
theorem makeW {σ : OM} {X : Int64} {p : Nat} (h : CX σ w R Z s) (hw : w = 1 ∨ w = 22) (hkd : okd w = 8) (hQ : nn (R 5) = Q) (hg : g < Q) (hp : p < 1000000) (h9 : mI σ 56 9 = oi p) (h60 : ∀ j, j < 2187 → ∃ a, a ≤ p ∧ mI σ 60 j = oi a) (hX : X &&& Z 8 = X) (b : Bool) : ∃ τ, fX4_make w X (oi g) (b2 b) σ = some (oLv (Wv R Z g Q b X), τ) ∧ PC τ w R Z s g Q b X (p + 1) ∧ (∀ v, Wv R Z g Q b X = some v → mI τ 56 10 = 0) ∧ Eqv σ τ := by
  have hQ8 : Q ≤ 8 := by rw [← hQ]; exact x_Qb h
  obtain ⟨τ, e1, e2, e3, e4, -, -⟩ := make_eq (X := X) h hw hkd hQ hg hp h9 h60 b
  have hP := price_go (p := p + 1) (s := s) (b := b) (wt_le h.1.1) hQ hQ8 hg hX hkd hw oP τ 0 0 e2 (p3 _) (by rw [sO_0]; have := tc_le (Z := Z) hg X; omega) (by rw [sO_0]; have := tc_le (Z := Z) hg X; unfold oP; omega)
  rw [sO_0] at hP
  obtain ⟨r, τ1, f1, f2, f3, -, f5⟩ := hP
  obtain ⟨g1, g2⟩ := f5 e3
  have he : Eqv τ τ1 := ⟨fun a j q => f3.1 a j (fun hp => q (by unfold pP at hp; unfold scr; omega)), fun a j _ => f3.2.1 a j (fun q => q), fun a j _ => by rw [f3.2.2]⟩
  refine ⟨τ1, ?_, f2, fun v hv => (g1 v hv).2, eqv_tr e4 he⟩
  rw [e1, show fX4_priceOf oP X 0 0 τ = fX4_priceOf oP X (oi 0) (oi 0) τ from rfl, f1]
  cases hW : Wv R Z g Q b X with
  | none => rw [(g2 hW).1]; rfl
  | some v => rw [(g1 v hW).1]; rfl
/-- the first question of a plan so cheap -/
def fi (f : Nat → Option Nat) (t : Nat) : Nat → Nat → Option Nat
  | 0, _ => none
  | d + 1, i => if f i = some t then some i else fi f t d (i + 1)
theorem fi_num {F : Nat → Option Nat} {g Q t : Nat} (hg : g < Q) (hF : F g = none) : ∀ d i, i + d = Q - 1 → (fi (fun i => F (num g i)) t d i).map (num g) = fi F t (Q - num g i) (num g i) := by
  intro d
  induction d with
  | zero =>
    intro i h
    have e : num g i = Q := by unfold num; rw [if_neg (by omega)]; omega
    rw [e, Nat.sub_self]; rfl
  | succ d ih =>
    intro i h
    have hl : num g i < Q := num_lt hg (by omega)
    obtain ⟨e, he⟩ : ∃ e, Q - num g i = e + 1 := ⟨Q - num g i - 1, by omega⟩
    rw [he]
    show Option.map (num g) (if F (num g i) = some t then some i else fi (fun i => F (num g i)) t d (i + 1)) = if F (num g i) = some t then some (num g i) else fi F t e (num g i + 1)
    by_cases c : F (num g i) = some t
    · rw [if_pos c, if_pos c]; rfl
    · rw [if_neg c, if_neg c, ih (i + 1) (by omega)]
      by_cases hig : i + 1 = g
      · have n1 : num g i = i := by unfold num; rw [if_pos (by omega)]
        have n2 : num g (i + 1) = i + 2 := by unfold num; rw [if_neg (by omega)]
        rw [n1, n2]
        obtain ⟨e', rfl⟩ : ∃ e', e = e' + 1 := ⟨e - 1, by omega⟩
        show fi F t (Q - (i + 2)) (i + 2) = if F (i + 1) = some t then some (i + 1) else fi F t e' (i + 1 + 1)
        rw [if_neg (by rw [hig, hF]; intro q; cases q), show Q - (i + 2) = e' by omega]
      · have n2 : num g (i + 1) = num g i + 1 := by unfold num; split <;> split <;> omega
        rw [n2, show Q - (num g i + 1) = e by omega]
theorem opening_eq {σ : OM} {X : Int64} {p V : Nat} (hP : PC σ w R Z s g Q false X (p + 1)) (h0 : mI σ 56 10 = 0) (hw : w = 1 ∨ w = 22) (hkd : okd w = 8) (hQ : nn (R 5) = Q) (hg : g < Q) (hX : X &&& Z 8 = X) (hV : Wv R Z g Q false X = some V) : ∃ τ, fX4_opening (oi V) σ = some (oY (if V = 0 then none else fi (kid R Z g Q false X) (V - 1) Q 0), τ) ∧ Eqv σ τ ∧ PC τ w R Z s g Q false X (p + 1) := by
  have hQ8 : Q ≤ 8 := by rw [← hQ]; exact x_Qb hP.1
  have hb := wt_le hP.1.1.1
  have lV := Wv_le hb hV
  have hkg : kid R Z g Q false X g = none := by
    unfold kid
    cases h : tel Z g X g
    · rfl
    · exact absurd rfl (tel_iff.mp h).1
  have hm := p3_le (show Q - 1 ≤ 7 by omega)
  by_cases hV0 : V = 0
  · refine ⟨σ, ?_, eqv_rfl _, hP⟩
    rw [if_pos hV0, hV0]
    unfold fX4_opening
    rw [show oF = 99999 + 1 from rfl, fX4_opening_b4, show (0 : Int32) = oi 0 from rfl]
    by_cases hm0 : Q - 1 = 0
    · rw [if_pos (by rw [hP.2.2.1.2.2.1, oi_le (by omega) (by omega)]; omega)]; rfl
    · rw [if_neg (by rw [hP.2.2.1.2.2.1, oi_le (by omega) (by omega)]; omega), if_neg (by decide), if_pos (by decide)]; rfl
  · rw [if_neg hV0]
    have hrc := price_go (p := p + 1) (s := s) (b := false) hb hQ hQ8 hg hX hkd hw oP
    have tl := tc_le (Z := Z) hg X
    have go : ∀ d i m (τ : OM), i + d = Q - 1 → d < m → PC τ w R Z s g Q false X (p + 1) → mI τ 56 10 = 0 → Eqv σ τ → ∃ τ1, fX4_opening_b4 m (oi V) (oi (3 ^ i)) (oi i) τ = some (oY ((fi (fun i => kid R Z g Q false X (num g i)) (V - 1) d i).map (num g)), τ1) ∧ Eqv σ τ1 ∧ PC τ1 w R Z s g Q false X (p + 1) := by
      intro d
      induction d with
      | zero =>
        intro i m τ h1 h2 h3 h4 h5
        obtain ⟨m, rfl⟩ : ∃ m', m = m' + 1 := ⟨m - 1, by omega⟩
        rw [fX4_opening_b4, h3.2.2.1.2.2.1, if_pos ((oi_le (by omega) (by omega)).mpr (by omega))]
        exact ⟨τ, rfl, h5, h3⟩
      | succ d ih =>
        intro i m τ h1 h2 h3 h4 h5
        obtain ⟨m, rfl⟩ : ∃ m', m = m' + 1 := ⟨m - 1, by omega⟩
        have p3i : 3 ^ i ≤ 2187 := Nat.le_trans (Nat.pow_le_pow_right (by decide : 3 > 0) (show i ≤ Q - 1 by omega)) hm
        have bh := behind_go hb hQ hQ8 hg hX hrc (σ := τ) (st := 0) (asked := 0) (i := i) h3 (p3 _) (by omega) (by rw [sO_0]; omega) (by rw [sO_0]; unfold oP; omega)
        rw [sO_0] at bh
        obtain ⟨r, τ1, b1, b2', b3, -, b5⟩ := bh
        obtain ⟨c1, c2⟩ := b5 h4
        have he : Eqv τ τ1 := ⟨fun a j q => b3.1 a j (fun hp => q (by unfold pP at hp; unfold scr; omega)), fun a j _ => b3.2.1 a j (fun q => q), fun a j _ => by rw [b3.2.2]⟩
        have hop1 : mI τ1 56 10 = 0 := by
          cases hk2 : kid R Z g Q false X (num g i) with
          | some v => exact (c1 v hk2).2
          | none =>
            refine (c2 hk2).2.1 ?_
            cases ht : tel Z g X (num g i)
            · rfl
            · obtain ⟨⟨a1, w1⟩, a0, w0⟩ := Wv_kids hQ8 hV (num_lt hg (show i < Q - 1 by omega)) ht
              unfold kid at hk2
              rw [if_pos ht, w1, w0] at hk2; cases hk2
        have hrv : (r = oi (V - 1)) ↔ kid R Z g Q false X (num g i) = some (V - 1) := by
          cases hk2 : kid R Z g Q false X (num g i) with
          | some v =>
            have lv : v ≤ 272097792 := by
              unfold kid at hk2
              split at hk2
              · cases w1 : Wv R Z g Q false (X &&& Z (num g i)) with
                | none => rw [w1] at hk2; cases hk2
                | some a1 =>
                  cases w0 : Wv R Z g Q false (X &&& (Z (num g i) ^^^ (-1))) with
                  | none => rw [w1, w0] at hk2; cases hk2
                  | some a0 =>
                    rw [w1, w0] at hk2
                    have hv' : Nat.max a1 a0 = v := Option.some.inj hk2
                    have l1 := Wv_le hb w1
                    have l0 := Wv_le hb w0
                    rw [← hv']; exact Nat.max_le.mpr ⟨l1, l0⟩
              · cases hk2
            rw [(c1 v hk2).1, oi_inj (by omega) (by omega)]
            exact ⟨fun e => by rw [e], fun e => Option.some.inj e⟩
          | none =>
            rw [(c2 hk2).1, oi_inj (by omega) (by omega)]
            exact ⟨fun e => by omega, fun e => by cases e⟩
        rw [fX4_opening_b4, h3.2.2.1.2.2.1, if_neg (by rw [oi_le (by omega) (by omega)]; omega), lt7, if_neg (by rw [oi_le (by omega) (by omega)]; omega), if_neg (by show ¬ oi V ≤ oi 0; rw [oi_le (by omega) (by omega)]; omega), h3.2.1.2.2.2, show fX4_priceBehind (fX4_priceOf oP) (oi i) X (oi (3 ^ i)) 0 0 τ = fX4_priceBehind (fX4_priceOf oP) (oi i) X (oi (3 ^ i)) (oi 0) (oi 0) τ from rfl, b1, obi_s, show oi V - 1 = oi (V - 1) from oi_sub (b := 1) (by omega), ite_iff hrv]
        show ∃ τ2, _ = some (oY (Option.map (num g) (if kid R Z g Q false X (num g i) = some (V - 1) then some i else fi (fun i => kid R Z g Q false X (num g i)) (V - 1) d (i + 1))), τ2) ∧ _
        by_cases hk2 : kid R Z g Q false X (num g i) = some (V - 1)
        · rw [if_pos hk2, if_pos hk2, ogi (by omega) (by omega), oi_nat (by omega), b2'.2.2.1.2.1 i (by omega)]
          exact ⟨τ1, rfl, eqv_tr h5 he, b2'⟩
        · rw [if_neg hk2, if_neg hk2, lt3, oi_mul, oi_succ, show 3 ^ i * 3 = 3 ^ (i + 1) from (Nat.pow_succ 3 i).symm]
          exact ih (i + 1) m τ1 (by omega) (by omega) b2' hop1 (eqv_tr h5 he)
    obtain ⟨τ1, t1, t2, t3⟩ := go (Q - 1) 0 oF σ (Nat.zero_add _) (by unfold oF; omega) hP h0 (eqv_rfl _)
    refine ⟨τ1, ?_, t2, t3⟩
    have hn := fi_num (F := kid R Z g Q false X) (t := V - 1) hg hkg (Q - 1) 0 (Nat.zero_add _)
    rw [hn] at t1
    unfold fX4_opening
    refine Eq.trans t1 ?_
    congr 3
    -- the question sought itself is never it
    by_cases hg0 : g = 0
    · have n0 : num g 0 = 1 := by unfold num; rw [if_neg (by omega)]
      rw [n0]
      obtain ⟨e, he⟩ : ∃ e, Q = e + 1 := ⟨Q - 1, by omega⟩
      rw [he]
      show fi _ _ (e + 1 - 1) 1 = if kid R Z g (e + 1) false X 0 = some (V - 1) then some 0 else fi (kid R Z g (e + 1) false X) (V - 1) e (0 + 1)
      rw [he] at hkg
      rw [hg0] at hkg ⊢
      rw [hkg, if_neg (by intro q; cases q)]; rfl
    · have n0 : num g 0 = 0 := by unfold num; rw [if_pos (by omega)]
      rw [n0]; rfl
end
