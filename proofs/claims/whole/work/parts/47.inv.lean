/-! what stands between two calls -/
/-- one act, backwards: from the row u to the row s -/
def Act (k a b : Int32) (u s : Nat → Int32) : Prop :=
  (k = 0 ∧ s 0 = u 0 ∧ s 1 = u 1 + 1 ∧ nn (s 1) = nn (u 1) + 1 ∧ (∀ j, j < nn (u 1) → s (2 + 3 * j) = u (2 + 3 * j) ∧ s (3 + 3 * j) = u (3 + 3 * j) ∧ s (4 + 3 * j) = u (4 + 3 * j)) ∧ ∀ i, i < 6 → s (62 + i) = u (62 + i)) ∨
  (k = 1 ∧ s 0 = u 0 ∧ s 1 = u 1 ∧ (∀ j, j < nn (u 1) → s (2 + 3 * j) = u (2 + 3 * j) ∧ s (3 + 3 * j) = u (3 + 3 * j) ∧ s (4 + 3 * j) = u (4 + 3 * j)) ∧ ∃ x y, x < 6 ∧ y < 6 ∧ x ≠ y ∧ a = oi x ∧ b = oi y ∧ tw (u (62 + x)) y = false ∧ ∀ i, i < 6 → s (62 + i) = if i = x then u (62 + x) ||| (1 : Int32) <<< (oi y &&& 31) else if i = y then u (62 + y) ||| (1 : Int32) <<< (oi x &&& 31) else u (62 + i)) ∨
  (k = 2 ∧ s 0 = u 0 + a ∧ s 1 = u 1 ∧ (∀ j, j < nn (u 1) → s (2 + 3 * j) = u (2 + 3 * j) ∧ s (3 + 3 * j) = u (3 + 3 * j) ∧ s (4 + 3 * j) = u (4 + 3 * j)) ∧ ∀ i, i < 6 → s (62 + i) = u (62 + i))
/-- the rows kept for undoing, and what stands now behind them -/
def uRow (σ : OM) (c k : Nat) : Nat → Int32 := if k < c then fun j => mI σ 89 (68 * k + j) else mI σ 88
def UR (σ : OM) (R : Nat → Int32) : Prop := ∃ c, c ≤ 12 ∧ mI σ 61 3 = oi c ∧ mI σ 81 22 = oi c ∧ (∀ k, k < c → TB R (uRow σ c k)) ∧ ∀ k, k < c → Act (mI σ 62 k) (mI σ 63 k) (mI σ 64 k) (uRow σ c k) (uRow σ c (k + 1))
def kRow (σ : OM) (i : Nat) : Nat → Int32 := fun j => mI σ 90 (68 * i + j)
def IR (σ : OM) (R : Nat → Int32) : Prop := ∃ m, m ≤ 3 ∧ mI σ 0 8 = oi m ∧ mI σ 81 23 = oi m ∧ ∀ i, i < m → TB R (kRow σ i) ∧ CT σ (66 + 5 * i) (kRow σ i)
/-- a well stands -/
def WI (σ : OM) (w : Nat) : Prop := mI σ 0 7 = 1 ∧ mI σ 81 14 = 1 ∧ CW σ w (mI σ 84) (mL σ 86) (mI σ 88) ∧ UR σ (mI σ 84) ∧ IR σ (mI σ 84)
/-- no well yet -/
def NW (σ : OM) (w : Nat) : Prop := (mI σ 0 7 = 0 ∧ mI σ 81 14 = 0 ∧ mI σ 0 8 = 0 ∧ mI σ 61 3 = 0 ∧ mI σ 81 22 = 0 ∧ mI σ 81 23 = 0) ∧ mI σ w 4 = 0 ∧ mI σ w 5 = 0 ∧ mI σ (w + 1) 0 = 0 ∧ mI σ (w + 1) 2 = 0 ∧ mI σ (w + 1) 4 = 0 ∧ mI σ (w + 1) 6 = 0 ∧ mI σ (w + 1) 8 = 0 ∧ mI σ (w + 5) 0 = 0 ∧ mI σ (w + 5) 5 = 0 ∧ mI σ (w + 5) 6 = 0
def sgb (b : Nat) : Int32 := ((oi b).toInt8).toInt32
def TP (σ : OM) : Prop := ∃ T, T ≤ 900 ∧ mI σ 43 1 = oi T ∧ mI σ 81 2 = oi T ∧ ∀ j, j < T → ∃ b, b < 256 ∧ mI σ 82 j = oi b ∧ mI σ 44 j = sgb b
def okW (w w' : Nat) : Prop := (w = 1 ∧ w' = 22) ∨ (w = 22 ∧ w' = 1)
def Core (σ : OM) : Prop := okW (mR σ 0 0) (mR σ 0 1) ∧ TP σ ∧ mI σ 0 10 = mI σ 81 9 ∧ (WI σ (mR σ 0 0) ∨ NW σ (mR σ 0 0))
def PL (n : Nat) (σ : OM) : Prop := ∃ p, p ≤ n ∧ mI σ 56 9 = oi p ∧ ∀ j, j < 2187 → ∃ a, a ≤ p ∧ mI σ 60 j = oi a
def TR (σ : OM) : Prop := mI σ 0 9 = mI σ 81 11 ∧ (mI σ 0 9 = 4 → mI σ 0 11 = mI σ 81 10)
def Inv (n : Nat) (σ : OM) : Prop := Core σ ∧ PL n σ ∧ TR σ ∧ mR σ 96 0 ≤ n
/-! what no later call sees -/
def scr (a j : Nat) : Prop := (a = 0 ∧ j = 9) ∨ (a = 81 ∧ (j = 0 ∨ j = 11 ∨ j = 28)) ∨ a = 21 ∨ a = 42 ∨ (56 ≤ a ∧ a ≤ 60) ∨ 91 ≤ a
def scl (a : Nat) : Prop := a = 56 ∨ a = 57 ∨ 92 ≤ a
def Eqv (σ σ' : OM) : Prop := (∀ a j, ¬ scr a j → mI σ' a j = mI σ a j) ∧ (∀ a j, ¬ scl a → mL σ' a j = mL σ a j) ∧ ∀ a j, a ≠ 56 → mR σ' a j = mR σ a j
theorem eqv_rfl (σ : OM) : Eqv σ σ := ⟨fun _ _ _ => rfl, fun _ _ _ => rfl, fun _ _ _ => rfl⟩
theorem eqv_tr {σ σ1 σ2 : OM} (h : Eqv σ σ1) (g : Eqv σ1 σ2) : Eqv σ σ2 := ⟨fun a j q => (g.1 a j q).trans (h.1 a j q), fun a j q => (g.2.1 a j q).trans (h.2.1 a j q), fun a j q => (g.2.2 a j q).trans (h.2.2 a j q)⟩
theorem eqv_I {σ σ1 : OM} {a j : Nat} (h : Eqv σ σ1) (q : scr a j) (v : Int32) : Eqv σ (sI σ1 a j v) := eqv_tr h ⟨fun b k p => by
  rw [mI_sI, if_neg]; rintro ⟨rfl, rfl⟩; exact p q, fun _ _ _ => rfl, fun _ _ _ => rfl⟩
theorem eqv_L {σ σ1 : OM} {a j : Nat} (h : Eqv σ σ1) (q : scl a) (v : Int64) : Eqv σ (sL σ1 a j v) := eqv_tr h ⟨fun _ _ _ => rfl, fun b k p => by
  rw [mL_sL, if_neg]; rintro ⟨rfl, rfl⟩; exact p q, fun _ _ _ => rfl⟩
theorem eqv_R {σ σ1 : OM} {j : Nat} (h : Eqv σ σ1) (v : Nat) : Eqv σ (sR σ1 56 j v) := eqv_tr h ⟨fun _ _ _ => rfl, fun _ _ _ => rfl, fun b k p => by
  rw [mR_sR, if_neg]; rintro ⟨rfl, rfl⟩; exact p rfl⟩
section
variable {σ σ' : OM} {w : Nat} {R : Nat → Int32} {Z : Nat → Int64} {s : Nat → Int32}
theorem CS_congr (hI : ∀ a j, ((w ≤ a ∧ a ≤ w + 4) ∨ (w + 14 ≤ a ∧ a ≤ w + 19)) → mI σ' a j = mI σ a j) (hL : ∀ a j, (a = w + 1 ∨ a = w + 3) → mL σ' a j = mL σ a j) (hH : nn (R 3) ≤ 6) (h : CS σ w R Z) : CS σ' w R Z := by
  obtain ⟨⟨a1, a2, a3, a4⟩, ⟨b1, b2'⟩, ⟨c1, c2⟩, ⟨d1, d2⟩, e1, ⟨f1, f2⟩, g1⟩ := h
  refine ⟨⟨?_, fun f hf => ?_, ?_, ?_⟩, ⟨?_, fun h => ?_⟩, ⟨?_, fun q hq i hi => ?_⟩, ⟨?_, fun k hk => ?_⟩, fun x hx => ?_, ⟨?_, ?_⟩, fun h hh => ?_⟩
  · rw [hI _ _ (by omega)]; exact a1
  · rw [hI _ _ (by omega)]; exact a2 f hf
  · rw [hI _ _ (by omega)]; exact a3
  · rw [hL _ _ (Or.inl rfl)]; exact a4
  · rw [hI _ _ (by omega)]; exact b1
  · rw [hI _ _ (by omega)]; exact b2' h
  · rw [hI _ _ (by omega)]; exact c1
  · rw [hL _ _ (Or.inr rfl)]; exact c2 q hq i hi
  · rw [hI _ _ (by omega)]; exact d1
  · rw [hI _ _ (by omega)]; exact d2 k hk
  · rw [hI _ _ (by omega)]; exact e1 x hx
  · rw [hI _ _ (by omega)]; exact f1
  · rw [hI _ _ (by omega)]; exact f2
  · rw [hI _ _ (by omega), hI _ _ (by omega), hI _ _ (by omega), hI _ _ (by omega), hI _ _ (by omega)]; exact g1 h hh
theorem CT_congr {t : Nat} (hI : ∀ a j, (t ≤ a ∧ a ≤ t + 4) → mI σ' a j = mI σ a j) (h : CT σ t s) : CT σ' t s := by
  obtain ⟨a1, a2, a3, a4, a5⟩ := h
  refine ⟨?_, ?_, fun k hk => ?_, fun i hi => ?_, ?_⟩
  · rw [hI _ _ (by omega)]; exact a1
  · rw [hI _ _ (by omega)]; exact a2
  · rw [hI _ _ (by omega), hI _ _ (by omega), hI _ _ (by omega)]; exact a3 k hk
  · rw [hI _ _ (by omega)]; exact a4 i hi
  · rw [hI _ _ (by omega)]; exact a5
theorem CM_congr (hI : ∀ j, mI σ' (w + 10) j = mI σ (w + 10) j) (h : CM σ w R Z s) : CM σ' w R Z s := by
  unfold CM at h ⊢
  rw [hI, hI, hI, hI]; exact h
theorem okW_lt {w w' : Nat} (h : okW w w') : w = 1 ∨ w = 22 := by rcases h with h | h <;> omega
theorem okW_kd {w w' : Nat} (h : okW w w') : okd w = 8 := by
  rcases okW_lt h with rfl | rfl <;> rfl
theorem CX_eqv (hw : w = 1 ∨ w = 22) (he : Eqv σ σ') (h : CX σ w R Z s) : CX σ' w R Z s := by
  refine ⟨h.1, CS_congr (fun a j q => he.1 a j ?_) (fun a j q => he.2.1 a j ?_) (x_Hb h) h.2.1, CT_congr (fun a j q => he.1 a j ?_) h.2.2⟩
  · unfold scr; omega
  · unfold scl; omega
  · unfold scr; omega
theorem CW_eqv (hw : w = 1 ∨ w = 22) (he : Eqv σ σ') (h : CW σ w R Z s) : CW σ' w R Z s :=
  ⟨CX_eqv hw he h.1, CM_congr (fun j => he.1 _ j (by unfold scr; omega)) h.2⟩
theorem eqv_row (he : Eqv σ σ') : mI σ' 84 = mI σ 84 ∧ mL σ' 86 = mL σ 86 ∧ mI σ' 88 = mI σ 88 :=
  ⟨funext fun j => he.1 _ j (by unfold scr; omega), funext fun j => he.2.1 _ j (by unfold scl; omega), funext fun j => he.1 _ j (by unfold scr; omega)⟩
theorem UR_eqv (he : Eqv σ σ') (h : UR σ R) : UR σ' R := by
  obtain ⟨c, h1, h2, h3, h4, h5⟩ := h
  have hu : ∀ k, uRow σ' c k = uRow σ c k := by
    intro k; unfold uRow
    rw [(eqv_row he).2.2]
    split
    · funext j; exact he.1 _ _ (by unfold scr; omega)
    · rfl
  refine ⟨c, h1, ?_, ?_, fun k hk => ?_, fun k hk => ?_⟩
  · rw [he.1 _ _ (by unfold scr; omega)]; exact h2
  · rw [he.1 _ _ (by unfold scr; omega)]; exact h3
  · rw [hu]; exact h4 k hk
  · rw [hu, hu, he.1 _ _ (by unfold scr; omega), he.1 _ _ (by unfold scr; omega), he.1 _ _ (by unfold scr; omega)]; exact h5 k hk
theorem IR_eqv (he : Eqv σ σ') (h : IR σ R) : IR σ' R := by
  obtain ⟨m, h1, h2, h3, h4⟩ := h
  have hu : ∀ k, kRow σ' k = kRow σ k := by
    intro k; unfold kRow
    funext j; exact he.1 _ _ (by unfold scr; omega)
  refine ⟨m, h1, ?_, ?_, fun k hk => ?_⟩
  · rw [he.1 _ _ (by unfold scr; omega)]; exact h2
  · rw [he.1 _ _ (by unfold scr; omega)]; exact h3
  · rw [hu]; exact ⟨(h4 k hk).1, CT_congr (fun a j q => he.1 a j (by unfold scr; omega)) (h4 k hk).2⟩
theorem Core_eqv (he : Eqv σ σ') (h : Core σ) : Core σ' := by
  obtain ⟨h1, h2, h3, h4⟩ := h
  have hr0 : mR σ' 0 0 = mR σ 0 0 := he.2.2 0 0 (by omega)
  have hr1 : mR σ' 0 1 = mR σ 0 1 := he.2.2 0 1 (by omega)
  have hw := okW_lt h1
  obtain ⟨r1, r2, r3⟩ := eqv_row he
  unfold Core
  rw [hr0, hr1]
  refine ⟨h1, ?_, ?_, ?_⟩
  · obtain ⟨T, t1, t2, t3, t4⟩ := h2
    refine ⟨T, t1, ?_, ?_, fun j hj => ?_⟩
    · rw [he.1 _ _ (by unfold scr; omega)]; exact t2
    · rw [he.1 _ _ (by unfold scr; omega)]; exact t3
    · rw [he.1 _ _ (by unfold scr; omega), he.1 _ _ (by unfold scr; omega)]; exact t4 j hj
  · rw [he.1 _ _ (by unfold scr; omega), he.1 _ _ (by unfold scr; omega)]; exact h3
  · rcases h4 with h4 | h4
    · left
      obtain ⟨a1, a2, a3, a4, a5⟩ := h4
      unfold WI
      rw [r1, r2, r3]
      refine ⟨?_, ?_, CW_eqv hw he a3, UR_eqv he a4, IR_eqv he a5⟩
      · rw [he.1 _ _ (by unfold scr; omega)]; exact a1
      · rw [he.1 _ _ (by unfold scr; omega)]; exact a2
    · right
      unfold NW at h4 ⊢
      rw [he.1 _ _ (by unfold scr; omega), he.1 _ _ (by unfold scr; omega), he.1 _ _ (by unfold scr; omega), he.1 _ _ (by unfold scr; omega), he.1 _ _ (by unfold scr; omega), he.1 _ _ (by unfold scr; omega), he.1 _ _ (by unfold scr; omega), he.1 _ _ (by unfold scr; omega), he.1 _ _ (by unfold scr; omega), he.1 _ _ (by unfold scr; omega), he.1 _ _ (by unfold scr; omega), he.1 _ _ (by unfold scr; omega), he.1 _ _ (by unfold scr; omega), he.1 _ _ (by unfold scr; omega), he.1 _ _ (by unfold scr; omega), he.1 _ _ (by unfold scr; omega)]
      exact h4
end
/-! one call, told by both -/
def okC {α : Type} (n : Nat) (f g : OM → Option (α × OM)) : Prop := ∀ σ, Inv n σ → ∃ r σ1 σ2, f σ = some (r, σ1) ∧ g σ1 = some (r, σ2) ∧ Inv (n + 1) σ2 ∧ mR σ1 96 0 = mR σ 96 0 ∧ mR σ2 96 0 = mR σ1 96 0
/-- a call that only looks -/
theorem look {α : Type} {f g : OM → Option (α × OM)} {n : Nat}
    (hW : ∀ σ w, (w = 1 ∨ w = 22) → mR σ 0 0 = w → okd w = 8 → WI σ w → ∃ r t σ1, f σ = some (r, σ1) ∧ Eqv σ σ1 ∧ (∀ n, PL n σ → PL (n + 1) σ1) ∧ mI σ1 0 9 = t ∧ t ≠ 4 ∧ ∀ σ', Eqv σ σ' → WI σ' w → ∃ σ2, g σ' = some (r, σ2) ∧ Eqv σ' σ2 ∧ (∀ j, mI σ2 60 j = mI σ' 60 j) ∧ mI σ2 56 9 = mI σ' 56 9 ∧ mI σ2 0 9 = mI σ' 0 9 ∧ mI σ2 81 11 = t)
    (hN : ∀ σ w, (w = 1 ∨ w = 22) → mR σ 0 0 = w → okd w = 8 → NW σ w → ∃ r t σ1, f σ = some (r, σ1) ∧ Eqv σ σ1 ∧ (∀ n, PL n σ → PL (n + 1) σ1) ∧ mI σ1 0 9 = t ∧ t ≠ 4 ∧ ∀ σ', Eqv σ σ' → NW σ' w → ∃ σ2, g σ' = some (r, σ2) ∧ Eqv σ' σ2 ∧ (∀ j, mI σ2 60 j = mI σ' 60 j) ∧ mI σ2 56 9 = mI σ' 56 9 ∧ mI σ2 0 9 = mI σ' 0 9 ∧ mI σ2 81 11 = t) : okC n f g := by
  intro σ hi
  obtain ⟨hC, hP, hT, hD⟩ := hi
  have hw := okW_lt hC.1
  have hk := okW_kd hC.1
  have fin : ∀ r t σ1, f σ = some (r, σ1) → Eqv σ σ1 → (∀ n, PL n σ → PL (n + 1) σ1) → mI σ1 0 9 = t → t ≠ 4 → (∃ σ2, g σ1 = some (r, σ2) ∧ Eqv σ1 σ2 ∧ (∀ j, mI σ2 60 j = mI σ1 60 j) ∧ mI σ2 56 9 = mI σ1 56 9 ∧ mI σ2 0 9 = mI σ1 0 9 ∧ mI σ2 81 11 = t) → ∃ r σ1 σ2, f σ = some (r, σ1) ∧ g σ1 = some (r, σ2) ∧ Inv (n + 1) σ2 ∧ mR σ1 96 0 = mR σ 96 0 ∧ mR σ2 96 0 = mR σ1 96 0 := by
    intro r t σ1 e1 e2 e3 e4 e5 ⟨σ2, g1, g2, g3, g4, g5, g6⟩
    refine ⟨r, σ1, σ2, e1, g1, ⟨Core_eqv g2 (Core_eqv e2 hC), ?_, ?_, by rw [g2.2.2 96 0 (by omega), e2.2.2 96 0 (by omega)]; omega⟩, e2.2.2 96 0 (by omega), g2.2.2 96 0 (by omega)⟩
    · obtain ⟨p, p1, p2, p3⟩ := e3 n hP
      exact ⟨p, p1, by rw [g4]; exact p2, fun j hj => by rw [g3]; exact p3 j hj⟩
    · refine ⟨by rw [g5, g6, e4], fun h => absurd ?_ e5⟩
      rw [g5, e4] at h; exact h
  rcases hC.2.2.2 with h | h
  · obtain ⟨r, t, σ1, e1, e2, e3, e4, e5, e6⟩ := hW σ _ hw rfl hk h
    refine fin r t σ1 e1 e2 e3 e4 e5 (e6 σ1 e2 ?_)
    have h9 := (Core_eqv e2 hC).2.2.2
    rw [e2.2.2 0 0 (by omega)] at h9
    rcases h9 with h9 | h9
    · exact h9
    · have q := e2.1 0 7 (by unfold scr; omega)
      rw [h.1, h9.1.1] at q; exact absurd q (by decide)
  · obtain ⟨r, t, σ1, e1, e2, e3, e4, e5, e6⟩ := hN σ _ hw rfl hk h
    refine fin r t σ1 e1 e2 e3 e4 e5 (e6 σ1 e2 ?_)
    have h9 := (Core_eqv e2 hC).2.2.2
    rw [e2.2.2 0 0 (by omega)] at h9
    rcases h9 with h9 | h9
    · have q := e2.1 0 7 (by unfold scr; omega)
      rw [h.1.1, h9.1] at q; exact absurd q (by decide)
    · exact h9
