/-! frames -/
def Fr (P : Nat → Nat → Prop) (Q : Nat → Prop) (σ σ1 : OM) : Prop := (∀ a j, ¬ P a j → mI σ1 a j = mI σ a j) ∧ (∀ a j, ¬ Q a → mL σ1 a j = mL σ a j) ∧ mR σ1 = mR σ
theorem fr_rfl (P : Nat → Nat → Prop) (Q : Nat → Prop) (σ : OM) : Fr P Q σ σ := ⟨fun _ _ _ => rfl, fun _ _ _ => rfl, rfl⟩
theorem fr_tr {P : Nat → Nat → Prop} {Q : Nat → Prop} {σ σ1 σ2 : OM} (h : Fr P Q σ σ1) (g : Fr P Q σ1 σ2) : Fr P Q σ σ2 := ⟨fun a j q => (g.1 a j q).trans (h.1 a j q), fun a j q => (g.2.1 a j q).trans (h.2.1 a j q), g.2.2.trans h.2.2⟩
theorem fr_mono {P P' : Nat → Nat → Prop} {Q Q' : Nat → Prop} {σ σ1 : OM} (hP : ∀ a j, P a j → P' a j) (hQ : ∀ a, Q a → Q' a) (h : Fr P Q σ σ1) : Fr P' Q' σ σ1 := ⟨fun a j q => h.1 a j (fun e => q (hP a j e)), fun a j q => h.2.1 a j (fun e => q (hQ a e)), h.2.2⟩
theorem fr_I {P : Nat → Nat → Prop} {Q : Nat → Prop} {σ σ1 : OM} {a j : Nat} {v : Int32} (h : Fr P Q σ σ1) (hp : P a j) : Fr P Q σ (sI σ1 a j v) := ⟨fun b k q => by rw [mI_sI, if_neg]; exact h.1 b k q; rintro ⟨rfl, rfl⟩; exact q hp, h.2.1, h.2.2⟩
theorem fr_L {P : Nat → Nat → Prop} {Q : Nat → Prop} {σ σ1 : OM} {a j : Nat} {v : Int64} (h : Fr P Q σ σ1) (hq : Q a) : Fr P Q σ (sL σ1 a j v) := ⟨h.1, fun b k q => by rw [mL_sL, if_neg]; exact h.2.1 b k q; rintro ⟨rfl, rfl⟩; exact q hq, h.2.2⟩
def noL : Nat → Prop := fun _ => False
/-- a row copied -/
theorem copy_eq (σ : OM) {A B x y n : Nat} (hAB : A ≠ B) (hA : x + n ≤ oln A) (hB : y + n ≤ oln B) (hn : x + n < 100000) (hn2 : y + n < 100000) : ∃ σ1, fX10_copy A (oi x) B (oi y) (oi n) σ = some σ1 ∧ (∀ j, j < n → mI σ1 B (y + j) = mI σ A (x + j)) ∧ Fr (fun a j => a = B ∧ y ≤ j ∧ j < y + n) noL σ σ1 := by
  have go : ∀ d k m (τ : OM), k + d = n → d < m → (∀ j, j < k → mI τ B (y + j) = mI σ A (x + j)) → Fr (fun a j => a = B ∧ y ≤ j ∧ j < y + n) noL σ τ → ∃ σ1, fX10_copy_b3 m A (oi x) B (oi y) (oi n) (oi k) τ = some σ1 ∧ (∀ j, j < n → mI σ1 B (y + j) = mI σ A (x + j)) ∧ Fr (fun a j => a = B ∧ y ≤ j ∧ j < y + n) noL σ σ1 := by
    intro d
    induction d with
    | zero =>
      intro k m τ h1 h2 h3 h4
      obtain ⟨m, rfl⟩ : ∃ m', m = m' + 1 := ⟨m - 1, by omega⟩
      have hk : k = n := by omega
      subst hk
      rw [fX10_copy_b3, if_pos ((oi_le (by omega) (by omega)).mpr (Nat.le_refl _))]
      exact ⟨τ, rfl, h3, h4⟩
    | succ d ih =>
      intro k m τ h1 h2 h3 h4
      obtain ⟨m, rfl⟩ : ∃ m', m = m' + 1 := ⟨m - 1, by omega⟩
      rw [fX10_copy_b3, if_neg (by rw [oi_le (by omega) (by omega)]; omega), oi_add, oi_add, ogi (by omega) (by omega), ogi (by omega) (by omega), oi_nat (by omega), oi_nat (by omega), oi_succ]
      refine ih (k + 1) m _ (by omega) (by omega) (fun j hj => ?_) (fr_I h4 ⟨rfl, by omega, by omega⟩)
      rw [mI_sI]
      by_cases e : j = k
      · rw [if_pos ⟨rfl, by omega⟩, e, h4.1 A (x + k) (fun q => hAB q.1)]
      · rw [if_neg (fun q => e (by omega))]; exact h3 j (by omega)
  exact go n 0 oF σ (Nat.zero_add _) (by unfold oF; omega) (fun j hj => absurd hj (by omega)) (fr_rfl _ _ _)
/-- the row that is noted, the oldest gone if there is no room -/
def oO (c : Nat) : Nat := if c = 12 then 1 else 0
theorem note_eq (σ : OM) {c : Nat} (hc : c ≤ 12) (h : mI σ 81 22 = oi c) : ∃ σ1, fX10_note σ = some σ1 ∧ mI σ1 81 22 = oi (c - oO c + 1) ∧ (∀ k j, k < c - oO c → j < 68 → mI σ1 89 (68 * k + j) = mI σ 89 (68 * (k + oO c) + j)) ∧ (∀ j, j < 68 → mI σ1 89 (68 * (c - oO c) + j) = mI σ 88 j) ∧ Fr (fun a j => (a = 81 ∧ j = 22) ∨ a = 89) noL σ σ1 := by
  have last : ∀ (τ : OM) (e : Nat), e ≤ 11 → mI τ 81 22 = oi e → ∃ σ1, fX10_note_b49 τ = some σ1 ∧ mI σ1 81 22 = oi (e + 1) ∧ (∀ j, j < 68 * e → mI σ1 89 j = mI τ 89 j) ∧ (∀ j, j < 68 → mI σ1 89 (68 * e + j) = mI τ 88 j) ∧ Fr (fun a j => (a = 81 ∧ j = 22) ∨ a = 89) noL τ σ1 := by
    intro τ e he h1
    have h816 : oln 89 = 816 := rfl
    have h68 : oln 88 = 68 := rfl
    obtain ⟨σ1, e1, e2, e3⟩ := copy_eq τ (A := 88) (B := 89) (x := 0) (y := 68 * e) (n := 68) (by omega) (by omega) (by omega) (by omega) (by omega)
    unfold fX10_note_b49
    rw [h1, show (68 : Int32) * oi e = oi (68 * e) from oi_mul 68 e, show fX10_copy 88 0 89 (oi (68 * e)) 68 τ = fX10_copy 88 (oi 0) 89 (oi (68 * e)) (oi 68) τ from rfl, e1, obv_s, e3.1 81 22 (by omega), h1, oi_succ]
    refine ⟨_, rfl, mI_at, fun j hj => ?_, fun j hj => ?_, fr_I (fr_mono (fun a j q => Or.inr q.1) (fun _ q => q) e3) (Or.inl ⟨rfl, rfl⟩)⟩
    · rw [mI_sI, if_neg (by omega)]; exact e3.1 89 j (by omega)
    · rw [mI_sI, if_neg (by omega), e2 j hj, Nat.zero_add]
  unfold fX10_note oO
  by_cases e : c = 12
  · subst e
    rw [if_pos (show mI σ 81 22 = 12 from h), if_pos rfl]
    have go : ∀ d k m (τ : OM), k + d = 748 → d < m → (∀ j, j < k → mI τ 89 j = mI σ 89 (j + 68)) → (∀ j, k ≤ j → mI τ 89 j = mI σ 89 j) → Fr (fun a j => (a = 81 ∧ j = 22) ∨ a = 89) noL σ τ → mI τ 81 22 = oi 12 → ∃ τ1, fX10_note_b11 m (oi k) τ = fX10_note_b49 τ1 ∧ mI τ1 81 22 = oi 11 ∧ (∀ j, j < 748 → mI τ1 89 j = mI σ 89 (j + 68)) ∧ Fr (fun a j => (a = 81 ∧ j = 22) ∨ a = 89) noL σ τ1 := by
      intro d
      induction d with
      | zero =>
        intro k m τ h1 h2 h3 h4 h5 h6
        obtain ⟨m, rfl⟩ : ∃ m', m = m' + 1 := ⟨m - 1, by omega⟩
        have hk : k = 748 := by omega
        subst hk
        rw [fX10_note_b11, if_pos (by decide), h6]
        refine ⟨_, rfl, mI_at, fun j hj => ?_, fr_I h5 (Or.inl ⟨rfl, rfl⟩)⟩
        rw [mI_sI, if_neg (by omega)]; exact h3 j hj
      | succ d ih =>
        intro k m τ h1 h2 h3 h4 h5 h6
        obtain ⟨m, rfl⟩ : ∃ m', m = m' + 1 := ⟨m - 1, by omega⟩
        rw [fX10_note_b11, show (748 : Int32) = oi 748 from rfl, if_neg (by rw [oi_le (by omega) (by omega)]; omega), show oi k + 68 = oi (k + 68) from oi_add k 68, ogi (by omega) (by omega), ogi (by omega) (by omega), oi_nat (by omega), oi_nat (by omega), oi_succ]
        refine ih (k + 1) m _ (by omega) (by omega) (fun j hj => ?_) (fun j hj => ?_) (fr_I h5 (Or.inr rfl)) (by rw [mI_sI, if_neg (by omega)]; exact h6)
        · rw [mI_sI]
          by_cases ej : j = k
          · rw [if_pos ⟨rfl, ej⟩, h4 (k + 68) (by omega), ej]
          · rw [if_neg (fun q => ej q.2)]; exact h3 j (by omega)
        · rw [mI_sI, if_neg (by omega)]; exact h4 j (by omega)
    obtain ⟨τ1, t1, t2, t3, t4⟩ := go 748 0 oF σ rfl (by unfold oF; omega) (fun j hj => absurd hj (by omega)) (fun j _ => rfl) (fr_rfl _ _ _) h
    obtain ⟨σ1, s1, s2, s3, s4, s5⟩ := last τ1 11 (by omega) t2
    refine ⟨σ1, t1.trans s1, s2, fun k j hk hj => ?_, fun j hj => ?_, fr_tr t4 s5⟩
    · rw [s3 _ (by omega), t3 _ (by omega), show 68 * k + j + 68 = 68 * (k + 1) + j by omega]
    · rw [show 68 * (12 - 1) + j = 68 * 11 + j from rfl, s4 j hj, t4.1 88 j (by omega)]
  · rw [if_neg (by rw [h, lt12, oi_inj (by omega) (by omega)]; exact e), if_neg e]
    obtain ⟨σ1, s1, s2, s3, s4, s5⟩ := last σ c (by omega) h
    refine ⟨σ1, s1, s2, fun k j hk hj => ?_, s4, s5⟩
    rw [s3 _ (by omega), Nat.add_zero]
theorem keep_eq (σ : OM) {c : Nat} (hc : c ≤ 12) (h : mI σ 61 3 = oi c) (k a b : Int32) : ∃ σ1, fX0_keep k a b σ = some σ1 ∧ mI σ1 61 3 = oi (c - oO c + 1) ∧ (∀ j, j < c - oO c → mI σ1 62 j = mI σ 62 (j + oO c) ∧ mI σ1 63 j = mI σ 63 (j + oO c) ∧ mI σ1 64 j = mI σ 64 (j + oO c)) ∧ (mI σ1 62 (c - oO c) = k ∧ mI σ1 63 (c - oO c) = a ∧ mI σ1 64 (c - oO c) = b) ∧ Fr (fun a _ => 61 ≤ a ∧ a ≤ 64) noL σ σ1 := by
  have last : ∀ (τ : OM) (e : Nat), e ≤ 11 → mI τ 61 3 = oi e → ∃ σ1, fX0_keep_b13 k a b τ = some σ1 ∧ mI σ1 61 3 = oi (e + 1) ∧ (∀ j, j < e → mI σ1 62 j = mI τ 62 j ∧ mI σ1 63 j = mI τ 63 j ∧ mI σ1 64 j = mI τ 64 j) ∧ (mI σ1 62 e = k ∧ mI σ1 63 e = a ∧ mI σ1 64 e = b) ∧ Fr (fun a _ => 61 ≤ a ∧ a ≤ 64) noL τ σ1 := by
    intro τ e he h1
    unfold fX0_keep_b13
    have r1 : ∀ v, mI (sI τ 62 e v) 61 3 = oi e := fun v => by rw [mI_sI, if_neg (by omega)]; exact h1
    have r2 : ∀ v u, mI (sI (sI τ 62 e v) 63 e u) 61 3 = oi e := fun v u => by rw [mI_sI, if_neg (by omega)]; exact r1 v
    have r3 : ∀ v u x, mI (sI (sI (sI τ 62 e v) 63 e u) 64 e x) 61 3 = oi e := fun v u x => by rw [mI_sI, if_neg (by omega)]; exact r2 v u
    rw [h1, if_neg (oi_nneg (by omega)), lt12, if_pos ((oi_lt (by omega) (by omega)).mpr (by omega)), ogi (by omega) (by omega), oi_nat (by omega), r1, ogi (by omega) (by omega), oi_nat (by omega), r2, ogi (by omega) (by omega), oi_nat (by omega), r3, oi_succ]
    refine ⟨_, rfl, mI_at, fun j hj => ⟨?_, ?_, ?_⟩, ⟨?_, ?_, ?_⟩, fr_I (fr_I (fr_I (fr_I (fr_rfl _ _ _) (by omega)) (by omega)) (by omega)) (by omega)⟩
    · rw [mI_sI, if_neg (by omega), mI_sI, if_neg (by omega), mI_sI, if_neg (by omega), mI_sI, if_neg (by omega)]
    · rw [mI_sI, if_neg (by omega), mI_sI, if_neg (by omega), mI_sI, if_neg (by omega), mI_sI, if_neg (by omega)]
    · rw [mI_sI, if_neg (by omega), mI_sI, if_neg (by omega), mI_sI, if_neg (by omega), mI_sI, if_neg (by omega)]
    · rw [mI_sI, if_neg (by omega), mI_sI, if_neg (by omega), mI_sI, if_neg (by omega), mI_at]
    · rw [mI_sI, if_neg (by omega), mI_sI, if_neg (by omega), mI_at]
    · rw [mI_sI, if_neg (by omega), mI_at]
  unfold fX0_keep oO
  by_cases e : c = 12
  · subst e
    rw [if_neg (by rw [h]; decide), if_pos rfl]
    have go : ∀ d q m (τ : OM), q + d = 12 → 1 ≤ q → d < m → (∀ j, j + 1 < q → mI τ 62 j = mI σ 62 (j + 1) ∧ mI τ 63 j = mI σ 63 (j + 1) ∧ mI τ 64 j = mI σ 64 (j + 1)) → (∀ j, q ≤ j → mI τ 62 j = mI σ 62 j ∧ mI τ 63 j = mI σ 63 j ∧ mI τ 64 j = mI σ 64 j) → Fr (fun a _ => 61 ≤ a ∧ a ≤ 64) noL σ τ → ∃ τ1, fX0_dropOldest_b2 m (oi q) τ = some τ1 ∧ mI τ1 61 3 = oi 11 ∧ (∀ j, j < 11 → mI τ1 62 j = mI σ 62 (j + 1) ∧ mI τ1 63 j = mI σ 63 (j + 1) ∧ mI τ1 64 j = mI σ 64 (j + 1)) ∧ Fr (fun a _ => 61 ≤ a ∧ a ≤ 64) noL σ τ1 := by
      intro d
      induction d with
      | zero =>
        intro q m τ h1 hq h2 h3 h4 h5
        obtain ⟨m, rfl⟩ : ∃ m', m = m' + 1 := ⟨m - 1, by omega⟩
        have hk : q = 12 := by omega
        subst hk
        rw [fX0_dropOldest_b2, if_pos (by decide)]
        refine ⟨_, rfl, mI_at, fun j hj => ?_, fr_I h5 (by omega)⟩
        rw [mI_sI, if_neg (by omega), mI_sI, if_neg (by omega), mI_sI, if_neg (by omega)]
        exact h3 j (by omega)
      | succ d ih =>
        intro q m τ h1 hq h2 h3 h4 h5
        obtain ⟨m, rfl⟩ : ∃ m', m = m' + 1 := ⟨m - 1, by omega⟩
        have em : oi q - 1 = oi (q - 1) := oi_sub (b := 1) (by omega)
        rw [fX0_dropOldest_b2, lt12, if_neg (by rw [oi_le (by omega) (by omega)]; omega), em, ogi (by omega) (by omega), ogi (by omega) (by omega), ogi (by omega) (by omega), ogi (by omega) (by omega), ogi (by omega) (by omega), ogi (by omega) (by omega), oi_nat (by omega), oi_nat (by omega), oi_succ]
        obtain ⟨g1, g2, g3⟩ := h4 q (Nat.le_refl _)
        refine ih (q + 1) m _ (by omega) (by omega) (by omega) (fun j hj => ?_) (fun j hj => ?_) (fr_I (fr_I (fr_I h5 (by omega)) (by omega)) (by omega))
        · by_cases ej : j = q - 1
          · have ej2 : j + 1 = q := by omega
            rw [ej2]
            refine ⟨?_, ?_, ?_⟩
            · rw [mI_sI, if_neg (by omega), mI_sI, if_neg (by omega), mI_sI, if_pos ⟨rfl, ej⟩]; exact g1
            · rw [mI_sI, if_neg (by omega), mI_sI, if_pos ⟨rfl, ej⟩, mI_sI, if_neg (by omega)]; exact g2
            · rw [mI_sI, if_pos ⟨rfl, ej⟩, mI_sI, if_neg (by omega), mI_sI, if_neg (by omega)]; exact g3
          · obtain ⟨f1, f2, f3⟩ := h3 j (by omega)
            refine ⟨?_, ?_, ?_⟩
            · rw [mI_sI, if_neg (by omega), mI_sI, if_neg (by omega), mI_sI, if_neg (by omega)]; exact f1
            · rw [mI_sI, if_neg (by omega), mI_sI, if_neg (by omega), mI_sI, if_neg (by omega)]; exact f2
            · rw [mI_sI, if_neg (by omega), mI_sI, if_neg (by omega), mI_sI, if_neg (by omega)]; exact f3
        · obtain ⟨f1, f2, f3⟩ := h4 j (by omega)
          refine ⟨?_, ?_, ?_⟩
          · rw [mI_sI, if_neg (by omega), mI_sI, if_neg (by omega), mI_sI, if_neg (by omega)]; exact f1
          · rw [mI_sI, if_neg (by omega), mI_sI, if_neg (by omega), mI_sI, if_neg (by omega)]; exact f2
          · rw [mI_sI, if_neg (by omega), mI_sI, if_neg (by omega), mI_sI, if_neg (by omega)]; exact f3
    obtain ⟨τ1, t1, t2, t3, t4⟩ := go 11 1 oF σ rfl (by omega) (by unfold oF; omega) (fun j hj => absurd hj (by omega)) (fun j _ => ⟨rfl, rfl, rfl⟩) (fr_rfl _ _ _)
    obtain ⟨σ1, s1, s2, s3, s4, s5⟩ := last τ1 11 (by omega) t2
    rw [show fX0_dropOldest σ = some τ1 from t1, obv_s]
    refine ⟨σ1, s1, s2, fun j hj => ?_, s4, fr_tr t4 s5⟩
    obtain ⟨f1, f2, f3⟩ := s3 j hj
    obtain ⟨q1, q2, q3⟩ := t3 j hj
    exact ⟨f1.trans q1, f2.trans q2, f3.trans q3⟩
  · rw [if_pos (by rw [h, lt12, oi_lt (by omega) (by omega)]; omega), if_neg e]
    exact last σ c (by omega) h
