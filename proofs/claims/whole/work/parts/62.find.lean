/-! the search for liars -/
theorem CX_fr {P : Nat → Nat → Prop} {Q : Nat → Prop} {σ σ1 : OM} {w : Nat} {R : Nat → Int32} {Z : Nat → Int64} {s : Nat → Int32} (hf : Fr P Q σ σ1) (hP : ∀ a j, P a j → ¬ ((w ≤ a ∧ a ≤ w + 9) ∨ (w + 14 ≤ a ∧ a ≤ w + 19))) (hQ : ∀ a, Q a → a ≠ w + 1 ∧ a ≠ w + 3) (h : CX σ w R Z s) : CX σ1 w R Z s :=
  ⟨h.1, CS_congr (fun a j q => hf.1 a j (fun e => hP a j e (by omega))) (fun a j q => hf.2.1 a j (fun e => by have := hQ a e; omega)) (x_Hb h) h.2.1, CT_congr (fun a j q => hf.1 a j (fun e => hP a j e (by omega))) h.2.2⟩
theorem fold_and {f : Nat → Int64} {p : Nat → Bool} {z : Int64} {i : Nat} : ∀ n, tb (ofd (fun k x => if p k then x &&& f k else x) z n) i = true ↔ tb z i = true ∧ ∀ k, k < n → p k = true → tb (f k) i = true
  | 0 => ⟨fun h => ⟨h, fun k hk => absurd hk (by omega)⟩, fun h => h.1⟩
  | n + 1 => by
    show tb (if p n then _ &&& f n else _) i = true ↔ _
    have ih := fold_and (f := f) (p := p) (z := z) (i := i) n
    cases hp : p n
    · rw [if_neg (by decide), ih]
      refine ⟨fun h => ⟨h.1, fun k hk h2 => ?_⟩, fun h => ⟨h.1, fun k hk h2 => h.2 k (by omega) h2⟩⟩
      by_cases e : k = n
      · rw [e, hp] at h2; cases h2
      · exact h.2 k (by omega) h2
    · rw [if_pos rfl, tb_and, Bool.and_eq_true_iff, ih]
      refine ⟨fun h => ⟨h.1.1, fun k hk h2 => ?_⟩, fun h => ⟨⟨h.1, fun k hk h2 => h.2 k (by omega) h2⟩, h.2 n (by omega) hp⟩⟩
      by_cases e : k = n
      · rw [e]; exact h.2
      · exact h.1.2 k (by omega) h2
/-- what a house's answers leave, as they are, or turned round -/
def sSt (Z : Nat → Int64) (s : Nat → Int32) (t : Bool) (h : Nat) (n : Nat) : Int64 := ofd (fun k x => if decide (nn (s (2 + 3 * k)) = h) then x &&& (Z 8 &&& sAns Z s k t) else x) (Z 8) n
theorem lying_eq {R : Nat → Int32} {Z : Nat → Int64} {s : Nat → Int32} (hT : TB R s) (hH : nn (R 3) ≤ 6) (m : Int32) : ofd (fun h x => x &&& sSt Z s (tw m h) h (nn (s 1))) (Z 8) (nn (R 3)) = sLeft Z s 63 m (nn (s 1)) := by
  apply tb_ext
  intro i hi
  have e1 : ofd (fun h x => x &&& sSt Z s (tw m h) h (nn (s 1))) (Z 8) (nn (R 3)) = ofd (fun h x => if true = true then x &&& sSt Z s (tw m h) h (nn (s 1)) else x) (Z 8) (nn (R 3)) := rfl
  have e2 : sLeft Z s 63 m (nn (s 1)) = ofd (fun k x => if tw 63 (nn (s (2 + 3 * k))) then x &&& sAns Z s k (tw m (nn (s (2 + 3 * k)))) else x) (Z 8) (nn (s 1)) := rfl
  have f1 := fold_and (f := fun h => sSt Z s (tw m h) h (nn (s 1))) (p := fun _ => true) (z := Z 8) (i := i) (nn (R 3))
  have f2 := fold_and (f := fun k => sAns Z s k (tw m (nn (s (2 + 3 * k))))) (p := fun k => tw 63 (nn (s (2 + 3 * k)))) (z := Z 8) (i := i) (nn (s 1))
  rw [e1, e2]
  have h3 : (tb (ofd (fun h x => if true = true then x &&& sSt Z s (tw m h) h (nn (s 1)) else x) (Z 8) (nn (R 3))) i = true) ↔ (tb (ofd (fun k x => if tw 63 (nn (s (2 + 3 * k))) then x &&& sAns Z s k (tw m (nn (s (2 + 3 * k)))) else x) (Z 8) (nn (s 1))) i = true) := by
    refine Iff.trans f1 (Iff.trans ?_ f2.symm)
    constructor
    · rintro ⟨g1, g2⟩
      refine ⟨g1, fun k hk _ => ?_⟩
      obtain ⟨-, hh, -⟩ := hT.2.2.1 k hk
      have g3 := g2 _ hh rfl
      have g4 := (fold_and (f := fun k => Z 8 &&& sAns Z s k (tw m (nn (s (2 + 3 * k))))) (p := fun j => decide (nn (s (2 + 3 * j)) = nn (s (2 + 3 * k)))) (z := Z 8) (i := i) (nn (s 1)))
      have g5 := (fold_and (f := fun j => Z 8 &&& sAns Z s j (tw m (nn (s (2 + 3 * k))))) (p := fun j => decide (nn (s (2 + 3 * j)) = nn (s (2 + 3 * k)))) (z := Z 8) (i := i) (nn (s 1))).mp g3
      have g6 := g5.2 k hk (decide_eq_true rfl)
      rw [tb_and] at g6
      exact (Bool.and_eq_true_iff.mp g6).2
    · rintro ⟨g1, g2⟩
      refine ⟨g1, fun h hh _ => ?_⟩
      refine (fold_and (f := fun j => Z 8 &&& sAns Z s j (tw m h)) (p := fun j => decide (nn (s (2 + 3 * j)) = h)) (z := Z 8) (i := i) (nn (s 1))).mpr ⟨g1, fun k hk hp => ?_⟩
      have e := of_decide_eq_true hp
      have g3 := g2 k hk (tw63 _ (by omega))
      rw [e] at g3
      rw [tb_and, g1, g3]; rfl
  cases h1 : tb (ofd (fun h x => if true = true then x &&& sSt Z s (tw m h) h (nn (s 1)) else x) (Z 8) (nn (R 3))) i
  · cases h2 : tb (ofd (fun k x => if tw 63 (nn (s (2 + 3 * k))) then x &&& sAns Z s k (tw m (nn (s (2 + 3 * k)))) else x) (Z 8) (nn (s 1))) i
    · rfl
    · rw [h3.mpr h2] at h1; cases h1
  · exact (h3.mp h1).symm
section
variable {σ : OM} {w : Nat} {R : Nat → Int32} {Z : Nat → Int64} {s : Nat → Int32}
def gQ (w : Nat) : Nat → Prop := fun a => a = w + 11 ∨ a = w + 12
def noI : Nat → Nat → Prop := fun _ _ => False
theorem gather_eq (h : CX σ w R Z s) : ∃ σ1, fX3_gatherAnswers w σ = some σ1 ∧ (∀ k, k < 6 → mL σ1 (w + 11) k = sSt Z s false k (nn (s 1)) ∧ mL σ1 (w + 12) k = sSt Z s true k (nn (s 1))) ∧ Fr noI (gQ w) σ σ1 := by
  have hN := x_Nb h
  have hH := x_Hb h
  have cx : ∀ τ, Fr noI (gQ w) σ τ → CX τ w R Z s := fun τ hf => CX_fr hf (fun a j e => e.elim) (fun a e => by unfold gQ at e; omega) h
  have go2 : ∀ d k m (τ : OM), k + d = nn (s 1) → d < m → (∀ j, j < 6 → mL τ (w + 11) j = sSt Z s false j k ∧ mL τ (w + 12) j = sSt Z s true j k) → Fr noI (gQ w) σ τ → ∃ σ1, fX3_gatherAnswers_b42 m w (oi k) τ = some σ1 ∧ (∀ j, j < 6 → mL σ1 (w + 11) j = sSt Z s false j (nn (s 1)) ∧ mL σ1 (w + 12) j = sSt Z s true j (nn (s 1))) ∧ Fr noI (gQ w) σ σ1 := by
    intro d
    induction d with
    | zero =>
      intro k m τ h1 h2 h3 h4
      obtain ⟨m, rfl⟩ : ∃ m', m = m' + 1 := ⟨m - 1, by omega⟩
      have hk : k = nn (s 1) := by omega
      rw [fX3_gatherAnswers_b42, x_N (cx τ h4), if_pos ((oi_le (by omega) (by omega)).mpr (by omega))]
      rw [hk] at h3
      exact ⟨τ, rfl, h3, h4⟩
    | succ d ih =>
      intro k m τ h1 h2 h3 h4
      obtain ⟨m, rfl⟩ : ∃ m', m = m' + 1 := ⟨m - 1, by omega⟩
      have hx := cx τ h4
      have hkN : k < nn (s 1) := by omega
      obtain ⟨c, d'⟩ := x_h hx hkN
      obtain ⟨q1, q2⟩ := x_q hx hkN
      have y1 := x_y hx hkN
      generalize ha : nn (s (2 + 3 * k)) = a at c d'
      generalize hq : nn (s (3 + 3 * k)) = q at q1 q2
      generalize hy : decide (s (4 + 3 * k) = 1) = y at y1
      have ww := worldsWith_eq hx q2 y
      have sf : sAns Z s k false = sYn Z q y := by rw [sAns_yn, hq, hy, Bool.bne_false]
      have st : sAns Z s k true = sYn Z q (!y) := by rw [sAns_yn, hq, hy, Bool.bne_true]
      have wt : fX2_worldsWith w (oi q) (if y then 0 else 1) (sL τ (w + 11) a (mL τ (w + 11) a &&& (Z 8 &&& sYn Z q y))) = some (Z 8 &&& sYn Z q (!y), sL τ (w + 11) a (mL τ (w + 11) a &&& (Z 8 &&& sYn Z q y))) := by
        have := worldsWith_eq (cx _ (fr_L (v := mL τ (w + 11) a &&& (Z 8 &&& sYn Z q y)) (j := a) h4 (Or.inl rfl))) q2 (!y)
        rw [← this]
        cases y <;> rfl
      rw [fX3_gatherAnswers_b42, x_N hx, if_neg (by rw [oi_le (by omega) (by omega)]; omega), lt20, if_neg (by rw [oi_le (by omega) (by omega)]; omega), ogi (by omega) (by omega), oi_nat (by omega), c, if_neg (oi_nneg (by omega)), lt6, if_neg (by rw [oi_le (by omega) (by omega)]; omega), ogi (by omega) (by omega), ogi (by omega) (by omega), ogi (by omega) (by omega), q1, y1, ww, obi_s, ogi (by omega) (by omega), ogi (by omega) (by omega), ogi (by omega) (by omega), ogi (by omega) (by omega), oi_nat (by omega)]
      have y2 : mI (sL τ (w + 11) a (mL τ (w + 11) a &&& (Z 8 &&& sYn Z q y))) (w + 8) k = b2 y := y1
      have q3 : mI (sL τ (w + 11) a (mL τ (w + 11) a &&& (Z 8 &&& sYn Z q y))) (w + 7) k = oi q := q1
      rw [y2, q3]
      have fin : ∃ σ1, fX3_gatherAnswers_b42 m w (oi (k + 1)) (sL (sL τ (w + 11) a (mL τ (w + 11) a &&& (Z 8 &&& sYn Z q y))) (w + 12) a (mL (sL τ (w + 11) a (mL τ (w + 11) a &&& (Z 8 &&& sYn Z q y))) (w + 12) a &&& (Z 8 &&& sYn Z q (!y)))) = some σ1 ∧ (∀ j, j < 6 → mL σ1 (w + 11) j = sSt Z s false j (nn (s 1)) ∧ mL σ1 (w + 12) j = sSt Z s true j (nn (s 1))) ∧ Fr noI (gQ w) σ σ1 := by
        refine ih (k + 1) m _ (by omega) (by omega) (fun j hj => ?_) (fr_L (fr_L h4 (Or.inl rfl)) (Or.inr rfl))
        obtain ⟨g1, g2⟩ := h3 j hj
        have e1 : sSt Z s false j (k + 1) = if decide (a = j) then sSt Z s false j k &&& (Z 8 &&& sYn Z q y) else sSt Z s false j k := by
          rw [← sf, ← ha]; rfl
        have e2 : sSt Z s true j (k + 1) = if decide (a = j) then sSt Z s true j k &&& (Z 8 &&& sYn Z q (!y)) else sSt Z s true j k := by
          rw [← st, ← ha]; rfl
        rw [e1, e2]
        refine ⟨?_, ?_⟩
        · rw [mL_sL, if_neg (by omega), mL_sL]
          by_cases ej : j = a
          · rw [if_pos ⟨rfl, ej⟩, decide_eq_true ej.symm, if_pos rfl, ← ej, g1]
          · rw [if_neg (fun e => ej e.2), decide_eq_false (fun e => ej e.symm), if_neg (by decide), g1]
        · rw [mL_sL, mL_row (by omega)]
          by_cases ej : j = a
          · rw [if_pos ⟨rfl, ej⟩, decide_eq_true ej.symm, if_pos rfl, ← ej, g2]
          · rw [if_neg (fun e => ej e.2), decide_eq_false (fun e => ej e.symm), if_neg (by decide), g2]
      cases y
      · rw [if_pos (by decide)]
        have wt' : fX2_worldsWith w (oi q) 1 (sL τ (w + 11) a (mL τ (w + 11) a &&& (Z 8 &&& sYn Z q false))) = _ := wt
        rw [wt', obi_s, ogi (by omega) (by omega), oi_succ]
        exact fin
      · rw [if_neg (by decide)]
        have wt' : fX2_worldsWith w (oi q) 0 (sL τ (w + 11) a (mL τ (w + 11) a &&& (Z 8 &&& sYn Z q true))) = _ := wt
        rw [wt', obi_s, ogi (by omega) (by omega), oi_succ]
        exact fin
  have go1 : ∀ d k m (τ : OM), k + d = 6 → d < m → (∀ j, j < k → mL τ (w + 11) j = Z 8 ∧ mL τ (w + 12) j = Z 8) → Fr noI (gQ w) σ τ → ∃ σ1, fX3_gatherAnswers_b2 m w (oi k) τ = some σ1 ∧ (∀ j, j < 6 → mL σ1 (w + 11) j = sSt Z s false j (nn (s 1)) ∧ mL σ1 (w + 12) j = sSt Z s true j (nn (s 1))) ∧ Fr noI (gQ w) σ σ1 := by
    intro d
    induction d with
    | zero =>
      intro k m τ h1 h2 h3 h4
      obtain ⟨m, rfl⟩ : ∃ m', m = m' + 1 := ⟨m - 1, by omega⟩
      have hk : k = 6 := by omega
      subst hk
      rw [fX3_gatherAnswers_b2, if_pos (by decide)]
      exact go2 (nn (s 1)) 0 oF τ (Nat.zero_add _) (by unfold oF; omega) (fun j hj => h3 j hj) h4
    | succ d ih =>
      intro k m τ h1 h2 h3 h4
      obtain ⟨m, rfl⟩ : ∃ m', m = m' + 1 := ⟨m - 1, by omega⟩
      rw [fX3_gatherAnswers_b2, lt6, if_neg (by rw [oi_le (by omega) (by omega)]; omega), ogi (by omega) (by omega), ogi (by omega) (by omega), oi_nat (by omega), oi_succ, mL_row (by omega : w + 1 ≠ w + 11), x_C (cx τ h4)]
      refine ih (k + 1) m _ (by omega) (by omega) (fun j hj => ?_) (fr_L (fr_L h4 (Or.inl rfl)) (Or.inr rfl))
      rw [mL_sL, if_neg (by omega), mL_sL, mL_sL]
      by_cases ej : j = k
      · rw [if_pos ⟨rfl, ej⟩, if_pos ⟨rfl, ej⟩]; exact ⟨rfl, rfl⟩
      · rw [if_neg (fun e => ej e.2), if_neg (fun e => ej e.2), mL_row (by omega)]; exact h3 j (by omega)
  exact go1 6 0 oF σ rfl (by unfold oF; omega) (fun j hj => absurd hj (by omega)) (fr_rfl _ _ _)
theorem ifLying_eq (h : CX σ w R Z s) (hg : ∀ k, k < 6 → mL σ (w + 11) k = sSt Z s false k (nn (s 1)) ∧ mL σ (w + 12) k = sSt Z s true k (nn (s 1))) (m : Int32) : fX3_worldsIfLying w m (oi (nn (R 3))) σ = some (sLeft Z s 63 m (nn (s 1)), σ) := by
  have hH := x_Hb h
  rw [← lying_eq h.1.2 hH m]
  unfold fX3_worldsIfLying
  rw [x_C h]
  refine lup0 (g := fun f x k => fX3_worldsIfLying_b11 f w m (oi (nn (R 3))) x (oi k) σ) (step := fun k x => x &&& sSt Z s (tw m k) k (nn (s 1))) (fin := fun x => some (x, σ)) (n := nn (R 3)) ?_ ?_ oF (by unfold oF; omega)
  · intro f x k hk
    obtain ⟨g1, g2⟩ := hg k (by omega)
    show fX3_worldsIfLying_b11 (f + 1) w m (oi (nn (R 3))) x (oi k) σ = fX3_worldsIfLying_b11 f w m (oi (nn (R 3))) (x &&& sSt Z s (tw m k) k (nn (s 1))) (oi (k + 1)) σ
    rw [fX3_worldsIfLying_b11, if_neg (by rw [oi_le (by omega) (by omega)]; omega), lt6, if_neg (by rw [oi_le (by omega) (by omega)]; omega), bitOfW_eq _ (by omega), obi_s, ogi (by omega) (by omega), ogi (by omega) (by omega), oi_nat (by omega), g1, g2, oi_succ]
    cases tw m k
    · rw [if_neg (by decide)]
    · rw [if_pos (by decide)]
  · intro f x
    show fX3_worldsIfLying_b11 (f + 1) w m (oi (nn (R 3))) x (oi _) σ = _
    rw [fX3_worldsIfLying_b11, if_pos ((oi_le (by omega) (by omega)).mpr (Nat.le_refl _))]
/-- the search as the memory holds it -/
def hM (σ : OM) (w : Nat) (a : Nat × Nat × Nat × Int32 × Int32) : Prop := mI σ (w + 10) 4 = oi a.2.1 ∧ mI σ (w + 10) 5 = oi a.2.2.1 ∧ mI σ (w + 10) 6 = a.2.2.2.1 ∧ mI σ (w + 10) 7 = a.2.2.2.2
def gP (w : Nat) : Nat → Nat → Prop := fun a _ => a = w + 10
theorem liars_eq (h : CX σ w R Z s) : ∃ σ1, fX3_findLiars w (oi (nn (R 3))) σ = some σ1 ∧ CM σ1 w R Z s ∧ Fr (gP w) (gQ w) σ σ1 := by
  have hH := x_Hb h
  have h64 := p2_le hH
  obtain ⟨σ1, e1, e2, e3⟩ := gather_eq h
  have e3' : Fr (gP w) (gQ w) σ σ1 := fr_mono (fun _ _ q => q.elim) (fun _ q => q) e3
  have cx : ∀ τ, Fr (gP w) (gQ w) σ τ → CX τ w R Z s := fun τ hf => CX_fr hf (fun a j e => by unfold gP at e; omega) (fun a e => by unfold gQ at e; omega) h
  have go : ∀ d k m (τ : OM), k + d = 2 ^ nn (R 3) → d < m → hM τ w (ofd (sMs Z s) (7, 0, 0, 0, 0) k) → (ofd (sMs Z s) (7, 0, 0, 0, 0) k).1 ≤ 7 → Fr (gP w) noL σ1 τ → ∃ τ1, fX3_findLiars_b29 m w (oi (nn (R 3))) (oi (ofd (sMs Z s) (7, 0, 0, 0, 0) k).1) (oi k) τ = some τ1 ∧ hM τ1 w (sMi Z s (nn (R 3))) ∧ Fr (gP w) noL σ1 τ1 := by
    intro d
    induction d with
    | zero =>
      intro k m τ h1 h2 h3 h4 h5
      obtain ⟨m, rfl⟩ : ∃ m', m = m' + 1 := ⟨m - 1, by omega⟩
      have hk : k = 2 ^ nn (R 3) := by omega
      rw [fX3_findLiars_b29, shlW _ (by omega), if_pos ((oi_le (by omega) (by omega)).mpr (by omega))]
      rw [hk] at h3
      exact ⟨τ, rfl, h3, h5⟩
    | succ d ih =>
      intro k m τ h1 h2 h3 h4 h5
      obtain ⟨m, rfl⟩ : ∃ m', m = m' + 1 := ⟨m - 1, by omega⟩
      have hx := cx τ (fr_tr e3' (fr_mono (fun _ _ q => q) (fun _ q => q.elim) h5))
      have hg : ∀ k, k < 6 → mL τ (w + 11) k = sSt Z s false k (nn (s 1)) ∧ mL τ (w + 12) k = sSt Z s true k (nn (s 1)) := fun k hk => by
        rw [h5.2.1 _ _ (fun q => q), h5.2.1 _ _ (fun q => q)]; exact e2 k hk
      rw [fX3_findLiars_b29, shlW _ (by omega), if_neg (by rw [oi_le (by omega) (by omega)]; omega), ifLying_eq hx hg, obi_s]
      have es : ofd (sMs Z s) (7, 0, 0, 0, 0) (k + 1) = sMs Z s k (ofd (sMs Z s) (7, 0, 0, 0, 0) k) := rfl
      generalize hA : ofd (sMs Z s) (7, 0, 0, 0, 0) k = A at h3 h4 es
      obtain ⟨m1, m2, m3, m4⟩ := h3
      have lp := pcw_le (oi k)
      have l6 : pcw (oi k) ≤ 6 := by rw [pc_same k (by omega)]; exact pc_six k (by omega)
      by_cases hc : sLeft Z s 63 (oi k) (nn (s 1)) = 0
      · have ec : sCan Z s k = false := decide_eq_false (fun q => q hc)
        have e9 : ofd (sMs Z s) (7, 0, 0, 0, 0) (k + 1) = A := by rw [es]; unfold sMs; rw [ec]; rfl
        rw [if_pos ((cmp_eq _ _).mpr hc), oi_succ]
        have := ih (k + 1) m τ (by omega) (by omega) (by rw [e9]; exact ⟨m1, m2, m3, m4⟩) (by rw [e9]; exact h4) h5
        rw [e9] at this
        exact this
      · have ec : sCan Z s k = true := decide_eq_true hc
        rw [if_neg (by rw [cmp_eq]; exact hc), m2, oi_succ, bcW, obi_s, ite_iff (oi_le (by omega) (by omega))]
        by_cases c1 : pcw (oi k) < A.1
        · have e9 : ofd (sMs Z s) (7, 0, 0, 0, 0) (k + 1) = (pcw (oi k), k, A.2.2.1 + 1, oi k, oi k) := by rw [es]; unfold sMs; rw [ec, if_pos rfl, if_pos c1]
          rw [if_neg (by omega), oi_succ]
          have := ih (k + 1) m (sI (sI (sI (sI τ (w + 10) 5 (oi (A.2.2.1 + 1))) (w + 10) 4 (oi k)) (w + 10) 6 (oi k)) (w + 10) 7 (oi k)) (by omega) (by omega) (by
            rw [e9]
            refine ⟨?_, ?_, ?_, ?_⟩
            · rw [mI_sI, if_neg (by omega), mI_sI, if_neg (by omega), mI_at]
            · rw [mI_sI, if_neg (by omega), mI_sI, if_neg (by omega), mI_sI, if_neg (by omega), mI_at]
            · rw [mI_sI, if_neg (by omega), mI_at]
            · exact mI_at) (by rw [e9]; show pcw (oi k) ≤ 7; omega) (fr_I (fr_I (fr_I (fr_I h5 rfl) rfl) rfl) rfl)
          rw [e9] at this
          exact this
        · rw [if_pos (by omega), ite_iff (oi_inj (by omega) (by omega))]
          by_cases c2 : pcw (oi k) = A.1
          · have e9 : ofd (sMs Z s) (7, 0, 0, 0, 0) (k + 1) = (A.1, A.2.1, A.2.2.1 + 1, A.2.2.2.1 ||| oi k, A.2.2.2.2 &&& oi k) := by rw [es]; unfold sMs; rw [ec, if_pos rfl, if_neg c1, if_pos c2]
            rw [if_pos c2, oi_succ]
            have := ih (k + 1) m (sI (sI (sI τ (w + 10) 5 (oi (A.2.2.1 + 1))) (w + 10) 6 (mI (sI τ (w + 10) 5 (oi (A.2.2.1 + 1))) (w + 10) 6 ||| oi k)) (w + 10) 7 (mI (sI (sI τ (w + 10) 5 (oi (A.2.2.1 + 1))) (w + 10) 6 (mI (sI τ (w + 10) 5 (oi (A.2.2.1 + 1))) (w + 10) 6 ||| oi k)) (w + 10) 7 &&& oi k)) (by omega) (by omega) (by
              rw [e9]
              refine ⟨?_, ?_, ?_, ?_⟩
              · rw [mI_sI, if_neg (by omega), mI_sI, if_neg (by omega), mI_sI, if_neg (by omega)]; exact m1
              · rw [mI_sI, if_neg (by omega), mI_sI, if_neg (by omega), mI_at]
              · rw [mI_sI, if_neg (by omega), mI_at, mI_sI, if_neg (by omega), m3]
              · rw [mI_at, mI_sI, if_neg (by omega), mI_sI, if_neg (by omega), m4]) (by rw [e9]; exact h4) (fr_I (fr_I (fr_I h5 rfl) rfl) rfl)
            rw [e9] at this
            exact this
          · have e9 : ofd (sMs Z s) (7, 0, 0, 0, 0) (k + 1) = (A.1, A.2.1, A.2.2.1 + 1, A.2.2.2.1, A.2.2.2.2) := by rw [es]; unfold sMs; rw [ec, if_pos rfl, if_neg c1, if_neg c2]
            rw [if_neg c2, oi_succ]
            have := ih (k + 1) m (sI τ (w + 10) 5 (oi (A.2.2.1 + 1))) (by omega) (by omega) (by
              rw [e9]
              refine ⟨?_, ?_, ?_, ?_⟩
              · rw [mI_sI, if_neg (by omega)]; exact m1
              · exact mI_at
              · rw [mI_sI, if_neg (by omega)]; exact m3
              · rw [mI_sI, if_neg (by omega)]; exact m4) (by rw [e9]; exact h4) (fr_I h5 rfl)
            rw [e9] at this
            exact this
  obtain ⟨τ1, t1, t2, t3⟩ := go (2 ^ nn (R 3)) 0 oF (sI (sI (sI (sI σ1 (w + 10) 4 0) (w + 10) 5 0) (w + 10) 6 0) (w + 10) 7 0) (Nat.zero_add _) (by unfold oF; omega) (by
    refine ⟨?_, ?_, ?_, ?_⟩
    · rw [mI_sI, if_neg (by omega), mI_sI, if_neg (by omega), mI_sI, if_neg (by omega), mI_at]; rfl
    · rw [mI_sI, if_neg (by omega), mI_sI, if_neg (by omega), mI_at]; rfl
    · rw [mI_sI, if_neg (by omega), mI_at]; rfl
    · rw [mI_at]; rfl) (by show (7 : Nat) ≤ 7; omega) (fr_I (fr_I (fr_I (fr_I (fr_rfl _ _ _) rfl) rfl) rfl) rfl)
  refine ⟨τ1, ?_, t2, fr_tr e3' (fr_mono (fun _ _ q => q) (fun _ q => q.elim) t3)⟩
  unfold fX3_findLiars
  rw [e1, obv_s]
  exact t1
end
