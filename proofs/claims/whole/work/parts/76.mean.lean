/-! the mean, as the other finds it -/
section
variable {R : Nat → Int32} {Z : Nat → Int64} {s : Nat → Int32} {g Q : Nat} {B : Int64}
def QM (τ : OM) (R : Nat → Int32) (Z : Nat → Int64) (g Q : Nat) (B : Int64) : Prop := ∀ pl, pl < 3 ^ Q → mL τ 92 pl = -1 ∨ mL τ 92 pl = ol (vl (Wv R Z g Q true (sO Z B Q pl)))
def is92 : Nat → Prop := fun a => a = 92
def MO (R : Nat → Int32) (Z : Nat → Int64) (s : Nat → Int32) (g Q : Nat) (B : Int64) (rc : Int32 → Int64 → OM → Option (Int64 × OM)) (n : Nat) : Prop := ∀ (τ : OM) (pl : Nat), RR τ R Z s g Q → QM τ R Z g Q B → pl < 3 ^ Q → tc Z g Q (sO Z B Q pl) < n → ∃ τ', rc (oi pl) (sO Z B Q pl) τ = some (ol (vl (Wv R Z g Q true (sO Z B Q pl))), τ') ∧ QM τ' R Z g Q B ∧ Fr noI is92 τ τ'
theorem vl_le (hb : ∀ x, sWt R x ≤ 34012224) (X : Int64) : vl (Wv R Z g Q true X) ≤ 1125899906842624 := by
  cases h : Wv R Z g Q true X with
  | none => exact Nat.le_refl _
  | some v => have := Wv_le hb h; show v ≤ 1125899906842624; omega
theorem kid_me (hb : ∀ x, sWt R x ≤ 34012224) {X : Int64} {q u : Nat} (h : kid R Z g Q true X q = some u) : u ≤ 544195584 := by
  unfold kid at h
  cases ht : tel Z g X q
  · rw [ht] at h; cases h
  · rw [ht, if_pos rfl] at h
    cases w1 : Wv R Z g Q true (X &&& Z q) with
    | none => rw [w1] at h; cases h
    | some a1 =>
      cases w0 : Wv R Z g Q true (X &&& (Z q ^^^ (-1))) with
      | none => rw [w1, w0] at h; cases h
      | some a0 =>
        rw [w1, w0] at h
        have hv' : a1 + a0 = u := Option.some.inj h
        have := Wv_le hb w1
        have := Wv_le hb w0
        omega
theorem mean_go (hb : ∀ x, sWt R x ≤ 34012224) : ∀ n, MO R Z s g Q B (fX10_meanOf n) n := by
  intro n
  induction n with
  | zero => intro τ pl _ _ _ h; omega
  | succ n ih =>
    intro τ pl h hF hpl hn
    have h0 := h
    obtain ⟨h1, h2, h3, h4, h5, h6, hQ8, hg⟩ := h
    have p8 := p3_8 hQ8
    have kids : ∀ (υ : OM) (q : Nat), RR υ R Z s g Q → QM υ R Z g Q B → q < Q → tel Z g (sO Z B Q pl) q = true → ∃ υ1 υ2, fX10_meanOf n (oi pl + oi (3 ^ q)) (sO Z B Q pl &&& Z q) υ = some (ol (vl (Wv R Z g Q true (sO Z B Q pl &&& Z q))), υ1) ∧ RR υ1 R Z s g Q ∧ fX10_meanOf n (oi pl + (2 : Int32) * oi (3 ^ q)) (sO Z B Q pl &&& (Z q ^^^ (-1))) υ1 = some (ol (vl (Wv R Z g Q true (sO Z B Q pl &&& (Z q ^^^ (-1))))), υ2) ∧ RR υ2 R Z s g Q ∧ QM υ2 R Z g Q B ∧ Fr noI is92 υ υ2 := by
      intro υ q a1 a2 a3 ht
      have hd : dg q pl = 0 := by
        apply Classical.byContradiction
        intro hh
        rcases sO_dead Z B a3 hh with e | e
        · exact (tel_iff.mp ht).2.1 e
        · exact (tel_iff.mp ht).2.2 e
      obtain ⟨s1, s0⟩ := sO_step Z B a3 hd
      have b1 := dg_bd (c := 1) hpl a3 hd (by omega)
      have b0 := dg_bd (c := 2) hpl a3 hd (by omega)
      have t1 := tc_1 a3 ht
      have t0 := tc_0 a3 ht
      obtain ⟨υ1, f1, f2, f3⟩ := ih υ (pl + 1 * 3 ^ q) a1 a2 b1 (by rw [s1]; omega)
      have hR1 := RR_fr f3 (fun _ _ q => q.elim) (fun _ q => q) a1
      obtain ⟨υ2, g1, g2, g3⟩ := ih υ1 (pl + 2 * 3 ^ q) hR1 f2 b0 (by rw [s0]; omega)
      have hR2 := RR_fr g3 (fun _ _ q => q.elim) (fun _ q => q) hR1
      rw [s1] at f1
      rw [s0] at g1
      refine ⟨υ1, υ2, ?_, hR1, ?_, hR2, g2, fr_tr f3 g3⟩
      · rw [show oi pl + oi (3 ^ q) = oi (pl + 1 * 3 ^ q) by rw [oi_add, Nat.one_mul]]; exact f1
      · rw [show oi pl + (2 : Int32) * oi (3 ^ q) = oi (pl + 2 * 3 ^ q) by rw [lt2, oi_mul, oi_add]]; exact g1
    show ∃ τ', fX10_meanOf_s (fX10_meanOf n) (oi pl) (sO Z B Q pl) τ = some (_, τ') ∧ _
    unfold fX10_meanOf_s
    rw [h5, ogi (by omega) (by omega), oi_nat (by omega), h3, answerBy_eq, obi_s]
    generalize hXe : sO Z B Q pl = X at *
    by_cases hk : sBy X (Z g) = -2
    · rw [if_pos hk, ogi (by omega) (by omega), oi_nat (by omega)]
      have hWe := Wv_eq (R := R) (Z := Z) (g := g) (b := true) hQ8 X
      rw [if_pos hk, if_pos rfl, oa_fold] at hWe
      have lw := hb X
      rcases hF pl hpl with hm | hm
      · rw [hm, if_pos (by decide)]
        have accb : ∀ k, vl (ofd (fun q acc => om acc (oa (sWt R X) (kid R Z g Q true X q))) none k) ≤ 1125899906842624 := by
          intro k
          cases hacc : ofd (fun q acc => om acc (oa (sWt R X) (kid R Z g Q true X q))) none k with
          | none => exact Nat.le_refl _
          | some v =>
            obtain ⟨⟨q, -, hq⟩, -⟩ := (om_fold (f := fun q => oa (sWt R X) (kid R Z g Q true X q)) k).2 v hacc
            have hq' : oa (sWt R X) (kid R Z g Q true X q) = some v := hq
            cases hkk : kid R Z g Q true X q with
            | none => rw [hkk] at hq'; cases hq'
            | some u =>
              rw [hkk] at hq'
              have hv : u + sWt R X = v := Option.some.inj hq'
              have := kid_me hb hkk
              show v ≤ 1125899906842624
              omega
        have loop : ∀ d k m (υ : OM), k + d = Q → d < m → RR υ R Z s g Q → QM υ R Z g Q B → Fr noI is92 τ υ → ∃ υ1, fX10_meanOf_b46 (fX10_meanOf n) m (oi pl) X (ol (vl (ofd (fun q acc => om acc (oa (sWt R X) (kid R Z g Q true X q))) none k))) (oi k) υ = fX10_meanOf_b148 (fX10_meanOf n) (oi pl) (ol (vl (ofd (fun q acc => om acc (oa (sWt R X) (kid R Z g Q true X q))) none Q))) υ1 ∧ QM υ1 R Z g Q B ∧ Fr noI is92 τ υ1 := by
          intro d
          induction d with
          | zero =>
            intro k m υ e1 e2 e3 e4 e5
            obtain ⟨m, rfl⟩ : ∃ m', m = m' + 1 := ⟨m - 1, by omega⟩
            have hkq : k = Q := by omega
            have e85 : R 5 = oi (nn (R 5)) := by have := e3.1.2.1.1.2.2.2.2.1.1; rw [e3.2.1] at this; exact this
            rw [fX10_meanOf_b46, e3.2.1, e85, e3.2.2.2.2.2.1, if_pos ((oi_le (by omega) (by omega)).mpr (by omega)), hkq]
            exact ⟨υ, rfl, e4, e5⟩
          | succ d ihd =>
            intro k m υ e1 e2 e3 e4 e5
            obtain ⟨m, rfl⟩ : ∃ m', m = m' + 1 := ⟨m - 1, by omega⟩
            have e85 : R 5 = oi (nn (R 5)) := by have := e3.1.2.1.1.2.2.2.2.1.1; rw [e3.2.1] at this; exact this
            have es : ofd (fun q acc => om acc (oa (sWt R X) (kid R Z g Q true X q))) none (k + 1) = om (ofd (fun q acc => om acc (oa (sWt R X) (kid R Z g Q true X q))) none k) (oa (sWt R X) (kid R Z g Q true X k)) := rfl
            rw [fX10_meanOf_b46, e3.2.1, e85, e3.2.2.2.2.2.1, if_neg (by rw [oi_le (by omega) (by omega)]; omega), tell_r e3 (show k < Q by omega) X, obi_s]
            cases ht : tel Z g X k
            · rw [if_pos (by decide), oi_succ]
              have ek : kid R Z g Q true X k = none := by unfold kid; rw [ht]; rfl
              have := ihd (k + 1) m υ (by omega) (by omega) e3 e4 e5
              rw [es, ek, show oa (sWt R X) none = none from rfl, om_none] at this
              exact this
            · obtain ⟨υ1, υ2, f1, f2, f3, f4, f5, f6⟩ := kids υ k e3 e4 (by omega) ht
              have la := accb k
              have l1 := vl_le (Z := Z) (g := g) (Q := Q) hb (X &&& Z k)
              have l0 := vl_le (Z := Z) (g := g) (Q := Q) hb (X &&& (Z k ^^^ (-1)))
              have wq : fX10_weight X υ = some (ol (sWt R X), υ) := by
                have := weight_eq (σ := υ) e3.1.2.1.1.1 e3.1.2.1.2.1 X
                rw [e3.2.1] at this; exact this
              have hk' : kid R Z g Q true X k = oc true (Wv R Z g Q true (X &&& Z k)) (Wv R Z g Q true (X &&& (Z k ^^^ (-1)))) := by unfold kid; rw [if_pos ht]
              have hmin : vl (ofd (fun q acc => om acc (oa (sWt R X) (kid R Z g Q true X q))) none (k + 1)) = if vl (ofd (fun q acc => om acc (oa (sWt R X) (kid R Z g Q true X q))) none k) ≤ sWt R X + vl (Wv R Z g Q true (X &&& Z k)) + vl (Wv R Z g Q true (X &&& (Z k ^^^ (-1)))) then vl (ofd (fun q acc => om acc (oa (sWt R X) (kid R Z g Q true X q))) none k) else sWt R X + vl (Wv R Z g Q true (X &&& Z k)) + vl (Wv R Z g Q true (X &&& (Z k ^^^ (-1)))) := by
                rw [es, hk']
                cases w1 : Wv R Z g Q true (X &&& Z k) with
                | none =>
                  rw [show oa (sWt R X) (oc true none (Wv R Z g Q true (X &&& (Z k ^^^ (-1))))) = none from rfl, om_none, if_pos (by show _ ≤ sWt R X + 1125899906842624 + _; omega)]
                | some a1 =>
                  cases w0 : Wv R Z g Q true (X &&& (Z k ^^^ (-1))) with
                  | none =>
                    rw [show oa (sWt R X) (oc true (some a1) none) = none from rfl, om_none, if_pos (by show _ ≤ sWt R X + a1 + 1125899906842624; omega)]
                  | some a0 =>
                    have m1 := Wv_le hb w1
                    have m0 := Wv_le hb w0
                    show vl (om _ (some (a1 + a0 + sWt R X))) = if _ ≤ sWt R X + a1 + a0 then _ else sWt R X + a1 + a0
                    cases hA : ofd (fun q acc => om acc (oa (sWt R X) (kid R Z g Q true X q))) none k with
                    | none =>
                      show a1 + a0 + sWt R X = if 1125899906842624 ≤ sWt R X + a1 + a0 then _ else sWt R X + a1 + a0
                      rw [if_neg (by omega)]; omega
                    | some x =>
                      show Nat.min x (a1 + a0 + sWt R X) = if x ≤ sWt R X + a1 + a0 then x else sWt R X + a1 + a0
                      by_cases e : x ≤ sWt R X + a1 + a0
                      · rw [if_pos e, show Nat.min x (a1 + a0 + sWt R X) = x from Nat.min_eq_left (by omega)]
                      · rw [if_neg e, show Nat.min x (a1 + a0 + sWt R X) = a1 + a0 + sWt R X from Nat.min_eq_right (by omega)]; omega
              rw [if_neg (by decide), wq, obi_s, third_eq (by omega), obi_s, ogi (by omega) (by omega), oi_nat (by omega), e3.2.2.1, f1, obi_s, third_eq (by omega), obi_s, ogi (by omega) (by omega), f2.2.2.1, f3, obi_s, ol_add, ol_add, ite_iff ((cmp_ge _ _).trans (ol_le (by omega) (by omega))), oi_succ]
              have nx := ihd (k + 1) m υ2 (by omega) (by omega) f4 f5 (fr_tr e5 f6)
              rw [hmin] at nx
              by_cases c : vl (ofd (fun q acc => om acc (oa (sWt R X) (kid R Z g Q true X q))) none k) ≤ sWt R X + vl (Wv R Z g Q true (X &&& Z k)) + vl (Wv R Z g Q true (X &&& (Z k ^^^ (-1))))
              · rw [if_pos c] at nx ⊢; exact nx
              · rw [if_neg c] at nx ⊢; exact nx
        obtain ⟨υ1, t1, t2, t3⟩ := loop Q 0 oF τ (Nat.zero_add _) (by unfold oF; omega) h0 hF (fr_rfl _ _ _)
        have t1' : fX10_meanOf_b46 (fX10_meanOf n) oF (oi pl) X 1125899906842624 0 τ = _ := t1
        rw [t1']
        unfold fX10_meanOf_b148
        rw [ogi (by omega) (by omega), oi_nat (by omega), ← hWe]
        refine ⟨_, rfl, fun pl' hpl' => ?_, fr_L t3 rfl⟩
        rw [mL_sL]
        by_cases e : pl' = pl
        · rw [if_pos ⟨rfl, e⟩, e, hXe]; exact Or.inr rfl
        · rw [if_neg (fun q => e q.2)]; exact t2 pl' hpl'
      · rw [hXe] at hm
        have lv := vl_le (Z := Z) (g := g) (Q := Q) hb X
        rw [hm, if_neg (by rw [cmp_lt]; show ¬ ol _ < ol 0; rw [ol_lt (by omega) (by omega)]; omega), ogi (by omega) (by omega)]
        exact ⟨τ, rfl, hF, fr_rfl _ _ _⟩
    · rw [if_neg hk]
      have hW : Wv R Z g Q true X = some 0 := by rw [Wv_eq hQ8, if_neg hk]
      rw [hW]
      exact ⟨τ, rfl, hF, fr_rfl _ _ _⟩
end
/-- a clean table -/
def lP : Nat → Nat → Prop := fun a j => (a = 81 ∧ j = 28) ∨ a = 91
theorem lay_eq (τ : OM) (x : Int32) : ∃ τ1, fX10_layPlans x τ = some τ1 ∧ mI τ1 81 28 = x ∧ (∀ j, j < 6561 → mI τ1 91 j = -1 ∧ mL τ1 92 j = -1) ∧ Fr lP is92 τ τ1 := by
  have go : ∀ d k m (υ : OM), k + d = 6561 → d < m → mI υ 81 28 = x → (∀ j, j < k → mI υ 91 j = -1 ∧ mL υ 92 j = -1) → Fr lP is92 τ υ → ∃ τ1, fX10_layPlans_b7 m (oi k) υ = some τ1 ∧ mI τ1 81 28 = x ∧ (∀ j, j < 6561 → mI τ1 91 j = -1 ∧ mL τ1 92 j = -1) ∧ Fr lP is92 τ τ1 := by
    intro d
    induction d with
    | zero =>
      intro k m υ h1 h2 h3 h4 h5
      obtain ⟨m, rfl⟩ : ∃ m', m = m' + 1 := ⟨m - 1, by omega⟩
      have hk : k = 6561 := by omega
      subst hk
      rw [fX10_layPlans_b7, if_pos (by decide)]
      exact ⟨υ, rfl, h3, h4, h5⟩
    | succ d ih =>
      intro k m υ h1 h2 h3 h4 h5
      obtain ⟨m, rfl⟩ : ∃ m', m = m' + 1 := ⟨m - 1, by omega⟩
      rw [fX10_layPlans_b7, show (6561 : Int32) = oi 6561 from rfl, if_neg (by rw [oi_le (by omega) (by omega)]; omega), ogi (by omega) (by omega), ogi (by omega) (by omega), oi_nat (by omega), oi_succ]
      refine ih (k + 1) m _ (by omega) (by omega) ?_ (fun j hj => ?_) (fr_L (fr_I h5 (by unfold lP; omega)) rfl)
      · show mI (sI υ 91 k (-1)) 81 28 = x
        rw [mI_sI, if_neg (by omega)]; exact h3
      · show mI (sI υ 91 k (-1)) 91 j = -1 ∧ mL (sL (sI υ 91 k (-1)) 92 k (-1)) 92 j = -1
        rw [mI_sI, mL_sL]
        by_cases e : j = k
        · rw [if_pos ⟨rfl, e⟩, if_pos ⟨rfl, e⟩]; exact ⟨rfl, rfl⟩
        · rw [if_neg (fun q => e q.2), if_neg (fun q => e q.2)]; exact h4 j (by omega)
  unfold fX10_layPlans
  exact go 6561 0 oF (sI τ 81 28 x) (Nat.zero_add _) (by unfold oF; omega) mI_at (fun j hj => absurd hj (by omega)) (fr_I (fr_rfl _ _ _) (by unfold lP; omega))
theorem plan_fin {n : Nat} {σ τ σ2 : OM} {t : Int32} {p : Nat} (hi : Inv n σ) (he : Eqv σ τ) (h9 : mI τ 56 9 = oi (p + 1)) (h60 : ∀ j, j < 2187 → ∃ a, a ≤ p + 1 ∧ mI τ 60 j = oi a) (hpn : p ≤ n) (e2 : Eqv (sI τ 0 9 t) σ2) (k60 : ∀ j, mI σ2 60 j = mI τ 60 j) (k56 : mI σ2 56 9 = mI τ 56 9) (k0 : mI σ2 0 9 = t) (k81 : mI σ2 81 11 = t) (ht : t ≠ 4) : Inv (n + 1) σ2 ∧ mR (sI τ 0 9 t) 96 0 = mR σ 96 0 ∧ mR σ2 96 0 = mR (sI τ 0 9 t) 96 0 := by
  have e1 : Eqv σ σ2 := eqv_tr (eqv_I he (by unfold scr; omega) t) e2
  refine ⟨⟨Core_eqv e1 hi.1, ⟨p + 1, by omega, by rw [k56]; exact h9, fun j hj => by rw [k60]; exact h60 j hj⟩, ⟨by rw [k0, k81], fun q => absurd (by rw [k0] at q; exact q) ht⟩, ?_⟩, he.2.2 96 0 (by omega), e2.2.2 96 0 (by omega)⟩
  rw [e1.2.2 96 0 (by omega)]
  have := hi.2.2.2
  omega
theorem fr_eqv {P : Nat → Nat → Prop} {L : Nat → Prop} {σ τ : OM} (h : Fr P L σ τ) (hP : ∀ a j, P a j → scr a j) (hL : ∀ a, L a → scl a) : Eqv σ τ := ⟨fun a j q => h.1 a j (fun e => q (hP a j e)), fun a j q => h.2.1 a j (fun e => q (hL a e)), fun a j _ => by rw [h.2.2]⟩
/-- the plan's own steps of the reference, from a memory that holds the rows -/
theorem layF {υ : OM} (h : RB υ) {g : Nat} (hg : g < nn (mI υ 84 5)) (X : Int64) : ∃ υ1 υ2, fX10_layPlans (oi g) υ = some υ1 ∧ fX10_fewestOf oP 0 X υ1 = some (oi (vo (Wv (mI υ 84) (mL υ 86) g (nn (mI υ 84 5)) false X)), υ2) ∧ RR υ2 (mI υ 84) (mL υ 86) (mI υ 88) g (nn (mI υ 84 5)) ∧ QF υ2 (mI υ 84) (mL υ 86) g (nn (mI υ 84 5)) X ∧ Fr lP is92 υ υ2 := by
  have hQ8 := h.2.1.1.2.2.2.2.1.2
  obtain ⟨υ1, e1, e2, e3, e4⟩ := lay_eq υ (oi g)
  have r84 : mI υ1 84 = mI υ 84 := funext fun j => e4.1 84 j (by unfold lP; omega)
  have r88 : mI υ1 88 = mI υ 88 := funext fun j => e4.1 88 j (by unfold lP; omega)
  have r86 : mL υ1 86 = mL υ 86 := funext fun j => e4.2.1 86 j (by unfold is92; omega)
  have hRR : RR υ1 (mI υ 84) (mL υ 86) (mI υ 88) g (nn (mI υ 84 5)) := by
    refine ⟨?_, r84, r86, r88, e2, rfl, hQ8, hg⟩
    unfold RB
    rw [r84, r86, r88, e4.1 81 14 (by unfold lP; omega)]; exact h
  have p8 := p3_8 hQ8
  have hQF : QF υ1 (mI υ 84) (mL υ 86) g (nn (mI υ 84 5)) X := fun pl hpl => Or.inl (e3 pl (by omega)).1
  have tl := tc_le (Z := mL υ 86) hg X
  obtain ⟨υ2, f1, f2, f3⟩ := fewest_go (R := mI υ 84) (Z := mL υ 86) (s := mI υ 88) (B := X) (wt_le h.2.1) oP υ1 0 hRR hQF (p3 _) (by rw [sO_0]; unfold oP; omega)
  rw [sO_0] at f1
  exact ⟨υ1, υ2, e1, f1, RR_fr f3 (fun _ _ q => q) (fun _ q => q.elim) hRR, f2, fr_tr e4 (fr_mono (fun a j q => by unfold lP; omega) (fun _ q => q.elim) f3)⟩
theorem layM {υ : OM} (h : RB υ) {g : Nat} (hg : g < nn (mI υ 84 5)) (X : Int64) : ∃ υ1 υ2, fX10_layPlans (oi g) υ = some υ1 ∧ fX10_meanOf oP 0 X υ1 = some (ol (vl (Wv (mI υ 84) (mL υ 86) g (nn (mI υ 84 5)) true X)), υ2) ∧ RR υ2 (mI υ 84) (mL υ 86) (mI υ 88) g (nn (mI υ 84 5)) ∧ Fr lP is92 υ υ2 := by
  have hQ8 := h.2.1.1.2.2.2.2.1.2
  obtain ⟨υ1, e1, e2, e3, e4⟩ := lay_eq υ (oi g)
  have r84 : mI υ1 84 = mI υ 84 := funext fun j => e4.1 84 j (by unfold lP; omega)
  have r88 : mI υ1 88 = mI υ 88 := funext fun j => e4.1 88 j (by unfold lP; omega)
  have r86 : mL υ1 86 = mL υ 86 := funext fun j => e4.2.1 86 j (by unfold is92; omega)
  have hRR : RR υ1 (mI υ 84) (mL υ 86) (mI υ 88) g (nn (mI υ 84 5)) := by
    refine ⟨?_, r84, r86, r88, e2, rfl, hQ8, hg⟩
    unfold RB
    rw [r84, r86, r88, e4.1 81 14 (by unfold lP; omega)]; exact h
  have p8 := p3_8 hQ8
  have hQM : QM υ1 (mI υ 84) (mL υ 86) g (nn (mI υ 84 5)) X := fun pl hpl => Or.inl (e3 pl (by omega)).2
  have tl := tc_le (Z := mL υ 86) hg X
  obtain ⟨υ2, f1, f2, f3⟩ := mean_go (R := mI υ 84) (Z := mL υ 86) (s := mI υ 88) (B := X) (wt_le h.2.1) oP υ1 0 hRR hQM (p3 _) (by rw [sO_0]; unfold oP; omega)
  rw [sO_0] at f1
  exact ⟨υ1, υ2, e1, f1, RR_fr f3 (fun _ _ q => q.elim) (fun _ q => q) hRR, fr_tr e4 (fr_mono (fun a j q => q.elim) (fun _ q => q) f3)⟩
