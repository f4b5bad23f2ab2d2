/-! the plan as the other makes it -/
theorem third_eq {q : Nat} (hq : q < 9) (σ : OM) : fX10_third (oi q) σ = some (oi (3 ^ q), σ) := by
  unfold fX10_third
  refine (lup0 (g := fun f v k => fX10_third_b4 f (oi q) (oi v) (oi k) σ) (a := 1) (step := fun _ v => v * 3) (fin := fun v => some (oi v, σ)) (n := q) ?_ ?_ oF (by unfold oF; omega)).trans ?_
  · intro f v k hk
    show fX10_third_b4 (f + 1) (oi q) (oi v) (oi k) σ = fX10_third_b4 f (oi q) (oi (v * 3)) (oi (k + 1)) σ
    rw [fX10_third_b4, if_neg (by rw [oi_le (by omega) (by omega)]; omega), lt3, oi_mul, oi_succ]
  · intro f v
    show fX10_third_b4 (f + 1) (oi q) (oi v) (oi q) σ = _
    rw [fX10_third_b4, if_pos ((oi_le (by omega) (by omega)).mpr (Nat.le_refl _))]
  · have e : ∀ n, ofd (fun _ v => v * 3) 1 n = 3 ^ n := by
      intro n
      induction n with
      | zero => rfl
      | succ n ih => show ofd (fun _ v => v * 3) 1 n * 3 = _; rw [ih, Nat.pow_succ]
    rw [e]
theorem oa_fold (f : Nat → Option Nat) (d : Nat) : ∀ n, oa d (ofd (fun q acc => om acc (f q)) none n) = ofd (fun q acc => om acc (oa d (f q))) none n
  | 0 => rfl
  | n + 1 => by
    show oa d (om (ofd (fun q acc => om acc (f q)) none n) (f n)) = om (ofd (fun q acc => om acc (oa d (f q))) none n) (oa d (f n))
    rw [← oa_fold f d n]
    cases ofd (fun q acc => om acc (f q)) none n with
    | none => rfl
    | some x =>
      cases f n with
      | none => rfl
      | some y =>
        show some (Nat.min x y + d) = some (Nat.min (x + d) (y + d))
        rw [show Nat.min (x + d) (y + d) = Nat.min x y + d from by
          rcases Nat.le_total x y with h | h
          · rw [show Nat.min x y = x from Nat.min_eq_left h, show Nat.min (x + d) (y + d) = x + d from Nat.min_eq_left (by omega)]
          · rw [show Nat.min x y = y from Nat.min_eq_right h, show Nat.min (x + d) (y + d) = y + d from Nat.min_eq_right (by omega)]]
def vo (a : Option Nat) : Nat := match a with
  | none => 1000000
  | some v => v
def vl (a : Option Nat) : Nat := match a with
  | none => 1125899906842624
  | some v => v
section
variable {R : Nat → Int32} {Z : Nat → Int64} {s : Nat → Int32} {g Q : Nat} {B : Int64}
def RR (τ : OM) (R : Nat → Int32) (Z : Nat → Int64) (s : Nat → Int32) (g Q : Nat) : Prop := RB τ ∧ mI τ 84 = R ∧ mL τ 86 = Z ∧ mI τ 88 = s ∧ mI τ 81 28 = oi g ∧ nn (R 5) = Q ∧ Q ≤ 8 ∧ g < Q
theorem RR_fr {P : Nat → Nat → Prop} {L : Nat → Prop} {τ τ1 : OM} (hf : Fr P L τ τ1) (hP : ∀ a j, P a j → a = 91) (hL : ∀ a, L a → a = 92) (h : RR τ R Z s g Q) : RR τ1 R Z s g Q := by
  obtain ⟨h1, h2, h3, h4, h5, h6⟩ := h
  have e84 : mI τ1 84 = mI τ 84 := funext fun j => hf.1 84 j (fun q => by have := hP _ _ q; omega)
  have e88 : mI τ1 88 = mI τ 88 := funext fun j => hf.1 88 j (fun q => by have := hP _ _ q; omega)
  have e86 : mL τ1 86 = mL τ 86 := funext fun j => hf.2.1 86 j (fun q => by have := hL _ q; omega)
  refine ⟨?_, e84.trans h2, e86.trans h3, e88.trans h4, ?_, h6⟩
  · unfold RB
    rw [e84, e88, e86, hf.1 81 14 (fun q => by have := hP _ _ q; omega)]; exact h1
  · rw [hf.1 81 28 (fun q => by have := hP _ _ q; omega)]; exact h5
theorem tell_r {τ : OM} (h : RR τ R Z s g Q) {q : Nat} (hq : q < Q) (X : Int64) : fX10_doesTell X (oi q) τ = some (b2 (tel Z g X q), τ) := by
  obtain ⟨-, -, h3, -, h5, -, hQ, hg⟩ := h
  unfold fX10_doesTell
  rw [h5, h3]
  by_cases e : q = g
  · rw [if_pos (by rw [e])]
    unfold tel
    rw [decide_eq_false (fun h => h e)]; rfl
  · rw [if_neg (by rw [oi_inj (by omega) (by omega)]; exact e), ogi (by omega) (by omega), ogi (by omega) (by omega), oi_nat (by omega)]
    simp only [cmp_eq]
    unfold tel
    rw [decide_eq_true e]
    by_cases c1 : X &&& Z q = 0
    · rw [if_pos c1, decide_eq_false (fun h => h c1)]; rfl
    · rw [if_neg c1, decide_eq_true c1]
      by_cases c0 : X &&& (Z q ^^^ (-1)) = 0
      · rw [if_pos c0, decide_eq_false (fun h => h c0)]; rfl
      · rw [if_neg c0, decide_eq_true c0]; rfl
theorem p3_8 {q : Nat} (h : q ≤ 8) : 3 ^ q ≤ 6561 := Nat.pow_le_pow_right (by decide : 3 > 0) h
theorem Wv_fe {X : Int64} {v : Nat} (hb : ∀ x, sWt R x ≤ 34012224) (h : Wv R Z g Q false X = some v) : v ≤ 8 := by
  have := pw_le (b := false) hb 8 X v h
  rw [if_neg (by decide)] at this; exact this
/-- memory of the fewest -/
def QF (τ : OM) (R : Nat → Int32) (Z : Nat → Int64) (g Q : Nat) (B : Int64) : Prop := ∀ pl, pl < 3 ^ Q → mI τ 91 pl = -1 ∨ mI τ 91 pl = oi (vo (Wv R Z g Q false (sO Z B Q pl)))
def FO (R : Nat → Int32) (Z : Nat → Int64) (s : Nat → Int32) (g Q : Nat) (B : Int64) (rc : Int32 → Int64 → OM → Option (Int32 × OM)) (n : Nat) : Prop := ∀ (τ : OM) (pl : Nat), RR τ R Z s g Q → QF τ R Z g Q B → pl < 3 ^ Q → tc Z g Q (sO Z B Q pl) < n → ∃ τ', rc (oi pl) (sO Z B Q pl) τ = some (oi (vo (Wv R Z g Q false (sO Z B Q pl))), τ') ∧ QF τ' R Z g Q B ∧ Fr (fun a _ => a = 91) noL τ τ'
theorem vo_le (hb : ∀ x, sWt R x ≤ 34012224) (X : Int64) : vo (Wv R Z g Q false X) ≤ 1000000 := by
  cases h : Wv R Z g Q false X with
  | none => exact Nat.le_refl _
  | some v => have := Wv_fe hb h; show v ≤ 1000000; omega
theorem ask_val (a1 a0 : Option Nat) (h1 : ∀ v, a1 = some v → v ≤ 8) (h0 : ∀ v, a0 = some v → v ≤ 8) (τ : OM) : (if oi (vo a1) ≤ oi (vo a0) then (if oi (vo a0) < (1000000 : Int32) then some (oi (vo a0) + (1 : Int32), τ) else some ((1000000 : Int32), τ)) else (if oi (vo a1) < (1000000 : Int32) then some (oi (vo a1) + (1 : Int32), τ) else some ((1000000 : Int32), τ))) = some (oi (vo (oa 1 (oc false a1 a0))), τ) := by
  cases a1 with
  | none =>
    cases a0 with
    | none => rw [if_pos (show oi (vo none) ≤ oi (vo none) by decide), if_neg (by decide)]; rfl
    | some c =>
      have l := h0 c rfl
      show (if oi 1000000 ≤ oi c then _ else (if oi 1000000 < (1000000 : Int32) then _ else _)) = _
      rw [if_neg (by rw [oi_le (by omega) (by omega)]; omega), if_neg (by decide)]; rfl
  | some a =>
    have l1 := h1 a rfl
    cases a0 with
    | none =>
      show (if oi a ≤ oi 1000000 then (if oi 1000000 < (1000000 : Int32) then _ else _) else _) = _
      rw [if_pos (by rw [oi_le (by omega) (by omega)]; omega), if_neg (by decide)]; rfl
    | some c =>
      have l := h0 c rfl
      show (if oi a ≤ oi c then (if oi c < oi 1000000 then some (oi c + 1, τ) else _) else (if oi a < oi 1000000 then some (oi a + 1, τ) else _)) = some (oi (Nat.max a c + 1), τ)
      by_cases e : a ≤ c
      · rw [if_pos (by rw [oi_le (by omega) (by omega)]; omega), if_pos (by rw [oi_lt (by omega) (by omega)]; omega), oi_succ, show Nat.max a c = c from Nat.max_eq_right e]
      · rw [if_neg (by rw [oi_le (by omega) (by omega)]; omega), if_pos (by rw [oi_lt (by omega) (by omega)]; omega), oi_succ, show Nat.max a c = a from Nat.max_eq_left (by omega)]
theorem asking_r (hb : ∀ x, sWt R x ≤ 34012224) {rc : Int32 → Int64 → OM → Option (Int32 × OM)} {n : Nat} (hrc : FO R Z s g Q B rc n) {τ : OM} {pl q : Nat} (h : RR τ R Z s g Q) (hF : QF τ R Z g Q B) (hpl : pl < 3 ^ Q) (hq : q < Q) (ht : tel Z g (sO Z B Q pl) q = true) (hn : tc Z g Q (sO Z B Q pl) ≤ n) : ∃ τ', fX10_byAsking rc (oi pl) (sO Z B Q pl) (oi q) τ = some (oi (vo (oa 1 (kid R Z g Q false (sO Z B Q pl) q))), τ') ∧ RR τ' R Z s g Q ∧ QF τ' R Z g Q B ∧ Fr (fun a _ => a = 91) noL τ τ' := by
  obtain ⟨h1, h2, h3, h4, h5, h6, hQ8, hg⟩ := h
  have hd : dg q pl = 0 := by
    apply Classical.byContradiction
    intro hh
    rcases sO_dead Z B hq hh with e | e
    · exact (tel_iff.mp ht).2.1 e
    · exact (tel_iff.mp ht).2.2 e
  obtain ⟨s1, s0⟩ := sO_step Z B hq hd
  have b1 := dg_bd (c := 1) hpl hq hd (by omega)
  have b0 := dg_bd (c := 2) hpl hq hd (by omega)
  have t1 := tc_1 hq ht
  have t0 := tc_0 hq ht
  have p8 := p3_8 hQ8
  obtain ⟨τ1, f1, f2, f3⟩ := hrc τ (pl + 1 * 3 ^ q) ⟨h1, h2, h3, h4, h5, h6, hQ8, hg⟩ hF b1 (by rw [s1]; omega)
  have hR1 := RR_fr f3 (fun _ _ q => q) (fun _ q => q.elim) ⟨h1, h2, h3, h4, h5, h6, hQ8, hg⟩
  obtain ⟨τ2, g1, g2, g3⟩ := hrc τ1 (pl + 2 * 3 ^ q) hR1 f2 b0 (by rw [s0]; omega)
  have hR2 := RR_fr g3 (fun _ _ q => q) (fun _ q => q.elim) hR1
  rw [s1] at f1
  rw [s0] at g1
  have l1 := vo_le (Z := Z) (g := g) (Q := Q) hb (sO Z B Q pl &&& Z q)
  have l0 := vo_le (Z := Z) (g := g) (Q := Q) hb (sO Z B Q pl &&& (Z q ^^^ (-1)))
  unfold fX10_byAsking
  rw [third_eq (by omega), obi_s, ogi (by omega) (by omega), oi_nat (by omega), h3, show oi pl + oi (3 ^ q) = oi (pl + 1 * 3 ^ q) by rw [oi_add, Nat.one_mul], f1, obi_s, third_eq (by omega), obi_s, ogi (by omega) (by omega), hR1.2.2.1, show oi pl + (2 : Int32) * oi (3 ^ q) = oi (pl + 2 * 3 ^ q) by rw [lt2, oi_mul, oi_add], g1, obi_s]
  refine ⟨τ2, ?_, hR2, g2, fr_tr f3 g3⟩
  have hk : kid R Z g Q false (sO Z B Q pl) q = oc false (Wv R Z g Q false (sO Z B Q pl &&& Z q)) (Wv R Z g Q false (sO Z B Q pl &&& (Z q ^^^ (-1)))) := by unfold kid; rw [if_pos ht]
  rw [hk]
  exact ask_val _ _ (fun a h => Wv_fe hb h) (fun a h => Wv_fe hb h) τ2
theorem kid_fe (hb : ∀ x, sWt R x ≤ 34012224) {X : Int64} {q u : Nat} (h : kid R Z g Q false X q = some u) : u ≤ 8 := by
  unfold kid at h
  cases ht : tel Z g X q
  · rw [ht] at h; cases h
  · rw [ht, if_pos rfl] at h
    cases w1 : Wv R Z g Q false (X &&& Z q) with
    | none => rw [w1] at h; cases h
    | some a1 =>
      cases w0 : Wv R Z g Q false (X &&& (Z q ^^^ (-1))) with
      | none => rw [w1, w0] at h; cases h
      | some a0 =>
        rw [w1, w0] at h
        have hv' : Nat.max a1 a0 = u := Option.some.inj h
        rw [← hv']; exact Nat.max_le.mpr ⟨Wv_fe hb w1, Wv_fe hb w0⟩
theorem fewest_go (hb : ∀ x, sWt R x ≤ 34012224) : ∀ n, FO R Z s g Q B (fX10_fewestOf n) n := by
  intro n
  induction n with
  | zero => intro τ pl _ _ _ h; omega
  | succ n ih =>
    intro τ pl h hF hpl hn
    have h0 := h
    obtain ⟨h1, h2, h3, h4, h5, h6, hQ8, hg⟩ := h
    have p8 := p3_8 hQ8
    have hlo : tc Z g Q (sO Z B Q pl) ≤ n := by omega
    have ask := fun (υ : OM) (q : Nat) (a1 : RR υ R Z s g Q) (a2 : QF υ R Z g Q B) (a3 : q < Q) (a4 : tel Z g (sO Z B Q pl) q = true) => asking_r hb ih a1 a2 hpl a3 a4 hlo
    show ∃ τ', fX10_fewestOf_s (fX10_fewestOf n) (oi pl) (sO Z B Q pl) τ = some (_, τ') ∧ _
    unfold fX10_fewestOf_s
    rw [h5, ogi (by omega) (by omega), oi_nat (by omega), h3, answerBy_eq, obi_s]
    generalize hXe : sO Z B Q pl = X at *
    by_cases hk : sBy X (Z g) = -2
    · rw [if_pos hk, ogi (by omega) (by omega), oi_nat (by omega)]
      have hWe := Wv_eq (R := R) (Z := Z) (g := g) (b := false) hQ8 X
      rw [if_pos hk, if_neg (by decide), oa_fold] at hWe
      rcases hF pl hpl with hm | hm
      · rw [hm, if_pos (by decide)]
        have accb : ∀ k, vo (ofd (fun q acc => om acc (oa 1 (kid R Z g Q false X q))) none k) ≤ 1000000 := by
          intro k
          cases hacc : ofd (fun q acc => om acc (oa 1 (kid R Z g Q false X q))) none k with
          | none => exact Nat.le_refl _
          | some v =>
            obtain ⟨⟨q, -, hq⟩, -⟩ := (om_fold (f := fun q => oa 1 (kid R Z g Q false X q)) k).2 v hacc
            have hq' : oa 1 (kid R Z g Q false X q) = some v := hq
            cases hkk : kid R Z g Q false X q with
            | none => rw [hkk] at hq'; cases hq'
            | some u =>
              rw [hkk] at hq'
              have hv : u + 1 = v := Option.some.inj hq'
              have := kid_fe hb hkk
              show v ≤ 1000000
              omega
        have loop : ∀ d k m (υ : OM), k + d = Q → d < m → RR υ R Z s g Q → QF υ R Z g Q B → Fr (fun a _ => a = 91) noL τ υ → ∃ υ1, fX10_fewestOf_b44 (fX10_fewestOf n) m (oi pl) X (oi (vo (ofd (fun q acc => om acc (oa 1 (kid R Z g Q false X q))) none k))) (oi k) υ = fX10_fewestOf_b99 (fX10_fewestOf n) (oi pl) (oi (vo (ofd (fun q acc => om acc (oa 1 (kid R Z g Q false X q))) none Q))) υ1 ∧ QF υ1 R Z g Q B ∧ Fr (fun a _ => a = 91) noL τ υ1 := by
          intro d
          induction d with
          | zero =>
            intro k m υ e1 e2 e3 e4 e5
            obtain ⟨m, rfl⟩ : ∃ m', m = m' + 1 := ⟨m - 1, by omega⟩
            have hkq : k = Q := by omega
            rw [fX10_fewestOf_b44, e3.2.1, e3.1.2.1.1.2.2.2.2.1.1 |> fun e => (by rw [e3.2.1] at e; exact e : R 5 = oi (nn (R 5))), e3.2.2.2.2.2.1, if_pos ((oi_le (by omega) (by omega)).mpr (by omega)), hkq]
            exact ⟨υ, rfl, e4, e5⟩
          | succ d ihd =>
            intro k m υ e1 e2 e3 e4 e5
            obtain ⟨m, rfl⟩ : ∃ m', m = m' + 1 := ⟨m - 1, by omega⟩
            have es : ofd (fun q acc => om acc (oa 1 (kid R Z g Q false X q))) none (k + 1) = om (ofd (fun q acc => om acc (oa 1 (kid R Z g Q false X q))) none k) (oa 1 (kid R Z g Q false X k)) := rfl
            rw [fX10_fewestOf_b44, e3.2.1, e3.1.2.1.1.2.2.2.2.1.1 |> fun e => (by rw [e3.2.1] at e; exact e : R 5 = oi (nn (R 5))), e3.2.2.2.2.2.1, if_neg (by rw [oi_le (by omega) (by omega)]; omega), tell_r e3 (show k < Q by omega) X, obi_s]
            cases ht : tel Z g X k
            · rw [if_pos (by decide), oi_succ]
              have ek : kid R Z g Q false X k = none := by unfold kid; rw [ht]; rfl
              have := ihd (k + 1) m υ (by omega) (by omega) e3 e4 e5
              rw [es, ek, show oa 1 none = none from rfl, om_none] at this
              exact this
            · obtain ⟨υ1, f1, f2, f3, f4⟩ := ask υ k e3 e4 (by omega) ht
              obtain ⟨υ2, g1, g2, g3, g4⟩ := ask υ1 k f2 f3 (by omega) ht
              have la := accb k
              have lb : vo (oa 1 (kid R Z g Q false X k)) ≤ 1000000 := by
                cases hkk : kid R Z g Q false X k with
                | none => exact Nat.le_refl _
                | some u =>
                  have := kid_fe hb hkk
                  show u + 1 ≤ 1000000
                  omega
              have hmin : vo (ofd (fun q acc => om acc (oa 1 (kid R Z g Q false X q))) none (k + 1)) = if vo (ofd (fun q acc => om acc (oa 1 (kid R Z g Q false X q))) none k) ≤ vo (oa 1 (kid R Z g Q false X k)) then vo (ofd (fun q acc => om acc (oa 1 (kid R Z g Q false X q))) none k) else vo (oa 1 (kid R Z g Q false X k)) := by
                rw [es]
                cases hA : ofd (fun q acc => om acc (oa 1 (kid R Z g Q false X q))) none k with
                | none =>
                  show vo (oa 1 (kid R Z g Q false X k)) = if 1000000 ≤ vo (oa 1 (kid R Z g Q false X k)) then 1000000 else vo (oa 1 (kid R Z g Q false X k))
                  by_cases e : 1000000 ≤ vo (oa 1 (kid R Z g Q false X k))
                  · rw [if_pos e]; omega
                  · rw [if_neg e]
                | some x =>
                  rw [hA] at la
                  cases hK : oa 1 (kid R Z g Q false X k) with
                  | none =>
                    have la' : x ≤ 1000000 := la
                    show x = if x ≤ 1000000 then x else _
                    rw [if_pos la']
                  | some y =>
                    show Nat.min x y = if x ≤ y then x else y
                    rcases Nat.le_total x y with hh | hh
                    · rw [if_pos hh, show Nat.min x y = x from Nat.min_eq_left hh]
                    · rw [show Nat.min x y = y from Nat.min_eq_right hh]
                      by_cases e : x ≤ y
                      · rw [if_pos e]; omega
                      · rw [if_neg e]
              rw [if_neg (by decide), f1, obi_s, ite_iff (oi_le (by omega) (by omega)), oi_succ]
              by_cases c : vo (ofd (fun q acc => om acc (oa 1 (kid R Z g Q false X q))) none k) ≤ vo (oa 1 (kid R Z g Q false X k))
              · rw [if_pos c]
                have := ihd (k + 1) m υ1 (by omega) (by omega) f2 f3 (fr_tr e5 f4)
                rw [hmin, if_pos c] at this
                exact this
              · rw [if_neg c, g1, obi_s]
                have := ihd (k + 1) m υ2 (by omega) (by omega) g2 g3 (fr_tr e5 (fr_tr f4 g4))
                rw [hmin, if_neg c] at this
                exact this
        obtain ⟨υ1, t1, t2, t3⟩ := loop Q 0 oF τ (Nat.zero_add _) (by unfold oF; omega) h0 hF (fr_rfl _ _ _)
        have t1' : fX10_fewestOf_b44 (fX10_fewestOf n) oF (oi pl) X 1000000 0 τ = _ := t1
        rw [t1']
        unfold fX10_fewestOf_b99
        rw [ogi (by omega) (by omega), oi_nat (by omega), ← hWe]
        refine ⟨_, rfl, fun pl' hpl' => ?_, fr_I t3 rfl⟩
        rw [mI_sI]
        by_cases e : pl' = pl
        · rw [if_pos ⟨rfl, e⟩, e, hXe]; exact Or.inr rfl
        · rw [if_neg (fun q => e q.2)]; exact t2 pl' hpl'
      · rw [hXe] at hm
        have lv := vo_le (Z := Z) (g := g) (Q := Q) hb X
        rw [hm, if_neg (oi_nneg (by omega)), ogi (by omega) (by omega)]
        exact ⟨τ, rfl, hF, fr_rfl _ _ _⟩
    · rw [if_neg hk]
      have hW : Wv R Z g Q false X = some 0 := by rw [Wv_eq hQ8, if_neg hk]
      rw [hW]
      exact ⟨τ, rfl, hF, fr_rfl _ _ _⟩
end
