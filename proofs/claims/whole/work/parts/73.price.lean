/-! the plan as the first of the two makes it -/
def PC (σ : OM) (w : Nat) (R : Nat → Int32) (Z : Nat → Int64) (s : Nat → Int32) (g Q : Nat) (b : Bool) (B : Int64) (p : Nat) : Prop :=
  CX σ w R Z s ∧ (mR σ 56 0 = w + 1 ∧ mL σ 56 1 = mL σ (w + 3) g ∧ mI σ 56 2 = b2 b ∧ mL σ 56 3 = B) ∧
  ((∀ i, i < Q - 1 → mL σ 57 i = mL σ (w + 3) (num g i)) ∧ (∀ i, i < Q - 1 → mI σ 58 i = oi (num g i)) ∧ mI σ 56 6 = oi (Q - 1) ∧ mI σ 56 9 = oi p) ∧
  (mI σ 56 10 = 0 ∨ mI σ 56 10 = 1) ∧
  (∀ st, st < 3 ^ (Q - 1) → mI σ 60 st = oi p → ∃ v, mI σ 59 st = oi v ∧ Wv R Z g Q b (sO (fun i => Z (num g i)) B (Q - 1) st) = some v) ∧
  (∀ j, j < 2187 → ∃ a, a ≤ p ∧ mI σ 60 j = oi a)
def pP : Nat → Nat → Prop := fun a j => (a = 56 ∧ j = 10) ∨ a = 59 ∨ a = 60
theorem p3_le {m : Nat} (h : m ≤ 7) : 3 ^ m ≤ 2187 := Nat.pow_le_pow_right (by decide : 3 > 0) h
theorem cantv : (1000000000 : Int32) = oi 1000000000 := rfl
section
variable {w : Nat} {R : Nat → Int32} {Z : Nat → Int64} {s : Nat → Int32} {g Q : Nat} {b : Bool} {B : Int64} {p : Nat}
/-- what a call of priceOf does -/
def PO (w : Nat) (R : Nat → Int32) (Z : Nat → Int64) (s : Nat → Int32) (g Q : Nat) (b : Bool) (B : Int64) (p : Nat) (rc : Int64 → Int32 → Int32 → OM → Option (Int32 × OM)) (n : Nat) : Prop :=
  ∀ (σ : OM) (st asked : Nat), PC σ w R Z s g Q b B p → st < 3 ^ (Q - 1) → asked + tc Z g Q (sO (fun i => Z (num g i)) B (Q - 1) st) ≤ 7 → tc Z g Q (sO (fun i => Z (num g i)) B (Q - 1) st) < n →
    ∃ r σ', rc (sO (fun i => Z (num g i)) B (Q - 1) st) (oi st) (oi asked) σ = some (r, σ') ∧ PC σ' w R Z s g Q b B p ∧ Fr pP noL σ σ' ∧
      (mI σ 56 10 = 1 → σ' = σ ∧ (sBy (sO (fun i => Z (num g i)) B (Q - 1) st) (Z g) = -2 → r = oi 1000000000)) ∧
      (mI σ 56 10 = 0 → (∀ v, Wv R Z g Q b (sO (fun i => Z (num g i)) B (Q - 1) st) = some v → r = oi v ∧ mI σ' 56 10 = 0) ∧ (Wv R Z g Q b (sO (fun i => Z (num g i)) B (Q - 1) st) = none → r = oi 1000000000 ∧ mI σ' 56 10 = 1))
theorem hop_ne : (1 : Int32) ≠ 0 := by decide
theorem behind_go (hb : ∀ x, sWt R x ≤ 34012224) (hQ : nn (R 5) = Q) (hQ8 : Q ≤ 8) (hg : g < Q) (hB : B &&& Z 8 = B) {rc : Int64 → Int32 → Int32 → OM → Option (Int32 × OM)} {n : Nat} (hrc : PO w R Z s g Q b B p rc n) {σ : OM} {st asked i : Nat} (hP : PC σ w R Z s g Q b B p) (hst : st < 3 ^ (Q - 1)) (hi : i < Q - 1) (hask : asked + tc Z g Q (sO (fun i => Z (num g i)) B (Q - 1) st) ≤ 7) (hn : tc Z g Q (sO (fun i => Z (num g i)) B (Q - 1) st) ≤ n) :
    ∃ r σ', fX4_priceBehind rc (oi i) (sO (fun i => Z (num g i)) B (Q - 1) st) (oi (3 ^ i)) (oi st) (oi asked) σ = some (r, σ') ∧ PC σ' w R Z s g Q b B p ∧ Fr pP noL σ σ' ∧
      (mI σ 56 10 = 1 → r = oi 1000000000 ∧ mI σ' 56 10 = 1) ∧
      (mI σ 56 10 = 0 → (∀ v, kid R Z g Q b (sO (fun i => Z (num g i)) B (Q - 1) st) (num g i) = some v → r = oi v ∧ mI σ' 56 10 = 0) ∧ (kid R Z g Q b (sO (fun i => Z (num g i)) B (Q - 1) st) (num g i) = none → r = oi 1000000000 ∧ (tel Z g (sO (fun i => Z (num g i)) B (Q - 1) st) (num g i) = false → mI σ' 56 10 = 0) ∧ (tel Z g (sO (fun i => Z (num g i)) B (Q - 1) st) (num g i) = true → mI σ' 56 10 = 1))) := by
  have hm := p3_le (show Q - 1 ≤ 7 by omega)
  have hX := hP.1
  have hXs := sO_sub (so := fun i => Z (num g i)) hB (Q - 1) st
  have hnq : num g i < nn (R 5) := by rw [hQ]; exact num_lt hg hi
  have e57 : mL σ 57 i = mL σ (w + 3) (num g i) := hP.2.2.1.1 i hi
  have y1 : sO (fun i => Z (num g i)) B (Q - 1) st &&& mL σ 57 i = sO (fun i => Z (num g i)) B (Q - 1) st &&& Z (num g i) := by rw [e57]; exact x_and hX hXs hnq
  have y0 : sO (fun i => Z (num g i)) B (Q - 1) st &&& (mL σ 57 i ^^^ (-1)) = sO (fun i => Z (num g i)) B (Q - 1) st &&& (Z (num g i) ^^^ (-1)) := by
    rw [e57]
    exact z_and (fun j hj hb' => x_sn hX hnq j hj (sub_tb hXs hb'))
  have p3i : 3 ^ i ≤ 2187 := Nat.le_trans (Nat.pow_le_pow_right (by decide : 3 > 0) (show i ≤ Q - 1 by omega)) hm
  unfold fX4_priceBehind
  rw [if_neg (oi_nneg (by omega)), lt7, if_pos ((oi_lt (by omega) (by omega)).mpr (by omega)), ogi (by omega) (by omega), ogi (by omega) (by omega), oi_nat (by omega), y1, y0, cantv]
  simp only [cmp_eq]
  generalize hXe : sO (fun i => Z (num g i)) B (Q - 1) st = X at *
  have noT : tel Z g X (num g i) = false → kid R Z g Q b X (num g i) = none := fun h => by unfold kid; rw [h]; rfl
  have dead : tel Z g X (num g i) = false → ∃ r σ', (some (oi 1000000000, σ) : Option (Int32 × OM)) = some (r, σ') ∧ PC σ' w R Z s g Q b B p ∧ Fr pP noL σ σ' ∧ (mI σ 56 10 = 1 → r = oi 1000000000 ∧ mI σ' 56 10 = 1) ∧ (mI σ 56 10 = 0 → (∀ v, kid R Z g Q b X (num g i) = some v → r = oi v ∧ mI σ' 56 10 = 0) ∧ (kid R Z g Q b X (num g i) = none → r = oi 1000000000 ∧ (tel Z g X (num g i) = false → mI σ' 56 10 = 0) ∧ (tel Z g X (num g i) = true → mI σ' 56 10 = 1))) := by
    intro ht
    refine ⟨_, σ, rfl, hP, fr_rfl _ _ _, fun h => ⟨rfl, h⟩, fun h => ⟨fun v hv => ?_, fun _ => ⟨rfl, fun _ => h, fun h2 => by rw [ht] at h2; cases h2⟩⟩⟩
    rw [noT ht] at hv; cases hv
  by_cases c1 : X &&& Z (num g i) = 0
  · rw [if_pos c1]
    refine dead ?_
    cases h : tel Z g X (num g i)
    · rfl
    · exact absurd c1 (tel_iff.mp h).2.1
  · rw [if_neg c1]
    by_cases c0 : X &&& (Z (num g i) ^^^ (-1)) = 0
    · rw [if_pos c0]
      refine dead ?_
      cases h : tel Z g X (num g i)
      · rfl
      · exact absurd c0 (tel_iff.mp h).2.2
    · rw [if_neg c0]
      have ht : tel Z g X (num g i) = true := tel_iff.mpr ⟨num_ne g i, c1, c0⟩
      have hd : dg i st = 0 := by
        apply Classical.byContradiction
        intro h
        rcases sO_dead (fun i => Z (num g i)) B hi h with e | e
        · rw [hXe] at e; exact c1 e
        · rw [hXe] at e; exact c0 e
      obtain ⟨s1, s0⟩ := sO_step (fun i => Z (num g i)) B hi hd
      have b1 := dg_bd (c := 1) hst hi hd (by omega)
      have b0 := dg_bd (c := 2) hst hi hd (by omega)
      have hnq' : num g i < Q := by rw [← hQ]; exact hnq
      have t1 := tc_1 hnq' ht
      have t0 := tc_0 hnq' ht
      rw [hXe] at s1 s0
      have k1 : oi st + oi (3 ^ i) = oi (st + 1 * 3 ^ i) := by rw [oi_add, Nat.one_mul]
      have k0 : oi st + (2 : Int32) * oi (3 ^ i) = oi (st + 2 * 3 ^ i) := by rw [lt2, oi_mul, oi_add]
      have r1 := hrc σ (st + 1 * 3 ^ i) (asked + 1) hP b1 (by rw [s1]; omega) (by rw [s1]; omega)
      rw [s1] at r1
      obtain ⟨v1, σ1, f1, f2, f3, f4, f5⟩ := r1
      have r0 := hrc σ1 (st + 2 * 3 ^ i) (asked + 1) f2 b0 (by rw [s0]; omega) (by rw [s0]; omega)
      rw [s0] at r0
      obtain ⟨v0, σ2, g1, g2, g3, g4, g5⟩ := r0
      have b56 : mI σ2 56 2 = b2 b := g2.2.1.2.2.1
      rw [k1, k0, oi_succ, f1, obi_s, g1, obi_s]
      have hkid : kid R Z g Q b X (num g i) = oc b (Wv R Z g Q b (X &&& Z (num g i))) (Wv R Z g Q b (X &&& (Z (num g i) ^^^ (-1)))) := by unfold kid; rw [if_pos ht]
      -- in vain: the flag stands
      have vain : mI σ2 56 10 = 1 → (mI σ 56 10 = 0 → kid R Z g Q b X (num g i) = none) → ∃ r σ', (if mI σ2 56 10 = 0 then (if mI σ2 56 2 = 0 then obi (fJ9_max_7cf53 v1 v0 σ2) (fun r9 σ10 => some (r9, σ10)) else some (v1 + v0, σ2)) else some (oi 1000000000, σ2)) = some (r, σ') ∧ PC σ' w R Z s g Q b B p ∧ Fr pP noL σ σ' ∧ (mI σ 56 10 = 1 → r = oi 1000000000 ∧ mI σ' 56 10 = 1) ∧ (mI σ 56 10 = 0 → (∀ v, kid R Z g Q b X (num g i) = some v → r = oi v ∧ mI σ' 56 10 = 0) ∧ (kid R Z g Q b X (num g i) = none → r = oi 1000000000 ∧ (tel Z g X (num g i) = false → mI σ' 56 10 = 0) ∧ (tel Z g X (num g i) = true → mI σ' 56 10 = 1))) := by
        intro hh hk
        rw [if_neg (by rw [hh]; decide)]
        refine ⟨_, σ2, rfl, g2, fr_tr f3 g3, fun _ => ⟨rfl, hh⟩, fun h => ⟨fun v hv => ?_, fun _ => ⟨rfl, fun h2 => ?_, fun _ => hh⟩⟩⟩
        · rw [hk h] at hv; cases hv
        · rw [ht] at h2; cases h2
      rcases hP.2.2.2.1 with h0 | h1
      · obtain ⟨q1, q2⟩ := f5 h0
        cases w1 : Wv R Z g Q b (X &&& Z (num g i)) with
        | none =>
          obtain ⟨-, hh1⟩ := q2 w1
          obtain ⟨e12, -⟩ := g4 hh1
          exact vain (by rw [e12]; exact hh1) (fun _ => by rw [hkid, w1]; rfl)
        | some a1 =>
          obtain ⟨e1, hh1⟩ := q1 a1 w1
          obtain ⟨q3, q4⟩ := g5 hh1
          cases w0 : Wv R Z g Q b (X &&& (Z (num g i) ^^^ (-1))) with
          | none =>
            obtain ⟨-, hh2⟩ := q4 w0
            exact vain hh2 (fun _ => by rw [hkid, w1, w0]; rfl)
          | some a0 =>
            obtain ⟨e0, hh2⟩ := q3 a0 w0
            have l1 := Wv_le hb w1
            have l0 := Wv_le hb w0
            have hk : kid R Z g Q b X (num g i) = some (if b then a1 + a0 else Nat.max a1 a0) := by rw [hkid, w1, w0]; rfl
            rw [if_pos hh2, b56, e1, e0]
            have val : (if b2 b = 0 then obi (fJ9_max_7cf53 (oi a1) (oi a0) σ2) (fun r9 σ10 => some (r9, σ10)) else some (oi a1 + oi a0, σ2)) = some (oi (if b then a1 + a0 else Nat.max a1 a0), σ2) := by
              cases b
              · rw [if_pos (by decide), max_eq (by omega) (by omega), obi_s]; rfl
              · rw [if_neg (by decide), oi_add]; rfl
            rw [val]
            refine ⟨_, σ2, rfl, g2, fr_tr f3 g3, fun h => ?_, fun _ => ⟨fun v hv => ?_, fun hv => ?_⟩⟩
            · rw [h0] at h; exact absurd h (by decide)
            · rw [hk] at hv; cases hv; exact ⟨rfl, hh2⟩
            · rw [hk] at hv; cases hv
      · obtain ⟨e1, -⟩ := f4 h1
        have hh1 : mI σ1 56 10 = 1 := by rw [e1]; exact h1
        obtain ⟨e2, -⟩ := g4 hh1
        exact vain (by rw [e2]; exact hh1) (fun h => by rw [h1] at h; exact absurd h (by decide))
/-- the least so far -/
def oLv (a : Option Nat) : Int32 := match a with
  | none => oi 1000000000
  | some v => oi v
theorem min_eq {a c : Nat} (ha : a < 2147483648) (hc : c < 2147483648) (σ : OM) : fJ9_min_7cf53 (oi a) (oi c) σ = some (oi (Nat.min a c), σ) := by
  unfold fJ9_min_7cf53
  rw [ite_iff (oi_lt hc ha)]
  by_cases h : c < a
  · rw [if_pos h, show Nat.min a c = c from Nat.min_eq_right (by omega)]
  · rw [if_neg h, show Nat.min a c = a from Nat.min_eq_left (by omega)]
theorem price_go (hb : ∀ x, sWt R x ≤ 34012224) (hQ : nn (R 5) = Q) (hQ8 : Q ≤ 8) (hg : g < Q) (hB : B &&& Z 8 = B) (hw : okd w = 8) (hw2 : w = 1 ∨ w = 22) : ∀ n, PO w R Z s g Q b B p (fX4_priceOf n) n := by
  have hm := p3_le (show Q - 1 ≤ 7 by omega)
  intro n
  induction n with
  | zero => intro σ st asked _ _ _ h; omega
  | succ n ih =>
    intro σ st asked hP hst hask hn
    have hX := hP.1
    have hXs := sO_sub (so := fun i => Z (num g i)) hB (Q - 1) st
    have e56 : sBy (sO (fun i => Z (num g i)) B (Q - 1) st) (mL σ 56 1) = sBy (sO (fun i => Z (num g i)) B (Q - 1) st) (Z g) := by
      rw [hP.2.1.2.1]; exact verd_q hX hXs (by rw [hQ]; exact hg)
    show ∃ r σ', fX4_priceOf_s (fX4_priceOf n) _ (oi st) (oi asked) σ = some (r, σ') ∧ _
    unfold fX4_priceOf_s
    rw [verdict_eq, obi_s, e56]
    have hkidb : ∀ v q, kid R Z g Q b (sO (fun i => Z (num g i)) B (Q - 1) st) q = some v → v ≤ 544195584 := by
      intro v q hv
      unfold kid at hv
      split at hv
      · cases w1 : Wv R Z g Q b (sO (fun i => Z (num g i)) B (Q - 1) st &&& Z q) with
        | none => rw [w1] at hv; cases hv
        | some a1 =>
          cases w0 : Wv R Z g Q b (sO (fun i => Z (num g i)) B (Q - 1) st &&& (Z q ^^^ (-1))) with
          | none => rw [w1, w0] at hv; cases hv
          | some a0 =>
            rw [w1, w0] at hv
            have hv' : (if b then a1 + a0 else Nat.max a1 a0) = v := Option.some.inj hv
            have l1 := Wv_le hb w1
            have l0 := Wv_le hb w0
            have : Nat.max a1 a0 ≤ 272097792 := Nat.max_le.mpr ⟨l1, l0⟩
            split at hv' <;> omega
      · cases hv
    have hlo : tc Z g Q (sO (fun i => Z (num g i)) B (Q - 1) st) ≤ n := by omega
    have bh := fun (τ : OM) (i : Nat) (h1 : PC τ w R Z s g Q b B p) (h2 : i < Q - 1) => behind_go hb hQ hQ8 hg hB ih h1 hst h2 hask hlo
    generalize hXe : sO (fun i => Z (num g i)) B (Q - 1) st = X at *
    by_cases hk : sBy X (Z g) = -2
    · rw [if_pos hk]
      rcases hP.2.2.2.1 with h0 | h1
      · rw [if_pos h0, lt7, if_neg (by rw [oi_lt (by omega) (by omega)]; omega), if_neg (oi_nneg (by omega)), show (2187 : Int32) = oi 2187 from rfl, if_pos ((oi_lt (by omega) (by omega)).mpr (by omega)), ogi (by omega) (by omega), oi_nat (by omega)]
        have e9 : mI σ 56 9 = oi p := hP.2.2.1.2.2.2
        rw [e9]
        by_cases hmemo : mI σ 60 st = oi p
        · obtain ⟨v, v1, v2⟩ := hP.2.2.2.2.1 st hst hmemo
          rw [hXe] at v2
          rw [if_pos hmemo, ogi (by omega) (by omega), v1]
          refine ⟨_, σ, rfl, hP, fr_rfl _ _ _, fun h => ?_, fun _ => ⟨fun u hu => ?_, fun hu => ?_⟩⟩
          · rw [h0] at h; exact absurd h (by decide)
          · rw [v2] at hu; cases hu; exact ⟨rfl, h0⟩
          · rw [v2] at hu; cases hu
        · rw [if_neg hmemo]
          -- the fold over the questions that may be asked
          have fold : ofd (fun i acc => om acc (kid R Z g Q b X (num g i))) none (Q - 1) = ofd (fun q acc => om acc (kid R Z g Q b X q)) none Q := num_fold hg (by
            unfold kid
            cases h : tel Z g X g
            · rfl
            · exact absurd rfl (tel_iff.mp h).1)
          have hWe := Wv_eq (R := R) (Z := Z) (g := g) (b := b) hQ8 X
          rw [if_pos hk, ← fold] at hWe
          have accb : ∀ k v, ofd (fun i acc => om acc (kid R Z g Q b X (num g i))) none k = some v → v ≤ 544195584 := by
            intro k v hv
            obtain ⟨⟨q, -, hq⟩, -⟩ := (om_fold (f := fun i => kid R Z g Q b X (num g i)) k).2 v hv
            exact hkidb v _ hq
          cases hW : Wv R Z g Q b X with
          | none =>
            obtain ⟨-, hkn⟩ := Wv_none hQ8 hW
            have allnone : ∀ i, i < Q - 1 → kid R Z g Q b X (num g i) = none := by
              intro i hi
              unfold kid
              cases ht : tel Z g X (num g i)
              · rfl
              · rcases hkn (num g i) (num_lt hg hi) ht with e | e
                · rw [if_pos rfl, e]; rfl
                · rw [if_pos rfl, e]
                  cases Wv R Z g Q b (X &&& Z (num g i)) <;> rfl
            have loop : ∀ d i m (τ : OM), i + d = Q - 1 → d < m → PC τ w R Z s g Q b B p → Fr pP noL σ τ → ∃ τ1, fX4_priceOf_b73 (fX4_priceOf n) m X (oi st) (oi asked) (oi 1000000000) (oi (3 ^ i)) (oi i) τ = fX4_priceOf_b118 (fX4_priceOf n) X (oi st) (oi 1000000000) τ1 ∧ PC τ1 w R Z s g Q b B p ∧ Fr pP noL σ τ1 := by
              intro d
              induction d with
              | zero =>
                intro i m τ h1 h2 h3 h4
                obtain ⟨m, rfl⟩ : ∃ m', m = m' + 1 := ⟨m - 1, by omega⟩
                rw [fX4_priceOf_b73, h3.2.2.1.2.2.1, if_pos ((oi_le (by omega) (by omega)).mpr (by omega))]
                exact ⟨τ, rfl, h3, h4⟩
              | succ d ihd =>
                intro i m τ h1 h2 h3 h4
                obtain ⟨m, rfl⟩ : ∃ m', m = m' + 1 := ⟨m - 1, by omega⟩
                obtain ⟨r, τ1, b1, b2', b3, b4, b5⟩ := bh τ i h3 (by omega)
                have p3i : 3 ^ i ≤ 2187 := Nat.le_trans (Nat.pow_le_pow_right (by decide : 3 > 0) (show i ≤ Q - 1 by omega)) hm
                have hr : r = oi 1000000000 := by
                  rcases h3.2.2.2.1 with c0 | c1
                  · exact ((b5 c0).2 (allnone i (by omega))).1
                  · exact (b4 c1).1
                rw [fX4_priceOf_b73, h3.2.2.1.2.2.1, if_neg (by rw [oi_le (by omega) (by omega)]; omega), if_neg (by decide), b1, obi_s, hr, min_eq (by omega) (by omega), obi_s, oi_succ, lt3, oi_mul, show Nat.min 1000000000 1000000000 = 1000000000 from rfl, show 3 ^ i * 3 = 3 ^ (i + 1) from (Nat.pow_succ 3 i).symm]
                exact ihd (i + 1) m τ1 (by omega) (by omega) b2' (fr_tr h4 b3)
            obtain ⟨τ1, t1, t2, t3⟩ := loop (Q - 1) 0 oF σ (Nat.zero_add _) (by unfold oF; omega) hP (fr_rfl _ _ _)
            have t1' : fX4_priceOf_b73 (fX4_priceOf n) oF X (oi st) (oi asked) 1000000000 1 0 σ = _ := t1
            rw [t1']
            unfold fX4_priceOf_b118
            rw [if_pos (show oi 1000000000 = 1000000000 from rfl)]
            refine ⟨_, sI τ1 56 10 1, rfl, ?_, fr_I t3 (by unfold pP; omega), fun h => ?_, fun _ => ⟨fun u hu => by (cases hu), fun _ => ⟨rfl, mI_at⟩⟩⟩
            · obtain ⟨z1, ⟨z2, z3, z4, z5⟩, ⟨z6, z7, z8, z9⟩, -, z10, z11⟩ := t2
              have fr : Fr (fun a j => a = 56 ∧ j = 10) noL τ1 (sI τ1 56 10 1) := fr_I (fr_rfl _ _ _) ⟨rfl, rfl⟩
              refine ⟨CX_fr fr (fun a j q => by omega) (fun a q => q.elim) z1, ⟨z2, z3, ?_, z5⟩, ⟨z6, fun i hi => ?_, ?_, ?_⟩, Or.inr mI_at, fun st' h1 h2 => ?_, fun j hj => ?_⟩
              · rw [fr.1 _ _ (by omega)]; exact z4
              · rw [fr.1 _ _ (by omega)]; exact z7 i hi
              · rw [fr.1 _ _ (by omega)]; exact z8
              · rw [fr.1 _ _ (by omega)]; exact z9
              · rw [fr.1 _ _ (by omega)] at h2
                rw [fr.1 _ _ (by omega)]; exact z10 st' h1 h2
              · rw [fr.1 _ _ (by omega)]; exact z11 j hj
            · rw [h0] at h; exact absurd h (by decide)
          | some V =>
            have kidsome : ∀ i, i < Q - 1 → tel Z g X (num g i) = true → ∃ v, kid R Z g Q b X (num g i) = some v := by
              intro i hi ht
              obtain ⟨⟨a1, w1⟩, a0, w0⟩ := Wv_kids hQ8 hW (num_lt hg hi) ht
              exact ⟨if b then a1 + a0 else Nat.max a1 a0, by unfold kid; rw [if_pos ht, w1, w0]; rfl⟩
            have loop : ∀ d i m (τ : OM), i + d = Q - 1 → d < m → PC τ w R Z s g Q b B p → mI τ 56 10 = 0 → Fr pP noL σ τ → ∃ τ1, fX4_priceOf_b73 (fX4_priceOf n) m X (oi st) (oi asked) (oLv (ofd (fun i acc => om acc (kid R Z g Q b X (num g i))) none i)) (oi (3 ^ i)) (oi i) τ = fX4_priceOf_b118 (fX4_priceOf n) X (oi st) (oLv (ofd (fun i acc => om acc (kid R Z g Q b X (num g i))) none (Q - 1))) τ1 ∧ PC τ1 w R Z s g Q b B p ∧ mI τ1 56 10 = 0 ∧ Fr pP noL σ τ1 := by
              intro d
              induction d with
              | zero =>
                intro i m τ h1 h2 h3 h5 h4
                obtain ⟨m, rfl⟩ : ∃ m', m = m' + 1 := ⟨m - 1, by omega⟩
                have hi : i = Q - 1 := by omega
                rw [fX4_priceOf_b73, h3.2.2.1.2.2.1, if_pos ((oi_le (by omega) (by omega)).mpr (by omega)), hi]
                exact ⟨τ, rfl, h3, h5, h4⟩
              | succ d ihd =>
                intro i m τ h1 h2 h3 h5 h4
                obtain ⟨m, rfl⟩ : ∃ m', m = m' + 1 := ⟨m - 1, by omega⟩
                have p3i : 3 ^ i ≤ 2187 := Nat.le_trans (Nat.pow_le_pow_right (by decide : 3 > 0) (show i ≤ Q - 1 by omega)) hm
                rw [fX4_priceOf_b73, h3.2.2.1.2.2.1, if_neg (by rw [oi_le (by omega) (by omega)]; omega)]
                have es : ofd (fun i acc => om acc (kid R Z g Q b X (num g i))) none (i + 1) = om (ofd (fun i acc => om acc (kid R Z g Q b X (num g i))) none i) (kid R Z g Q b X (num g i)) := rfl
                have step : ¬ ofd (fun i acc => om acc (kid R Z g Q b X (num g i))) none i = some 0 → ∃ τ1, obi (fX4_priceBehind (fX4_priceOf n) (oi i) X (oi (3 ^ i)) (oi st) (oi asked) τ) (fun r1 σ2 => obi (fJ9_min_7cf53 (oLv (ofd (fun i acc => om acc (kid R Z g Q b X (num g i))) none i)) r1 σ2) (fun r4 σ5 => fX4_priceOf_b73 (fX4_priceOf n) m X (oi st) (oi asked) r4 (oi (3 ^ i) * (3 : Int32)) (oi i + 1) σ5)) = fX4_priceOf_b118 (fX4_priceOf n) X (oi st) (oLv (ofd (fun i acc => om acc (kid R Z g Q b X (num g i))) none (Q - 1))) τ1 ∧ PC τ1 w R Z s g Q b B p ∧ mI τ1 56 10 = 0 ∧ Fr pP noL σ τ1 := by
                  intro _
                  obtain ⟨r, τ1, b1, b2', b3, b4, b5⟩ := bh τ i h3 (by omega)
                  obtain ⟨c1, c2⟩ := b5 h5
                  have hmul : oi (3 ^ i) * (3 : Int32) = oi (3 ^ (i + 1)) := by rw [lt3, oi_mul, Nat.pow_succ]
                  have hh : mI τ1 56 10 = 0 ∧ fJ9_min_7cf53 (oLv (ofd (fun i acc => om acc (kid R Z g Q b X (num g i))) none i)) r τ1 = some (oLv (ofd (fun i acc => om acc (kid R Z g Q b X (num g i))) none (i + 1)), τ1) := by
                    cases hk2 : kid R Z g Q b X (num g i) with
                    | some v =>
                      obtain ⟨d1, d2⟩ := c1 v hk2
                      have lv := hkidb v _ hk2
                      refine ⟨d2, ?_⟩
                      rw [es, hk2, d1]
                      cases hacc : ofd (fun i acc => om acc (kid R Z g Q b X (num g i))) none i with
                      | none =>
                        show fJ9_min_7cf53 (oi 1000000000) (oi v) τ1 = _
                        rw [min_eq (by omega) (by omega), show Nat.min 1000000000 v = v from Nat.min_eq_right (by omega)]; rfl
                      | some u =>
                        have lu := accb i u hacc
                        show fJ9_min_7cf53 (oi u) (oi v) τ1 = _
                        rw [min_eq (by omega) (by omega)]; rfl
                    | none =>
                      obtain ⟨d1, d2, -⟩ := c2 hk2
                      have htf : tel Z g X (num g i) = false := by
                        cases ht : tel Z g X (num g i)
                        · rfl
                        · obtain ⟨v, hv⟩ := kidsome i (by omega) ht
                          rw [hv] at hk2; cases hk2
                      refine ⟨d2 htf, ?_⟩
                      rw [es, hk2, om_none, d1]
                      cases hacc : ofd (fun i acc => om acc (kid R Z g Q b X (num g i))) none i with
                      | none =>
                        show fJ9_min_7cf53 (oi 1000000000) (oi 1000000000) τ1 = _
                        rw [min_eq (by omega) (by omega)]; rfl
                      | some u =>
                        have lu := accb i u hacc
                        show fJ9_min_7cf53 (oi u) (oi 1000000000) τ1 = _
                        rw [min_eq (by omega) (by omega), show Nat.min u 1000000000 = u from Nat.min_eq_left (by omega)]; rfl
                  rw [b1, obi_s, hh.2, obi_s, hmul, oi_succ]
                  exact ihd (i + 1) m τ1 (by omega) (by omega) b2' hh.1 (fr_tr h4 b3)
                by_cases h00 : ofd (fun i acc => om acc (kid R Z g Q b X (num g i))) none i = some 0
                · have h0m := om_zero (fun i => kid R Z g Q b X (num g i)) (show i ≤ Q - 1 by omega) h00
                  rw [h00, h0m, if_pos (show oLv (some 0) ≤ 0 by decide)]
                  exact ⟨τ, rfl, h3, h5, h4⟩
                · have hpos : ¬ oLv (ofd (fun i acc => om acc (kid R Z g Q b X (num g i))) none i) ≤ 0 := by
                    cases hacc : ofd (fun i acc => om acc (kid R Z g Q b X (num g i))) none i with
                    | none => decide
                    | some u =>
                      have lu := accb i u hacc
                      show ¬ oi u ≤ oi 0
                      rw [oi_le (by omega) (by omega)]
                      intro e
                      have : u = 0 := by omega
                      rw [hacc, this] at h00
                      exact h00 rfl
                  rw [if_neg hpos]
                  exact step h00
            obtain ⟨τ1, t1, t2, t5, t3⟩ := loop (Q - 1) 0 oF σ (Nat.zero_add _) (by unfold oF; omega) hP h0 (fr_rfl _ _ _)
            have t1' : fX4_priceOf_b73 (fX4_priceOf n) oF X (oi st) (oi asked) 1000000000 1 0 σ = _ := t1
            rw [t1']
            rw [hW] at hWe
            cases hacc : ofd (fun i acc => om acc (kid R Z g Q b X (num g i))) none (Q - 1) with
            | none => rw [hacc] at hWe; cases hWe
            | some v0 =>
              rw [hacc] at hWe
              have hV : V = v0 + (if b then sWt R X else 1) := Option.some.inj hWe
              have lv := accb _ v0 hacc
              have lw := hb X
              unfold fX4_priceOf_b118
              rw [show oLv (some v0) = oi v0 from rfl, if_neg (by rw [cantv, oi_inj (by omega) (by omega)]; omega), t2.2.1.2.2.1]
              have wg : fX2_weightOf w X τ1 = some (oi (sWt R X), τ1) := weigh_eq t2.1 hXs
              have fin : ∀ k, k = (if b then sWt R X else 1) → fX4_priceOf_b154 (fX4_priceOf n) (oi st) (oi v0) (oi k) τ1 = some (oi V, sI (sI τ1 60 st (oi p)) 59 st (oi V)) := by
                intro k hk'
                unfold fX4_priceOf_b154
                rw [ogi (by omega) (by omega), ogi (by omega) (by omega), oi_nat (by omega), t2.2.2.1.2.2.2, oi_add, hV, hk']
              have call : (if b2 b = 0 then fX4_priceOf_b154 (fX4_priceOf n) (oi st) (oi v0) 1 τ1 else ogd ((decide (okd (mR τ1 56 0 - 1) = 8) && decide (mR τ1 56 0 = mR τ1 56 0 - 1 + 1))) (obi (fX2_weightOf (mR τ1 56 0 - 1) X τ1) (fun r2 σ3 => fX4_priceOf_b154 (fX4_priceOf n) (oi st) (oi v0) r2 σ3))) = some (oi V, sI (sI τ1 60 st (oi p)) 59 st (oi V)) := by
                cases b
                · rw [if_pos (by decide)]; exact fin 1 rfl
                · rw [if_neg (by decide), t2.2.1.1, Nat.add_sub_cancel, ogd_t (by rw [hw]; simp), wg, obi_s]; exact fin _ rfl
              rw [call]
              have fr : Fr (fun a j => (a = 60 ∧ j = st) ∨ (a = 59 ∧ j = st)) noL τ1 (sI (sI τ1 60 st (oi p)) 59 st (oi V)) := fr_I (fr_I (fr_rfl _ _ _) (by omega)) (by omega)
              refine ⟨_, _, rfl, ?_, fr_tr t3 (fr_mono (fun a j q => by unfold pP; omega) (fun _ q => q) fr), fun h => ?_, fun _ => ⟨fun u hu => ?_, fun hu => by (cases hu)⟩⟩
              · obtain ⟨z1, ⟨z2, z3, z4, z5⟩, ⟨z6, z7, z8, z9⟩, zh, z10, z11⟩ := t2
                refine ⟨CX_fr fr (fun a j q => by omega) (fun a q => q.elim) z1, ⟨z2, z3, ?_, z5⟩, ⟨z6, fun i hi => ?_, ?_, ?_⟩, ?_, fun st' h1 h2 => ?_, fun j hj => ?_⟩
                · rw [fr.1 _ _ (by omega)]; exact z4
                · rw [fr.1 _ _ (by omega)]; exact z7 i hi
                · rw [fr.1 _ _ (by omega)]; exact z8
                · rw [fr.1 _ _ (by omega)]; exact z9
                · rw [fr.1 _ _ (by omega)]; exact zh
                · by_cases e : st' = st
                  · rw [e]
                    exact ⟨V, mI_at, by rw [hXe]; exact hW⟩
                  · rw [fr.1 _ _ (by omega)] at h2
                    rw [fr.1 _ _ (by omega)]; exact z10 st' h1 h2
                · by_cases e : j = st
                  · rw [e]
                    exact ⟨p, Nat.le_refl _, by rw [mI_sI, if_neg (by omega), mI_at]⟩
                  · rw [fr.1 _ _ (by omega)]; exact z11 j hj
              · rw [h0] at h; exact absurd h (by decide)
              · cases hu
                exact ⟨rfl, by rw [fr.1 _ _ (by omega)]; exact t5⟩
      · rw [if_neg (by rw [h1]; decide)]
        refine ⟨_, σ, rfl, hP, fr_rfl _ _ _, fun _ => ⟨rfl, fun _ => rfl⟩, fun h => ?_⟩
        rw [h1] at h; exact absurd h (by decide)
    · rw [if_neg hk]
      have hW : Wv R Z g Q b X = some 0 := by rw [Wv_eq hQ8, if_neg hk]
      refine ⟨_, σ, rfl, hP, fr_rfl _ _ _, fun _ => ⟨rfl, fun h => absurd h hk⟩, fun h0 => ⟨fun u hu => ?_, fun hu => ?_⟩⟩
      · rw [hW] at hu; cases hu; exact ⟨rfl, h0⟩
      · rw [hW] at hu; cases hu
end
