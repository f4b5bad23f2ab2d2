/-! what the rows of the reference hold -/
def nn (x : Int32) : Nat := x.toNatClampNeg
def bd (x : Int32) (b : Nat) : Prop := x = oi (nn x) ∧ nn x ≤ b
theorem nn_oi {a : Nat} (h : a < 2147483648) : nn (oi a) = a := oi_nat h
theorem nn_lt (x : Int32) : nn x < 2147483648 := by
  unfold nn
  have h := Int32.toInt_lt x
  show x.toInt.toNat < _
  omega
theorem bd_of {n b : Nat} (h : n ≤ b) (hb : b < 2147483648) : bd (oi n) b := ⟨by rw [nn_oi (by omega)], by rw [nn_oi (by omega)]; exact h⟩
theorem bd_ex {x : Int32} {b : Nat} (h : bd x b) : ∃ a, a ≤ b ∧ x = oi a := ⟨nn x, h.2, h.1⟩
theorem bd_mono {x : Int32} {a b : Nat} (h : bd x a) (hab : a ≤ b) : bd x b := ⟨h.1, Nat.le_trans h.2 hab⟩
theorem bd_nneg {x : Int32} {b : Nat} (h : bd x b) : ¬ x < 0 := by rw [h.1]; exact oi_nneg (nn_lt x)
theorem ogi {α : Type} {a n : Nat} {x : Option α} (h : a < n) (ha : a < 2147483648) : ogd (oin (oi a) n) x = x := ogd_t (by rw [oin_oi ha]; exact decide_eq_true h)
/-- the wells' rows -/
def MB (R : Nat → Int32) (Z : Nat → Int64) : Prop :=
  (bd (R 1) 6 ∧ bd (R 2) 6 ∧ bd (R 3) 6 ∧ bd (R 4) 6 ∧ bd (R 5) 8 ∧ bd (R 7) 4 ∧ bd (R 10) (2 ^ nn (R 1))) ∧
  (∀ f, f < nn (R 1) → bd (R (11 + f)) 9 ∧ 1 ≤ nn (R (11 + f))) ∧
  (∀ h, h < nn (R 3) → bd (R (17 + 4 * h)) 999 ∧ bd (R (18 + 4 * h)) 99 ∧ 1 ≤ nn (R (18 + 4 * h)) ∧ bd (R (19 + 4 * h)) 99 ∧ bd (R (20 + 4 * h)) 1000) ∧
  (∀ k, k < nn (R 4) → bd (R (41 + 2 * k)) 5 ∧ nn (R (41 + 2 * k)) < nn (R 3) ∧ bd (R (42 + 2 * k)) 30 ∧ ∀ j, j < k → ¬ (R (41 + 2 * j) = R (41 + 2 * k) ∧ R (42 + 2 * j) = R (42 + 2 * k))) ∧
  (∀ k, k < nn (R 7) → R (89 + k) = 0 ∨ R (89 + k) = 1) ∧
  (∀ q, q ≤ 8 → ∀ i, tb (Z q) i = true → i < 2 ^ nn (R 1)) ∧
  (0 < nn (R 10) → tb (Z 8) (nn (R 10) - 1) = true) ∧ Z 8 ≠ 0
/-- what was told, whose weddings -/
def TB (R : Nat → Int32) (s : Nat → Int32) : Prop :=
  bd (s 0) 999 ∧ bd (s 1) 20 ∧
  (∀ k, k < nn (s 1) → bd (s (2 + 3 * k)) 5 ∧ nn (s (2 + 3 * k)) < nn (R 3) ∧ bd (s (3 + 3 * k)) 7 ∧ nn (s (3 + 3 * k)) < nn (R 5) ∧ (s (4 + 3 * k) = 0 ∨ s (4 + 3 * k) = 1)) ∧
  (∀ i, i < 6 → ∀ j, tw (s (62 + i)) j = true → i < nn (R 3) ∧ j < nn (R 3) ∧ j ≠ i) ∧
  (∀ i, i < 6 → ∀ j, j < 6 → tw (s (62 + i)) j = tw (s (62 + j)) i)
theorem ix2 (k : Nat) : (2 : Int32) + (3 : Int32) * oi k = oi (2 + 3 * k) := by
  show oi 2 + oi 3 * oi k = _; rw [oi_mul, oi_add]
theorem ix3 (k : Nat) : ((2 : Int32) + (3 : Int32) * oi k) + (1 : Int32) = oi (3 + 3 * k) := by
  rw [ix2]; show oi _ + oi 1 = _; rw [oi_add]; congr 1; omega
theorem ix4 (k : Nat) : ((2 : Int32) + (3 : Int32) * oi k) + (2 : Int32) = oi (4 + 3 * k) := by
  rw [ix2]; show oi _ + oi 2 = _; rw [oi_add]; congr 1; omega
def b2 (b : Bool) : Int32 := if b then 1 else 0
theorem b2_0 (b : Bool) : (b2 b = 0) ↔ b = false := by cases b <;> decide
theorem b2_1 (b : Bool) : (b2 b = 1) ↔ b = true := by cases b <;> decide
def sAns (Z : Nat → Int64) (s : Nat → Int32) (k : Nat) (t : Bool) : Int64 := if (decide (s (4 + 3 * k) = 1) != t) = true then Z (nn (s (3 + 3 * k))) else Z (nn (s (3 + 3 * k))) ^^^ (-1)
theorem answerSet_eq {σ : OM} {k : Nat} (hk : k < 20) (hq : bd (mI σ 88 (3 + 3 * k)) 8) (t : Bool) : fX10_answerSet (oi k) (b2 t) σ = some (sAns (mL σ 86) (mI σ 88) k t, σ) := by
  unfold fX10_answerSet
  rw [ix4, ogi (by omega) (by omega), oi_nat (by omega)]
  have hb : ∀ k0 : Int32, fX10_answerSet_b30 (oi k) k0 σ = some (if k0 = 0 then mL σ 86 (nn (mI σ 88 (3 + 3 * k))) ^^^ (-1) else mL σ 86 (nn (mI σ 88 (3 + 3 * k))), σ) := by
    intro k0
    unfold fX10_answerSet_b30
    rw [ix3, ogi (by omega) (by omega), oi_nat (by omega)]
    have h9 : oin (mI σ 88 (3 + 3 * k)) 9 = true := by rw [hq.1, oin_oi (nn_lt _)]; exact decide_eq_true (by have := hq.2; omega)
    rw [ogd_t h9]
    show (if k0 = 0 then some (mL σ 86 (nn (mI σ 88 (3 + 3 * k))) ^^^ (-1), σ) else some (mL σ 86 (nn (mI σ 88 (3 + 3 * k))), σ)) = _
    split <;> rfl
  unfold sAns
  by_cases h : mI σ 88 (4 + 3 * k) = 1
  · rw [if_pos h, hb, hb]
    cases t
    · rw [if_neg (by decide), if_neg (by decide), if_pos (by simp [h])]
    · rw [if_pos (by decide), if_pos rfl, if_neg (by simp [h])]
  · rw [if_neg h, hb, hb]
    cases t
    · rw [if_pos (by decide), if_pos rfl, if_neg (by simp [h])]
    · rw [if_neg (by decide), if_neg (by decide), if_pos (by simp [h])]
theorem hasBit_eq (x : Int32) {k : Nat} (hk : k < 32) (σ : OM) : fX10_hasBit x (oi k) σ = some (b2 (tw x k), σ) := by
  unfold fX10_hasBit
  rw [bitW x hk]
  cases tw x k
  · rw [if_neg (by decide)]; rfl
  · rw [if_pos rfl]; rfl
def sLs (Z : Nat → Int64) (s : Nat → Int32) (hs ls : Int32) (k : Nat) (x : Int64) : Int64 := if tw hs (nn (s (2 + 3 * k))) then x &&& sAns Z s k (tw ls (nn (s (2 + 3 * k)))) else x
def sLeft (Z : Nat → Int64) (s : Nat → Int32) (hs ls : Int32) (m : Nat) : Int64 := ofd (sLs Z s hs ls) (Z 8) m
theorem leftBy_eq {σ : OM} (hT : TB (mI σ 84) (mI σ 88)) (hQ : nn (mI σ 84 5) ≤ 8) (hs ls : Int32) {m : Nat} (hm : m ≤ nn (mI σ 88 1)) : fX10_leftBy hs ls (oi m) σ = some (sLeft (mL σ 86) (mI σ 88) hs ls m, σ) := by
  obtain ⟨-, hA, hk0, -, -⟩ := hT
  have hA2 := hA.2
  unfold fX10_leftBy
  refine lup0 (g := fun f x k => fX10_leftBy_b12 f hs ls (oi m) x (oi k) σ) (step := sLs (mL σ 86) (mI σ 88) hs ls) (fin := fun x => some (x, σ)) (n := m) ?_ ?_ oF (by unfold oF; omega)
  · intro f x k hk
    obtain ⟨b1, -, b3, -, -⟩ := hk0 k (by omega)
    show fX10_leftBy_b12 (f + 1) hs ls (oi m) x (oi k) σ = fX10_leftBy_b12 f hs ls (oi m) _ (oi (k + 1)) σ
    rw [fX10_leftBy_b12]
    rw [if_neg (by rw [oi_le (by omega) (by omega)]; omega), ix2, ogi (by omega) (by omega), oi_nat (by omega)]
    obtain ⟨a, ha, hx⟩ := bd_ex b1
    unfold sLs
    rw [hx, hasBit_eq hs (by omega), obi_s, nn_oi (by omega)]
    cases hh : tw hs a
    · rw [if_pos (by decide), oi_succ, if_neg (by decide)]
    · rw [if_neg (by decide), if_pos rfl, ogi (by omega) (by omega), hx, hasBit_eq ls (by omega), obi_s, answerSet_eq (by omega) (bd_mono b3 (by omega)), obi_s, oi_succ]
  · intro f x
    show fX10_leftBy_b12 (f + 1) hs ls (oi m) x (oi m) σ = _
    rw [fX10_leftBy_b12]
    rw [if_pos ((oi_le (by omega) (by omega)).mpr (Nat.le_refl _))]
theorem canLie_eq {σ : OM} (hT : TB (mI σ 84) (mI σ 88)) (hQ : nn (mI σ 84 5) ≤ 8) (x : Int32) : fX10_canLie x σ = some (b2 (decide (sLeft (mL σ 86) (mI σ 88) 63 x (nn (mI σ 88 1)) ≠ 0)), σ) := by
  unfold fX10_canLie
  rw [show mI σ 88 1 = oi (nn (mI σ 88 1)) from hT.2.1.1, leftBy_eq hT hQ 63 x (Nat.le_refl _), obi_s, nn_oi (nn_lt _)]
  by_cases h : sLeft (mL σ 86) (mI σ 88) 63 x (nn (mI σ 88 1)) = 0
  · rw [if_pos ((cmp_eq _ _).mpr h), decide_eq_false (fun e => e h)]; rfl
  · rw [if_neg (fun e => h ((cmp_eq _ _).mp e)), decide_eq_true h]; rfl
/-- can this set of houses lie -/
def sCan (Z : Nat → Int64) (s : Nat → Int32) (m : Nat) : Bool := decide (sLeft Z s 63 (oi m) (nn (s 1)) ≠ 0)
/-- the fewest liars so far: none, or the first set with the fewest -/
def sBest (Z : Nat → Int64) (s : Nat → Int32) (k : Nat) (b : Option Nat) : Option Nat :=
  match b with
  | none => if sCan Z s k then some k else none
  | some m => if pc (ol k) < pc (ol m) ∧ sCan Z s k = true then some k else some m
def sLi (Z : Nat → Int64) (s : Nat → Int32) (H : Nat) : Option Nat := ofd (sBest Z s) none (2 ^ H)
def oE (b : Option Nat) : Int32 := match b with
  | none => -2
  | some m => oi m
theorem sLi_lt (Z : Nat → Int64) (s : Nat → Int32) (H : Nat) : ∀ m, sLi Z s H = some m → m < 2 ^ H ∧ sCan Z s m = true := by
  have h := ofd_ind (s := sBest Z s) (a := none) (n := 2 ^ H) (P := fun n b => ∀ m, b = some m → m < n ∧ sCan Z s m = true) (fun m e => by cases e) (fun k b hk hb m e => by
    unfold sBest at e
    cases b with
    | none =>
      by_cases hc : sCan Z s k = true
      · rw [show (match (none : Option Nat) with | none => if sCan Z s k then some k else none | some m => if pc (ol k) < pc (ol m) ∧ sCan Z s k = true then some k else some m) = some k from if_pos hc] at e
        cases e; exact ⟨by omega, hc⟩
      · rw [show (match (none : Option Nat) with | none => if sCan Z s k then some k else none | some m => if pc (ol k) < pc (ol m) ∧ sCan Z s k = true then some k else some m) = none from if_neg hc] at e
        cases e
    | some a =>
      have ha := hb a rfl
      have e' : (if pc (ol k) < pc (ol a) ∧ sCan Z s k = true then some k else some a) = some m := e
      split at e'
      · rename_i hc; cases e'; exact ⟨by omega, hc.2⟩
      · cases e'; exact ⟨by omega, ha.2⟩)
  exact h
theorem p2_le {H : Nat} (h : H ≤ 6) : 2 ^ H ≤ 64 := Nat.pow_le_pow_right (by decide : 2 > 0) h
theorem shlH {x : Int32} {b : Nat} (h : bd x b) (hb : b ≤ 6) : (1 : Int32) <<< (x &&& 31) = oi (2 ^ nn x) := by
  have h1 := h.2
  rw [h.1, nn_oi (nn_lt _)]; exact shlW _ (by omega)
theorem liarsOf_eq {σ : OM} (hT : TB (mI σ 84) (mI σ 88)) (hQ : nn (mI σ 84 5) ≤ 8) (hH : bd (mI σ 84 3) 6) : fX10_liarsOf σ = some (oE (sLi (mL σ 86) (mI σ 88) (nn (mI σ 84 3))), σ) := by
  unfold fX10_liarsOf
  have h64 := p2_le hH.2
  have hne : ∀ m, m < 64 → ¬ (oi m = -2) := by decide +kernel
  refine lup (g := fun f x k => fX10_liarsOf_b5 f (oE x) (oi k) σ) (step := sBest (mL σ 86) (mI σ 88)) (fin := fun x => some (oE x, σ)) (n := 2 ^ nn (mI σ 84 3)) (I := fun n b => ∀ m, b = some m → m < n) (a := none) (fun m e => by cases e) ?_ ?_ ?_ oF (by unfold oF; omega)
  · intro k b hk hb m e
    cases b with
    | none =>
      have e' : (if sCan (mL σ 86) (mI σ 88) k then some k else none) = some m := e
      split at e'
      · cases e'; omega
      · cases e'
    | some a =>
      have ha := hb a rfl
      have e' : (if pc (ol k) < pc (ol a) ∧ sCan (mL σ 86) (mI σ 88) k = true then some k else some a) = some m := e
      split at e'
      · cases e'; omega
      · cases e'; omega
  · intro f b k hk hb
    show fX10_liarsOf_b5 (f + 1) (oE b) (oi k) σ = fX10_liarsOf_b5 f (oE (sBest _ _ k b)) (oi (k + 1)) σ
    rw [fX10_liarsOf_b5, shlH hH (by decide), if_neg (by rw [oi_le (by omega) (by omega)]; omega)]
    cases b with
    | none =>
      rw [if_pos (show oE none = -2 from rfl), canLie_eq hT hQ, obi_s, oi_succ]
      show (if b2 (sCan _ _ k) = 0 then _ else _) = fX10_liarsOf_b5 f (oE (if sCan _ _ k then some k else none)) _ σ
      cases hc : sCan (mL σ 86) (mI σ 88) k
      · rw [if_pos (by decide), if_neg (by decide)]
      · rw [if_neg (by decide), if_pos rfl]; rfl
    | some a =>
      have ha := hb a rfl
      rw [show oE (some a) = oi a from rfl, if_neg (hne a (by omega)), oi_long (by omega), oi_long (by omega), ones_eq, obi_s, ones_eq, obi_s]
      show _ = fX10_liarsOf_b5 f (oE (if pc (ol k) < pc (ol a) ∧ sCan _ _ k = true then some k else some a)) _ σ
      have p1 := pc_le (ol k)
      have p2 := pc_le (ol a)
      by_cases hp : pc (ol k) < pc (ol a)
      · rw [if_neg (by rw [oi_le (by omega) (by omega)]; omega), canLie_eq hT hQ, obi_s, oi_succ]
        show (if b2 (sCan _ _ k) = 0 then _ else _) = _
        cases hc : sCan (mL σ 86) (mI σ 88) k
        · rw [if_pos (by decide), if_neg (fun e => by cases e.2)]; rfl
        · rw [if_neg (by decide), if_pos ⟨hp, rfl⟩]; rfl
      · rw [if_pos (by rw [oi_le (by omega) (by omega)]; omega), if_neg (fun e => hp e.1), oi_succ]; rfl
  · intro f b hb
    show fX10_liarsOf_b5 (f + 1) (oE b) (oi _) σ = _
    rw [fX10_liarsOf_b5, shlH hH (by decide), if_pos ((oi_le (by omega) (by omega)).mpr (Nat.le_refl _))]
def sTu (Z : Nat → Int64) (s : Nat → Int32) (H : Nat) : Nat := (sLi Z s H).getD 0
theorem turnedOf_eq {σ : OM} (hT : TB (mI σ 84) (mI σ 88)) (hQ : nn (mI σ 84 5) ≤ 8) (hH : bd (mI σ 84 3) 6) : fX10_turnedOf σ = some (oi (sTu (mL σ 86) (mI σ 88) (nn (mI σ 84 3))), σ) := by
  unfold fX10_turnedOf sTu
  rw [liarsOf_eq hT hQ hH, obi_s]
  have h64 := p2_le hH.2
  have hne : ∀ m, m < 64 → ¬ (oi m = -2) := by decide +kernel
  cases h : sLi (mL σ 86) (mI σ 88) (nn (mI σ 84 3)) with
  | none => rw [if_pos (show oE none = -2 from rfl)]; rfl
  | some m => rw [show oE (some m) = oi m from rfl, if_neg (hne m (by have := (sLi_lt _ _ _ m h).1; omega))]; rfl
def sKn (R : Nat → Int32) (Z : Nat → Int64) (s : Nat → Int32) (hs : Int32) : Int64 := sLeft Z s hs (oi (sTu Z s (nn (R 3)))) (nn (s 1))
theorem knownSet_eq {σ : OM} (hT : TB (mI σ 84) (mI σ 88)) (hQ : nn (mI σ 84 5) ≤ 8) (hH : bd (mI σ 84 3) 6) (hs : Int32) : fX10_knownSet hs σ = some (sKn (mI σ 84) (mL σ 86) (mI σ 88) hs, σ) := by
  unfold fX10_knownSet sKn
  rw [turnedOf_eq hT hQ hH, obi_s, show mI σ 88 1 = oi (nn (mI σ 88 1)) from hT.2.1.1, leftBy_eq hT hQ hs _ (Nat.le_refl _), obi_s, nn_oi (nn_lt _)]
/-- what a set of worlds says of a set -/
def sBy (x so : Int64) : Int32 := if x = 0 then -2 else if x &&& (so ^^^ (-1)) = 0 then 1 else if x &&& so = 0 then 0 else -2
theorem answerBy_eq (x so : Int64) (σ : OM) : fX10_answerBy x so σ = some (sBy x so, σ) := by
  unfold fX10_answerBy sBy
  simp only [cmp_eq]
  split
  · rfl
  · split
    · rfl
    · split <;> rfl
def sKo (Z : Nat → Int64) (x : Int64) (q : Nat) (b : Int32) : Int32 := b ||| if sBy x (Z q) = -2 then 0 else (1 : Int32) <<< (oi q &&& 31)
theorem knownOf_eq {σ : OM} (hQ : bd (mI σ 84 5) 8) (x : Int64) : fX10_knownOf x σ = some (ofd (sKo (mL σ 86) x) 0 (nn (mI σ 84 5)), σ) := by
  unfold fX10_knownOf
  have hQ2 := hQ.2
  refine lup0 (g := fun f b k => fX10_knownOf_b5 f x b (oi k) σ) (step := sKo (mL σ 86) x) (fin := fun b => some (b, σ)) ?_ ?_ oF (by unfold oF; omega)
  · intro f b k hk
    show fX10_knownOf_b5 (f + 1) x b (oi k) σ = fX10_knownOf_b5 f x _ (oi (k + 1)) σ
    rw [fX10_knownOf_b5, hQ.1, if_neg (by rw [oi_le (by omega) (by omega)]; omega), ogi (by omega) (by omega), oi_nat (by omega), answerBy_eq, obi_s, oi_succ]
    unfold sKo
    split <;> rfl
  · intro f b
    show fX10_knownOf_b5 (f + 1) x b (oi _) σ = _
    rw [fX10_knownOf_b5, hQ.1, nn_oi (nn_lt _), if_pos ((oi_le (by omega) (by omega)).mpr (Nat.le_refl _))]
