/-! the memory of the fixed cells, by their numbers: whole numbers, longs, references -/
abbrev OM : Type := (Nat → Nat → Int32) × (Nat → Nat → Int64) × (Nat → Nat → Nat)
def mI (σ : OM) (a j : Nat) : Int32 := σ.1 a j
def mL (σ : OM) (a j : Nat) : Int64 := σ.2.1 a j
def mR (σ : OM) (a j : Nat) : Nat := σ.2.2 a j
def ou {α : Type} (f : Nat → Nat → α) (a j : Nat) (v : α) : Nat → Nat → α := fun b k => if b = a ∧ k = j then v else f b k
def sI (σ : OM) (a j : Nat) (v : Int32) : OM := (ou σ.1 a j v, σ.2.1, σ.2.2)
def sL (σ : OM) (a j : Nat) (v : Int64) : OM := (σ.1, ou σ.2.1 a j v, σ.2.2)
def sR (σ : OM) (a j : Nat) (v : Nat) : OM := (σ.1, σ.2.1, ou σ.2.2 a j v)
/-- the kinds of the cells: below 20 the number of the kind of object, 20 ints, 21 longs, 22 bytes, 23 booleans, 24 Houses, 25 Tolds -/
def okdL : List Nat := [9, 8, 2, 20, 21, 20, 7, 20, 20, 23, 20, 3, 21, 21, 24, 1, 1, 1, 1, 1, 1, 20, 8, 2, 20, 21, 20, 7, 20, 20, 23, 20, 3, 21, 21, 24, 1, 1, 1, 1, 1, 1, 20, 6, 22, 20, 20, 21, 5, 20, 21, 20, 20, 21, 21, 23, 4, 21, 20, 20, 20, 0, 20, 20, 20, 25, 7, 20, 20, 23, 20, 7, 20, 20, 23, 20, 7, 20, 20, 23, 20, 10, 20, 20, 20, 20, 21, 21, 20, 20, 20, 20, 21, 20, 21]
def olnL : List Nat := [0, 0, 0, 6, 8, 64, 0, 20, 20, 20, 6, 0, 6, 6, 6, 0, 0, 0, 0, 0, 0, 6, 0, 0, 6, 8, 64, 0, 20, 20, 20, 6, 0, 6, 6, 6, 0, 0, 0, 0, 0, 0, 6, 0, 900, 901, 901, 901, 0, 11, 20, 20, 20, 9, 9, 9, 0, 7, 7, 2187, 2187, 0, 12, 12, 12, 3, 0, 20, 20, 20, 6, 0, 20, 20, 20, 6, 0, 20, 20, 20, 6, 0, 900, 8, 279, 279, 9, 9, 68, 816, 204, 6561, 6561, 6, 1]
def okd (a : Nat) : Nat := okdL.getD a 99
def oln (a : Nat) : Nat := olnL.getD a 0
def oftL : List (List Nat) := [[3, 3, 3, 0], [0, 0, 0, 0, 0], [0, 3, 0, 1, 0, 0, 0, 3, 0, 0, 3], [3, 3, 3, 3, 0, 0, 0, 0], [2, 1, 0, 1, 3, 3, 0, 3, 3, 0, 0], [3, 2, 0, 0, 3, 3, 3, 3, 0, 0, 3, 3, 3, 0], [3, 0, 0, 3, 3, 3, 0, 0, 0, 0, 1], [0, 3, 3, 3, 3, 0, 0], [3, 3, 3, 3, 0, 0, 3], [2, 2, 3, 3, 3, 3, 3, 0, 0, 0, 0, 0], [0, 3, 0, 0, 0, 0, 0, 0, 0, 0, 0, 0, 3, 0, 0, 3, 3, 3, 3, 3, 3, 3, 0, 0, 0, 0, 3, 3, 0, 3]]
def oft (ci j : Nat) : Nat := (oftL.getD ci []).getD j 3
def ocrL : List (List Nat) := [[0, 0, 43, 48, 56, 61, 65], [2, 6, 11, 14, 0, 0, 21], [0, 3, 0, 0, 0, 0, 0, 4, 0, 0, 5], [], [], [], [0, 7, 8, 9, 10, 0, 0], [], [], [], [], [2, 6, 12, 13], [], [], [15, 16, 17, 18, 19, 20], [], [], [], [], [], [], [], [23, 27, 32, 35, 0, 0, 42], [0, 24, 0, 0, 0, 0, 0, 25, 0, 0, 26], [], [], [], [0, 28, 29, 30, 31, 0, 0], [], [], [], [], [23, 27, 33, 34], [], [], [36, 37, 38, 39, 40, 41], [], [], [], [], [], [], [], [44, 0, 0, 45, 46, 47], [], [], [], [], [43, 0, 0, 0, 49, 50, 51, 52, 0, 0, 53, 54, 55], [], [], [], [], [], [], [], [0, 0, 0, 0, 57, 58, 0, 59, 60], [], [], [], [], [62, 63, 64], [], [], [], [66, 71, 76], [0, 67, 68, 69, 70], [], [], [], [], [0, 72, 73, 74, 75], [], [], [], [], [0, 77, 78, 79, 80], [], [], [], [], [0, 82, 0, 0, 0, 0, 0, 0, 0, 0, 0, 0, 83, 0, 0, 84, 85, 86, 87, 88, 89, 90, 0, 0, 0, 0, 91, 92, 0, 93], [], [], [], [], [], [], [], [], [], [], [], [], []]
def ocr (a j : Nat) : Nat := (ocrL.getD a []).getD j 0
def onf (ci : Nat) : Nat := (oftL.getD ci []).length
abbrev OG : Type := (Nat → Nat) × (Nat → ClassId) × (Nat → Nat → Nat) × (Nat → ClassId) × Nat
abbrev oDD (g : OG) : va_G := (g.2.1, g.2.2.1)
def oA (g : OG) : Nat → Prop := fun q => g.2.2.2.2 ≤ q
def otr (g : OG) : Value → Value
  | .ref a => .ref (g.1 a)
  | v => v
def ofv (g : OG) (σ : OM) (a ci j : Nat) : Value := if oft ci j = 0 then .int (mI σ a j) else if oft ci j = 1 then .long (mL σ a j) else if oft ci j = 2 then .ref (g.1 (mR σ a j)) else .ref (g.1 (ocr a j))
def oct (g : OG) (σ : OM) (a : Nat) : va_E :=
  if okd a = 20 then .inl (g.2.2.2.1 0, oln a, .inl (fun j => mI σ a j)) else
  if okd a = 21 then .inl (g.2.2.2.1 1, oln a, .inr (.inl (fun j => mL σ a j))) else
  if okd a = 22 then .inl (g.2.2.2.1 2, oln a, .inl (fun j => mI σ a j)) else
  if okd a = 23 then .inl (g.2.2.2.1 3, oln a, .inl (fun j => mI σ a j)) else
  if okd a = 24 then .inl (g.2.2.2.1 4, oln a, .inr (.inr (.inr (.inr (fun j => some (g.1 (ocr a j))))))) else
  if okd a = 25 then .inl (g.2.2.2.1 5, oln a, .inr (.inr (.inr (.inr (fun j => some (g.1 (ocr a j))))))) else
  .inr (okd a, (List.range (onf (okd a))).map (ofv g σ a (okd a)))
def owl (g : OG) (σ : OM) : va_W := (List.range 95).map (fun a => (g.1 a, oct g σ a))
theorem owl_at (g : OG) (σ : OM) {a : Nat} (h : a < 95) : (owl g σ)[a]? = some (g.1 a, oct g σ a) := by
  unfold owl
  rw [List.getElem?_map, List.getElem?_range h]
  rfl
theorem okd_lt {a k : Nat} (h : okd a = k) (hk : k < 99) : a < 95 := by
  apply Nat.lt_of_not_le
  intro h2
  have h3 : okd a = 99 := by
    have h4 : okdL[a]? = none := List.getElem?_eq_none (show okdL.length ≤ a from h2)
    unfold okd
    rw [List.getD_eq_getElem?_getD, h4]
    rfl
  omega
theorem owl_set {g : OG} {σ σ' : OM} {a : Nat} {x : va_E} (hx : x = oct g σ' a) (hb : ∀ b, b ≠ a → oct g σ' b = oct g σ b) : (owl g σ).set a (g.1 a, x) = owl g σ' := by
  apply List.ext_getElem?
  intro i
  rw [List.getElem?_set]
  by_cases h : a = i
  · subst h
    rw [if_pos rfl]
    have hl : (owl g σ).length = 95 := by simp [owl]
    by_cases h2 : a < 95
    · rw [owl_at g σ' h2, hx]; simp [hl, h2]
    · have h3 : (owl g σ')[a]? = none := by simp [owl]; omega
      rw [h3]; simp [hl, h2]
  · rw [if_neg h]
    by_cases h2 : i < 95
    · rw [owl_at g σ h2, owl_at g σ' h2, hb i (fun e => h e.symm)]
    · have h3 : (owl g σ')[i]? = none := by simp [owl]; omega
      have h4 : (owl g σ)[i]? = none := by simp [owl]; omega
      rw [h3, h4]
def oG (g : OG) : Prop := (∀ a b : Nat, a < 95 → b < 95 → g.1 a = g.1 b → a = b) ∧ ∀ a : Nat, a < 95 → g.2.2.2.2 ≤ g.1 a
theorem oG_D {g : OG} (h : oG g) (σ : OM) : va_D (oA g) (owl g σ) := by
  have hl : (owl g σ).length = 95 := by simp [owl]
  have hlt : ∀ (k : Nat) (q : Nat × va_E), (owl g σ)[k]? = some q → k < 95 ∧ q.1 = g.1 k := by
    intro k q hq
    have hk : k < 95 := by
      rw [← hl]
      exact (List.getElem?_eq_some_iff.mp hq).1
    rw [owl_at g σ hk] at hq
    exact ⟨hk, by rw [← Option.some.inj hq]⟩
  refine ⟨fun i j p q hp hq e => ?_, fun k q hq => ?_⟩
  · obtain ⟨h1, h2⟩ := hlt i p hp
    obtain ⟨h3, h4⟩ := hlt j q hq
    exact h.1 i j h1 h3 (by rw [← h2, ← h4]; exact e)
  · obtain ⟨h1, h2⟩ := hlt k q hq
    show g.2.2.2.2 ≤ q.1
    rw [h2]; exact h.2 k h1
def oty (g : OG) : List (ClassId × FieldType) := [(g.2.2.2.1 0, .int), (g.2.2.2.1 1, .long), (g.2.2.2.1 2, .byte), (g.2.2.2.1 3, .boolean), (g.2.2.2.1 4, .object RX1), (g.2.2.2.1 5, .object RX7)]
