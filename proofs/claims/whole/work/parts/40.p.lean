/-! numbers -/
def oi (n : Nat) : Int32 := Int32.ofNat n
def ol (n : Nat) : Int64 := Int64.ofNat n
theorem oi_int {n : Nat} (h : n < 2147483648) : (oi n).toInt = (n : Int) := by
  unfold oi; rw [Int32.toInt_ofNat_of_lt h]
theorem ol_int {n : Nat} (h : n < 9223372036854775808) : (ol n).toInt = (n : Int) := by
  unfold ol; rw [Int64.toInt_ofNat_of_lt h]
theorem oi_add (a b : Nat) : oi a + oi b = oi (a + b) := (Int32.ofNat_add a b).symm
theorem oi_mul (a b : Nat) : oi a * oi b = oi (a * b) := (Int32.ofNat_mul a b).symm
theorem oi_succ (a : Nat) : oi a + 1 = oi (a + 1) := oi_add a 1
theorem oi_sub {a b : Nat} (h : b ≤ a) : oi a - oi b = oi (a - b) := (Int32.ofNat_sub a b h).symm
theorem ol_add (a b : Nat) : ol a + ol b = ol (a + b) := (Int64.ofNat_add a b).symm
theorem ol_mul (a b : Nat) : ol a * ol b = ol (a * b) := (Int64.ofNat_mul a b).symm
theorem ol_sub {a b : Nat} (h : b ≤ a) : ol a - ol b = ol (a - b) := (Int64.ofNat_sub a b h).symm
theorem oi_le {a b : Nat} (ha : a < 2147483648) (hb : b < 2147483648) : (oi a ≤ oi b) ↔ a ≤ b := by
  rw [Int32.le_iff_toInt_le, oi_int ha, oi_int hb]; omega
theorem oi_lt {a b : Nat} (ha : a < 2147483648) (hb : b < 2147483648) : (oi a < oi b) ↔ a < b := by
  rw [Int32.lt_iff_toInt_lt, oi_int ha, oi_int hb]; omega
theorem oi_inj {a b : Nat} (ha : a < 2147483648) (hb : b < 2147483648) : (oi a = oi b) ↔ a = b := by
  rw [← Int32.toInt_inj, oi_int ha, oi_int hb]; omega
theorem ol_le {a b : Nat} (ha : a < 9223372036854775808) (hb : b < 9223372036854775808) : (ol a ≤ ol b) ↔ a ≤ b := by
  rw [Int64.le_iff_toInt_le, ol_int ha, ol_int hb]; omega
theorem ol_lt {a b : Nat} (ha : a < 9223372036854775808) (hb : b < 9223372036854775808) : (ol a < ol b) ↔ a < b := by
  rw [Int64.lt_iff_toInt_lt, ol_int ha, ol_int hb]; omega
theorem ol_inj {a b : Nat} (ha : a < 9223372036854775808) (hb : b < 9223372036854775808) : (ol a = ol b) ↔ a = b := by
  rw [← Int64.toInt_inj, ol_int ha, ol_int hb]; omega
theorem oi_nneg {a : Nat} (ha : a < 2147483648) : ¬ oi a < 0 := by
  rw [show (0 : Int32) = oi 0 from rfl, oi_lt ha (by decide)]; omega
theorem oi_nat {a : Nat} (h : a < 2147483648) : (oi a).toNatClampNeg = a := by
  show (oi a).toInt.toNat = a
  rw [oi_int h]; rfl
theorem oin_oi {a n : Nat} (h : a < 2147483648) : oin (oi a) n = decide (a < n) := by
  unfold oin
  rw [oi_nat h, decide_eq_false (oi_nneg h)]; rfl
theorem oi_cases (x : Int32) : x < 0 ∨ ∃ n : Nat, n < 2147483648 ∧ x = oi n := by
  by_cases h : x < 0
  · exact Or.inl h
  · refine Or.inr ⟨x.toInt.toNat, ?_, ?_⟩
    · have := Int32.toInt_lt x; have : ¬ x.toInt < 0 := fun h2 => h (Int32.lt_iff_toInt_lt.mpr h2); omega
    · have h1 : ¬ x.toInt < 0 := fun h2 => h (Int32.lt_iff_toInt_lt.mpr h2)
      have h2 := Int32.toInt_lt x
      rw [← Int32.toInt_inj, oi_int (by omega)]; omega
theorem oi_long {n : Nat} (h : n < 2147483648) : (oi n).toInt64 = ol n := by
  rw [← Int64.toInt_inj, Int32.toInt_toInt64, oi_int h, ol_int (by omega)]
theorem ol_int32 {n : Nat} (h : n < 2147483648) : (ol n).toInt32 = oi n := by
  rw [← Int32.toInt_inj, Int64.toInt_toInt32, ol_int (by omega), oi_int h]
  rw [Int.bmod_eq_of_le] <;> omega
theorem oi_ne0 {n : Nat} (h : n < 2147483648) : (oi n = 0) ↔ n = 0 := oi_inj h (by decide)
theorem ol_ne0 {n : Nat} (h : n < 9223372036854775808) : (ol n = 0) ↔ n = 0 := ol_inj h (by decide)
theorem cmp_eq (x y : Int64) : (lg_cmp x y = 0) ↔ x = y := by
  unfold lg_cmp
  split
  · rename_i h
    refine ⟨fun h2 => absurd h2 (by decide), fun h2 => ?_⟩
    rw [h2] at h; exact absurd h (Int64.lt_irrefl)
  · split
    · rename_i h; exact ⟨fun _ => h, fun _ => rfl⟩
    · rename_i h; exact ⟨fun h2 => absurd h2 (by decide), fun h2 => absurd h2 h⟩
theorem cmp_lt (x y : Int64) : (lg_cmp x y < 0) ↔ x < y := by
  unfold lg_cmp
  split
  · rename_i h
    refine ⟨fun h2 => absurd h2 (by decide), fun h2 => ?_⟩
    exact absurd (Int64.lt_trans h h2) Int64.lt_irrefl
  · split
    · rename_i h; rw [h]; exact ⟨fun h2 => absurd h2 (by decide), fun h2 => absurd h2 Int64.lt_irrefl⟩
    · rename_i h1 h
      refine ⟨fun _ => ?_, fun _ => by decide⟩
      have h3 : ¬ y < x := h1
      rw [Int64.lt_iff_toInt_lt] at h3 ⊢
      have h4 : x.toInt ≠ y.toInt := fun e => h (Int64.toInt_inj.mp e)
      omega
theorem cmp_le (x y : Int64) : (lg_cmp x y ≤ 0) ↔ x ≤ y := by
  have h1 := cmp_lt x y
  have h2 := cmp_eq x y
  rw [Int32.le_iff_lt_or_eq, h1, h2, Int64.le_iff_lt_or_eq]
theorem cmp_ge (x y : Int64) : (0 ≤ lg_cmp x y) ↔ y ≤ x := by
  have h1 := cmp_lt x y
  rw [← Int32.not_lt, h1, Int64.not_lt]
theorem cmp_gt (x y : Int64) : (0 < lg_cmp x y) ↔ y < x := by
  have h1 := cmp_le x y
  rw [← Int32.not_le, h1, Int64.not_le]
/-! the memory -/
theorem mI_sI (σ : OM) (a j b k : Nat) (v : Int32) : mI (sI σ a j v) b k = if b = a ∧ k = j then v else mI σ b k := rfl
theorem mL_sL (σ : OM) (a j b k : Nat) (v : Int64) : mL (sL σ a j v) b k = if b = a ∧ k = j then v else mL σ b k := rfl
theorem mR_sR (σ : OM) (a j b k : Nat) (v : Nat) : mR (sR σ a j v) b k = if b = a ∧ k = j then v else mR σ b k := rfl
theorem mI_sL (σ : OM) (a j : Nat) (v : Int64) : mI (sL σ a j v) = mI σ := rfl
theorem mI_sR (σ : OM) (a j : Nat) (v : Nat) : mI (sR σ a j v) = mI σ := rfl
theorem mL_sI (σ : OM) (a j : Nat) (v : Int32) : mL (sI σ a j v) = mL σ := rfl
theorem mL_sR (σ : OM) (a j : Nat) (v : Nat) : mL (sR σ a j v) = mL σ := rfl
theorem mR_sI (σ : OM) (a j : Nat) (v : Int32) : mR (sI σ a j v) = mR σ := rfl
theorem mR_sL (σ : OM) (a j : Nat) (v : Int64) : mR (sL σ a j v) = mR σ := rfl
theorem mI_row {σ : OM} {a j b : Nat} {v : Int32} (h : b ≠ a) : mI (sI σ a j v) b = mI σ b := funext fun k => by rw [mI_sI, if_neg (fun e => h e.1)]
theorem mL_row {σ : OM} {a j b : Nat} {v : Int64} (h : b ≠ a) : mL (sL σ a j v) b = mL σ b := funext fun k => by rw [mL_sL, if_neg (fun e => h e.1)]
theorem mI_at {σ : OM} {a j : Nat} {v : Int32} : mI (sI σ a j v) a j = v := if_pos ⟨rfl, rfl⟩
theorem mL_at {σ : OM} {a j : Nat} {v : Int64} : mL (sL σ a j v) a j = v := if_pos ⟨rfl, rfl⟩
theorem obi_s {α β : Type} (r : α) (s : OM) (k : α → OM → Option β) : obi (some (r, s)) k = k r s := rfl
theorem obv_s {β : Type} (s : OM) (k : OM → Option β) : obv (some s) k = k s := rfl
theorem ogd_t {α : Type} {b : Bool} {x : Option α} (h : b = true) : ogd b x = x := if_pos h
theorem ogd_d {α : Type} {p : Prop} [Decidable p] {x : Option α} (h : p) : ogd (decide p) x = x := if_pos (decide_eq_true h)
/-! loops -/
def ofd {α : Type} (step : Nat → α → α) (a : α) : Nat → α
  | 0 => a
  | n + 1 => step n (ofd step a n)
theorem lup {α β : Type} {g : Nat → α → Nat → β} {n : Nat} {step : Nat → α → α} {fin : α → β} {a : α} {I : Nat → α → Prop} (h0 : I 0 a) (hI : ∀ k x, k < n → I k x → I (k + 1) (step k x)) (hs : ∀ m x k, k < n → I k x → g (m + 1) x k = g m (step k x) (k + 1)) (hf : ∀ m x, I n x → g (m + 1) x n = fin x) : ∀ m, n < m → g m a 0 = fin (ofd step a n) := by
  have hIk : ∀ k, k ≤ n → I k (ofd step a k) := by
    intro k
    induction k with
    | zero => intro _; exact h0
    | succ k ih => intro hk; exact hI k _ (by omega) (ih (by omega))
  have h : ∀ c k m, k + c = n → c < m → g m (ofd step a k) k = fin (ofd step a n) := by
    intro c
    induction c with
    | zero =>
      intro k m hk hm
      have hk2 : k = n := by omega
      subst hk2
      obtain ⟨m', rfl⟩ : ∃ m', m = m' + 1 := ⟨m - 1, by omega⟩
      exact hf m' _ (hIk _ (Nat.le_refl _))
    | succ c ih =>
      intro k m hk hm
      obtain ⟨m', rfl⟩ : ∃ m', m = m' + 1 := ⟨m - 1, by omega⟩
      rw [hs m' _ k (by omega) (hIk k (by omega))]
      exact ih (k + 1) m' (by omega) (by omega)
  intro m hm
  exact h n 0 m (by omega) hm
/-- without an invariant -/
theorem lup0 {α β : Type} {g : Nat → α → Nat → β} {n : Nat} {step : Nat → α → α} {fin : α → β} {a : α} (hs : ∀ m x k, k < n → g (m + 1) x k = g m (step k x) (k + 1)) (hf : ∀ m x, g (m + 1) x n = fin x) (m : Nat) (hm : n < m) : g m a 0 = fin (ofd step a n) :=
  lup (I := fun _ _ => True) trivial (fun _ _ _ _ => trivial) (fun m x k hk _ => hs m x k hk) (fun m x _ => hf m x) m hm
/-- the first place with a property, n if there is none -/
def ofs (p : Nat → Bool) : Nat → Nat → Nat
  | 0, k => k
  | c + 1, k => if p k then k else ofs p c (k + 1)
theorem lfs {β : Type} {g : Nat → Nat → β} {n : Nat} {p : Nat → Bool} {yes : Nat → β} {fin : β} (hs : ∀ m k, k < n → g (m + 1) k = if p k then yes k else g m (k + 1)) (hf : ∀ m, g (m + 1) n = fin) : ∀ c k m, k + c = n → c < m → g m k = if ofs p c k < n then yes (ofs p c k) else fin := by
  intro c
  induction c with
  | zero =>
    intro k m hk hm
    have hk2 : k = n := by omega
    subst hk2
    obtain ⟨m', rfl⟩ : ∃ m', m = m' + 1 := ⟨m - 1, by omega⟩
    rw [hf]; simp [ofs]
  | succ c ih =>
    intro k m hk hm
    obtain ⟨m', rfl⟩ : ∃ m', m = m' + 1 := ⟨m - 1, by omega⟩
    rw [hs m' k (by omega)]
    unfold ofs
    by_cases h : p k = true
    · rw [if_pos h, if_pos h, if_pos (by omega)]
    · rw [if_neg h, if_neg h]
      exact ih (k + 1) m' (by omega) (by omega)
theorem ofd_congr {α : Type} {s t : Nat → α → α} {a : α} : ∀ {n : Nat}, (∀ k x, k < n → s k x = t k x) → ofd s a n = ofd t a n
  | 0, _ => rfl
  | n + 1, h => by
    show s n (ofd s a n) = t n (ofd t a n)
    rw [ofd_congr (fun k x hk => h k x (by omega)), h n _ (by omega)]
theorem ofd_ind {α : Type} {s : Nat → α → α} {a : α} {P : Nat → α → Prop} (h0 : P 0 a) {n : Nat} (hs : ∀ k x, k < n → P k x → P (k + 1) (s k x)) : P n (ofd s a n) := by
  have h : ∀ k, k ≤ n → P k (ofd s a k) := by
    intro k
    induction k with
    | zero => intro _; exact h0
    | succ k ih => intro hk; exact hs k _ (by omega) (ih (by omega))
  exact h n (Nat.le_refl _)
