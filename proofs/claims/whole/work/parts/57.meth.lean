/-! generations, years -/
def sYr (R : Nat → Int32) (h g : Nat) : Option Nat := if 0 < nn (R (20 + 4 * h)) ∧ nn (R (20 + 4 * h)) ≤ nn (R (17 + 4 * h)) + nn (R (18 + 4 * h)) * g + 1 then none else some (nn (R (17 + 4 * h)) + nn (R (18 + 4 * h)) * g)
def oY (y : Option Nat) : Int32 := match y with
  | none => -2
  | some y => oi y
def sAi (R : Nat → Int32) (h g : Nat) : Nat := if sTw R h g then 2 else 1
theorem ix17 (h : Nat) : (17 : Int32) + (4 : Int32) * oi h = oi (17 + 4 * h) := by
  show oi 17 + oi 4 * oi h = _; rw [oi_mul, oi_add]
theorem ixk (a k : Nat) : oi a + oi k = oi (a + k) := oi_add a k
theorem ix41 (h : Nat) : (41 : Int32) + (2 : Int32) * oi h = oi (41 + 2 * h) := by
  show oi 41 + oi 2 * oi h = _; rw [oi_mul, oi_add]
theorem HB {R : Nat → Int32} {Z : Nat → Int64} (h : MB R Z) {k : Nat} (hk : k < nn (R 3)) : bd (R (17 + 4 * k)) 999 ∧ bd (R (18 + 4 * k)) 99 ∧ 1 ≤ nn (R (18 + 4 * k)) ∧ bd (R (19 + 4 * k)) 99 ∧ bd (R (20 + 4 * k)) 1000 := h.2.2.1 k hk
theorem mul_bd {e g : Nat} (he : e ≤ 99) (hg : g ≤ 100000) : e * g ≤ 9900000 := Nat.le_trans (Nat.mul_le_mul he hg) (by decide)
theorem sTw_le {R : Nat → Int32} {Z : Nat → Int64} (h : MB R Z) {k g : Nat} (hg : g < 2147483648) (ht : sTw R k g = true) : g ≤ 30 := by
  obtain ⟨j, hj, hp⟩ := anyN_iff.mp ht
  have h1 := of_decide_eq_true (Bool.and_eq_true_iff.mp hp).2
  obtain ⟨-, -, b, -⟩ := h.2.2.2.1 j hj
  have h2 := b.2
  rw [h1, nn_oi hg] at h2
  exact h2
theorem ofs_lt {p : Nat → Bool} : ∀ c k, ofs p c k < k + c ↔ ∃ j, k ≤ j ∧ j < k + c ∧ p j = true
  | 0, k => ⟨fun h => absurd h (by unfold ofs; omega), fun ⟨j, h1, h2, _⟩ => by omega⟩
  | c + 1, k => by
    unfold ofs
    by_cases h : p k = true
    · rw [if_pos h]; exact ⟨fun _ => ⟨k, by omega, by omega, h⟩, fun _ => by omega⟩
    · rw [if_neg h, show k + (c + 1) = (k + 1) + c by omega, ofs_lt c (k + 1)]
      constructor
      · rintro ⟨j, h1, h2, h3⟩; exact ⟨j, by omega, h2, h3⟩
      · rintro ⟨j, h1, h2, h3⟩
        by_cases e : j = k
        · rw [e] at h3; exact absurd h3 h
        · exact ⟨j, by omega, h2, h3⟩
theorem askIn_eq {τ : OM} (h : RB τ) {k g : Nat} (hk : k < 6) (hg : g < 2147483648) : fX10_askIn (oi k) (oi g) τ = some (oi (sAi (mI τ 84) k g), τ) := by
  have hT := h.2.1.1.2.2.2.1
  have hTb := hT.2
  unfold fX10_askIn
  rw [show (0 : Int32) = oi 0 from rfl, lfs (g := fun f j => fX10_askIn_b2 f (oi k) (oi g) (oi j) τ) (n := nn (mI τ 84 4)) (p := fun j => decide (mI τ 84 (41 + 2 * j) = oi k) && decide (mI τ 84 (42 + 2 * j) = oi g)) (yes := fun _ => some (2, τ)) (fin := some (1, τ)) ?_ ?_ (nn (mI τ 84 4)) 0 oF (by omega) (by unfold oF; omega)]
  · unfold sAi
    have e := ofs_lt (p := fun j => decide (mI τ 84 (41 + 2 * j) = oi k) && decide (mI τ 84 (42 + 2 * j) = oi g)) (nn (mI τ 84 4)) 0
    rw [Nat.zero_add] at e
    cases ht : sTw (mI τ 84) k g
    · rw [if_neg, if_neg (by decide)]
      · rfl
      · intro hl
        obtain ⟨j, -, h2, h3⟩ := e.mp hl
        have : sTw (mI τ 84) k g = true := anyN_iff.mpr ⟨j, h2, h3⟩
        rw [ht] at this; cases this
    · rw [if_pos, if_pos rfl]
      · rfl
      · obtain ⟨j, h2, h3⟩ := anyN_iff.mp ht
        exact e.mpr ⟨j, by omega, h2, h3⟩
  · intro m j hj
    show fX10_askIn_b2 (m + 1) (oi k) (oi g) (oi j) τ = if (decide (mI τ 84 (41 + 2 * j) = oi k) && decide (mI τ 84 (42 + 2 * j) = oi g)) = true then some (2, τ) else fX10_askIn_b2 m (oi k) (oi g) (oi (j + 1)) τ
    rw [fX10_askIn_b2, hT.1, if_neg (by rw [oi_le (by omega) (by omega)]; omega), ix41, ogi (by omega) (by omega), oi_nat (by omega), oi_succ, ogi (by omega) (by omega), oi_nat (by omega), show 41 + 2 * j + 1 = 42 + 2 * j by omega, oi_succ]
    by_cases e1 : mI τ 84 (41 + 2 * j) = oi k
    · rw [if_pos e1, decide_eq_true e1]
      by_cases e2 : mI τ 84 (42 + 2 * j) = oi g
      · rw [if_pos e2, decide_eq_true e2]; rfl
      · rw [if_neg e2, decide_eq_false e2]; rfl
    · rw [if_neg e1, decide_eq_false e1]; rfl
  · intro m
    show fX10_askIn_b2 (m + 1) (oi k) (oi g) (oi _) τ = _
    rw [fX10_askIn_b2, hT.1, nn_oi (nn_lt _), if_pos ((oi_le (by omega) (by omega)).mpr (Nat.le_refl _))]
theorem yearOf_r {τ : OM} (h : RB τ) {k g : Nat} (hk : k < nn (mI τ 84 3)) (hg : g ≤ 100000) : fX10_yearOf (oi k) (oi g) τ = some (oY (sYr (mI τ 84) k g), τ) := by
  have hHb := h.2.1.1.2.2.1.2
  obtain ⟨b1, b2', -, -, b5⟩ := HB h.2.1 hk
  obtain ⟨F, hF, eF⟩ := bd_ex b1
  obtain ⟨E, hE, eE⟩ := bd_ex b2'
  obtain ⟨e, he, ee⟩ := bd_ex b5
  have hm := mul_bd hE hg
  unfold fX10_yearOf sYr
  rw [ix17, show (1 : Int32) = oi 1 from rfl, lt3, ixk, ixk, ogi (by omega) (by omega), ogi (by omega) (by omega), ogi (by omega) (by omega), ogi (by omega) (by omega), oi_nat (by omega), oi_nat (by omega), oi_nat (by omega), show 17 + 4 * k + 1 = 18 + 4 * k by omega, show 17 + 4 * k + 3 = 20 + 4 * k by omega, eF, eE, ee, nn_oi (by omega), nn_oi (by omega), nn_oi (by omega), oi_mul, oi_add, show (0 : Int32) = oi 0 from rfl, ite_iff (oi_le (by omega) (by omega))]
  by_cases e0 : e = 0
  · rw [if_pos (by omega), if_neg (by omega)]; rfl
  · rw [if_neg (by omega), oi_sub (by omega), ite_iff (oi_lt (by omega) (by omega))]
    by_cases e1 : F + E * g < e - 1
    · rw [if_pos e1, if_neg (by omega)]; rfl
    · rw [if_neg e1, if_pos (by omega)]; rfl
section
variable {σ : OM} {w : Nat} {R : Nat → Int32} {Z : Nat → Int64} {s : Nat → Int32}
theorem x_house (h : CX σ w R Z s) {k : Nat} (hk : k < nn (R 3)) : mI σ (w + 14 + k) 0 = R (17 + 4 * k) ∧ mI σ (w + 14 + k) 1 = R (18 + 4 * k) ∧ mI σ (w + 14 + k) 2 = R (19 + 4 * k) ∧ mI σ (w + 14 + k) 4 = R (20 + 4 * k) - 1 ∧ ∀ g, g < 32 → tw (mI σ (w + 14 + k) 3) g = sTw R k g := h.2.1.2.2.2.2.2.2 k hk
theorem nem1 : ∀ m, m < 1001 → ¬ (oi m = -1) := by decide +kernel
theorem yearOf_c (h : CX σ w R Z s) {k g : Nat} (hk : k < nn (R 3)) (hg : g ≤ 100000) : fX1_yearOf (w + 14 + k) (oi g) σ = some (oY (sYr R k g), σ) := by
  obtain ⟨c1, c2, -, c4, -⟩ := x_house h hk
  obtain ⟨b1, b2', -, -, b5⟩ := HB h.1.1 hk
  obtain ⟨F, hF, eF⟩ := bd_ex b1
  obtain ⟨E, hE, eE⟩ := bd_ex b2'
  obtain ⟨e, he, ee⟩ := bd_ex b5
  have hm := mul_bd hE hg
  unfold fX1_yearOf sYr
  rw [c1, c2, c4, eF, eE, ee, nn_oi (by omega), nn_oi (by omega), nn_oi (by omega), oi_mul, oi_add, Nat.mul_comm g E]
  by_cases e0 : e = 0
  · rw [if_pos (by rw [e0]; decide), if_neg (by omega)]; rfl
  · rw [show (1 : Int32) = oi 1 from rfl, oi_sub (by omega), if_neg (by have := nem1 (e - 1) (by omega); exact this), ite_iff (oi_lt (by omega) (by omega))]
    by_cases e1 : F + E * g < e - 1
    · rw [if_pos e1, if_neg (by omega)]; rfl
    · rw [if_neg e1, if_pos (by omega)]; rfl
theorem askOf_eq (h : CX σ w R Z s) {k g : Nat} (hk : k < nn (R 3)) (hg : g < 2147483648) : fX1_askingsOf (w + 14 + k) (oi g) σ = some (oi (sAi R k g), σ) := by
  obtain ⟨-, -, -, -, c5⟩ := x_house h hk
  unfold fX1_askingsOf sAi
  rw [if_neg (oi_nneg hg), show (30 : Int32) = oi 30 from rfl, ite_iff (oi_lt (by omega) hg)]
  by_cases e : 30 < g
  · rw [if_pos e]
    cases ht : sTw R k g
    · rfl
    · have := sTw_le h.1.1 hg ht; omega
  · rw [if_neg e, bitOfW_eq _ (by omega), obi_s, c5 g (by omega)]
    cases sTw R k g <;> rfl
end
theorem sub_nn {a b : Nat} (ha : a < 1073741824) (hb : b < 1073741824) : (0 ≤ oi a - oi b) ↔ b ≤ a := by
  by_cases h : b ≤ a
  · rw [oi_sub h, show (0 : Int32) = oi 0 from rfl, oi_le (by decide) (by omega)]; omega
  · refine ⟨fun e => ?_, fun e => absurd e h⟩
    exfalso
    rw [Int32.le_iff_toInt_le, Int32.toInt_sub, oi_int (by omega), oi_int (by omega)] at e
    rw [Int.bmod_eq_of_le (by omega) (by omega)] at e
    have : (0 : Int32).toInt = 0 := rfl
    omega
/-- the generation of an asking -/
def sAg (R : Nat → Int32) (h : Nat) : Nat → Nat → Nat → Nat
  | 0, g, _ => g
  | n + 1, g, a => if a < sAi R h g then g else sAg R h n (g + 1) (a - sAi R h g)
theorem sAi_le (R : Nat → Int32) (h g : Nat) : 1 ≤ sAi R h g ∧ sAi R h g ≤ 2 := by unfold sAi; split <;> omega
theorem asking_go_c {σ : OM} {w : Nat} {R : Nat → Int32} {Z : Nat → Int64} {s : Nat → Int32} (h : CX σ w R Z s) {k i : Nat} (hk : k < nn (R 3)) (hi : i ≤ 99) : ∀ n a g m, a < n → g + a ≤ i → n ≤ m → fX1_yearOfAsking_b4 m (w + 14 + k) (oi i) (oi a) (oi g) σ = some (oY (sYr R k (sAg R k n g a)), σ) := by
  intro n
  induction n with
  | zero => intro a g m h1; omega
  | succ n ih =>
    intro a g m h1 h2 h3
    obtain ⟨m, rfl⟩ : ∃ m', m = m' + 1 := ⟨m - 1, by omega⟩
    have l := sAi_le R k g
    rw [fX1_yearOfAsking_b4, if_neg (by rw [oi_lt (by omega) (by omega)]; omega), askOf_eq h hk (by omega), obi_s, ite_iff (sub_nn (by omega) (by omega))]
    unfold sAg
    by_cases e : a < sAi R k g
    · rw [if_neg (by omega), if_pos e]
      unfold fX1_yearOfAsking_b21
      rw [yearOf_c h hk (by omega), obi_s]
    · rw [if_pos (by omega), if_neg e, oi_sub (by omega), oi_succ]
      exact ih _ _ m (by omega) (by omega) (by omega)
theorem asking_go_r {τ : OM} (h : RB τ) {k : Nat} (hk : k < nn (mI τ 84 3)) : ∀ n a g m, a < n → g + a ≤ 99 → n ≤ m → fX10_asking_b39 m (oi k) (oi a) (oi g) τ = some (oY (sYr (mI τ 84) k (sAg (mI τ 84) k n g a)), τ) := by
  have hHb := h.2.1.1.2.2.1.2
  intro n
  induction n with
  | zero => intro a g m h1; omega
  | succ n ih =>
    intro a g m h1 h2 h3
    obtain ⟨m, rfl⟩ : ∃ m', m = m' + 1 := ⟨m - 1, by omega⟩
    have l := sAi_le (mI τ 84) k g
    rw [fX10_asking_b39, askIn_eq h (by omega) (by omega), obi_s, ite_iff (oi_lt (by omega) (by omega))]
    unfold sAg
    by_cases e : a < sAi (mI τ 84) k g
    · rw [if_pos e, if_pos e]
      unfold fX10_asking_b66
      rw [yearOf_r h hk (by omega), obi_s]
    · rw [if_neg e, if_neg e, askIn_eq h (by omega) (by omega), obi_s, oi_sub (by omega), oi_succ]
      exact ih _ _ m (by omega) (by omega) (by omega)
theorem m_asking (n : Nat) (x y : Int32) : okC n (fX9_asking x y) (fX10_asking x y) := by
  refine look1 (fun R Z s => if (oin x (nn (R 3)) && oin y 100) = true then oY (sYr R (nn x) (sAg R (nn x) 100 0 (nn y))) else -1) (fun R Z s => if oin x (nn (R 3)) then (if oin y 100 then 0 else 2) else 1) (-1) ?_ ?_ (fun R Z s => by split <;> first | decide | (split <;> decide)) ?_ ?_
  · intro σ w R Z s h0 hk h7 h
    unfold fX9_asking
    have hHb := x_Hb h.1
    rw [isH_c h.1 h0 hk, obi_s]
    cases hb0 : oin x (nn (R 3))
    · rw [if_pos (by decide)]; rfl
    obtain ⟨a, ha, ha2, rfl⟩ := oin_iff hb0
    rw [if_neg (by decide)]
    rcases oi_cases y with hy | ⟨b, hb, rfl⟩
    · rw [if_pos hy, oin_neg hy]; rfl
    · rw [if_neg (oi_nneg hb), oin_oi (n := 100) hb, show (99 : Int32) = oi 99 from rfl, ite_iff (oi_le hb (by omega))]
      by_cases e : b < 100
      · rw [if_pos (by omega), h0, ogd_d hk, ogi (by omega) (by omega), oi_nat (by omega), decide_eq_true e]
        unfold fX1_yearOfAsking
        rw [show (0 : Int32) = oi 0 from rfl, asking_go_c h.1 ha (by omega) 100 b 0 oF (by omega) (by omega) (by unfold oF; omega), obi_s, nn_oi ha2, nn_oi hb]; rfl
      · rw [if_neg (by omega), decide_eq_false e]; rfl
  · intro σ h
    unfold fX10_asking
    rw [good_eq, obv_s]
    generalize gd σ = τ at h ⊢
    have hHb := h.2.1.1.2.2.1.2
    rw [isH_r h, obi_s]
    cases hb0 : oin x (nn (mI τ 84 3))
    · rw [if_pos (by decide)]; rfl
    obtain ⟨a, ha, ha2, rfl⟩ := oin_iff hb0
    rw [if_neg (by decide), show fX10_in y 0 99 τ = fX10_in y 0 (oi 100 - 1) τ from rfl, in_r y (N := 100) (by decide), obi_s]
    cases hb1 : oin y 100
    · rw [if_pos (by decide)]; rfl
    obtain ⟨b, hb, hb2, rfl⟩ := oin_iff hb1
    rw [if_neg (by decide), show (0 : Int32) = oi 0 from rfl, asking_go_r h ha 100 b 0 oF (by omega) (by omega) (by unfold oF; omega), nn_oi ha2, nn_oi hb2]; rfl
  · intro σ w h0 hk h
    unfold fX9_asking
    rw [nH_c h h0 hk, obi_s, if_pos rfl]; rfl
  · intro σ h
    unfold fX10_asking
    rw [good_eq, obv_s]
    generalize gd σ = τ at h ⊢
    rw [nH_r h, obi_s, if_pos rfl]; rfl
