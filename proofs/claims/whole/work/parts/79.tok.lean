/-! the class's tokens -/
theorem zsm_b : ∀ x, x ≤ 256 → zsm x = true → 97 ≤ x ∧ x ≤ 122 ∧ zdg x = false ∧ zcb x = oi x ∧ zrb x = oi x ∧ x ≠ 32 ∧ x ≠ 256 ∧ (zcb x).toInt64 = ol x := by decide +kernel
theorem zdg_b : ∀ x, x ≤ 256 → zdg x = true → 48 ≤ x ∧ x ≤ 57 ∧ zsm x = false ∧ zcb x = oi x ∧ zrb x = oi x ∧ x ≠ 32 ∧ x ≠ 256 ∧ (zcb x).toInt64 = ol x := by decide +kernel
theorem zwv_st {g : Nat → Nat} {p : Nat} : ∀ m, m ≤ 8 → (∀ k, k < m → g (p + k) ≤ 256 ∧ zsm (g (p + k)) = true) → ofd (zst g p) 0 m = ol (zwv (fun k => g (p + k)) m)
  | 0, _, _ => rfl
  | m + 1, hm, h => by
    have ih := zwv_st m (by omega) (fun k hk => h k (by omega))
    obtain ⟨a1, a2, a3, a4, a5, a6, a7, a8⟩ := zsm_b _ (h m (by omega)).1 (h m (by omega)).2
    have hl : zwv (fun k => g (p + k)) m < 256 ^ m := zwv_lt m (fun k hk => by have := zsm_b _ (h k (by omega)).1 (h k (by omega)).2; omega)
    have hp : 256 ^ m ≤ 256 ^ 7 := Nat.pow_le_pow_right (by decide) (by omega)
    have h7 : (256 : Nat) ^ 7 = 72057594037927936 := by decide
    show zst g p m (ofd (zst g p) 0 m) = ol (256 * zwv (fun k => g (p + k)) m + g (p + m))
    rw [ih, zst, if_neg (by rw [a3]; decide), a8]
    exact zshl _ _ (by omega) (by omega)
def zdv (u : Nat → Nat) (m : Nat) : Nat := ofd (fun k v => 10 * v + u k - 48) 0 m
theorem zdv_lt {u : Nat → Nat} : ∀ m, (∀ k, k < m → 48 ≤ u k ∧ u k ≤ 57) → zdv u m < 10 ^ m
  | 0, _ => Nat.one_pos
  | m + 1, h => by
    have h1 := zdv_lt m (fun k hk => h k (by omega))
    have h2 := h m (by omega)
    show 10 * zdv u m + u m - 48 < 10 ^ (m + 1)
    rw [Nat.pow_succ]; omega
theorem zdv_st {g : Nat → Nat} {p : Nat} : ∀ m, m ≤ 3 → (∀ k, k < m → g (p + k) ≤ 256 ∧ zdg (g (p + k)) = true) → ofd (zst g p) 0 m = ol (zdv (fun k => g (p + k)) m)
  | 0, _, _ => rfl
  | m + 1, hm, h => by
    have ih := zdv_st m (by omega) (fun k hk => h k (by omega))
    obtain ⟨a1, a2, a3, a4, a5, a6, a7, a8⟩ := zdg_b _ (h m (by omega)).1 (h m (by omega)).2
    show zst g p m (ofd (zst g p) 0 m) = ol (10 * zdv (fun k => g (p + k)) m + g (p + m) - 48)
    rw [ih, zst, if_pos (h m (by omega)).2, a8, show (10 : Int64) = ol 10 from rfl, show (48 : Int64) = ol 48 from rfl, ol_mul, ol_add, ol_sub (by omega)]
abbrev Tk : Type := Nat × Nat × Nat
def zsg (x : Nat) : Bool := decide (x = 59 ∨ x = 44 ∨ x = 40 ∨ x = 41)
def zTok (g : Nat → Nat) (L p : Nat) (t : Tk) : Prop :=
  p ≤ t.2.1 ∧ t.2.1 ≤ L ∧ (∀ k, p ≤ k → k < t.2.1 → g k = 32) ∧
  ((t.2.1 = L ∧ t.1 = 0 ∧ t.2.2 = L) ∨
   (t.2.1 < L ∧ g t.2.1 ≠ 32 ∧
     ((zsm (g t.2.1) = true ∧ ∃ m, zRun zsm g t.2.1 m ∧ t.2.2 = t.2.1 + m ∧ t.2.2 ≤ L ∧ t.1 = if m ≤ 8 then 2 else 1) ∨
      (zdg (g t.2.1) = true ∧ ∃ m, zRun zdg g t.2.1 m ∧ t.2.2 = t.2.1 + m ∧ t.2.2 ≤ L ∧ t.1 = if m ≤ 3 then 3 else 1) ∨
      (zsm (g t.2.1) = false ∧ zdg (g t.2.1) = false ∧ t.2.2 = t.2.1 + 1 ∧ t.1 = if zsg (g t.2.1) then g t.2.1 else 1))))
/-- the first word of the list that has this value -/
def zkw (v : Int64) : Int32 := if ofs (fun k => decide (okw k = v)) 15 0 < 15 then oi (256 + ofs (fun k => decide (okw k = v)) 15 0) else 1
theorem zkindw (v : Int64) (σ : OM) : fX6_kindOfWord v σ = some (zkw v, σ) := by
  have h := lfs (g := fun n k => fX6_kindOfWord_b2 n v (oi k) σ) (n := 15) (p := fun k => decide (okw k = v)) (yes := fun k => some (oi (256 + k), σ)) (fin := some (1, σ))
    (fun m k hk => by
      show fX6_kindOfWord_b2 (m + 1) v (oi k) σ = _
      rw [fX6_kindOfWord_b2, show (15 : Int32) = oi 15 from rfl, if_neg (by rw [oi_le (by omega) (by omega)]; omega), ogi (by omega) (by omega), oi_nat (by omega), oi_succ, show (256 : Int32) = oi 256 from rfl, oi_add]
      by_cases e : okw k = v
      · rw [if_pos ((cmp_eq _ _).mpr e), if_pos (decide_eq_true e)]
      · rw [if_neg (fun q => e ((cmp_eq _ _).mp q)), if_neg (by rw [decide_eq_true_eq]; exact e)])
    (fun m => by
      show fX6_kindOfWord_b2 (m + 1) v (oi 15) σ = _
      rw [fX6_kindOfWord_b2, if_pos (by decide)])
    15 0 oF rfl (by unfold oF; omega)
  refine (show fX6_kindOfWord v σ = _ from h).trans ?_
  unfold zkw
  split <;> rfl
def zck (g : Nat → Nat) (t : Tk) : Int32 := if t.1 = 2 then zkw (ol (zwv (fun k => g (t.2.1 + k)) (t.2.2 - t.2.1))) else if t.1 = 3 then 2 else if t.1 = 1 then 3 else oi t.1
def zcv (g : Nat → Nat) (t : Tk) (v : Int64) : Prop := (t.1 = 2 → v = ol (zwv (fun k => g (t.2.1 + k)) (t.2.2 - t.2.1))) ∧ (t.1 = 3 → v = ol (zdv (fun k => g (t.2.1 + k)) (t.2.2 - t.2.1)))
theorem zsgn : ∀ x, x ≤ 256 → (zcb x = 59 ↔ x = 59) ∧ (zcb x = 44 ↔ x = 44) ∧ (zcb x = 40 ↔ x = 40) ∧ (zcb x = 41 ↔ x = 41) ∧ (zsg x = true → zcb x = oi x) ∧ (zrb x = 59 ↔ x = 59) ∧ (zrb x = 44 ↔ x = 44) ∧ (zrb x = 40 ↔ x = 40) ∧ (zrb x = 41 ↔ x = 41) ∧ (zsg x = true → zrb x = oi x) := by decide +kernel
theorem zsg_v {x : Nat} (h : zsg x = true) : x = 59 ∨ x = 44 ∨ x = 40 ∨ x = 41 := of_decide_eq_true h
theorem zsig4 {α : Type} {y : Int32} {x : Nat} (a b : α) (h1 : y = 59 ↔ x = 59) (h2 : y = 44 ↔ x = 44) (h3 : y = 40 ↔ x = 40) (h4 : y = 41 ↔ x = 41) : (if y = 59 then a else if y = 44 then a else if y = 40 then a else if y = 41 then a else b) = if zsg x then a else b := by
  unfold zsg
  by_cases e1 : x = 59
  · rw [if_pos (h1.mpr e1), if_pos (decide_eq_true (Or.inl e1))]
  · rw [if_neg (fun q => e1 (h1.mp q))]
    by_cases e2 : x = 44
    · rw [if_pos (h2.mpr e2), if_pos (decide_eq_true (Or.inr (Or.inl e2)))]
    · rw [if_neg (fun q => e2 (h2.mp q))]
      by_cases e3 : x = 40
      · rw [if_pos (h3.mpr e3), if_pos (decide_eq_true (Or.inr (Or.inr (Or.inl e3))))]
      · rw [if_neg (fun q => e3 (h3.mp q))]
        by_cases e4 : x = 41
        · rw [if_pos (h4.mpr e4), if_pos (decide_eq_true (Or.inr (Or.inr (Or.inr e4))))]
        · rw [if_neg (fun q => e4 (h4.mp q)), if_neg (by rw [decide_eq_true_eq]; omega)]
section
variable {σ : OM} {f : Nat → Nat} {L : Nat}
theorem ztok_c (h : zTC σ f L) {p : Nat} (hp : p < L) (hg : zch f L p ≠ 32) : ∃ t : Tk, t.2.1 = p ∧ t.1 ≠ 0 ∧ zTok (zch f L) L p t ∧ ∃ len v, 1 ≤ len ∧ p + len ≤ L ∧ fX6_lengthFrom (oi p) σ = some (oi len, σ) ∧ fX6_kindFrom (oi p) (oi len) σ = some (zck (zch f L) t, σ) ∧ fX6_valueFrom (oi p) (oi len) σ = some (v, σ) ∧ zcv (zch f L) t v ∧ (t.1 ≠ 1 → p + len = t.2.2) ∧ (zck (zch f L) t = 3 ↔ t.1 = 1) := by
  have hL := h.1
  have hx := zch_le h p
  have kw3 : ∀ v, zkw v ≠ 3 := by
    intro v; unfold zkw; split
    · rename_i e
      rw [show (3 : Int32) = oi 3 from rfl, Ne, oi_inj (by omega) (by omega)]; omega
    · decide
  cases es : zsm (zch f L p) with
  | true =>
    obtain ⟨m, hr, hm⟩ := zrun_ex (P := zsm) (zch_off zsm (by decide) f L) (L - p) p (by omega)
    have h1 := zrun_pos hr es
    refine ⟨(if m ≤ 8 then 2 else 1, p, p + m), rfl, ?_, ⟨Nat.le_refl _, by show p ≤ L; omega, fun k h1 h2 => absurd h2 (by show ¬ k < p; omega), Or.inr ⟨hp, hg, Or.inl ⟨es, m, hr, rfl, hm, rfl⟩⟩⟩, min m 9, _, by omega, by omega, ?_, ?_, zval h (by omega) (by omega), ?_, ?_, ?_⟩
    · show (if m ≤ 8 then 2 else 1) ≠ 0
      split <;> decide
    · unfold fX6_lengthFrom
      rw [zbyte h (by omega), obi_s, zletc hx, es, obi_s, if_neg (by decide)]
      exact zlen13 h (by omega) hr (min m 9 - 1) 1 oF (by omega) (by omega) (by unfold oF; omega)
    · unfold fX6_kindFrom
      rw [zbyte h (by omega), obi_s, zletc hx, es, obi_s, if_neg (by decide), show (8 : Int32) = oi 8 from rfl]
      unfold zck
      by_cases e : m ≤ 8
      · simp only [if_pos e, show min m 9 = m by omega, Nat.add_sub_cancel_left]
        rw [if_neg (by rw [oi_lt (by omega) (by omega)]; omega), zval h (by omega) (by omega), obi_s, zkindw, obi_s, zwv_st m e (fun k hk => ⟨zch_le h _, hr.1 k hk⟩)]
        rfl
      · simp only [if_neg e, show min m 9 = 9 by omega]
        rw [if_pos (by decide)]
        rfl
    · unfold zcv
      by_cases e : m ≤ 8
      · simp only [if_pos e, show min m 9 = m by omega, Nat.add_sub_cancel_left]
        exact ⟨fun _ => zwv_st m e (fun k hk => ⟨zch_le h _, hr.1 k hk⟩), fun q => absurd q (by decide)⟩
      · simp only [if_neg e]
        exact ⟨fun q => absurd q (by decide), fun q => absurd q (by decide)⟩
    · intro q
      by_cases e : m ≤ 8
      · show p + min m 9 = p + m; omega
      · exact absurd (if_neg e) q
    · unfold zck
      by_cases e : m ≤ 8
      · simp only [if_pos e]
        exact ⟨fun q => absurd q (kw3 _), fun q => absurd q (by decide)⟩
      · simp only [if_neg e]
        exact ⟨fun _ => trivial, fun _ => rfl⟩
  | false =>
    cases ed : zdg (zch f L p) with
    | true =>
      obtain ⟨m, hr, hm⟩ := zrun_ex (P := zdg) (zch_off zdg (by decide) f L) (L - p) p (by omega)
      have h1 := zrun_pos hr ed
      refine ⟨(if m ≤ 3 then 3 else 1, p, p + m), rfl, ?_, ⟨Nat.le_refl _, by show p ≤ L; omega, fun k h1 h2 => absurd h2 (by show ¬ k < p; omega), Or.inr ⟨hp, hg, Or.inr (Or.inl ⟨ed, m, hr, rfl, hm, rfl⟩)⟩⟩, min m 4, _, by omega, by omega, ?_, ?_, zval h (by omega) (by omega), ?_, ?_, ?_⟩
      · show (if m ≤ 3 then 3 else 1) ≠ 0
        split <;> decide
      · unfold fX6_lengthFrom
        rw [zbyte h (by omega), obi_s, zletc hx, es, obi_s, if_pos (by decide), zbyte h (by omega), obi_s, zdigc hx, ed, obi_s, if_neg (by decide)]
        exact zlen49 h (by omega) hr (min m 4 - 1) 1 oF (by omega) (by omega) (by unfold oF; omega)
      · unfold fX6_kindFrom
        rw [zbyte h (by omega), obi_s, zletc hx, es, obi_s, if_pos (by decide), zdigc hx, ed, obi_s, if_neg (by decide), show (3 : Int32) = oi 3 from rfl]
        unfold zck
        by_cases e : m ≤ 3
        · simp only [if_pos e, show min m 4 = m by omega]
          rw [if_neg (by rw [oi_lt (by omega) (by omega)]; omega)]
          rfl
        · simp only [if_neg e, show min m 4 = 4 by omega]
          rw [if_pos (by decide)]
          rfl
      · unfold zcv
        by_cases e : m ≤ 3
        · simp only [if_pos e, show min m 4 = m by omega, Nat.add_sub_cancel_left]
          exact ⟨fun q => absurd q (by decide), fun _ => zdv_st m e (fun k hk => ⟨zch_le h _, hr.1 k hk⟩)⟩
        · simp only [if_neg e]
          exact ⟨fun q => absurd q (by decide), fun q => absurd q (by decide)⟩
      · intro q
        by_cases e : m ≤ 3
        · show p + min m 4 = p + m; omega
        · exact absurd (if_neg e) q
      · unfold zck
        by_cases e : m ≤ 3
        · simp only [if_pos e]; exact ⟨fun q => absurd (show (2 : Int32) = 3 from q) (by decide), fun q => absurd q (by decide)⟩
        · simp only [if_neg e]; exact ⟨fun _ => trivial, fun _ => rfl⟩
    | false =>
      obtain ⟨g1, g2, g3, g4, g5, _⟩ := zsgn _ hx
      refine ⟨(if zsg (zch f L p) then zch f L p else 1, p, p + 1), rfl, ?_, ⟨Nat.le_refl _, by show p ≤ L; omega, fun k h1 h2 => absurd h2 (by show ¬ k < p; omega), Or.inr ⟨hp, hg, Or.inr (Or.inr ⟨es, ed, rfl, rfl⟩)⟩⟩, 1, _, by omega, by omega, ?_, ?_, zval h (by omega) (by omega), ?_, ?_, ?_⟩
      · show (if zsg (zch f L p) = true then zch f L p else 1) ≠ 0
        split
        · rename_i e; have := zsg_v e; omega
        · decide
      · unfold fX6_lengthFrom
        rw [zbyte h (by omega), obi_s, zletc hx, es, obi_s, if_pos (by decide), zbyte h (by omega), obi_s, zdigc hx, ed, obi_s, if_pos (by decide)]; rfl
      · unfold fX6_kindFrom
        rw [zbyte h (by omega), obi_s, zletc hx, es, obi_s, if_pos (by decide), zdigc hx, ed, obi_s, if_pos (by decide), zsig4 _ _ g1 g2 g3 g4]
        unfold zck
        by_cases e : zsg (zch f L p) = true
        · have hv := zsg_v e
          simp only [if_pos e]
          rw [if_neg (by omega), if_neg (by omega), if_neg (by omega), g5 e]
        · simp only [if_neg e]; rfl
      · unfold zcv
        by_cases e : zsg (zch f L p) = true
        · have hv := zsg_v e
          simp only [if_pos e]
          exact ⟨fun q => absurd q (by omega), fun q => absurd q (by omega)⟩
        · simp only [if_neg e]
          exact ⟨fun q => absurd q (by decide), fun q => absurd q (by decide)⟩
      · intro _; rfl
      · unfold zck
        by_cases e : zsg (zch f L p) = true
        · have hv := zsg_v e
          simp only [if_pos e]
          rw [if_neg (by omega), if_neg (by omega), if_neg (by omega), show (3 : Int32) = oi 3 from rfl, oi_inj (by omega) (by omega)]
          omega
        · simp only [if_neg e]; exact ⟨fun _ => trivial, fun _ => rfl⟩
end
