/-! literals, small steps -/
theorem lt2 : (2 : Int32) = oi 2 := rfl
theorem lt3 : (3 : Int32) = oi 3 := rfl
theorem lt4 : (4 : Int32) = oi 4 := rfl
theorem lt5 : (5 : Int32) = oi 5 := rfl
theorem lt6 : (6 : Int32) = oi 6 := rfl
theorem lt7 : (7 : Int32) = oi 7 := rfl
theorem lt8 : (8 : Int32) = oi 8 := rfl
theorem lt10 : (10 : Int32) = oi 10 := rfl
theorem lt12 : (12 : Int32) = oi 12 := rfl
theorem lt20 : (20 : Int32) = oi 20 := rfl
theorem lt64 : (64 : Int32) = oi 64 := rfl
theorem oi_lt0 {a : Nat} (h : a < 2147483648) : (oi a < 0) ↔ False := ⟨fun e => oi_nneg h e, False.elim⟩
theorem oi_eq1 {a : Nat} (h : a < 2147483648) : (oi a = 1) ↔ a = 1 := oi_inj h (by decide)
theorem oin_neg {x : Int32} (h : x < 0) (n : Nat) : oin x n = false := by unfold oin; rw [decide_eq_true h]; rfl
theorem oin_iff {x : Int32} {n : Nat} (h : oin x n = true) : ∃ a, a < n ∧ a < 2147483648 ∧ x = oi a := by
  rcases oi_cases x with h1 | ⟨a, h1, rfl⟩
  · rw [oin_neg h1] at h; cases h
  · rw [oin_oi h1] at h; exact ⟨a, of_decide_eq_true h, h1, rfl⟩
def anyN (p : Nat → Bool) : Nat → Bool
  | 0 => false
  | n + 1 => anyN p n || p n
def allN (p : Nat → Bool) : Nat → Bool
  | 0 => true
  | n + 1 => allN p n && p n
theorem anyN_iff {p : Nat → Bool} : ∀ {n : Nat}, anyN p n = true ↔ ∃ k, k < n ∧ p k = true
  | 0 => ⟨fun h => (by cases h), fun ⟨k, hk, _⟩ => absurd hk (by omega)⟩
  | n + 1 => by
    show (anyN p n || p n) = true ↔ _
    rw [Bool.or_eq_true, anyN_iff (n := n)]
    constructor
    · rintro (⟨k, h1, h2⟩ | h)
      · exact ⟨k, by omega, h2⟩
      · exact ⟨n, by omega, h⟩
    · rintro ⟨k, h1, h2⟩
      by_cases hk : k = n
      · subst hk; exact Or.inr h2
      · exact Or.inl ⟨k, by omega, h2⟩
theorem allN_iff {p : Nat → Bool} : ∀ {n : Nat}, allN p n = true ↔ ∀ k, k < n → p k = true
  | 0 => ⟨fun _ k hk => absurd hk (by omega), fun _ => rfl⟩
  | n + 1 => by
    show (allN p n && p n) = true ↔ _
    rw [Bool.and_eq_true, allN_iff (n := n)]
    constructor
    · rintro ⟨h1, h2⟩ k hk
      by_cases hkn : k = n
      · subst hkn; exact h2
      · exact h1 k (by omega)
    · intro h
      exact ⟨fun k hk => h k (by omega), h n (by omega)⟩
/-! the rows of a well, told twice -/
def sTw (R : Nat → Int32) (h g : Nat) : Bool := anyN (fun k => decide (R (41 + 2 * k) = oi h) && decide (R (42 + 2 * k) = oi g)) (nn (R 4))
def CS (σ : OM) (w : Nat) (R : Nat → Int32) (Z : Nat → Int64) : Prop :=
  (mI σ (w + 1) 0 = R 1 ∧ (∀ f, f < nn (R 1) → mI σ (w + 2) f = R (11 + f)) ∧ mI σ (w + 1) 2 = R 2 ∧ mL σ (w + 1) 3 = Z 8) ∧
  (mI σ (w + 1) 4 = b2 (decide (0 < nn (R 10))) ∧ (0 < nn (R 10) → mI σ (w + 1) 5 = oi (nn (R 10) - 1))) ∧
  (mI σ (w + 1) 6 = R 5 ∧ ∀ q, q < nn (R 5) → ∀ i, i < 2 ^ nn (R 1) → tb (mL σ (w + 3) q) i = tb (Z q) i) ∧
  (mI σ (w + 1) 8 = R 7 ∧ ∀ k, k < nn (R 7) → tw (mI σ (w + 1) 9) k = decide (R (89 + k) = 1)) ∧
  (∀ x, x < 2 ^ nn (R 1) → mI σ (w + 4) x = oi (sOd R x)) ∧
  (mI σ w 4 = R 3 ∧ mI σ w 5 = R 4) ∧
  (∀ h, h < nn (R 3) → mI σ (w + 14 + h) 0 = R (17 + 4 * h) ∧ mI σ (w + 14 + h) 1 = R (18 + 4 * h) ∧ mI σ (w + 14 + h) 2 = R (19 + 4 * h) ∧ mI σ (w + 14 + h) 4 = R (20 + 4 * h) - 1 ∧ ∀ g, g < 32 → tw (mI σ (w + 14 + h) 3) g = sTw R h g)
/-- how many weddings -/
def sWd (s : Nat → Int32) : Nat := ofd (fun i v => v + pcw (s (62 + i))) 0 6
def CT (σ : OM) (t : Nat) (s : Nat → Int32) : Prop :=
  mI σ t 0 = s 1 ∧ mI σ t 6 = s 0 ∧
  (∀ k, k < nn (s 1) → mI σ (t + 1) k = s (2 + 3 * k) ∧ mI σ (t + 2) k = s (3 + 3 * k) ∧ mI σ (t + 3) k = s (4 + 3 * k)) ∧
  (∀ i, i < 6 → mI σ (t + 4) i = s (62 + i)) ∧
  mI σ t 5 = oi (sWd s / 2)
/-- who lies, as it is found: fewest, who, how many sets, in some, in all -/
def sMs (Z : Nat → Int64) (s : Nat → Int32) (k : Nat) (a : Nat × Nat × Nat × Int32 × Int32) : Nat × Nat × Nat × Int32 × Int32 :=
  if sCan Z s k then
    if pcw (oi k) < a.1 then (pcw (oi k), k, a.2.2.1 + 1, oi k, oi k)
    else if pcw (oi k) = a.1 then (a.1, a.2.1, a.2.2.1 + 1, a.2.2.2.1 ||| oi k, a.2.2.2.2 &&& oi k)
    else (a.1, a.2.1, a.2.2.1 + 1, a.2.2.2.1, a.2.2.2.2)
  else a
def sMi (Z : Nat → Int64) (s : Nat → Int32) (H : Nat) : Nat × Nat × Nat × Int32 × Int32 := ofd (sMs Z s) (7, 0, 0, 0, 0) (2 ^ H)
def CM (σ : OM) (w : Nat) (R : Nat → Int32) (Z : Nat → Int64) (s : Nat → Int32) : Prop :=
  mI σ (w + 10) 4 = oi (sMi Z s (nn (R 3))).2.1 ∧ mI σ (w + 10) 5 = oi (sMi Z s (nn (R 3))).2.2.1 ∧ mI σ (w + 10) 6 = (sMi Z s (nn (R 3))).2.2.2.1 ∧ mI σ (w + 10) 7 = (sMi Z s (nn (R 3))).2.2.2.2
def CX (σ : OM) (w : Nat) (R : Nat → Int32) (Z : Nat → Int64) (s : Nat → Int32) : Prop := (MB R Z ∧ TB R s) ∧ CS σ w R Z ∧ CT σ (w + 5) s
def CW (σ : OM) (w : Nat) (R : Nat → Int32) (Z : Nat → Int64) (s : Nat → Int32) : Prop := CX σ w R Z s ∧ CM σ w R Z s
section
variable {σ : OM} {w : Nat} {R : Nat → Int32} {Z : Nat → Int64} {s : Nat → Int32}
theorem x_F (h : CX σ w R Z s) : mI σ (w + 1) 0 = oi (nn (R 1)) := h.2.1.1.1.trans h.1.1.1.1.1
theorem x_Fb (h : CX σ w R Z s) : nn (R 1) ≤ 6 := h.1.1.1.1.2
theorem x_H (h : CX σ w R Z s) : mI σ w 4 = oi (nn (R 3)) := h.2.1.2.2.2.2.2.1.1.trans h.1.1.1.2.2.1.1
theorem x_Hb (h : CX σ w R Z s) : nn (R 3) ≤ 6 := h.1.1.1.2.2.1.2
theorem x_Hd (h : CX σ w R Z s) : bd (R 3) 6 := h.1.1.1.2.2.1
theorem x_Q (h : CX σ w R Z s) : mI σ (w + 1) 6 = oi (nn (R 5)) := h.2.1.2.2.1.1.trans h.1.1.1.2.2.2.2.1.1
theorem x_Qb (h : CX σ w R Z s) : nn (R 5) ≤ 8 := h.1.1.1.2.2.2.2.1.2
theorem x_Qd (h : CX σ w R Z s) : bd (R 5) 8 := h.1.1.1.2.2.2.2.1
theorem x_S (h : CX σ w R Z s) : mI σ (w + 1) 8 = oi (nn (R 7)) := h.2.1.2.2.2.1.1.trans h.1.1.1.2.2.2.2.2.1.1
theorem x_Sb (h : CX σ w R Z s) : nn (R 7) ≤ 4 := h.1.1.1.2.2.2.2.2.1.2
theorem x_C (h : CX σ w R Z s) : mL σ (w + 1) 3 = Z 8 := h.2.1.1.2.2.2
theorem x_N (h : CX σ w R Z s) : mI σ (w + 5) 0 = oi (nn (s 1)) := h.2.2.1.trans h.1.2.2.1.1
theorem x_Nb (h : CX σ w R Z s) : nn (s 1) ≤ 20 := h.1.2.2.1.2
theorem x_in (h : CX σ w R Z s) : ∀ q, q ≤ 8 → ∀ i, tb (Z q) i = true → i < 2 ^ nn (R 1) := h.1.1.2.2.2.2.2.1
theorem x_h (h : CX σ w R Z s) {k : Nat} (hk : k < nn (s 1)) : mI σ (w + 6) k = oi (nn (s (2 + 3 * k))) ∧ nn (s (2 + 3 * k)) < nn (R 3) := by
  obtain ⟨a, b, -⟩ := h.1.2.2.2.1 k hk
  exact ⟨(h.2.2.2.2.1 k hk).1.trans a.1, b⟩
theorem x_q (h : CX σ w R Z s) {k : Nat} (hk : k < nn (s 1)) : mI σ (w + 7) k = oi (nn (s (3 + 3 * k))) ∧ nn (s (3 + 3 * k)) < nn (R 5) := by
  obtain ⟨-, -, a, b, -⟩ := h.1.2.2.2.1 k hk
  exact ⟨(h.2.2.2.2.1 k hk).2.1.trans a.1, b⟩
theorem x_y (h : CX σ w R Z s) {k : Nat} (hk : k < nn (s 1)) : mI σ (w + 8) k = b2 (decide (s (4 + 3 * k) = 1)) := by
  obtain ⟨-, -, -, -, a⟩ := h.1.2.2.2.1 k hk
  refine (h.2.2.2.2.1 k hk).2.2.trans ?_
  rcases a with a | a <;> rw [a] <;> rfl
theorem x_w (h : CX σ w R Z s) {i : Nat} (hi : i < 6) : mI σ (w + 9) i = s (62 + i) := h.2.2.2.2.2.1 i hi
theorem x_W (h : CX σ w R Z s) {x : Nat} (hx : x < 2 ^ nn (R 1)) : mI σ (w + 4) x = oi (sOd R x) := h.2.1.2.2.2.2.1 x hx
theorem x_o (h : CX σ w R Z s) : ∀ f, f < nn (R 1) → bd (R (11 + f)) 9 ∧ 1 ≤ nn (R (11 + f)) := h.1.1.2.1
theorem z_and {z a b : Int64} (h : ∀ i, i < 64 → tb z i = true → tb a i = tb b i) : z &&& a = z &&& b := by
  apply tb_ext
  intro i hi
  rw [tb_and, tb_and]
  cases hz : tb z i
  · rfl
  · rw [h i hi hz]
theorem x_so (h : CX σ w R Z s) {q : Nat} (hq : q < nn (R 5)) : ∀ i, i < 64 → tb (Z 8) i = true → tb (mL σ (w + 3) q) i = tb (Z q) i :=
  fun i _ hz => h.2.1.2.2.1.2 q hq i (x_in h 8 (Nat.le_refl _) i hz)
theorem x_sn (h : CX σ w R Z s) {q : Nat} (hq : q < nn (R 5)) : ∀ i, i < 64 → tb (Z 8) i = true → tb (mL σ (w + 3) q ^^^ (-1)) i = tb (Z q ^^^ (-1)) i :=
  fun i hi hz => by rw [tb_not _ hi, tb_not _ hi, x_so h hq i hi hz]
theorem bitOf_eq (x : Int64) {k : Nat} (hk : k < 64) (σ : OM) : fX9_bitOf x (oi k) σ = some (b2 (tb x k), σ) := by
  unfold fX9_bitOf; rw [bitU x hk]; cases tb x k <;> rfl
theorem bitOfW_eq (x : Int32) {k : Nat} (hk : k < 32) (σ : OM) : fX9_bitOf x.toInt64 (oi k) σ = some (b2 (tw x k), σ) := by
  rw [bitOf_eq _ (by omega), tb_long x hk]
theorem soWorlds_eq {q : Nat} (hq : q < 8) (σ : OM) (w : Nat) : fX2_soWorlds w (oi q) σ = some (mL σ (w + 3) q, σ) := by
  unfold fX2_soWorlds
  rw [if_neg (oi_nneg (by omega)), lt8, if_neg (by rw [oi_le (by omega) (by omega)]; omega), ogi (by omega) (by omega), oi_nat (by omega)]
def sYn (Z : Nat → Int64) (q : Nat) (y : Bool) : Int64 := if y then Z q else Z q ^^^ (-1)
theorem sYn_t (Z : Nat → Int64) (q : Nat) : sYn Z q true = Z q := rfl
theorem sYn_f (Z : Nat → Int64) (q : Nat) : sYn Z q false = Z q ^^^ (-1) := rfl
theorem worldsWith_eq (h : CX σ w R Z s) {q : Nat} (hq : q < nn (R 5)) (y : Bool) : fX2_worldsWith w (oi q) (b2 y) σ = some (Z 8 &&& sYn Z q y, σ) := by
  have hQ := x_Qb h
  unfold fX2_worldsWith
  rw [soWorlds_eq (by omega), obi_s, obi_s, x_C h]
  cases y
  · rw [if_pos (show b2 false = 0 from rfl), sYn_f, z_and (x_sn h hq)]
  · rw [if_neg (show ¬ b2 true = 0 by decide), sYn_t, z_and (x_so h hq)]
theorem sAns_yn (Z : Nat → Int64) (s : Nat → Int32) (k : Nat) (t : Bool) : sAns Z s k t = sYn Z (nn (s (3 + 3 * k))) (decide (s (4 + 3 * k) = 1) != t) := rfl
theorem asTold_eq (h : CX σ w R Z s) {k : Nat} (hk : k < nn (s 1)) : fX3_worldsAsTold w (oi k) σ = some (Z 8 &&& sAns Z s k false, σ) := by
  have hN := x_Nb h
  obtain ⟨a, b⟩ := x_q h hk
  unfold fX3_worldsAsTold
  rw [if_neg (oi_nneg (by omega)), lt20, if_pos ((oi_lt (by omega) (by omega)).mpr (by omega)), ogi (by omega) (by omega), ogi (by omega) (by omega), oi_nat (by omega), a, x_y h hk, worldsWith_eq h b, obi_s, sAns_yn, Bool.bne_false]
theorem byAnswer_eq (h : CX σ w R Z s) {k l : Nat} (hk : k < nn (s 1)) (hl : mI σ (w + 10) 4 = oi l) : fX3_worldsByAnswer w (oi k) σ = some (Z 8 &&& sAns Z s k (tw (oi l) (nn (s (2 + 3 * k)))), σ) := by
  have hN := x_Nb h
  have hH := x_Hb h
  obtain ⟨a, b⟩ := x_q h hk
  obtain ⟨c, d⟩ := x_h h hk
  have hb : ∀ k0 : Bool, fX3_worldsByAnswer_b44 w (oi k) (b2 k0) σ = some (Z 8 &&& sAns Z s k k0, σ) := by
    intro k0
    unfold fX3_worldsByAnswer_b44
    rw [ogi (by omega) (by omega), ogi (by omega) (by omega), oi_nat (by omega), a, x_y h hk]
    have w0 := worldsWith_eq h b false
    have w1 := worldsWith_eq h b true
    rw [show (0 : Int32) = b2 false from rfl, show (1 : Int32) = b2 true from rfl, w0, w1, obi_s, obi_s, sAns_yn]
    show (if b2 (decide (s (4 + 3 * k) = b2 true)) = b2 k0 then _ else _) = some (Z 8 &&& sYn Z (nn (s (3 + 3 * k))) (decide (s (4 + 3 * k) = b2 true) != k0), σ)
    cases decide (s (4 + 3 * k) = b2 true) <;> cases k0
    · rw [if_pos rfl]; rfl
    · rw [if_neg (by decide)]; rfl
    · rw [if_neg (by decide)]; rfl
    · rw [if_pos rfl]; rfl
  unfold fX3_worldsByAnswer
  rw [if_neg (oi_nneg (by omega)), lt20, if_pos ((oi_lt (by omega) (by omega)).mpr (by omega)), ogi (by omega) (by omega), oi_nat (by omega), hl, c, bitOfW_eq _ (by omega), obi_s]
  cases ht : tw (oi l) (nn (s (2 + 3 * k)))
  · rw [if_neg (by decide)]; exact hb false
  · rw [if_pos (by decide)]; exact hb true
/-- all answers of some houses but one -/
def sLx (Z : Nat → Int64) (s : Nat → Int32) (lo : Option Nat) (hs ls : Int32) (k : Nat) (x : Int64) : Int64 := if lo = some k then x else sLs Z s hs ls k x
theorem sub_and {x z a : Int64} (h : x &&& z = x) : (x &&& a) &&& z = x &&& a := by
  rw [Int64.and_assoc, Int64.and_comm a z, ← Int64.and_assoc, h]
theorem sub_drop {x z a : Int64} (h : x &&& z = x) : x &&& (z &&& a) = x &&& a := by rw [← Int64.and_assoc, h]
def oLo (lo : Option Nat) : Int32 := match lo with
  | none => -1
  | some k => oi k
theorem oLo_ne {k : Nat} (hk : k < 64) (lo : Option Nat) (hlo : ∀ m, lo = some m → m < 64) : (oi k = oLo lo) ↔ lo = some k := by
  cases lo with
  | none => exact ⟨fun e => absurd e ((by decide +kernel : ∀ m, m < 64 → ¬ (oi m = -1)) k hk), fun e => by cases e⟩
  | some m =>
    have hm := hlo m rfl
    show oi k = oi m ↔ _
    rw [oi_inj (by omega) (by omega)]
    exact ⟨fun e => by rw [e], fun e => (Option.some.inj e).symm⟩
theorem without_eq (h : CX σ w R Z s) {l : Nat} (hl : mI σ (w + 10) 4 = oi l) (lo : Option Nat) (hlo : ∀ m, lo = some m → m < 64) (hs : Int32) : fX3_worldsWithout w (oLo lo) hs σ = some (ofd (sLx Z s lo hs (oi l)) (Z 8) (nn (s 1)), σ) := by
  have hN := x_Nb h
  have hH := x_Hb h
  unfold fX3_worldsWithout
  rw [x_C h]
  refine lup (g := fun f x k => fX3_worldsWithout_b11 f w (oLo lo) hs x (oi k) σ) (step := sLx Z s lo hs (oi l)) (fin := fun x => some (x, σ)) (n := nn (s 1)) (I := fun _ x => x &&& Z 8 = x) (Int64.and_self) ?_ ?_ ?_ oF (by unfold oF; omega)
  · intro k x hk hx
    unfold sLx
    split
    · exact hx
    · unfold sLs
      split
      · exact sub_and hx
      · exact hx
  · intro f x k hk hx
    obtain ⟨c, d⟩ := x_h h hk
    show fX3_worldsWithout_b11 (f + 1) w (oLo lo) hs x (oi k) σ = fX3_worldsWithout_b11 f w (oLo lo) hs _ (oi (k + 1)) σ
    rw [fX3_worldsWithout_b11, x_N h, if_neg (by rw [oi_le (by omega) (by omega)]; omega), lt20, if_neg (by rw [oi_le (by omega) (by omega)]; omega)]
    unfold sLx
    by_cases e : lo = some k
    · rw [if_pos ((oLo_ne (by omega) lo hlo).mpr e), if_pos e, oi_succ]
    · rw [if_neg (fun e2 => e ((oLo_ne (by omega) lo hlo).mp e2)), if_neg e, ogi (by omega) (by omega), oi_nat (by omega), c, bitOfW_eq _ (by omega), obi_s]
      unfold sLs
      cases hb : tw hs (nn (s (2 + 3 * k)))
      · rw [if_neg (by decide), if_neg (by decide), oi_succ]
      · rw [if_pos (by decide), if_pos rfl, byAnswer_eq h hk hl, obi_s, sub_drop hx, oi_succ]
  · intro f x hx
    show fX3_worldsWithout_b11 (f + 1) w (oLo lo) hs x (oi _) σ = _
    rw [fX3_worldsWithout_b11, x_N h, if_pos ((oi_le (by omega) (by omega)).mpr (Nat.le_refl _))]
theorem lx_none (Z : Nat → Int64) (s : Nat → Int32) (hs ls : Int32) (m : Nat) : ofd (sLx Z s none hs ls) (Z 8) m = sLeft Z s hs ls m := by
  unfold sLeft
  apply ofd_congr
  intro k x _
  unfold sLx
  rw [if_neg (by intro e; cases e)]
theorem by_eq (h : CX σ w R Z s) {l : Nat} (hl : mI σ (w + 10) 4 = oi l) (hs : Int32) : fX3_worldsBy w hs σ = some (sLeft Z s hs (oi l) (nn (s 1)), σ) := by
  unfold fX3_worldsBy
  rw [show ((-1) : Int32) = oLo none from rfl, without_eq h hl none (fun m e => by cases e) hs, obi_s, lx_none]
/-- everybody: bits beyond the houses say nothing -/
theorem left_all (h : CX σ w R Z s) (ls : Int32) {m : Nat} (hm : m ≤ nn (s 1)) : sLeft Z s (-1) ls m = sLeft Z s 63 ls m := by
  unfold sLeft
  apply ofd_congr
  intro k x hk
  obtain ⟨-, d⟩ := x_h h (Nat.lt_of_lt_of_le hk hm)
  have hH := x_Hb h
  unfold sLs
  rw [tw_m1 _ (by omega), (by decide +kernel : ∀ i, i < 6 → tw 63 i = true) _ (by omega)]
theorem ofAll_eq (h : CX σ w R Z s) {l : Nat} (hl : mI σ (w + 10) 4 = oi l) : fX3_worldsOfAll w σ = some (sLeft Z s 63 (oi l) (nn (s 1)), σ) := by
  unfold fX3_worldsOfAll
  rw [show fX3_worldsWithout w ((-1) : Int32) ((-1) : Int32) σ = fX3_worldsWithout w (oLo none) ((-1) : Int32) σ from rfl, without_eq h hl none (fun m e => by cases e) (-1), obi_s, lx_none, left_all h _ (Nat.le_refl _)]
end
