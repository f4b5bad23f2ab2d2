/-! weights, chances -/
theorem ol_div {a b : Nat} (ha : a < 9223372036854775808) (hb : b < 9223372036854775808) : ol a / ol b = ol (a / b) := (Int64.ofNat_div ha hb).symm
theorem oi_div {a b : Nat} (ha : a < 2147483648) (hb : b < 2147483648) : oi a / oi b = oi (a / b) := (Int32.ofNat_div ha hb).symm
theorem ol_rem {a b : Nat} (ha : a < 9223372036854775808) (hb : b < 9223372036854775808) : ol a - ol a / ol b * ol b = ol (a % b) := by
  rw [ol_div ha hb, ol_mul, ol_sub (Nat.div_mul_le_self a b)]
  congr 1
  have := Nat.div_add_mod a b
  rw [Nat.mul_comm] at this
  omega
theorem oi_rem {a b : Nat} (ha : a < 2147483648) (hb : b < 2147483648) : oi a - oi a / oi b * oi b = oi (a % b) := by
  rw [oi_div ha hb, oi_mul, oi_sub (Nat.div_mul_le_self a b)]
  congr 1
  have := Nat.div_add_mod a b
  rw [Nat.mul_comm] at this
  omega
def sOs (R : Nat → Int32) (w f v : Nat) : Nat := v * if w.testBit f then nn (R (11 + f)) else 10 - nn (R (11 + f))
def sOd (R : Nat → Int32) (w : Nat) : Nat := ofd (sOs R w) 1 (nn (R 1))
theorem sOd_lt {R : Nat → Int32} (hF : nn (R 1) ≤ 6) (ho : ∀ f, f < nn (R 1) → bd (R (11 + f)) 9 ∧ 1 ≤ nn (R (11 + f))) (w : Nat) : 1 ≤ sOd R w ∧ sOd R w ≤ 531441 := by
  have h : 1 ≤ sOd R w ∧ sOd R w ≤ 9 ^ nn (R 1) := ofd_ind (s := sOs R w) (a := 1) (n := nn (R 1)) (P := fun n v => 1 ≤ v ∧ v ≤ 9 ^ n) ⟨Nat.le_refl _, Nat.le_refl _⟩ (fun k v hk hv => by
    obtain ⟨b1, b2⟩ := ho k hk
    have b3 := b1.2
    unfold sOs
    have hz : ∃ z, 1 ≤ z ∧ z ≤ 9 ∧ (if w.testBit k then nn (R (11 + k)) else 10 - nn (R (11 + k))) = z := ⟨_, by split <;> omega, by split <;> omega, rfl⟩
    obtain ⟨z, z1, z2, z3⟩ := hz
    rw [z3]
    refine ⟨Nat.le_trans (by omega : 1 ≤ 1 * 1) (Nat.mul_le_mul hv.1 z1), ?_⟩
    rw [Nat.pow_succ]
    exact Nat.mul_le_mul hv.2 z2)
  exact ⟨h.1, Nat.le_trans h.2 (Nat.pow_le_pow_right (by decide : 9 > 0) hF)⟩
theorem ix11 (k : Nat) : (11 : Int32) + oi k = oi (11 + k) := oi_add 11 k
theorem oddsOf_eq {σ : OM} (hF : bd (mI σ 84 1) 6) (ho : ∀ f, f < nn (mI σ 84 1) → bd (mI σ 84 (11 + f)) 9 ∧ 1 ≤ nn (mI σ 84 (11 + f))) {w : Nat} (hw : w < 4294967296) : fX10_oddsOf (oi w) σ = some (oi (sOd (mI σ 84) w), σ) := by
  unfold fX10_oddsOf
  have hF2 := hF.2
  refine lup0 (g := fun f v k => fX10_oddsOf_b4 f (oi w) (oi v) (oi k) σ) (a := 1) (step := sOs (mI σ 84) w) (fin := fun v => some (oi v, σ)) ?_ ?_ oF (by unfold oF; omega)
  · intro f v k hk
    show fX10_oddsOf_b4 (f + 1) (oi w) (oi v) (oi k) σ = fX10_oddsOf_b4 f (oi w) (oi (sOs _ w k v)) (oi (k + 1)) σ
    obtain ⟨b1, b2⟩ := ho k hk
    obtain ⟨a, ha, hx⟩ := bd_ex b1
    rw [fX10_oddsOf_b4, hF.1, if_neg (by rw [oi_le (by omega) (by omega)]; omega), hasBit_eq _ (by omega), obi_s, tw_oi _ _ hw, ix11]
    unfold sOs
    cases hb : w.testBit k
    · rw [if_pos (by decide), ogi (by omega) (by omega), oi_nat (by omega), hx, if_neg (by decide), nn_oi (by omega), show (10 : Int32) = oi 10 from rfl, oi_sub (by omega), oi_mul, oi_succ]
    · rw [if_neg (by decide), ogi (by omega) (by omega), oi_nat (by omega), hx, if_pos rfl, nn_oi (by omega), oi_mul, oi_succ]
  · intro f v
    show fX10_oddsOf_b4 (f + 1) (oi w) (oi v) (oi _) σ = _
    rw [fX10_oddsOf_b4, hF.1, nn_oi (nn_lt _), if_pos ((oi_le (by omega) (by omega)).mpr (Nat.le_refl _))]
def sWs (R : Nat → Int32) (x : Int64) (w s : Nat) : Nat := s + if tb x w then sOd R w else 0
def sWt (R : Nat → Int32) (x : Int64) : Nat := ofd (sWs R x) 0 64
theorem sWt_le {R : Nat → Int32} (hF : nn (R 1) ≤ 6) (ho : ∀ f, f < nn (R 1) → bd (R (11 + f)) 9 ∧ 1 ≤ nn (R (11 + f))) (x : Int64) : sWt R x ≤ 34012224 := by
  have h : sWt R x ≤ 531441 * 64 := ofd_ind (s := sWs R x) (a := 0) (n := 64) (P := fun n v => v ≤ 531441 * n) (Nat.zero_le _) (fun k v hk hv => by
    have h1 := (sOd_lt hF ho k).2
    show sWs R x k v ≤ 531441 * k + 531441
    unfold sWs
    cases tb x k
    · exact Nat.le_trans hv (Nat.le_add_right _ _)
    · exact Nat.add_le_add hv h1)
  exact h
theorem weight_eq {σ : OM} (hF : bd (mI σ 84 1) 6) (ho : ∀ f, f < nn (mI σ 84 1) → bd (mI σ 84 (11 + f)) 9 ∧ 1 ≤ nn (mI σ 84 (11 + f))) (x : Int64) : fX10_weight x σ = some (ol (sWt (mI σ 84) x), σ) := by
  unfold fX10_weight
  refine lup0 (g := fun f v k => fX10_weight_b5 f x (ol v) (oi k) σ) (a := 0) (step := sWs (mI σ 84) x) (fin := fun v => some (ol v, σ)) (n := 64) ?_ ?_ oF (by unfold oF; omega)
  · intro f v k hk
    show fX10_weight_b5 (f + 1) x (ol v) (oi k) σ = fX10_weight_b5 f x (ol (sWs _ x k v)) (oi (k + 1)) σ
    rw [fX10_weight_b5, show (64 : Int32) = oi 64 from rfl, if_neg (by rw [oi_le (by omega) (by omega)]; omega), bitS x hk]
    unfold sWs
    cases hb : tb x k
    · rw [if_neg (by decide), if_neg (by decide), oi_succ, show (0 : Int64) = ol 0 from rfl, ol_add]
    · rw [if_pos (by decide), oddsOf_eq hF ho (by omega), obi_s, oi_long (by have := (sOd_lt hF.2 ho k).2; omega), ol_add, oi_succ, if_pos rfl]
  · intro f v
    show fX10_weight_b5 (f + 1) x (ol v) (oi 64) σ = _
    rw [fX10_weight_b5, if_pos (by decide)]
theorem ofd_add {f g : Nat → Nat} : ∀ n, ofd (fun k v => v + (f k + g k)) 0 n = ofd (fun k v => v + f k) 0 n + ofd (fun k v => v + g k) 0 n
  | 0 => rfl
  | n + 1 => by
    show ofd (fun k v => v + (f k + g k)) 0 n + (f n + g n) = (ofd (fun k v => v + f k) 0 n + f n) + (ofd (fun k v => v + g k) 0 n + g n)
    rw [ofd_add n]; omega
theorem sWt_split (R : Nat → Int32) (x y : Int64) : sWt R x = sWt R (x &&& y) + sWt R (x &&& (y ^^^ (-1))) := by
  unfold sWt
  have h := ofd_add (f := fun k => if tb (x &&& y) k then sOd R k else 0) (g := fun k => if tb (x &&& (y ^^^ (-1))) k then sOd R k else 0) 64
  refine Eq.trans ?_ h
  apply ofd_congr
  intro k v hk
  unfold sWs
  rw [tb_and, tb_and, tb_not y hk]
  cases tb x k <;> cases tb y k <;> simp
theorem ofd_zero {f : Nat → Nat} : ∀ {n}, (ofd (fun k v => v + f k) 0 n = 0 ↔ ∀ k, k < n → f k = 0)
  | 0 => ⟨fun _ k hk => absurd hk (by omega), fun _ => rfl⟩
  | n + 1 => by
    have ih := ofd_zero (f := f) (n := n)
    constructor
    · intro h k hk
      have h1 : ofd (fun k v => v + f k) 0 n + f n = 0 := h
      by_cases hkn : k = n
      · subst hkn; omega
      · exact ih.mp (by omega) k (by omega)
    · intro h
      show ofd (fun k v => v + f k) 0 n + f n = 0
      rw [ih.mpr (fun k hk => h k (by omega)), h n (by omega)]
theorem sWt_zero {R : Nat → Int32} (hF : nn (R 1) ≤ 6) (ho : ∀ f, f < nn (R 1) → bd (R (11 + f)) 9 ∧ 1 ≤ nn (R (11 + f))) (x : Int64) : sWt R x = 0 ↔ x = 0 := by
  unfold sWt
  have h := ofd_zero (f := fun k => if tb x k then sOd R k else 0) (n := 64)
  refine Iff.trans h ?_
  rw [tb_eq0]
  constructor
  · intro h2 k hk
    have h3 := h2 k hk
    cases hb : tb x k
    · rfl
    · rw [hb, if_pos rfl] at h3
      have := (sOd_lt hF ho k).1
      omega
  · intro h2 k hk
    show (if tb x k then sOd R k else 0) = 0
    rw [h2 k hk]; rfl
/-! the lowest terms -/
def gst : Nat → Nat → Nat → Nat
  | 0, a, _ => a
  | n + 1, a, b => if b = 0 then a else gst n b (a % b)
theorem gcd_steps : ∀ (k a b : Nat), a < 2 ^ k → b ≤ a → ∀ m, 2 * k < m → ∀ (σ : OM) (u d : Int64) (l : Int32), a < 9223372036854775808 → fX10_lowest_b6 m u d l (ol a) (ol b) σ = fX10_lowest_b31 u d l (ol (Nat.gcd a b)) σ := by
  intro k
  induction k with
  | zero =>
    intro a b ha hb m hm σ u d l h63
    have h1 : a = 0 := by simpa using ha
    have h2 : b = 0 := by omega
    subst h1 h2
    obtain ⟨m', rfl⟩ : ∃ m', m = m' + 1 := ⟨m - 1, by omega⟩
    rw [fX10_lowest_b6, if_pos (by decide)]; rfl
  | succ k ih =>
    intro a b ha hb m hm σ u d l h63
    obtain ⟨m', rfl⟩ : ∃ m', m = m' + 1 := ⟨m - 1, by omega⟩
    rw [fX10_lowest_b6]
    by_cases h0 : b = 0
    · subst h0
      rw [if_pos (by decide), Nat.gcd_zero_right]
    · have hne : ¬ ol b = 0 := by rw [ol_ne0 (by omega)]; exact h0
      rw [if_neg (by rw [cmp_eq]; exact hne), ogd_d hne, ol_rem h63 (by omega)]
      obtain ⟨m'', rfl⟩ : ∃ m'', m' = m'' + 1 := ⟨m' - 1, by omega⟩
      have hr : a % b < b := Nat.mod_lt _ (by omega)
      rw [fX10_lowest_b6]
      by_cases h1 : a % b = 0
      · rw [h1, if_pos (by decide), Nat.gcd_comm, Nat.gcd_rec, h1, Nat.gcd_zero_left]
      · have hne1 : ¬ ol (a % b) = 0 := by rw [ol_ne0 (by omega)]; exact h1
        rw [if_neg (by rw [cmp_eq]; exact hne1), ogd_d hne1, ol_rem (by omega) (by omega)]
        have hr2 : b % (a % b) < a % b := Nat.mod_lt _ (by omega)
        have hhalf : a % b < 2 ^ k := by
          have h5 : a % b + b ≤ a := by
            have h6 := Nat.div_add_mod a b
            have h7 : 1 ≤ a / b := Nat.div_pos hb (by omega)
            have h8 : b * 1 ≤ b * (a / b) := Nat.mul_le_mul_left b h7
            omega
          rw [Nat.pow_succ] at ha
          omega
        rw [ih (a % b) (b % (a % b)) hhalf (Nat.le_of_lt hr2) m'' (by omega) σ u d l (by omega)]
        have e1 : Nat.gcd a b = Nat.gcd (a % b) b := by rw [Nat.gcd_comm a b, Nat.gcd_rec b a]
        have e2 : Nat.gcd (a % b) b = Nat.gcd (b % (a % b)) (a % b) := Nat.gcd_rec (a % b) b
        rw [e1, e2, Nat.gcd_comm]
theorem lowest_eq {u d : Nat} (hu : u < 4611686018427387904) (hd : d < 4611686018427387904) (h0 : 0 < d) (lo : Bool) (σ : OM) : fX10_lowest (ol u) (ol d) (b2 lo) σ = some (ol ((if lo then d else u) / Nat.gcd d u), σ) := by
  have hg : 0 < Nat.gcd d u := Nat.gcd_pos_of_pos_left u h0
  have hgd : Nat.gcd d u ≤ d := Nat.gcd_le_left u h0
  have hend : fX10_lowest_b31 (ol u) (ol d) (b2 lo) (ol (Nat.gcd d u)) σ = some (ol ((if lo then d else u) / Nat.gcd d u), σ) := by
    unfold fX10_lowest_b31
    have hne : ¬ ol (Nat.gcd d u) = 0 := by rw [ol_ne0 (by omega)]; omega
    cases lo
    · rw [if_pos (by decide), ogd_d hne, ol_div (by omega) (by omega)]; rfl
    · rw [if_neg (by decide), ogd_d hne, ol_div (by omega) (by omega)]; rfl
  unfold fX10_lowest
  by_cases hle : u ≤ d
  · rw [gcd_steps 62 d u hd hle oF (by unfold oF; omega) σ _ _ _ (by omega), hend]
  · have hF : oF = 99999 + 1 := rfl
    rw [hF, fX10_lowest_b6]
    have hne : ¬ ol u = 0 := by rw [ol_ne0 (by omega)]; omega
    rw [if_neg (by rw [cmp_eq]; exact hne), ogd_d hne, ol_rem (by omega) (by omega), Nat.mod_eq_of_lt (by omega : d < u), gcd_steps 62 u d hu (by omega) 99999 (by omega) σ _ _ _ (by omega), Nat.gcd_comm u d, hend]
theorem div_steps : ∀ (k a b c : Nat), a < 2 ^ k → b ≤ a → 2 * k + c ≤ 199 → ∀ m, 2 * k < m → ∀ (σ : OM), a < 9223372036854775808 → fX9_commonDivisor_b3 m (ol a) (ol b) (oi c) σ = some (ol (Nat.gcd a b), σ) := by
  intro k
  induction k with
  | zero =>
    intro a b c ha hb hc m hm σ h63
    have h1 : a = 0 := by simpa using ha
    have h2 : b = 0 := by omega
    subst h1 h2
    obtain ⟨m', rfl⟩ : ∃ m', m = m' + 1 := ⟨m - 1, by omega⟩
    rw [fX9_commonDivisor_b3, if_pos (show lg_cmp (ol 0) 0 = 0 by decide)]
    split <;> rfl
  | succ k ih =>
    intro a b c ha hb hc m hm σ h63
    obtain ⟨m', rfl⟩ : ∃ m', m = m' + 1 := ⟨m - 1, by omega⟩
    rw [fX9_commonDivisor_b3, show (200 : Int32) = oi 200 from rfl, if_neg (by rw [oi_le (by omega) (by omega)]; omega)]
    by_cases h0 : b = 0
    · subst h0
      rw [if_pos (by decide), Nat.gcd_zero_right]
    · have hne : ¬ ol b = 0 := by rw [ol_ne0 (by omega)]; exact h0
      rw [if_neg (by rw [cmp_eq]; exact hne), ogd_d hne, ol_rem h63 (by omega), oi_succ]
      obtain ⟨m'', rfl⟩ : ∃ m'', m' = m'' + 1 := ⟨m' - 1, by omega⟩
      have hr : a % b < b := Nat.mod_lt _ (by omega)
      rw [fX9_commonDivisor_b3, show (200 : Int32) = oi 200 from rfl, if_neg (by rw [oi_le (by omega) (by omega)]; omega)]
      by_cases h1 : a % b = 0
      · rw [h1, if_pos (by decide), Nat.gcd_comm, Nat.gcd_rec, h1, Nat.gcd_zero_left]
      · have hne1 : ¬ ol (a % b) = 0 := by rw [ol_ne0 (by omega)]; exact h1
        rw [if_neg (by rw [cmp_eq]; exact hne1), ogd_d hne1, ol_rem (by omega) (by omega), oi_succ]
        have hr2 : b % (a % b) < a % b := Nat.mod_lt _ (by omega)
        have hhalf : a % b < 2 ^ k := by
          have h5 : a % b + b ≤ a := by
            have h6 := Nat.div_add_mod a b
            have h7 : 1 ≤ a / b := Nat.div_pos hb (by omega)
            have h8 : b * 1 ≤ b * (a / b) := Nat.mul_le_mul_left b h7
            omega
          rw [Nat.pow_succ] at ha
          omega
        rw [ih (a % b) (b % (a % b)) (c + 1 + 1) hhalf (Nat.le_of_lt hr2) (by omega) m'' (by omega) σ (by omega)]
        have e1 : Nat.gcd a b = Nat.gcd (a % b) b := by rw [Nat.gcd_comm a b, Nat.gcd_rec b a]
        have e2 : Nat.gcd (a % b) b = Nat.gcd (b % (a % b)) (a % b) := Nat.gcd_rec (a % b) b
        rw [e1, e2, Nat.gcd_comm]
theorem common_eq {u d : Nat} (hu : u < 4611686018427387904) (hd : d < 4611686018427387904) (h0 : 0 < d) (σ : OM) : fX9_commonDivisor (ol u) (ol d) σ = some (ol (Nat.gcd d u), σ) := by
  unfold fX9_commonDivisor
  by_cases hle : d ≤ u
  · rw [show (0 : Int32) = oi 0 from rfl, div_steps 62 u d 0 hu hle (by omega) oF (by unfold oF; omega) σ (by omega), Nat.gcd_comm]
  · have hF : oF = 99999 + 1 := rfl
    rw [hF, fX9_commonDivisor_b3, if_neg (by decide)]
    have hne : ¬ ol d = 0 := by rw [ol_ne0 (by omega)]; omega
    rw [if_neg (by rw [cmp_eq]; exact hne), ogd_d hne, ol_rem (by omega) (by omega), Nat.mod_eq_of_lt (by omega : u < d), show (0 : Int32) + 1 = oi 1 from rfl, div_steps 62 d u 1 hd (by omega) (by omega) 99999 (by omega) σ (by omega)]
theorem terms_eq {u d : Nat} (hu : u < 4611686018427387904) (hd : d < 4611686018427387904) (h0 : 0 < d) (lo : Bool) (σ : OM) : fX9_inLowestTerms (ol u) (ol d) (b2 lo) σ = some (ol ((if lo then d else u) / Nat.gcd d u), sI σ 0 9 0) := by
  unfold fX9_inLowestTerms
  have hg : 0 < Nat.gcd d u := Nat.gcd_pos_of_pos_left u h0
  have hgd : Nat.gcd d u ≤ d := Nat.gcd_le_left u h0
  have hne : ¬ ol (Nat.gcd d u) = 0 := by rw [ol_ne0 (by omega)]; omega
  rw [common_eq hu hd h0, obi_s, if_neg (by rw [cmp_eq]; exact hne)]
  cases lo
  · rw [if_pos (by decide), ogd_d hne, ol_div (by omega) (by omega)]; rfl
  · rw [if_neg (by decide), ogd_d hne, ol_div (by omega) (by omega)]; rfl
