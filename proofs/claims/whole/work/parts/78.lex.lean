/-! what is read: signs and words on both sides -/
def zch (f : Nat → Nat) (L p : Nat) : Nat := if p < L then f p else 256
def zsm (x : Nat) : Bool := decide (97 ≤ x ∧ x ≤ 122)
def zdg (x : Nat) : Bool := decide (48 ≤ x ∧ x ≤ 57)
def zcb (x : Nat) : Int32 := if x < 256 then sgb x else 0
def zrb (x : Nat) : Int32 := if x < 256 then oi x else -1
def zTC (σ : OM) (f : Nat → Nat) (L : Nat) : Prop := L ≤ 900 ∧ mI σ 43 2 = oi L ∧ ∀ j, j < L → f j < 256 ∧ mI σ 44 j = sgb (f j)
def zTR (τ : OM) (f : Nat → Nat) (L : Nat) : Prop := L ≤ 900 ∧ mI τ 81 3 = oi L ∧ ∀ j, j < L → f j < 256 ∧ mI τ 82 j = oi (f j)
theorem zch_le {σ : OM} {f : Nat → Nat} {L : Nat} (h : zTC σ f L) (p : Nat) : zch f L p ≤ 256 := by
  unfold zch; split
  · rename_i e; have := (h.2.2 p e).1; omega
  · exact Nat.le_refl _
theorem zch_le' {τ : OM} {f : Nat → Nat} {L : Nat} (h : zTR τ f L) (p : Nat) : zch f L p ≤ 256 := by
  unfold zch; split
  · rename_i e; have := (h.2.2 p e).1; omega
  · exact Nat.le_refl _
theorem zbyte {σ : OM} {f : Nat → Nat} {L p : Nat} (h : zTC σ f L) (hp : p < 100000) : fX6_byteAt (oi p) σ = some (zcb (zch f L p), σ) := by
  have hL := h.1
  unfold fX6_byteAt
  rw [if_neg (oi_nneg (by omega)), h.2.1]
  unfold zch
  by_cases e : p < L
  · rw [if_neg (by rw [oi_le (by omega) (by omega)]; omega), show (900 : Int32) = oi 900 from rfl, if_neg (by rw [oi_le (by omega) (by omega)]; omega), ogi (by omega) (by omega), oi_nat (by omega), if_pos e, (h.2.2 p e).2, zcb, if_pos (h.2.2 p e).1]
  · rw [if_pos (by rw [oi_le (by omega) (by omega)]; omega), if_neg e]; rfl
theorem zlook {τ : OM} {f : Nat → Nat} {L p : Nat} (h : zTR τ f L) (hp : p < 100000) : fX10_look (oi p) τ = some (zrb (zch f L p), τ) := by
  have hL := h.1
  unfold fX10_look
  rw [h.2.1]
  unfold zch
  by_cases e : p < L
  · rw [if_neg (by rw [oi_le (by omega) (by omega)]; omega), ogi (by omega) (by omega), oi_nat (by omega), if_pos e, (h.2.2 p e).2, zrb, if_pos (h.2.2 p e).1]
  · rw [if_pos (by rw [oi_le (by omega) (by omega)]; omega), if_neg e]; rfl
theorem zlc0 : ∀ x, x ≤ 256 → (zsm x = decide (¬ zcb x < 97 ∧ ¬ 122 < zcb x)) ∧ (zdg x = decide (¬ zcb x < 48 ∧ ¬ 57 < zcb x)) ∧ (zsm x = decide (¬ zrb x < 97 ∧ ¬ 122 < zrb x)) ∧ (zdg x = decide (¬ zrb x < 48 ∧ ¬ 57 < zrb x)) ∧ (x = 32 ↔ zcb x = 32) ∧ (x = 32 ↔ zrb x = 32) ∧ (x = 256 ↔ zrb x = -1) := by decide +kernel
theorem zsplit {x a b : Int32} {σ : OM} : (if x < a then some ((0 : Int32), σ) else if b < x then some ((0 : Int32), σ) else some ((1 : Int32), σ)) = some (b2 (decide (¬ x < a ∧ ¬ b < x)), σ) := by
  by_cases h1 : x < a
  · rw [if_pos h1, decide_eq_false (fun e => e.1 h1)]; rfl
  · rw [if_neg h1]
    by_cases h2 : b < x
    · rw [if_pos h2, decide_eq_false (fun e => e.2 h2)]; rfl
    · rw [if_neg h2, decide_eq_true ⟨h1, h2⟩]; rfl
theorem zletc {x : Nat} (h : x ≤ 256) (σ : OM) : fX6_isLetter (zcb x) σ = some (b2 (zsm x), σ) := by
  rw [(zlc0 x h).1]; exact zsplit
theorem zdigc {x : Nat} (h : x ≤ 256) (σ : OM) : fX6_isDigit (zcb x) σ = some (b2 (zdg x), σ) := by
  rw [(zlc0 x h).2.1]; exact zsplit
theorem zletr {x : Nat} (h : x ≤ 256) (σ : OM) : fX10_isSmall (zrb x) σ = some (b2 (zsm x), σ) := by
  rw [(zlc0 x h).2.2.1]; exact zsplit
theorem zdigr {x : Nat} (h : x ≤ 256) (σ : OM) : fX10_isDigit (zrb x) σ = some (b2 (zdg x), σ) := by
  rw [(zlc0 x h).2.2.2.1]; exact zsplit
def zRun (P : Nat → Bool) (g : Nat → Nat) (p m : Nat) : Prop := (∀ k, k < m → P (g (p + k)) = true) ∧ P (g (p + m)) = false
theorem zrun_ex {P : Nat → Bool} {g : Nat → Nat} {L : Nat} (hg : ∀ k, L ≤ k → P (g k) = false) : ∀ d p, p + d = L → ∃ m, zRun P g p m ∧ p + m ≤ L := by
  intro d
  induction d with
  | zero => intro p h; exact ⟨0, ⟨fun k hk => absurd hk (by omega), hg _ (by omega)⟩, by omega⟩
  | succ d ih =>
    intro p h
    cases e : P (g p) with
    | false => exact ⟨0, ⟨fun k hk => absurd hk (by omega), e⟩, by omega⟩
    | true =>
      obtain ⟨m, ⟨h1, h2⟩, h3⟩ := ih (p + 1) (by omega)
      refine ⟨m + 1, ⟨fun k hk => ?_, by rw [show p + (m + 1) = p + 1 + m by omega]; exact h2⟩, by omega⟩
      cases k with
      | zero => exact e
      | succ k => rw [show p + (k + 1) = p + 1 + k by omega]; exact h1 k (by omega)
theorem zrun_pos {P : Nat → Bool} {g : Nat → Nat} {p m : Nat} (h : zRun P g p m) (hp : P (g p) = true) : 1 ≤ m := by
  cases m with
  | zero => have h2 := h.2; rw [Nat.add_zero, hp] at h2; cases h2
  | succ m => omega
theorem zch_off (P : Nat → Bool) (hP : P 256 = false) (f : Nat → Nat) (L : Nat) : ∀ k, L ≤ k → P (zch f L k) = false := by
  intro k hk; unfold zch; rw [if_neg (by omega)]; exact hP
section
variable {σ : OM} {f : Nat → Nat} {L : Nat}
theorem zlen13 (h : zTC σ f L) {p m : Nat} (hp : p < 10000) (hr : zRun zsm (zch f L) p m) : ∀ d k n, k + d = min m 9 → 1 ≤ k → d < n → fX6_lengthFrom_b13 n (oi p) (oi k) σ = some (oi (min m 9), σ) := by
  intro d
  induction d with
  | zero =>
    intro k n hk h1 hn
    obtain ⟨n, rfl⟩ : ∃ n', n = n' + 1 := ⟨n - 1, by omega⟩
    rw [fX6_lengthFrom_b13, show (8 : Int32) = oi 8 from rfl]
    have hk9 : k = min m 9 := by omega
    by_cases e : 8 < k
    · rw [if_pos ((oi_lt (by omega) (by omega)).mpr e), hk9]
    · have hm : m = k := by omega
      rw [if_neg (by rw [oi_lt (by omega) (by omega)]; exact e), oi_add, zbyte h (by omega), obi_s, zletc (zch_le h _), obi_s, if_pos (by rw [b2_0, ← hm]; exact hr.2), ← hk9]
  | succ d ih =>
    intro k n hk h1 hn
    obtain ⟨n, rfl⟩ : ∃ n', n = n' + 1 := ⟨n - 1, by omega⟩
    rw [fX6_lengthFrom_b13, show (8 : Int32) = oi 8 from rfl, if_neg (by rw [oi_lt (by omega) (by omega)]; omega), oi_add, zbyte h (by omega), obi_s, zletc (zch_le h _), obi_s, if_neg (by rw [b2_0, hr.1 k (by omega)]; decide), oi_succ]
    exact ih (k + 1) n (by omega) (by omega) (by omega)
theorem zlen49 (h : zTC σ f L) {p m : Nat} (hp : p < 10000) (hr : zRun zdg (zch f L) p m) : ∀ d k n, k + d = min m 4 → 1 ≤ k → d < n → fX6_lengthFrom_b49 n (oi p) (oi k) σ = some (oi (min m 4), σ) := by
  intro d
  induction d with
  | zero =>
    intro k n hk h1 hn
    obtain ⟨n, rfl⟩ : ∃ n', n = n' + 1 := ⟨n - 1, by omega⟩
    rw [fX6_lengthFrom_b49, show (3 : Int32) = oi 3 from rfl]
    have hk9 : k = min m 4 := by omega
    by_cases e : 3 < k
    · rw [if_pos ((oi_lt (by omega) (by omega)).mpr e), hk9]
    · have hm : m = k := by omega
      rw [if_neg (by rw [oi_lt (by omega) (by omega)]; exact e), oi_add, zbyte h (by omega), obi_s, zdigc (zch_le h _), obi_s, if_pos (by rw [b2_0, ← hm]; exact hr.2), ← hk9]
  | succ d ih =>
    intro k n hk h1 hn
    obtain ⟨n, rfl⟩ : ∃ n', n = n' + 1 := ⟨n - 1, by omega⟩
    rw [fX6_lengthFrom_b49, show (3 : Int32) = oi 3 from rfl, if_neg (by rw [oi_lt (by omega) (by omega)]; omega), oi_add, zbyte h (by omega), obi_s, zdigc (zch_le h _), obi_s, if_neg (by rw [b2_0, hr.1 k (by omega)]; decide), oi_succ]
    exact ih (k + 1) n (by omega) (by omega) (by omega)
/-- how the value of a word or a number grows -/
def zst (g : Nat → Nat) (p k : Nat) (v : Int64) : Int64 := if zdg (g (p + k)) then (10 * v + (zcb (g (p + k))).toInt64) - 48 else (v <<< ((8 : Int32).toInt64 &&& 63)) ||| (zcb (g (p + k))).toInt64
theorem zval (h : zTC σ f L) {p m : Nat} (hp : p < 10000) (hm : m ≤ 9) : fX6_valueFrom (oi p) (oi m) σ = some (ofd (zst (zch f L) p) 0 m, σ) := by
  have go : ∀ d k n v, k + d = m → d < n → v = ofd (zst (zch f L) p) 0 k → fX6_valueFrom_b5 n (oi p) (oi m) v (oi (p + k)) σ = some (ofd (zst (zch f L) p) 0 m, σ) := by
    intro d
    induction d with
    | zero =>
      intro k n v hk hn hv
      obtain ⟨n, rfl⟩ : ∃ n', n = n' + 1 := ⟨n - 1, by omega⟩
      rw [fX6_valueFrom_b5, oi_add, if_pos (by rw [oi_le (by omega) (by omega)]; omega), hv, show k = m by omega]
    | succ d ih =>
      intro k n v hk hn hv
      obtain ⟨n, rfl⟩ : ∃ n', n = n' + 1 := ⟨n - 1, by omega⟩
      rw [fX6_valueFrom_b5, oi_add, if_neg (by rw [oi_le (by omega) (by omega)]; omega), zbyte h (by omega), obi_s, zdigc (zch_le h _), obi_s, oi_succ]
      have hn' := ih (k + 1) n (zst (zch f L) p k v) (by omega) (by omega) (by rw [hv]; rfl)
      rw [show p + (k + 1) = p + k + 1 by omega] at hn'
      cases e : zdg (zch f L (p + k)) with
      | false =>
        rw [if_pos (by rfl)]
        rw [zst, if_neg (by rw [e]; decide)] at hn'
        exact hn'
      | true =>
        rw [if_neg (by decide)]
        rw [zst, if_pos e] at hn'
        exact hn'
  exact go m 0 oF 0 (by omega) (by unfold oF; omega) rfl
end
/-- a word's value -/
def zwv (u : Nat → Nat) (m : Nat) : Nat := ofd (fun k v => 256 * v + u k) 0 m
theorem zwv_lt {u : Nat → Nat} : ∀ m, (∀ k, k < m → u k < 256) → zwv u m < 256 ^ m
  | 0, _ => Nat.one_pos
  | m + 1, h => by
    have h1 := zwv_lt m (fun k hk => h k (by omega))
    have h2 := h m (by omega)
    show 256 * zwv u m + u m < 256 ^ (m + 1)
    rw [Nat.pow_succ]; omega
theorem zwv_inj {u u' : Nat → Nat} : ∀ m m', (∀ k, k < m → 1 ≤ u k ∧ u k < 256) → (∀ k, k < m' → 1 ≤ u' k ∧ u' k < 256) → (zwv u m = zwv u' m' ↔ m = m' ∧ ∀ k, k < m → u k = u' k)
  | 0, 0, _, _ => ⟨fun _ => ⟨rfl, fun k hk => absurd hk (by omega)⟩, fun _ => rfl⟩
  | 0, m' + 1, _, h' => by
    have := h' m' (by omega)
    constructor
    · intro e
      have e1 : 0 = 256 * zwv u' m' + u' m' := e
      omega
    · intro e; exact absurd e.1 (by omega)
  | m + 1, 0, h, _ => by
    have := h m (by omega)
    constructor
    · intro e
      have e1 : 256 * zwv u m + u m = 0 := e
      omega
    · intro e; exact absurd e.1 (by omega)
  | m + 1, m' + 1, h, h' => by
    have ih := zwv_inj (u := u) (u' := u') m m' (fun k hk => h k (by omega)) (fun k hk => h' k (by omega))
    have a := h m (by omega)
    have b := h' m' (by omega)
    constructor
    · intro e
      have e1 : 256 * zwv u m + u m = 256 * zwv u' m' + u' m' := e
      obtain ⟨e2, e3⟩ := ih.mp (by omega)
      subst e2
      refine ⟨rfl, fun k hk => ?_⟩
      by_cases hk' : k = m
      · rw [hk']; omega
      · exact e3 k (by omega)
    · rintro ⟨e1, e2⟩
      have e1 : m = m' := by omega
      subst e1
      have e3 := ih.mpr ⟨rfl, fun k hk => e2 k (by omega)⟩
      show 256 * zwv u m + u m = 256 * zwv u' m + u' m
      rw [e3, e2 m (by omega)]
theorem zshl (v b : Nat) (hv : v < 72057594037927936) (hb : b < 256) : (ol v <<< ((8 : Int32).toInt64 &&& 63)) ||| ol b = ol (256 * v + b) := by
  have hs : ((8 : Int32).toInt64 &&& 63).toBitVec.smod 64 = 8 := by decide +kernel
  apply tb_ext
  intro i hi
  have h1 : tb (ol v <<< ((8 : Int32).toInt64 &&& 63)) i = (decide (8 ≤ i) && v.testBit (i - 8)) := by
    unfold tb
    rw [Int64.toBitVec_shiftLeft, hs]
    show ((ol v).toBitVec <<< (8 : Nat)).getLsbD i = _
    rw [BitVec.getLsbD_shiftLeft]
    have := tb_ol v (i - 8) (by omega)
    unfold tb at this
    rw [this]
    by_cases e : i < 8
    · simp [e]; omega
    · simp [e, hi]
      intro _; omega
  rw [tb_or, h1, tb_ol b i (by omega), tb_ol (256 * v + b) i (by omega)]
  rw [show 256 * v + b = v <<< 8 ||| b by rw [← Nat.shiftLeft_add_eq_or_of_lt (by exact hb), Nat.shiftLeft_eq]; omega, Nat.testBit_or, Nat.testBit_shiftLeft]
