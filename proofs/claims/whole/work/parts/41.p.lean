/-! bits -/
def tb (x : Int64) (i : Nat) : Bool := x.toBitVec.getLsbD i
def tw (x : Int32) (i : Nat) : Bool := x.toBitVec.getLsbD i
theorem tb_ext {x y : Int64} (h : ∀ i, i < 64 → tb x i = tb y i) : x = y := Int64.toBitVec_inj.mp (BitVec.eq_of_getLsbD_eq (fun i hi => h i hi))
theorem tw_ext {x y : Int32} (h : ∀ i, i < 32 → tw x i = tw y i) : x = y := Int32.toBitVec_inj.mp (BitVec.eq_of_getLsbD_eq (fun i hi => h i hi))
theorem tb_big {x : Int64} {i : Nat} (h : 64 ≤ i) : tb x i = false := BitVec.getLsbD_of_ge _ _ h
theorem tw_big {x : Int32} {i : Nat} (h : 32 ≤ i) : tw x i = false := BitVec.getLsbD_of_ge _ _ h
theorem tb_and (x y : Int64) (i : Nat) : tb (x &&& y) i = (tb x i && tb y i) := by unfold tb; rw [Int64.toBitVec_and, BitVec.getLsbD_and]
theorem tb_or (x y : Int64) (i : Nat) : tb (x ||| y) i = (tb x i || tb y i) := by unfold tb; rw [Int64.toBitVec_or, BitVec.getLsbD_or]
theorem tb_xor (x y : Int64) (i : Nat) : tb (x ^^^ y) i = (tb x i ^^ tb y i) := by unfold tb; rw [Int64.toBitVec_xor, BitVec.getLsbD_xor]
theorem tw_and (x y : Int32) (i : Nat) : tw (x &&& y) i = (tw x i && tw y i) := by unfold tw; rw [Int32.toBitVec_and, BitVec.getLsbD_and]
theorem tw_or (x y : Int32) (i : Nat) : tw (x ||| y) i = (tw x i || tw y i) := by unfold tw; rw [Int32.toBitVec_or, BitVec.getLsbD_or]
theorem tw_xor (x y : Int32) (i : Nat) : tw (x ^^^ y) i = (tw x i ^^ tw y i) := by unfold tw; rw [Int32.toBitVec_xor, BitVec.getLsbD_xor]
theorem tb_0 (i : Nat) : tb 0 i = false := BitVec.getLsbD_zero
theorem tw_0 (i : Nat) : tw 0 i = false := BitVec.getLsbD_zero
theorem tb_m1 : ∀ i, i < 64 → tb (-1) i = true := by decide +kernel
theorem tw_m1 : ∀ i, i < 32 → tw (-1) i = true := by decide +kernel
/-- the complement, as the machine has it -/
theorem tb_not (x : Int64) {i : Nat} (h : i < 64) : tb (x ^^^ (-1)) i = !tb x i := by rw [tb_xor, tb_m1 i h, Bool.xor_true]
theorem tw_not (x : Int32) {i : Nat} (h : i < 32) : tw (x ^^^ (-1)) i = !tw x i := by rw [tw_xor, tw_m1 i h, Bool.xor_true]
theorem sh_u : ∀ k, k < 64 → (((oi k).toInt64.toUInt64 &&& Int64.toUInt64 63).toBitVec % 64).toNat = k := by decide +kernel
theorem sh_s : ∀ k, k < 64 → (((oi k).toInt64 &&& 63).toBitVec.smod 64).toNat = k := by decide +kernel
theorem sh_w : ∀ k, k < 32 → ((oi k &&& 31).toBitVec.smod 32).toNat = k := by decide +kernel
theorem and1L (y : Int64) : y &&& 1 = if tb y 0 then 1 else 0 := by
  apply tb_ext
  intro i hi
  rw [tb_and]
  have h1 : tb 1 i = decide (i = 0) := (by decide +kernel : ∀ i, i < 64 → tb 1 i = decide (i = 0)) i hi
  rw [h1]
  by_cases h : i = 0
  · subst h
    cases hy : tb y 0
    · rw [if_neg (by decide)]; rfl
    · rw [if_pos rfl]; rfl
  · rw [decide_eq_false h, Bool.and_false]
    split
    · rw [h1, decide_eq_false h]
    · rw [tb_0]
theorem and1W (y : Int32) : y &&& 1 = if tw y 0 then 1 else 0 := by
  apply tw_ext
  intro i hi
  rw [tw_and]
  have h1 : tw 1 i = decide (i = 0) := (by decide +kernel : ∀ i, i < 32 → tw 1 i = decide (i = 0)) i hi
  rw [h1]
  by_cases h : i = 0
  · subst h
    cases hy : tw y 0
    · rw [if_neg (by decide)]; rfl
    · rw [if_pos rfl]; rfl
  · rw [decide_eq_false h, Bool.and_false]
    split
    · rw [h1, decide_eq_false h]
    · rw [tw_0]
theorem tb_ushr (x : Int64) {k : Nat} (hk : k < 64) (i : Nat) : tb (x.toUInt64 >>> ((oi k).toInt64.toUInt64 &&& Int64.toUInt64 63)).toInt64 i = tb x (k + i) := by
  show ((x.toUInt64 >>> ((oi k).toInt64.toUInt64 &&& Int64.toUInt64 63)).toBitVec).getLsbD i = _
  rw [UInt64.toBitVec_shiftRight, BitVec.ushiftRight_eq', BitVec.getLsbD_ushiftRight, sh_u k hk]
  rfl
theorem tb_sshr (x : Int64) {k : Nat} (hk : k < 64) {i : Nat} (hi : k + i < 64) : tb (x >>> ((oi k).toInt64 &&& 63)) i = tb x (k + i) := by
  unfold tb
  rw [Int64.toBitVec_shiftRight, BitVec.sshiftRight_eq', BitVec.getLsbD_sshiftRight, sh_s k hk]
  simp only [show decide (64 ≤ i) = false from decide_eq_false (by omega), Bool.not_false, Bool.true_and]
  rw [if_pos (by omega)]
theorem tw_sshr (x : Int32) {k : Nat} (hk : k < 32) {i : Nat} (hi : k + i < 32) : tw (x >>> (oi k &&& 31)) i = tw x (k + i) := by
  unfold tw
  rw [Int32.toBitVec_shiftRight, BitVec.sshiftRight_eq', BitVec.getLsbD_sshiftRight, sh_w k hk]
  simp only [show decide (32 ≤ i) = false from decide_eq_false (by omega), Bool.not_false, Bool.true_and]
  rw [if_pos (by omega)]
theorem bitU (x : Int64) {k : Nat} (hk : k < 64) : (x.toUInt64 >>> ((oi k).toInt64.toUInt64 &&& Int64.toUInt64 63)).toInt64 &&& 1 = if tb x k then 1 else 0 := by
  rw [and1L, tb_ushr x hk]; rfl
theorem bitS (x : Int64) {k : Nat} (hk : k < 64) : (x >>> ((oi k).toInt64 &&& 63)) &&& 1 = if tb x k then 1 else 0 := by
  rw [and1L, tb_sshr x hk (by omega)]; rfl
theorem bitW (x : Int32) {k : Nat} (hk : k < 32) : (x >>> (oi k &&& 31)) &&& 1 = if tw x k then 1 else 0 := by
  rw [and1W, tw_sshr x hk (by omega)]; rfl
theorem tb_long (x : Int32) {k : Nat} (hk : k < 32) : tb x.toInt64 k = tw x k := by
  unfold tb tw
  rw [Int32.toBitVec_toInt64, BitVec.getLsbD_signExtend]
  simp only [show decide (k < 64) = true from decide_eq_true (by omega), Bool.true_and]
  rw [if_pos hk]
theorem shlW : ∀ k, k < 31 → (1 : Int32) <<< (oi k &&& 31) = oi (2 ^ k) := by decide +kernel
theorem tw_shl : ∀ k, k < 32 → ∀ i, i < 32 → tw ((1 : Int32) <<< (oi k &&& 31)) i = decide (i = k) := by decide +kernel
theorem shlL : ∀ k, k < 63 → (1 : Int64) <<< ((oi k).toInt64 &&& 63) = ol (2 ^ k) := by decide +kernel
theorem tb_shl : ∀ k, k < 64 → ∀ i, i < 64 → tb ((1 : Int64) <<< ((oi k).toInt64 &&& 63)) i = decide (i = k) := by decide +kernel
theorem tw_oi (n i : Nat) (h : n < 4294967296) : tw (oi n) i = n.testBit i := by
  show (BitVec.ofNat 32 n).getLsbD i = _
  rw [BitVec.getLsbD_ofNat]
  by_cases hi : i < 32
  · rw [decide_eq_true hi, Bool.true_and]
  · rw [decide_eq_false hi, Bool.false_and]
    exact (Nat.testBit_lt_two_pow (Nat.lt_of_lt_of_le h (Nat.pow_le_pow_right (by decide : 2 > 0) (by omega : 32 ≤ i)))).symm
theorem tb_ol (n i : Nat) (h : n < 18446744073709551616) : tb (ol n) i = n.testBit i := by
  show (BitVec.ofNat 64 n).getLsbD i = _
  rw [BitVec.getLsbD_ofNat]
  by_cases hi : i < 64
  · rw [decide_eq_true hi, Bool.true_and]
  · rw [decide_eq_false hi, Bool.false_and]
    exact (Nat.testBit_lt_two_pow (Nat.lt_of_lt_of_le h (Nat.pow_le_pow_right (by decide : 2 > 0) (by omega : 64 ≤ i)))).symm
theorem tb_eq0 {x : Int64} : x = 0 ↔ ∀ i, i < 64 → tb x i = false := ⟨fun h i _ => by rw [h, tb_0], fun h => tb_ext (fun i hi => by rw [h i hi, tb_0])⟩
theorem tw_eq0 {x : Int32} : x = 0 ↔ ∀ i, i < 32 → tw x i = false := ⟨fun h i _ => by rw [h, tw_0], fun h => tw_ext (fun i hi => by rw [h i hi, tw_0])⟩
/-! how many bits -/
def cnt (p : Nat → Bool) : Nat → Nat
  | 0 => 0
  | n + 1 => cnt p n + if p n then 1 else 0
theorem cnt_congr {p q : Nat → Bool} : ∀ {n : Nat}, (∀ k, k < n → p k = q k) → cnt p n = cnt q n
  | 0, _ => rfl
  | n + 1, h => by
    show cnt p n + _ = cnt q n + _
    rw [cnt_congr (fun k hk => h k (by omega)), h n (by omega)]
theorem cnt_le (p : Nat → Bool) : ∀ n, cnt p n ≤ n
  | 0 => Nat.le_refl 0
  | n + 1 => by have := cnt_le p n; show cnt p n + _ ≤ _; split <;> omega
theorem cnt_zero {p : Nat → Bool} : ∀ {n : Nat}, (cnt p n = 0 ↔ ∀ k, k < n → p k = false)
  | 0 => ⟨fun _ k hk => absurd hk (by omega), fun _ => rfl⟩
  | n + 1 => by
    constructor
    · intro h k hk
      have h1 : cnt p n + (if p n then 1 else 0) = 0 := h
      have h2 : cnt p n = 0 := by omega
      by_cases hkn : k = n
      · subst hkn
        cases hp : p k
        · rfl
        · rw [hp, if_pos rfl] at h1; omega
      · exact cnt_zero.mp h2 k (by omega)
    · intro h
      show cnt p n + _ = 0
      rw [cnt_zero.mpr (fun k hk => h k (by omega)), h n (by omega)]; rfl
theorem cnt_sub {p q : Nat → Bool} : ∀ {n : Nat}, (∀ k, k < n → p k = true → q k = true) → cnt p n ≤ cnt q n
  | 0, _ => Nat.le_refl 0
  | n + 1, h => by
    have h1 := cnt_sub (p := p) (q := q) (n := n) (fun k hk => h k (by omega))
    have h2 := h n (by omega)
    show cnt p n + _ ≤ cnt q n + _
    cases hp : p n <;> cases hq : q n <;> simp_all <;> omega
/-- a set within another with as many elements is that other -/
theorem cnt_same {p q : Nat → Bool} : ∀ {n : Nat}, (∀ k, k < n → p k = true → q k = true) → cnt p n = cnt q n → ∀ k, k < n → p k = q k
  | 0, _, _ => fun k hk => absurd hk (by omega)
  | n + 1, h, e => by
    have h1 := cnt_sub (p := p) (q := q) (n := n) (fun k hk => h k (by omega))
    have h2 := h n (by omega)
    have e1 : cnt p n + (if p n then 1 else 0) = cnt q n + (if q n then 1 else 0) := e
    have e2 : p n = q n := by
      cases hp : p n <;> cases hq : q n <;> simp_all <;> omega
    have e3 : cnt p n = cnt q n := by rw [e2] at e1; omega
    intro k hk
    by_cases hkn : k = n
    · subst hkn; exact e2
    · exact cnt_same (fun k hk => h k (by omega)) e3 k (by omega)
theorem cnt_upd {p q : Nat → Bool} {i : Nat} : ∀ {n : Nat}, i < n → p i = true → q i = false → (∀ k, k < n → k ≠ i → p k = q k) → cnt p n = cnt q n + 1
  | 0, h, _, _, _ => absurd h (by omega)
  | n + 1, h, hp, hq, hk => by
    show cnt p n + _ = cnt q n + _ + 1
    by_cases hn : i = n
    · subst hn
      rw [hp, hq, cnt_congr (fun k h2 => hk k (by omega) (by omega))]; simp
    · rw [cnt_upd (n := n) (i := i) (by omega) hp hq (fun k h2 h3 => hk k (by omega) h3), hk n (by omega) (fun e => hn e.symm)]; omega
def pc (x : Int64) : Nat := cnt (tb x) 64
def pcw (x : Int32) : Nat := cnt (tw x) 32
/-- the lowest bit taken off -/
theorem low_off (x : Int64) (h : x ≠ 0) : ∃ i, i < 64 ∧ tb x i = true ∧ (∀ k, k < i → tb x k = false) ∧ (∀ k, k < 64 → tb (x &&& (x - 1)) k = (tb x k && decide (k ≠ i))) := by
  obtain ⟨i, hi, hb, hl⟩ : ∃ i, i < 64 ∧ tb x i = true ∧ ∀ k, k < i → tb x k = false := by
    have h1 : ∃ i, i < 64 ∧ tb x i = true := by
      apply Classical.byContradiction
      intro hn
      refine h (tb_eq0.mpr (fun i hi => ?_))
      cases hb : tb x i
      · rfl
      · exact absurd ⟨i, hi, hb⟩ hn
    have h2 : ∀ n, (∃ i, i < n ∧ i < 64 ∧ tb x i = true) → ∃ i, i < 64 ∧ tb x i = true ∧ ∀ k, k < i → tb x k = false := by
      intro n
      induction n with
      | zero => rintro ⟨i, h, -⟩; omega
      | succ n ih =>
        rintro ⟨i, h3, h4, h5⟩
        by_cases hex : ∃ i, i < n ∧ i < 64 ∧ tb x i = true
        · exact ih hex
        · refine ⟨i, h4, h5, fun k hk => ?_⟩
          cases hb : tb x k
          · rfl
          · exact absurd ⟨k, by omega, by omega, hb⟩ hex
    obtain ⟨i, h3, h4⟩ := h1
    exact h2 64 ⟨i, h3, h3, h4⟩
  refine ⟨i, hi, hb, hl, ?_⟩
  -- x = 2^i + 2^(i+1) * r
  have hx : x = ol x.toBitVec.toNat := by
    apply Int64.toBitVec_inj.mp
    show _ = BitVec.ofNat 64 _
    simp
  obtain ⟨n, hn, hxn⟩ : ∃ n, n < 18446744073709551616 ∧ x = ol n := ⟨x.toBitVec.toNat, x.toBitVec.isLt, hx⟩
  have hbn : ∀ k, tb x k = n.testBit k := fun k => by rw [hxn]; exact tb_ol n k hn
  have hlow : n % 2 ^ i = 0 := by
    apply Nat.eq_of_testBit_eq
    intro k
    rw [Nat.testBit_mod_two_pow, Nat.zero_testBit]
    by_cases hk : k < i
    · rw [← hbn, hl k hk, Bool.and_false]
    · rw [decide_eq_false hk, Bool.false_and]
  have hpos : 0 < n := by
    rcases Nat.eq_zero_or_pos n with e | e
    · rw [hbn, e, Nat.zero_testBit] at hb; cases hb
    · exact e
  have hm1 : x - 1 = ol (n - 1) := by rw [hxn]; exact ol_sub hpos
  obtain ⟨q, hq⟩ : ∃ q, n = 2 ^ i * q := ⟨n / 2 ^ i, by have := Nat.div_add_mod n (2 ^ i); omega⟩
  have hqo : q.testBit 0 = true := by
    rw [hbn, hq, Nat.testBit_two_pow_mul] at hb
    simpa using hb
  have hq1 : 0 < q := by
    rcases Nat.eq_zero_or_pos q with e | e
    · rw [e, Nat.zero_testBit] at hqo; cases hqo
    · exact e
  have hn1 : n - 1 = 2 ^ i * (q - 1) + (2 ^ i - 1) := by
    have h1 : 0 < 2 ^ i := Nat.two_pow_pos i
    have h2 : 2 ^ i * q = 2 ^ i * (q - 1) + 2 ^ i := by
      obtain ⟨r, rfl⟩ : ∃ r, q = r + 1 := ⟨q - 1, by omega⟩
      rw [Nat.add_sub_cancel, Nat.mul_succ]
    omega
  intro k hk
  rw [tb_and, hm1, hbn, tb_ol (n - 1) k (by omega)]
  rcases Nat.lt_trichotomy k i with h1 | h1 | h1
  · rw [← hbn, hl k h1]; rfl
  · subst h1
    rw [hn1, Nat.testBit_two_pow_mul_add _ (by have := Nat.two_pow_pos k; omega)]
    rw [if_neg (by omega), Nat.sub_self]
    have h5 : (q - 1).testBit 0 = false := by
      rw [Nat.testBit_zero] at hqo ⊢
      have := of_decide_eq_true hqo
      exact decide_eq_false (by omega)
    rw [h5]; simp
  · rw [hn1, Nat.testBit_two_pow_mul_add _ (by have := Nat.two_pow_pos i; omega), if_neg (by omega), hq, Nat.testBit_two_pow_mul]
    have h6 : (q - 1).testBit (k - i) = q.testBit (k - i) := by
      obtain ⟨d, hd⟩ : ∃ d, k - i = d + 1 := ⟨k - i - 1, by omega⟩
      rw [hd, Nat.testBit_succ, Nat.testBit_succ]
      have : q % 2 = 1 := by
        rw [Nat.testBit_zero] at hqo; exact of_decide_eq_true hqo
      congr 1; omega
    rw [h6, decide_eq_true (by omega : k ≥ i), decide_eq_true (show k ≠ i by omega)]
    simp
theorem pc_low {x : Int64} (h : x ≠ 0) : pc x = pc (x &&& (x - 1)) + 1 := by
  obtain ⟨i, hi, hb, -, hk⟩ := low_off x h
  refine cnt_upd hi hb ?_ ?_
  · rw [hk i hi]; simp
  · intro k h1 h2
    rw [hk k h1, decide_eq_true h2, Bool.and_true]
theorem pc_0 : pc 0 = 0 := cnt_zero.mpr (fun k _ => tb_0 k)
theorem pc_le (x : Int64) : pc x ≤ 64 := cnt_le _ _
theorem pc_zero {x : Int64} : pc x = 0 ↔ x = 0 := by unfold pc; rw [cnt_zero, tb_eq0]
theorem ones_go (σ : OM) : ∀ (m : Nat) (x : Int64) (a : Nat), pc x < m → fX10_ones_b4 m (oi a) x σ = some (oi (a + pc x), σ) := by
  intro m
  induction m with
  | zero => intro x a h; omega
  | succ m ih =>
    intro x a h
    unfold fX10_ones_b4
    by_cases hx : x = 0
    · rw [if_pos ((cmp_eq _ _).mpr hx), hx, pc_0]; rfl
    · rw [if_neg (fun e => hx ((cmp_eq _ _).mp e)), oi_succ]
      have := pc_low hx
      rw [ih _ _ (by omega), this]
      congr 3; omega
theorem ones_eq (x : Int64) (σ : OM) : fX10_ones x σ = some (oi (pc x), σ) := by
  unfold fX10_ones
  rw [show (0 : Int32) = oi 0 from rfl, ones_go σ oF x 0 (by have := pc_le x; unfold oF; omega), Nat.zero_add]
