/-! the machine's bit counts -/
def mk8 (m : Nat) : Nat → Nat
  | 0 => 0
  | n + 1 => m + 256 * mk8 m n
theorem cut8 {s m : Nat} (hm : m < 256) (hc : ∀ i, m.testBit i = true → i + s < 8) {lo : Nat} (hlo : lo < 256) (hi M : Nat) : ((lo + 256 * hi) >>> s) &&& (m + 256 * M) = ((lo >>> s) &&& m) + 256 * ((hi >>> s) &&& M) := by
  have e1 : lo + 256 * hi = 2 ^ 8 * hi + lo := by omega
  have e2 : m + 256 * M = 2 ^ 8 * M + m := by omega
  have h3 : (lo >>> s) &&& m < 2 ^ 8 := Nat.lt_of_le_of_lt Nat.and_le_right hm
  have e3 : ((lo >>> s) &&& m) + 256 * ((hi >>> s) &&& M) = 2 ^ 8 * ((hi >>> s) &&& M) + ((lo >>> s) &&& m) := by omega
  rw [e1, e2, e3]
  apply Nat.eq_of_testBit_eq
  intro i
  rw [Nat.testBit_and, Nat.testBit_shiftRight, Nat.testBit_two_pow_mul_add _ hlo, Nat.testBit_two_pow_mul_add _ hm, Nat.testBit_two_pow_mul_add _ h3, Nat.testBit_and, Nat.testBit_and, Nat.testBit_shiftRight, Nat.testBit_shiftRight]
  by_cases h : i < 8
  · rw [if_pos h, if_pos h]
    cases hb : m.testBit i
    · simp
    · have := hc i hb
      rw [if_pos (by omega)]
  · rw [if_neg h, if_neg h, if_neg (by omega)]
    congr 2; omega
def g1 (n N : Nat) : Nat := N - ((N >>> 1) &&& mk8 85 n)
def g2 (n A : Nat) : Nat := ((A >>> 0) &&& mk8 51 n) + ((A >>> 2) &&& mk8 51 n)
def g3 (n B : Nat) : Nat := ((B >>> 0) &&& mk8 15 n) + ((B >>> 4) &&& mk8 15 n)
theorem bits_lt {m s : Nat} (h : (List.range 8).all (fun i => !(m.testBit i) || decide (i + s < 8)) = true) (hm : m < 256) : ∀ i, m.testBit i = true → i + s < 8 := by
  intro i hi
  by_cases h8 : i < 8
  · have := List.all_eq_true.mp h i (List.mem_range.mpr h8)
    rw [hi] at this; simpa using this
  · rw [Nat.testBit_lt_two_pow (Nat.lt_of_lt_of_le hm (Nat.pow_le_pow_right (by decide : 2 > 0) (by omega : 8 ≤ i)))] at hi; cases hi
theorem half_le (a b : Nat) : (a >>> 1) &&& b ≤ a := Nat.le_trans Nat.and_le_left (by rw [Nat.shiftRight_eq_div_pow]; exact Nat.div_le_self _ _)
theorem g1_cut {lo : Nat} (hlo : lo < 256) (hi n : Nat) : g1 (n + 1) (lo + 256 * hi) = (lo - ((lo >>> 1) &&& 85)) + 256 * g1 n hi := by
  unfold g1
  show lo + 256 * hi - (((lo + 256 * hi) >>> 1) &&& (85 + 256 * mk8 85 n)) = _
  rw [cut8 (by decide) (bits_lt (by decide) (by decide)) hlo]
  have := half_le lo 85
  have := half_le hi (mk8 85 n)
  omega
theorem g2_cut {lo : Nat} (hlo : lo < 256) (hi n : Nat) : g2 (n + 1) (lo + 256 * hi) = (((lo >>> 0) &&& 51) + ((lo >>> 2) &&& 51)) + 256 * g2 n hi := by
  unfold g2
  show ((lo + 256 * hi) >>> 0 &&& (51 + 256 * mk8 51 n)) + (((lo + 256 * hi) >>> 2) &&& (51 + 256 * mk8 51 n)) = _
  rw [cut8 (by decide) (bits_lt (by decide) (by decide)) hlo, cut8 (by decide) (bits_lt (by decide) (by decide)) hlo]
  omega
theorem g3_cut {lo : Nat} (hlo : lo < 256) (hi n : Nat) : g3 (n + 1) (lo + 256 * hi) = (((lo >>> 0) &&& 15) + ((lo >>> 4) &&& 15)) + 256 * g3 n hi := by
  unfold g3
  show ((lo + 256 * hi) >>> 0 &&& (15 + 256 * mk8 15 n)) + (((lo + 256 * hi) >>> 4) &&& (15 + 256 * mk8 15 n)) = _
  rw [cut8 (by decide) (bits_lt (by decide) (by decide)) hlo, cut8 (by decide) (bits_lt (by decide) (by decide)) hlo]
  omega
def t1 (b : Nat) : Nat := b - ((b >>> 1) &&& 85)
def t2 (b : Nat) : Nat := ((b >>> 0) &&& 51) + ((b >>> 2) &&& 51)
def t3 (b : Nat) : Nat := ((b >>> 0) &&& 15) + ((b >>> 4) &&& 15)
theorem t_all : ∀ b, b < 256 → t1 b < 256 ∧ t2 (t1 b) < 128 ∧ (t2 (t1 b)) % 16 ≤ 4 ∧ (t2 (t1 b)) / 16 ≤ 4 ∧ t3 (t2 (t1 b)) = cnt b.testBit 8 := by decide +kernel
/-- the bytes of a number -/
def byt (N j : Nat) : Nat := N / 256 ^ j % 256
def sm8 (f : Nat → Nat) : Nat → Nat
  | 0 => 0
  | n + 1 => f 0 + 256 * sm8 (fun j => f (j + 1)) n
theorem sm8_byt : ∀ (n N : Nat), N < 256 ^ n → N = sm8 (byt N) n
  | 0, N, h => by have : N = 0 := by simpa using h
                  subst this; rfl
  | n + 1, N, h => by
    show N = byt N 0 + 256 * sm8 (fun j => byt N (j + 1)) n
    have h1 : (fun j => byt N (j + 1)) = byt (N / 256) := by
      funext j; unfold byt
      rw [Nat.div_div_eq_div_mul, Nat.pow_succ, Nat.mul_comm]
    rw [h1, ← sm8_byt n (N / 256) (by rw [Nat.pow_succ] at h; omega)]
    unfold byt; omega
theorem g_sm : ∀ (n : Nat) (f : Nat → Nat), (∀ j, f j < 256) → g1 n (sm8 f n) = sm8 (fun j => t1 (f j)) n
  | 0, f, _ => by simp [g1, sm8, mk8]
  | n + 1, f, h => by
    show g1 (n + 1) (f 0 + 256 * sm8 (fun j => f (j + 1)) n) = t1 (f 0) + 256 * sm8 (fun j => t1 (f (j + 1))) n
    rw [g1_cut (h 0), g_sm n _ (fun j => h (j + 1))]; rfl
theorem g_sm2 : ∀ (n : Nat) (f : Nat → Nat), (∀ j, f j < 256) → g2 n (sm8 f n) = sm8 (fun j => t2 (f j)) n
  | 0, f, _ => by simp [g2, sm8, mk8]
  | n + 1, f, h => by
    show g2 (n + 1) (f 0 + 256 * sm8 (fun j => f (j + 1)) n) = t2 (f 0) + 256 * sm8 (fun j => t2 (f (j + 1))) n
    rw [g2_cut (h 0), g_sm2 n _ (fun j => h (j + 1))]; rfl
theorem g_sm3 : ∀ (n : Nat) (f : Nat → Nat), (∀ j, f j < 256) → g3 n (sm8 f n) = sm8 (fun j => t3 (f j)) n
  | 0, f, _ => by simp [g3, sm8, mk8]
  | n + 1, f, h => by
    show g3 (n + 1) (f 0 + 256 * sm8 (fun j => f (j + 1)) n) = t3 (f 0) + 256 * sm8 (fun j => t3 (f (j + 1))) n
    rw [g3_cut (h 0), g_sm3 n _ (fun j => h (j + 1))]; rfl
/-- the machine adds before it cuts -/
theorem g3_alt : ∀ (n : Nat) (f : Nat → Nat), (∀ j, f j % 16 ≤ 4 ∧ f j / 16 ≤ 4) → ((sm8 f n) + ((sm8 f n) >>> 4)) &&& mk8 15 n = g3 n (sm8 f n) := by
  intro n
  induction n with
  | zero => intro f _; simp [g3, sm8, mk8]
  | succ n ih =>
    intro f h
    have h0 := h 0
    have hlo : f 0 < 256 := by omega
    show ((f 0 + 256 * sm8 (fun j => f (j + 1)) n) + ((f 0 + 256 * sm8 (fun j => f (j + 1)) n) >>> 4)) &&& (15 + 256 * mk8 15 n) = g3 (n + 1) (f 0 + 256 * sm8 (fun j => f (j + 1)) n)
    rw [g3_cut hlo, ← ih (fun j => f (j + 1)) (fun j => h (j + 1))]
    have hS : sm8 (fun j => f (j + 1)) n % 16 ≤ 4 := by
      cases n with
      | zero => show (0 : Nat) % 16 ≤ 4; decide
      | succ n => show (f 1 + 256 * _) % 16 ≤ 4; have := h 1; omega
    generalize hSS : sm8 (fun j => f (j + 1)) n = S at hS ⊢
    have e1 : (f 0 + 256 * S) + ((f 0 + 256 * S) >>> 4) = (f 0 + f 0 / 16 + 16 * (S % 16)) + 256 * (S + S >>> 4) := by
      rw [Nat.shiftRight_eq_div_pow, Nat.shiftRight_eq_div_pow]; omega
    rw [e1, show (f 0 + f 0 / 16 + 16 * (S % 16)) + 256 * (S + S >>> 4) = ((f 0 + f 0 / 16 + 16 * (S % 16)) + 256 * (S + S >>> 4)) >>> 0 from rfl, cut8 (by decide) (bits_lt (by decide) (by decide)) (by omega)]
    have e2 : ((f 0 + f 0 / 16 + 16 * (S % 16)) >>> 0) &&& 15 = ((f 0 >>> 0) &&& 15) + ((f 0 >>> 4) &&& 15) := by
      have a : ∀ z, z &&& 15 = z % 16 := fun z => Nat.and_two_pow_sub_one_eq_mod z 4
      rw [Nat.shiftRight_zero, Nat.shiftRight_zero, a, a, a, Nat.shiftRight_eq_div_pow]
      simp only [Nat.reducePow]
      obtain ⟨q, r, hq, hr, hqr⟩ : ∃ q r, q ≤ 4 ∧ r ≤ 4 ∧ f 0 = 16 * q + r := ⟨f 0 / 16, f 0 % 16, h0.2, h0.1, by omega⟩
      have hq2 : f 0 / 16 = q := by omega
      rw [hq2, hqr]
      rw [show 16 * q + r + q + 16 * (S % 16) = 16 * (q + S % 16) + (r + q) by omega, Nat.mul_add_mod, Nat.mod_eq_of_lt (show r + q < 16 by omega), Nat.mul_add_mod, Nat.mod_eq_of_lt (show r < 16 by omega), Nat.mod_eq_of_lt (show q < 16 by omega)]
    rw [e2]; rfl
def sb (f : Nat → Nat) : Nat → Nat
  | 0 => 0
  | n + 1 => f 0 + sb (fun j => f (j + 1)) n
theorem cnt_add (p : Nat → Bool) (a : Nat) : ∀ b, cnt p (a + b) = cnt p a + cnt (fun i => p (a + i)) b
  | 0 => rfl
  | b + 1 => by
    show cnt p (a + b) + (if p (a + b) then 1 else 0) = cnt p a + (cnt (fun i => p (a + i)) b + (if p (a + b) then 1 else 0))
    rw [cnt_add p a b]; omega
theorem cnt_bytes : ∀ (n N : Nat), cnt N.testBit (8 * n) = sb (fun j => cnt (byt N j).testBit 8) n
  | 0, N => rfl
  | n + 1, N => by
    rw [show 8 * (n + 1) = 8 + 8 * n by omega, cnt_add]
    show _ = cnt (byt N 0).testBit 8 + sb (fun j => cnt (byt N (j + 1)).testBit 8) n
    have h1 : (fun j => cnt (byt N (j + 1)).testBit 8) = (fun j => cnt (byt (N / 256) j).testBit 8) := by
      funext j
      have : byt N (j + 1) = byt (N / 256) j := by unfold byt; rw [Nat.div_div_eq_div_mul, Nat.pow_succ, Nat.mul_comm]
      rw [this]
    rw [h1, ← cnt_bytes n (N / 256)]
    congr 1
    · apply cnt_congr
      intro k hk
      unfold byt
      rw [Nat.pow_zero, Nat.div_one, show 256 = 2 ^ 8 from rfl, Nat.testBit_mod_two_pow, decide_eq_true hk, Bool.true_and]
    · apply cnt_congr
      intro k hk
      rw [show N / 256 = N / 2 ^ 8 from rfl, Nat.testBit_div_two_pow]
      congr 1; omega
theorem byt_lt (N j : Nat) : byt N j < 256 := Nat.mod_lt _ (by decide)
theorem cnt8_le (p : Nat → Bool) : cnt p 8 ≤ 8 := cnt_le p 8
theorem bc_nat (n N : Nat) (h : N < 256 ^ n) : ((g2 n (g1 n N)) + ((g2 n (g1 n N)) >>> 4)) &&& mk8 15 n = sm8 (fun j => cnt (byt N j).testBit 8) n := by
  have e1 : g2 n (g1 n N) = sm8 (fun j => t2 (t1 (byt N j))) n := by
    have h2 : g1 n N = sm8 (fun j => t1 (byt N j)) n := by
      have h3 := g_sm n (byt N) (byt_lt N)
      rw [← sm8_byt n N h] at h3; exact h3
    rw [h2, g_sm2 n _ (fun j => (t_all _ (byt_lt N j)).1)]
  rw [e1, g3_alt n _ (fun j => ⟨(t_all _ (byt_lt N j)).2.2.1, (t_all _ (byt_lt N j)).2.2.2.1⟩), g_sm3 n _ (fun j => by have := (t_all _ (byt_lt N j)).2.1; omega)]
  congr 1
  funext j
  exact (t_all _ (byt_lt N j)).2.2.2.2
theorem bc_end8 (c : Nat → Nat) (h : ∀ j, c j ≤ 8) : ∀ C C1 C2 C3, C = sm8 c 8 → C1 = C + C / 256 → C2 = C1 + C1 / 65536 → C3 = C2 + C2 / 4294967296 → C3 % 128 = sb c 8 ∧ C3 < 18446744073709551616 := by
  intro C C1 C2 C3 e e1 e2 e3
  have a : C = c 0 + 256 * (c 1 + 256 * (c 2 + 256 * (c 3 + 256 * (c 4 + 256 * (c 5 + 256 * (c 6 + 256 * (c 7 + 256 * 0))))))) := e
  have b : sb c 8 = c 0 + (c 1 + (c 2 + (c 3 + (c 4 + (c 5 + (c 6 + (c 7 + 0))))))) := rfl
  rw [b]
  have := h 0; have := h 1; have := h 2; have := h 3; have := h 4; have := h 5; have := h 6; have := h 7
  generalize c 0 = x0 at *; generalize c 1 = x1 at *; generalize c 2 = x2 at *; generalize c 3 = x3 at *
  generalize c 4 = x4 at *; generalize c 5 = x5 at *; generalize c 6 = x6 at *; generalize c 7 = x7 at *
  clear b e h
  have d1 : C / 256 = x1 + 256 * (x2 + 256 * (x3 + 256 * (x4 + 256 * (x5 + 256 * (x6 + 256 * x7))))) := by omega
  have f1 : C1 = (x0 + x1) + 256 * (x1 + x2) + 65536 * ((x2 + x3) + 256 * ((x3 + x4) + 256 * ((x4 + x5) + 256 * ((x5 + x6) + 256 * ((x6 + x7) + 256 * x7))))) := by omega
  have d2 : C1 / 65536 = ((x2 + x3) + 256 * ((x3 + x4) + 256 * ((x4 + x5) + 256 * ((x5 + x6) + 256 * ((x6 + x7) + 256 * x7))))) := by clear d1 e1 a; omega
  have f2 : C2 = (x0 + x1 + x2 + x3) + 256 * (x1 + x2 + x3 + x4) + 65536 * (x2 + x3 + x4 + x5) + 16777216 * (x3 + x4 + x5 + x6) + 4294967296 * ((x4 + x5 + x6 + x7) + 256 * ((x5 + x6 + x7) + 256 * ((x6 + x7) + 256 * x7))) := by clear d1 e1 a; omega
  have d3 : C2 / 4294967296 = (x4 + x5 + x6 + x7) + 256 * ((x5 + x6 + x7) + 256 * ((x6 + x7) + 256 * x7)) := by clear d1 d2 e1 e2 a f1; omega
  clear d1 d2 e1 e2 a f1
  omega
theorem bc_end4 (c : Nat → Nat) (h : ∀ j, c j ≤ 8) : ∀ C C1 C2, C = sm8 c 4 → C1 = C + C / 256 → C2 = C1 + C1 / 65536 → C2 % 64 = sb c 4 ∧ C2 < 4294967296 := by
  intro C C1 C2 e e1 e2
  have a : C = c 0 + 256 * (c 1 + 256 * (c 2 + 256 * (c 3 + 256 * 0))) := e
  have b : sb c 4 = c 0 + (c 1 + (c 2 + (c 3 + 0))) := rfl
  rw [b]
  have := h 0; have := h 1; have := h 2; have := h 3
  generalize c 0 = x0 at *; generalize c 1 = x1 at *; generalize c 2 = x2 at *; generalize c 3 = x3 at *
  clear b e h
  have d1 : C / 256 = x1 + 256 * (x2 + 256 * x3) := by omega
  have f1 : C1 = (x0 + x1) + 256 * (x1 + x2) + 65536 * ((x2 + x3) + 256 * x3) := by omega
  have d2 : C1 / 65536 = (x2 + x3) + 256 * x3 := by clear d1 e1 a; omega
  have f2 : C2 = (x0 + x1 + x2 + x3) + 256 * (x1 + x2 + x3) + 65536 * ((x2 + x3) + 256 * x3) := by clear d1 e1 a; omega
  clear d1 d2 e1 e2 a f1
  omega
theorem tnL (x : Int64) : x.toBitVec.toNat < 18446744073709551616 := x.toBitVec.isLt
theorem tnW (x : Int32) : x.toBitVec.toNat < 4294967296 := x.toBitVec.isLt
def nL (x : Int64) : Nat := x.toBitVec.toNat
def nW (x : Int32) : Nat := x.toBitVec.toNat
theorem nL_ushr : ∀ k, k < 64 → ∀ x : Int64, nL (x.toUInt64 >>> ((oi k).toInt64.toUInt64 &&& Int64.toUInt64 63)).toInt64 = nL x >>> k := by
  intro k hk x
  show ((x.toUInt64 >>> ((oi k).toInt64.toUInt64 &&& Int64.toUInt64 63)).toBitVec).toNat = _
  rw [UInt64.toBitVec_shiftRight, BitVec.ushiftRight_eq', BitVec.toNat_ushiftRight, sh_u k hk]
  rfl
theorem sh_wu : ∀ k, k < 32 → (((oi k).toUInt32 &&& Int32.toUInt32 31).toBitVec % 32).toNat = k := by decide +kernel
theorem nW_ushr : ∀ k, k < 32 → ∀ x : Int32, nW (x.toUInt32 >>> ((oi k).toUInt32 &&& Int32.toUInt32 31)).toInt32 = nW x >>> k := by
  intro k hk x
  show ((x.toUInt32 >>> ((oi k).toUInt32 &&& Int32.toUInt32 31)).toBitVec).toNat = _
  rw [UInt32.toBitVec_shiftRight, BitVec.ushiftRight_eq', BitVec.toNat_ushiftRight, sh_wu k hk]
  rfl
theorem nL_and (x y : Int64) : nL (x &&& y) = nL x &&& nL y := by unfold nL; rw [Int64.toBitVec_and, BitVec.toNat_and]
theorem nW_and (x y : Int32) : nW (x &&& y) = nW x &&& nW y := by unfold nW; rw [Int32.toBitVec_and, BitVec.toNat_and]
theorem nL_add {x y : Int64} (h : nL x + nL y < 18446744073709551616) : nL (x + y) = nL x + nL y := by
  unfold nL at h ⊢; rw [Int64.toBitVec_add, BitVec.toNat_add, Nat.mod_eq_of_lt h]
theorem nW_add {x y : Int32} (h : nW x + nW y < 4294967296) : nW (x + y) = nW x + nW y := by
  unfold nW at h ⊢; rw [Int32.toBitVec_add, BitVec.toNat_add, Nat.mod_eq_of_lt h]
theorem nL_sub {x y : Int64} (h : nL y ≤ nL x) : nL (x - y) = nL x - nL y := by
  unfold nL at h ⊢
  rw [Int64.toBitVec_sub, BitVec.toNat_sub_of_le (BitVec.le_def.mpr h)]
theorem nW_sub {x y : Int32} (h : nW y ≤ nW x) : nW (x - y) = nW x - nW y := by
  unfold nW at h ⊢
  rw [Int32.toBitVec_sub, BitVec.toNat_sub_of_le (BitVec.le_def.mpr h)]
theorem sm8_lt (f : Nat → Nat) {n b : Nat} (h : ∀ j, f j ≤ b) (hb : b ≤ 255) : sm8 f n < 256 ^ n ∧ sm8 f n ≤ b * (256 ^ n - 1) / 255 := by
  induction n generalizing f with
  | zero => exact ⟨by show 0 < 1; decide, by simp [sm8]⟩
  | succ n ih =>
    have h1 := ih (fun j => f (j + 1)) (fun j => h (j + 1))
    have h0 := h 0
    have hp : 256 ^ (n + 1) = 256 * 256 ^ n := by rw [Nat.pow_succ, Nat.mul_comm]
    have hpos : 0 < 256 ^ n := Nat.pow_pos (by decide)
    show f 0 + 256 * sm8 (fun j => f (j + 1)) n < _ ∧ f 0 + 256 * sm8 (fun j => f (j + 1)) n ≤ _
    refine ⟨by omega, ?_⟩
    rw [Nat.le_div_iff_mul_le (by decide)] at h1 ⊢
    have h2 := h1.2
    obtain ⟨S, hS⟩ : ∃ S, S = sm8 (fun j => f (j + 1)) n := ⟨_, rfl⟩
    rw [← hS] at h2 ⊢
    rw [hp]
    have h3 : b * (256 * 256 ^ n - 1) = 256 * (b * (256 ^ n - 1)) + 255 * b := by
      obtain ⟨r, hr⟩ : ∃ r, 256 ^ n = r + 1 := ⟨256 ^ n - 1, by omega⟩
      rw [hr, show 256 * (r + 1) - 1 = 256 * r + 255 by omega, Nat.add_sub_cancel, Nat.mul_add, Nat.mul_comm 255 b, ← Nat.mul_assoc, ← Nat.mul_assoc, Nat.mul_comm b 256]
    rw [h3]
    obtain ⟨Y, hY⟩ : ∃ Y, Y = b * (256 ^ n - 1) := ⟨_, rfl⟩
    rw [← hY] at h2 ⊢
    clear h3 hp hpos ih h1 hY hS h
    generalize f 0 = z at *
    have q3 : (z + 256 * S) * 255 = z * 255 + 256 * (S * 255) := by rw [Nat.add_mul, Nat.mul_assoc]
    rw [q3]
    exact Nat.le_trans (Nat.add_le_add (Nat.mul_le_mul_right 255 h0) (Nat.mul_le_mul_left 256 h2)) (by rw [Nat.add_comm, Nat.mul_comm b]; exact Nat.le_refl _)
def bL1 (x : Int64) : Int64 := x - ((x.toUInt64 >>> ((1 : Int32).toInt64.toUInt64 &&& Int64.toUInt64 63)).toInt64 &&& (6148914691236517205 : Int64))
def bL2 (x : Int64) : Int64 := (x &&& (3689348814741910323 : Int64)) + ((x.toUInt64 >>> ((2 : Int32).toInt64.toUInt64 &&& Int64.toUInt64 63)).toInt64 &&& (3689348814741910323 : Int64))
def bL3 (x : Int64) : Int64 := (x + (x.toUInt64 >>> ((4 : Int32).toInt64.toUInt64 &&& Int64.toUInt64 63)).toInt64) &&& (1085102592571150095 : Int64)
def bL4 (x : Int64) : Int64 := x + (x.toUInt64 >>> ((8 : Int32).toInt64.toUInt64 &&& Int64.toUInt64 63)).toInt64
def bL5 (x : Int64) : Int64 := x + (x.toUInt64 >>> ((16 : Int32).toInt64.toUInt64 &&& Int64.toUInt64 63)).toInt64
def bL6 (x : Int64) : Int64 := x + (x.toUInt64 >>> ((32 : Int32).toInt64.toUInt64 &&& Int64.toUInt64 63)).toInt64
theorem bcL_def (x : Int64) (σ : OM) : fJ13_bitCount_95d88 x σ = some ((bL6 (bL5 (bL4 (bL3 (bL2 (bL1 x)))))).toInt32 &&& (127 : Int32), σ) := rfl
def bW1 (x : Int32) : Int32 := x - ((x.toUInt32 >>> ((1 : Int32).toUInt32 &&& Int32.toUInt32 31)).toInt32 &&& (1431655765 : Int32))
def bW2 (x : Int32) : Int32 := (x &&& (858993459 : Int32)) + ((x.toUInt32 >>> ((2 : Int32).toUInt32 &&& Int32.toUInt32 31)).toInt32 &&& (858993459 : Int32))
def bW3 (x : Int32) : Int32 := (x + (x.toUInt32 >>> ((4 : Int32).toUInt32 &&& Int32.toUInt32 31)).toInt32) &&& (252645135 : Int32)
def bW4 (x : Int32) : Int32 := x + (x.toUInt32 >>> ((8 : Int32).toUInt32 &&& Int32.toUInt32 31)).toInt32
def bW5 (x : Int32) : Int32 := x + (x.toUInt32 >>> ((16 : Int32).toUInt32 &&& Int32.toUInt32 31)).toInt32
theorem bcW_def (x : Int32) (σ : OM) : fJ6_bitCount_0f7a4 x σ = some (bW5 (bW4 (bW3 (bW2 (bW1 x)))) &&& (63 : Int32), σ) := rfl
theorem pc_nat (x : Int64) : pc x = cnt (nL x).testBit 64 := rfl
theorem pcw_nat (x : Int32) : pcw x = cnt (nW x).testBit 32 := rfl
theorem bcL (x : Int64) (σ : OM) : fJ13_bitCount_95d88 x σ = some (oi (pc x), σ) := by
  rw [bcL_def]
  have hN : nL x < 256 ^ 8 := tnL x
  have e1 : nL (bL1 x) = g1 8 (nL x) := by
    unfold bL1
    rw [show (1 : Int32) = oi 1 from rfl]
    have h0 : nL ((x.toUInt64 >>> ((oi 1).toInt64.toUInt64 &&& Int64.toUInt64 63)).toInt64 &&& (6148914691236517205 : Int64)) = (nL x >>> 1) &&& mk8 85 8 := by
      rw [nL_and, nL_ushr 1 (by decide)]; rfl
    rw [nL_sub (by rw [h0]; exact half_le _ _), h0]; rfl
  have s1 : g1 8 (nL x) = sm8 (fun j => t1 (byt (nL x) j)) 8 := by
    have h3 := g_sm 8 (byt (nL x)) (byt_lt _)
    rw [← sm8_byt 8 _ hN] at h3; exact h3
  have s2 : g2 8 (g1 8 (nL x)) = sm8 (fun j => t2 (t1 (byt (nL x) j))) 8 := by rw [s1, g_sm2 8 _ (fun j => (t_all _ (byt_lt _ j)).1)]
  have l2 := sm8_lt (fun j => t2 (t1 (byt (nL x) j))) (n := 8) (b := 127) (fun j => by have := (t_all _ (byt_lt (nL x) j)).2.1; omega) (by decide)
  rw [← s2] at l2
  have l2' : g2 8 (g1 8 (nL x)) ≤ 9187201950435737471 := l2.2
  have e2 : nL (bL2 (bL1 x)) = g2 8 (g1 8 (nL x)) := by
    unfold bL2
    rw [show (2 : Int32) = oi 2 from rfl]
    have h1 : nL ((bL1 x) &&& (3689348814741910323 : Int64)) = (g1 8 (nL x) >>> 0) &&& mk8 51 8 := by
      rw [nL_and, e1]; rfl
    have h2 : nL (((bL1 x).toUInt64 >>> ((oi 2).toInt64.toUInt64 &&& Int64.toUInt64 63)).toInt64 &&& (3689348814741910323 : Int64)) = (g1 8 (nL x) >>> 2) &&& mk8 51 8 := by
      rw [nL_and, nL_ushr 2 (by decide), e1]; rfl
    rw [nL_add (by rw [h1, h2]; exact Nat.lt_of_le_of_lt l2' (by decide)), h1, h2]; rfl
  have e3 : nL (bL3 (bL2 (bL1 x))) = sm8 (fun j => cnt (byt (nL x) j).testBit 8) 8 := by
    unfold bL3
    rw [show (4 : Int32) = oi 4 from rfl]
    have h0 : g2 8 (g1 8 (nL x)) + g2 8 (g1 8 (nL x)) >>> 4 < 18446744073709551616 := by
      rw [Nat.shiftRight_eq_div_pow]; omega
    rw [nL_and, nL_add (by rw [nL_ushr 4 (by decide), e2]; exact h0), nL_ushr 4 (by decide), e2, ← bc_nat 8 _ hN]; rfl
  have l3 := sm8_lt (fun j => cnt (byt (nL x) j).testBit 8) (n := 8) (b := 8) (fun j => cnt8_le _) (by decide)
  have l3' : sm8 (fun j => cnt (byt (nL x) j).testBit 8) 8 ≤ 578721382704613384 := l3.2
  obtain ⟨C, hC⟩ : ∃ C, C = sm8 (fun j => cnt (byt (nL x) j).testBit 8) 8 := ⟨_, rfl⟩
  rw [← hC] at e3 l3'
  have e4 : nL (bL4 (bL3 (bL2 (bL1 x)))) = C + C / 256 := by
    unfold bL4
    rw [show (8 : Int32) = oi 8 from rfl, nL_add (by rw [nL_ushr 8 (by decide), e3, Nat.shiftRight_eq_div_pow]; omega), nL_ushr 8 (by decide), e3, Nat.shiftRight_eq_div_pow]
  have e5 : nL (bL5 (bL4 (bL3 (bL2 (bL1 x))))) = (C + C / 256) + (C + C / 256) / 65536 := by
    unfold bL5
    rw [show (16 : Int32) = oi 16 from rfl, nL_add (by rw [nL_ushr 16 (by decide), e4, Nat.shiftRight_eq_div_pow]; omega), nL_ushr 16 (by decide), e4, Nat.shiftRight_eq_div_pow]
  have e6 : nL (bL6 (bL5 (bL4 (bL3 (bL2 (bL1 x)))))) = ((C + C / 256) + (C + C / 256) / 65536) + ((C + C / 256) + (C + C / 256) / 65536) / 4294967296 := by
    unfold bL6
    rw [show (32 : Int32) = oi 32 from rfl, nL_add (by rw [nL_ushr 32 (by decide), e5, Nat.shiftRight_eq_div_pow]; omega), nL_ushr 32 (by decide), e5, Nat.shiftRight_eq_div_pow]
  have hend := bc_end8 (fun j => cnt (byt (nL x) j).testBit 8) (fun j => cnt8_le _) C _ _ _ hC rfl rfl rfl
  rw [← e6] at hend
  rw [pc_nat, show 64 = 8 * 8 from rfl, cnt_bytes, ← hend.1]
  generalize bL6 (bL5 (bL4 (bL3 (bL2 (bL1 x))))) = y
  congr 2
  apply Int32.toBitVec_inj.mp
  apply BitVec.eq_of_toNat_eq
  rw [Int32.toBitVec_and, BitVec.toNat_and]
  rw [Int64.toBitVec_toInt32, BitVec.signExtend_eq_setWidth_of_le _ (by decide)]
  show (BitVec.setWidth 32 y.toBitVec).toNat &&& 127 = (BitVec.ofNat 32 (nL y % 128)).toNat
  rw [BitVec.toNat_setWidth, BitVec.toNat_ofNat, show (127 : Nat) = 2 ^ 7 - 1 from rfl, Nat.and_two_pow_sub_one_eq_mod]
  unfold nL
  omega
theorem bcW (x : Int32) (σ : OM) : fJ6_bitCount_0f7a4 x σ = some (oi (pcw x), σ) := by
  rw [bcW_def]
  have hN : nW x < 256 ^ 4 := tnW x
  have e1 : nW (bW1 x) = g1 4 (nW x) := by
    unfold bW1
    rw [show (1 : Int32) = oi 1 from rfl]
    have h0 : nW ((x.toUInt32 >>> ((oi 1).toUInt32 &&& Int32.toUInt32 31)).toInt32 &&& (1431655765 : Int32)) = (nW x >>> 1) &&& mk8 85 4 := by
      rw [nW_and, nW_ushr 1 (by decide)]; rfl
    rw [nW_sub (by rw [h0]; exact half_le _ _), h0]; rfl
  have s1 : g1 4 (nW x) = sm8 (fun j => t1 (byt (nW x) j)) 4 := by
    have h3 := g_sm 4 (byt (nW x)) (byt_lt _)
    rw [← sm8_byt 4 _ hN] at h3; exact h3
  have s2 : g2 4 (g1 4 (nW x)) = sm8 (fun j => t2 (t1 (byt (nW x) j))) 4 := by rw [s1, g_sm2 4 _ (fun j => (t_all _ (byt_lt _ j)).1)]
  have l2 := sm8_lt (fun j => t2 (t1 (byt (nW x) j))) (n := 4) (b := 127) (fun j => by have := (t_all _ (byt_lt (nW x) j)).2.1; omega) (by decide)
  rw [← s2] at l2
  have l2' : g2 4 (g1 4 (nW x)) ≤ 2139062143 := l2.2
  have e2 : nW (bW2 (bW1 x)) = g2 4 (g1 4 (nW x)) := by
    unfold bW2
    rw [show (2 : Int32) = oi 2 from rfl]
    have h1 : nW ((bW1 x) &&& (858993459 : Int32)) = (g1 4 (nW x) >>> 0) &&& mk8 51 4 := by
      rw [nW_and, e1]; rfl
    have h2 : nW (((bW1 x).toUInt32 >>> ((oi 2).toUInt32 &&& Int32.toUInt32 31)).toInt32 &&& (858993459 : Int32)) = (g1 4 (nW x) >>> 2) &&& mk8 51 4 := by
      rw [nW_and, nW_ushr 2 (by decide), e1]; rfl
    rw [nW_add (by rw [h1, h2]; exact Nat.lt_of_le_of_lt l2' (by decide)), h1, h2]; rfl
  have e3 : nW (bW3 (bW2 (bW1 x))) = sm8 (fun j => cnt (byt (nW x) j).testBit 8) 4 := by
    unfold bW3
    rw [show (4 : Int32) = oi 4 from rfl]
    have h0 : g2 4 (g1 4 (nW x)) + g2 4 (g1 4 (nW x)) >>> 4 < 4294967296 := by
      rw [Nat.shiftRight_eq_div_pow]; omega
    rw [nW_and, nW_add (by rw [nW_ushr 4 (by decide), e2]; exact h0), nW_ushr 4 (by decide), e2, ← bc_nat 4 _ hN]; rfl
  have l3 := sm8_lt (fun j => cnt (byt (nW x) j).testBit 8) (n := 4) (b := 8) (fun j => cnt8_le _) (by decide)
  have l3' : sm8 (fun j => cnt (byt (nW x) j).testBit 8) 4 ≤ 134744072 := l3.2
  obtain ⟨C, hC⟩ : ∃ C, C = sm8 (fun j => cnt (byt (nW x) j).testBit 8) 4 := ⟨_, rfl⟩
  rw [← hC] at e3 l3'
  have e4 : nW (bW4 (bW3 (bW2 (bW1 x)))) = C + C / 256 := by
    unfold bW4
    rw [show (8 : Int32) = oi 8 from rfl, nW_add (by rw [nW_ushr 8 (by decide), e3, Nat.shiftRight_eq_div_pow]; omega), nW_ushr 8 (by decide), e3, Nat.shiftRight_eq_div_pow]
  have e5 : nW (bW5 (bW4 (bW3 (bW2 (bW1 x))))) = (C + C / 256) + (C + C / 256) / 65536 := by
    unfold bW5
    rw [show (16 : Int32) = oi 16 from rfl, nW_add (by rw [nW_ushr 16 (by decide), e4, Nat.shiftRight_eq_div_pow]; omega), nW_ushr 16 (by decide), e4, Nat.shiftRight_eq_div_pow]
  have hend := bc_end4 (fun j => cnt (byt (nW x) j).testBit 8) (fun j => cnt8_le _) C _ _ hC rfl rfl
  rw [← e5] at hend
  rw [pcw_nat, show 32 = 8 * 4 from rfl, cnt_bytes, ← hend.1]
  generalize bW5 (bW4 (bW3 (bW2 (bW1 x)))) = y
  congr 2
  apply Int32.toBitVec_inj.mp
  apply BitVec.eq_of_toNat_eq
  rw [Int32.toBitVec_and, BitVec.toNat_and]
  show y.toBitVec.toNat &&& 63 = (BitVec.ofNat 32 (nW y % 64)).toNat
  rw [BitVec.toNat_ofNat, show (63 : Nat) = 2 ^ 6 - 1 from rfl, Nat.and_two_pow_sub_one_eq_mod]
  unfold nW
  omega
