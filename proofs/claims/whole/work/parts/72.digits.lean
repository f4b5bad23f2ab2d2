/-! states by digits -/
def dg (i st : Nat) : Nat := st / 3 ^ i % 3
theorem p3 (i : Nat) : 0 < 3 ^ i := Nat.pow_pos (by decide)
theorem dg_add {i st c : Nat} (h : dg i st = 0) (hc : c < 3) : dg i (st + c * 3 ^ i) = c ∧ ∀ j, j ≠ i → dg j (st + c * 3 ^ i) = dg j st := by
  unfold dg at h ⊢
  have e1 : (st + c * 3 ^ i) / 3 ^ i = st / 3 ^ i + c := Nat.add_mul_div_right _ _ (p3 i)
  refine ⟨by rw [e1]; omega, fun j hj => ?_⟩
  rcases Nat.lt_or_gt_of_ne hj with hlt | hgt
  · obtain ⟨k, hk⟩ : ∃ k, i = j + (k + 1) := ⟨i - j - 1, by omega⟩
    have e2 : c * 3 ^ i = (3 * (c * 3 ^ k)) * 3 ^ j := by
      rw [hk, Nat.pow_add, Nat.pow_succ]
      rw [Nat.mul_comm (3 ^ j), ← Nat.mul_assoc, Nat.mul_comm (3 ^ k) 3, ← Nat.mul_assoc, Nat.mul_comm c 3, Nat.mul_assoc 3 c]
    rw [e2, Nat.add_mul_div_right _ _ (p3 j)]
    omega
  · obtain ⟨k, hk⟩ : ∃ k, j = i + (k + 1) := ⟨j - i - 1, by omega⟩
    have e2 : ∀ z, z / 3 ^ j = z / 3 ^ i / 3 / 3 ^ k := by
      intro z
      rw [hk, Nat.pow_add, Nat.pow_succ, Nat.mul_comm (3 ^ k) 3, Nat.div_div_eq_div_mul, Nat.div_div_eq_div_mul]
    rw [e2, e2, e1]
    have : (st / 3 ^ i + c) / 3 = st / 3 ^ i / 3 := by omega
    rw [this]
theorem dg_bd {m i st c : Nat} (hs : st < 3 ^ m) (hi : i < m) (h : dg i st = 0) (hc : c ≤ 2) : st + c * 3 ^ i < 3 ^ m := by
  unfold dg at h
  obtain ⟨k, hk⟩ : ∃ k, m = i + (k + 1) := ⟨m - i - 1, by omega⟩
  have e : 3 ^ m = 3 ^ i * (3 * 3 ^ k) := by rw [hk, Nat.pow_add, Nat.pow_succ, Nat.mul_comm (3 ^ k) 3]
  have h1 : st / 3 ^ i < 3 * 3 ^ k := by
    rw [Nat.div_lt_iff_lt_mul (p3 i), Nat.mul_comm]; rw [e] at hs; exact hs
  have h2 : st / 3 ^ i + 3 ≤ 3 * 3 ^ k := by omega
  have h3 := Nat.div_add_mod st (3 ^ i)
  have h4 := Nat.mod_lt st (p3 i)
  have h5 : 3 ^ i * (st / 3 ^ i + 3) ≤ 3 ^ i * (3 * 3 ^ k) := Nat.mul_le_mul_left _ h2
  have h6 : c * 3 ^ i ≤ 2 * 3 ^ i := Nat.mul_le_mul_right _ hc
  rw [e]
  rw [Nat.mul_add] at h5
  omega
def sD (so : Nat → Int64) (st i w : Nat) : Bool := if dg i st = 0 then true else if dg i st = 1 then tb (so i) w else !(tb (so i) w)
def sO (so : Nat → Int64) (B : Int64) (m st : Nat) : Int64 := ofd (fun i x => if dg i st = 0 then x else if dg i st = 1 then x &&& so i else x &&& (so i ^^^ (-1))) B m
theorem sO_bit (so : Nat → Int64) (B : Int64) (st : Nat) {w : Nat} (hw : w < 64) : ∀ m, tb (sO so B m st) w = (tb B w && allN (fun i => sD so st i w) m)
  | 0 => by show tb B w = (tb B w && true); rw [Bool.and_true]
  | m + 1 => by
    have ih := sO_bit so B st hw m
    show tb (if dg m st = 0 then sO so B m st else if dg m st = 1 then sO so B m st &&& so m else sO so B m st &&& (so m ^^^ (-1))) w = (tb B w && (allN (fun i => sD so st i w) m && sD so st m w))
    unfold sD
    by_cases h0 : dg m st = 0
    · rw [if_pos h0, if_pos h0, ih, Bool.and_true]; rfl
    · rw [if_neg h0, if_neg h0]
      by_cases h1 : dg m st = 1
      · rw [if_pos h1, if_pos h1, tb_and, ih, Bool.and_assoc]; rfl
      · rw [if_neg h1, if_neg h1, tb_and, tb_not _ hw, ih, Bool.and_assoc]; rfl
theorem allN_upd {p p' : Nat → Bool} {m i : Nat} (hi : i < m) (h : ∀ j, j ≠ i → p' j = p j) (hp : p i = true) : allN p' m = (allN p m && p' i) := by
  rw [Bool.eq_iff_iff, Bool.and_eq_true_iff, allN_iff, allN_iff]
  constructor
  · intro a
    refine ⟨fun k hk => ?_, a i hi⟩
    by_cases e : k = i
    · rw [e]; exact hp
    · rw [← h k e]; exact a k hk
  · rintro ⟨a, c⟩ k hk
    by_cases e : k = i
    · rw [e]; exact c
    · rw [h k e]; exact a k hk
theorem sO_step (so : Nat → Int64) (B : Int64) {m st i : Nat} (hi : i < m) (h : dg i st = 0) : sO so B m (st + 1 * 3 ^ i) = sO so B m st &&& so i ∧ sO so B m (st + 2 * 3 ^ i) = sO so B m st &&& (so i ^^^ (-1)) := by
  have hp : ∀ w, sD so st i w = true := fun w => by unfold sD; rw [if_pos h]
  obtain ⟨a1, a2⟩ := dg_add (c := 1) h (by omega)
  obtain ⟨b1, b2'⟩ := dg_add (c := 2) h (by omega)
  constructor
  · apply tb_ext; intro w hw
    rw [sO_bit so B _ hw, tb_and, sO_bit so B _ hw, allN_upd (p := fun i => sD so st i w) hi (fun j hj => by unfold sD; rw [a2 j hj]) (hp w), ← Bool.and_assoc]
    congr 1
    unfold sD
    rw [a1]; rfl
  · apply tb_ext; intro w hw
    rw [sO_bit so B _ hw, tb_and, sO_bit so B _ hw, tb_not _ hw, allN_upd (p := fun i => sD so st i w) hi (fun j hj => by unfold sD; rw [b2' j hj]) (hp w), ← Bool.and_assoc]
    congr 1
    unfold sD
    rw [b1]; rfl
theorem sO_dead (so : Nat → Int64) (B : Int64) {m st i : Nat} (hi : i < m) (h : dg i st ≠ 0) : sO so B m st &&& so i = 0 ∨ sO so B m st &&& (so i ^^^ (-1)) = 0 := by
  have al : ∀ w, w < 64 → tb (sO so B m st) w = true → sD so st i w = true := by
    intro w hw hb
    rw [sO_bit so B _ hw] at hb
    exact allN_iff.mp (Bool.and_eq_true_iff.mp hb).2 i hi
  by_cases h1 : dg i st = 1
  · right
    apply tb_eq0.mpr; intro w hw
    rw [tb_and, tb_not _ hw]
    cases hb : tb (sO so B m st) w
    · rfl
    · have := al w hw hb
      unfold sD at this
      rw [if_neg h, if_pos h1] at this
      rw [this]; rfl
  · left
    apply tb_eq0.mpr; intro w hw
    rw [tb_and]
    cases hb : tb (sO so B m st) w
    · rfl
    · have := al w hw hb
      unfold sD at this
      rw [if_neg h, if_neg h1] at this
      cases ht : tb (so i) w
      · rfl
      · rw [ht] at this; cases this
theorem sO_0 (so : Nat → Int64) (B : Int64) : ∀ m, sO so B m 0 = B
  | 0 => rfl
  | m + 1 => by
    have e : dg m 0 = 0 := by unfold dg; rw [Nat.zero_div]
    show (if dg m 0 = 0 then sO so B m 0 else _) = B
    rw [if_pos e, sO_0 so B m]
theorem sO_sub {so : Nat → Int64} {B z : Int64} (h : B &&& z = B) (m st : Nat) : sO so B m st &&& z = sO so B m st := by
  apply tb_ext; intro w hw
  rw [tb_and, sO_bit so B _ hw]
  cases hb : tb B w
  · rfl
  · rw [sub_tb h hb, Bool.and_true]
/-- the i-th question that may be asked -/
def num (g i : Nat) : Nat := if i < g then i else i + 1
theorem num_ne (g i : Nat) : num g i ≠ g := by unfold num; split <;> omega
theorem num_lt {g Q i : Nat} (hg : g < Q) (hi : i < Q - 1) : num g i < Q := by unfold num; split <;> omega
theorem num_fold {F : Nat → Option Nat} {g Q : Nat} (hg : g < Q) (hF : F g = none) : ofd (fun i acc => om acc (F (num g i))) none (Q - 1) = ofd (fun q acc => om acc (F q)) none Q := by
  have h : ∀ k, ofd (fun i acc => om acc (F (num g i))) none (if k ≤ g then k else k - 1) = ofd (fun q acc => om acc (F q)) none k := by
    intro k
    induction k with
    | zero => rw [if_pos (by omega)]; rfl
    | succ k ih =>
      have e : ofd (fun q acc => om acc (F q)) none (k + 1) = om (ofd (fun q acc => om acc (F q)) none k) (F k) := rfl
      rw [e, ← ih]
      by_cases h1 : k + 1 ≤ g
      · rw [if_pos h1, if_pos (by omega)]
        show om _ (F (num g k)) = _
        rw [show num g k = k by unfold num; rw [if_pos (by omega)]]
      · rw [if_neg h1]
        by_cases h2 : k = g
        · rw [if_pos (by omega), h2, hF, om_none, Nat.add_sub_cancel]
        · rw [if_neg (by omega)]
          obtain ⟨j, rfl⟩ : ∃ j, k = j + 1 := ⟨k - 1, by omega⟩
          rw [Nat.add_sub_cancel, Nat.add_sub_cancel]
          show om _ (F (num g j)) = _
          rw [show num g j = j + 1 by unfold num; rw [if_neg (by omega)]]
  have := h Q
  rw [if_neg (by omega)] at this
  exact this
theorem om_zero (f : Nat → Option Nat) {i n : Nat} (hin : i ≤ n) (h : ofd (fun q acc => om acc (f q)) none i = some 0) : ofd (fun q acc => om acc (f q)) none n = some 0 := by
  induction n with
  | zero => have : i = 0 := by omega
            subst this; exact h
  | succ n ih =>
    by_cases e : i = n + 1
    · rw [← e]; exact h
    · show om (ofd (fun q acc => om acc (f q)) none n) (f n) = some 0
      rw [ih (by omega)]
      cases f n with
      | none => rfl
      | some y => show some (Nat.min 0 y) = some 0; rw [show Nat.min 0 y = 0 from Nat.zero_min y]
theorem tc_le {Z : Nat → Int64} {g Q : Nat} (hg : g < Q) (X : Int64) : tc Z g Q X ≤ Q - 1 := by
  have e : ∀ m, cnt (fun _ => true) m = m := by
    intro m
    induction m with
    | zero => rfl
    | succ m ih => show cnt (fun _ => true) m + 1 = m + 1; rw [ih]
  have := cnt_lt (p := tel Z g X) (q := fun _ => true) (n := Q) hg (fun _ _ _ => rfl) (by
    cases h : tel Z g X g
    · rfl
    · exact absurd rfl (tel_iff.mp h).1) rfl
  rw [e] at this
  unfold tc
  omega
