/-! plans: the least that questions cost -/
def tel (Z : Nat → Int64) (g : Nat) (X : Int64) (q : Nat) : Bool := decide (q ≠ g) && (decide (X &&& Z q ≠ 0) && decide (X &&& (Z q ^^^ (-1)) ≠ 0))
def tc (Z : Nat → Int64) (g Q : Nat) (X : Int64) : Nat := cnt (tel Z g X) Q
def om (a b : Option Nat) : Option Nat := match a with
  | none => b
  | some x => match b with
    | none => some x
    | some y => some (Nat.min x y)
def oc (b : Bool) (x y : Option Nat) : Option Nat := match x with
  | none => none
  | some u => match y with
    | none => none
    | some v => some (if b then u + v else Nat.max u v)
def oa (d : Nat) (x : Option Nat) : Option Nat := match x with
  | none => none
  | some u => some (u + d)
def pw (R : Nat → Int32) (Z : Nat → Int64) (g Q : Nat) (b : Bool) : Nat → Int64 → Option Nat
  | 0, X => if sBy X (Z g) = -2 then none else some 0
  | n + 1, X => if sBy X (Z g) = -2 then oa (if b then sWt R X else 1) (ofd (fun q acc => om acc (if tel Z g X q then oc b (pw R Z g Q b n (X &&& Z q)) (pw R Z g Q b n (X &&& (Z q ^^^ (-1)))) else none)) none Q) else some 0
theorem and_ne {x y z : Int64} (h : (x &&& y) &&& z ≠ 0) : x &&& z ≠ 0 := by
  intro e
  apply h
  rw [Int64.and_assoc, Int64.and_comm y z, ← Int64.and_assoc, e, Int64.zero_and]
theorem tel_iff {Z : Nat → Int64} {g : Nat} {X : Int64} {q : Nat} : tel Z g X q = true ↔ q ≠ g ∧ X &&& Z q ≠ 0 ∧ X &&& (Z q ^^^ (-1)) ≠ 0 := by
  unfold tel
  rw [Bool.and_eq_true_iff, Bool.and_eq_true_iff, decide_eq_true_eq, decide_eq_true_eq, decide_eq_true_eq]
theorem tel_sub {Z : Nat → Int64} {g : Nat} {X Y : Int64} {q : Nat} (h : tel Z g (X &&& Y) q = true) : tel Z g X q = true := by
  obtain ⟨h1, h2, h3⟩ := tel_iff.mp h
  exact tel_iff.mpr ⟨h1, and_ne h2, and_ne h3⟩
theorem cnt_lt {p q : Nat → Bool} {n i : Nat} (hi : i < n) (hs : ∀ k, k < n → p k = true → q k = true) (h1 : p i = false) (h2 : q i = true) : cnt p n < cnt q n := by
  have h := cnt_sub hs
  apply Classical.byContradiction
  intro h3
  have h4 := cnt_same hs (by omega) i hi
  rw [h1, h2] at h4; cases h4
theorem and_not0 (X y : Int64) : (X &&& y) &&& (y ^^^ (-1)) = 0 := by
  apply tb_eq0.mpr
  intro i hi
  rw [tb_and, tb_and, tb_not y hi]
  cases tb X i <;> cases tb y i <;> rfl
theorem and_not1 (X y : Int64) : (X &&& (y ^^^ (-1))) &&& y = 0 := by
  apply tb_eq0.mpr
  intro i hi
  rw [tb_and, tb_and, tb_not y hi]
  cases tb X i <;> cases tb y i <;> rfl
theorem tc_1 {Z : Nat → Int64} {g Q : Nat} {X : Int64} {q : Nat} (hq : q < Q) (h : tel Z g X q = true) : tc Z g Q (X &&& Z q) < tc Z g Q X := by
  refine cnt_lt hq (fun k _ hk => tel_sub hk) ?_ h
  cases e : tel Z g (X &&& Z q) q
  · rfl
  · exact absurd (and_not0 X (Z q)) (tel_iff.mp e).2.2
theorem tc_0 {Z : Nat → Int64} {g Q : Nat} {X : Int64} {q : Nat} (hq : q < Q) (h : tel Z g X q = true) : tc Z g Q (X &&& (Z q ^^^ (-1))) < tc Z g Q X := by
  refine cnt_lt hq (fun k _ hk => tel_sub hk) ?_ h
  cases e : tel Z g (X &&& (Z q ^^^ (-1))) q
  · rfl
  · exact absurd (and_not1 X (Z q)) (tel_iff.mp e).2.1
theorem om_none (a : Option Nat) : om a none = a := by cases a <;> rfl
/-- the least of some -/
theorem om_fold {f : Nat → Option Nat} : ∀ n, (ofd (fun q acc => om acc (f q)) none n = none ↔ ∀ q, q < n → f q = none) ∧ ∀ v, ofd (fun q acc => om acc (f q)) none n = some v → (∃ q, q < n ∧ f q = some v) ∧ ∀ q, q < n → ∀ u, f q = some u → v ≤ u
  | 0 => ⟨⟨fun _ q hq => absurd hq (by omega), fun _ => rfl⟩, fun v h => by cases h⟩
  | n + 1 => by
    obtain ⟨i1, i2⟩ := om_fold (f := f) n
    have e : ofd (fun q acc => om acc (f q)) none (n + 1) = om (ofd (fun q acc => om acc (f q)) none n) (f n) := rfl
    cases ha : ofd (fun q acc => om acc (f q)) none n with
    | none =>
      rw [e, ha]
      have hn := i1.mp ha
      refine ⟨⟨fun h q hq => ?_, fun h => h n (by omega)⟩, fun v hv => ⟨⟨n, by omega, hv⟩, fun q hq u hu => ?_⟩⟩
      · by_cases eq : q = n
        · rw [eq]; exact h
        · exact hn q (by omega)
      · by_cases eq : q = n
        · rw [eq] at hu
          have hv' : f n = some v := hv
          rw [hv'] at hu; cases hu; exact Nat.le_refl _
        · rw [hn q (by omega)] at hu; cases hu
    | some x =>
      rw [e, ha]
      obtain ⟨⟨q0, q1, q2⟩, q3⟩ := i2 x ha
      cases hf : f n with
      | none =>
        refine ⟨⟨fun h => by (cases h), fun h => ?_⟩, fun v hv => ?_⟩
        · rw [h q0 (by omega)] at q2; cases q2
        · cases hv
          refine ⟨⟨q0, by omega, q2⟩, fun q hq u hu => ?_⟩
          by_cases eq : q = n
          · rw [eq, hf] at hu; cases hu
          · exact q3 q (by omega) u hu
      | some y =>
        refine ⟨⟨fun h => by (cases h), fun h => ?_⟩, fun v hv => ?_⟩
        · rw [h q0 (by omega)] at q2; cases q2
        · have hv' : some (Nat.min x y) = some v := hv
          have hv2 : Nat.min x y = v := Option.some.inj hv'
          have hmx : v ≤ x := by rw [← hv2]; exact Nat.min_le_left x y
          have hmy : v ≤ y := by rw [← hv2]; exact Nat.min_le_right x y
          refine ⟨?_, fun q hq u hu => ?_⟩
          · rcases Nat.le_total x y with hxy | hxy
            · exact ⟨q0, by omega, by rw [q2, ← hv2, show Nat.min x y = x from Nat.min_eq_left hxy]⟩
            · exact ⟨n, by omega, by rw [hf, ← hv2, show Nat.min x y = y from Nat.min_eq_right hxy]⟩
          · by_cases eq : q = n
            · rw [eq, hf] at hu; cases hu; exact hmy
            · exact Nat.le_trans hmx (q3 q (by omega) u hu)
section
variable {R : Nat → Int32} {Z : Nat → Int64} {g Q : Nat} {b : Bool}
theorem tc_zero {X : Int64} (h : tc Z g Q X = 0) {q : Nat} (hq : q < Q) : tel Z g X q = false := cnt_zero.mp h q hq
theorem pw_stab : ∀ n m X, tc Z g Q X ≤ n → tc Z g Q X ≤ m → pw R Z g Q b n X = pw R Z g Q b m X := by
  have z : ∀ m X, tc Z g Q X = 0 → pw R Z g Q b m X = if sBy X (Z g) = -2 then none else some 0 := by
    intro m X h
    cases m with
    | zero => rfl
    | succ m =>
      show (if sBy X (Z g) = -2 then _ else some 0) = _
      split
      · have := ((om_fold (f := fun q => if tel Z g X q then oc b (pw R Z g Q b m (X &&& Z q)) (pw R Z g Q b m (X &&& (Z q ^^^ (-1)))) else none) Q).1).mpr (fun q hq => by
          show (if tel Z g X q then _ else none) = none
          rw [tc_zero h hq]; rfl)
        rw [this]; rfl
      · rfl
  intro n
  induction n with
  | zero =>
    intro m X h1 h2
    rw [z 0 X (by omega), z m X (by omega)]
  | succ n ih =>
    intro m X h1 h2
    cases m with
    | zero => rw [z (n + 1) X (by omega), z 0 X (by omega)]
    | succ m =>
      show (if sBy X (Z g) = -2 then _ else some 0) = (if sBy X (Z g) = -2 then _ else some 0)
      split
      · congr 1
        apply ofd_congr
        intro q acc hq
        cases ht : tel Z g X q
        · rfl
        · have t1 := tc_1 hq ht
          have t0 := tc_0 hq ht
          rw [if_pos rfl, if_pos rfl, ih m _ (by omega) (by omega), ih m _ (by omega) (by omega)]
      · rfl
def Wv (R : Nat → Int32) (Z : Nat → Int64) (g Q : Nat) (b : Bool) (X : Int64) : Option Nat := pw R Z g Q b 8 X
def kid (R : Nat → Int32) (Z : Nat → Int64) (g Q : Nat) (b : Bool) (X : Int64) (q : Nat) : Option Nat := if tel Z g X q then oc b (Wv R Z g Q b (X &&& Z q)) (Wv R Z g Q b (X &&& (Z q ^^^ (-1)))) else none
theorem pw_succ (n : Nat) (X : Int64) : pw R Z g Q b (n + 1) X = if sBy X (Z g) = -2 then oa (if b then sWt R X else 1) (ofd (fun q acc => om acc (if tel Z g X q then oc b (pw R Z g Q b n (X &&& Z q)) (pw R Z g Q b n (X &&& (Z q ^^^ (-1)))) else none)) none Q) else some 0 := rfl
theorem pw_kid (n : Nat) (X : Int64) (hX : tc Z g Q X ≤ n + 1) : pw R Z g Q b (n + 1) X = if sBy X (Z g) = -2 then oa (if b then sWt R X else 1) (ofd (fun q acc => om acc (if tel Z g X q then oc b (pw R Z g Q b (n + 1) (X &&& Z q)) (pw R Z g Q b (n + 1) (X &&& (Z q ^^^ (-1)))) else none)) none Q) else some 0 := by
  rw [pw_succ]
  by_cases hk : sBy X (Z g) = -2
  · rw [if_pos hk, if_pos hk]
    congr 1
    apply ofd_congr
    intro q acc hq
    cases ht : tel Z g X q
    · rfl
    · have t1 := tc_1 hq ht
      have t0 := tc_0 hq ht
      rw [if_pos rfl, if_pos rfl, pw_stab n (n + 1) _ (by omega) (by omega), pw_stab n (n + 1) (X &&& (Z q ^^^ (-1))) (by omega) (by omega)]
  · rw [if_neg hk, if_neg hk]
theorem Wv_eq (hQ : Q ≤ 8) (X : Int64) : Wv R Z g Q b X = if sBy X (Z g) = -2 then oa (if b then sWt R X else 1) (ofd (fun q acc => om acc (kid R Z g Q b X q)) none Q) else some 0 := pw_kid 7 X (Nat.le_trans (cnt_le _ _) hQ)
/-- two worlds that differ in what is sought differ in what may be asked -/
def sepP (Z : Nat → Int64) (g Q : Nat) (X : Int64) : Prop := ∀ u v, u < 64 → v < 64 → tb X u = true → tb X v = true → tb (Z g) u = true → tb (Z g) v = false → ∃ q, q < Q ∧ q ≠ g ∧ tb (Z q) u ≠ tb (Z q) v
theorem sep_sub {X Y : Int64} (h : sepP Z g Q X) : sepP Z g Q (X &&& Y) := fun u v hu hv h1 h2 => h u v hu hv (by rw [tb_and] at h1; exact (Bool.and_eq_true_iff.mp h1).1) (by rw [tb_and] at h2; exact (Bool.and_eq_true_iff.mp h2).1)
theorem ne0_bit {X : Int64} (h : X ≠ 0) : ∃ i, i < 64 ∧ tb X i = true := by
  obtain ⟨i, hi, hb, -⟩ := low_off X h
  exact ⟨i, hi, hb⟩
theorem bit_ne0 {X : Int64} {i : Nat} (hi : i < 64) (h : tb X i = true) : X ≠ 0 := fun e => by rw [e, tb_0] at h; cases h
theorem unk {X so : Int64} (hX : X ≠ 0) (h : sBy X so = -2) : ∃ u v, u < 64 ∧ v < 64 ∧ tb X u = true ∧ tb X v = true ∧ tb so u = true ∧ tb so v = false := by
  unfold sBy at h
  rw [if_neg hX] at h
  split at h
  · exact absurd h (by decide)
  · rename_i h1
    split at h
    · exact absurd h (by decide)
    · rename_i h2
      obtain ⟨v, hv, bv⟩ := ne0_bit h1
      obtain ⟨u, hu, bu⟩ := ne0_bit h2
      rw [tb_and, tb_not _ hv] at bv
      rw [tb_and] at bu
      have bv' := Bool.and_eq_true_iff.mp bv
      have bu' := Bool.and_eq_true_iff.mp bu
      exact ⟨u, v, hu, hv, bu'.1, bv'.1, bu'.2, by simpa using bv'.2⟩
theorem kno {X so : Int64} (h : ¬ sBy X so = -2) {u v : Nat} (hu : u < 64) (hv : v < 64) (h1 : tb X u = true) (h2 : tb X v = true) : tb so u = tb so v := by
  unfold sBy at h
  split at h
  · exact absurd rfl h
  · split at h
    · rename_i h0 h3
      have e := fun i hi => tb_eq0.mp h3 i hi
      have e1 := e u hu
      have e2 := e v hv
      rw [tb_and, tb_not _ hu, h1] at e1
      rw [tb_and, tb_not _ hv, h2] at e2
      cases p : tb so u <;> cases r : tb so v <;> simp_all
    · split at h
      · rename_i h0 h3 h4
        have e := fun i hi => tb_eq0.mp h4 i hi
        have e1 := e u hu
        have e2 := e v hv
        rw [tb_and, h1] at e1
        rw [tb_and, h2] at e2
        cases p : tb so u <;> cases r : tb so v <;> simp_all
      · exact absurd rfl h
theorem pw_sep : ∀ n X v, pw R Z g Q b n X = some v → sepP Z g Q X := by
  intro n
  induction n with
  | zero =>
    intro X v h u w hu hw h1 h2 h3 h4
    have h' : (if sBy X (Z g) = -2 then none else some 0) = some v := h
    split at h'
    · cases h'
    · rename_i hk
      have := kno hk hu hw h1 h2
      rw [h3, h4] at this; cases this
  | succ n ih =>
    intro X v h u w hu hw h1 h2 h3 h4
    have h' : (if sBy X (Z g) = -2 then oa (if b then sWt R X else 1) (ofd (fun q acc => om acc (if tel Z g X q then oc b (pw R Z g Q b n (X &&& Z q)) (pw R Z g Q b n (X &&& (Z q ^^^ (-1)))) else none)) none Q) else some 0) = some v := h
    split at h'
    · cases hf : ofd (fun q acc => om acc (if tel Z g X q then oc b (pw R Z g Q b n (X &&& Z q)) (pw R Z g Q b n (X &&& (Z q ^^^ (-1)))) else none)) none Q with
      | none => rw [hf] at h'; cases h'
      | some m =>
        obtain ⟨⟨q, hq, hm⟩, -⟩ := (om_fold (f := fun q => if tel Z g X q then oc b (pw R Z g Q b n (X &&& Z q)) (pw R Z g Q b n (X &&& (Z q ^^^ (-1)))) else none) Q).2 m hf
        have hm' : (if tel Z g X q then oc b (pw R Z g Q b n (X &&& Z q)) (pw R Z g Q b n (X &&& (Z q ^^^ (-1)))) else none) = some m := hm
        split at hm'
        · rename_i ht
          cases p1 : pw R Z g Q b n (X &&& Z q) with
          | none => rw [p1] at hm'; cases hm'
          | some a1 =>
            cases p0 : pw R Z g Q b n (X &&& (Z q ^^^ (-1))) with
            | none => rw [p1, p0] at hm'; cases hm'
            | some a0 =>
              by_cases e : tb (Z q) u = tb (Z q) w
              · cases hb : tb (Z q) u
                · rw [hb] at e
                  exact ih _ _ p0 u w hu hw (by rw [tb_and, tb_not _ hu, h1, hb]; rfl) (by rw [tb_and, tb_not _ hw, h2, ← e]; rfl) h3 h4
                · rw [hb] at e
                  exact ih _ _ p1 u w hu hw (by rw [tb_and, h1, hb]; rfl) (by rw [tb_and, h2, ← e]; rfl) h3 h4
              · exact ⟨q, hq, (tel_iff.mp ht).1, e⟩
        · cases hm'
    · rename_i hk
      have := kno hk hu hw h1 h2
      rw [h3, h4] at this; cases this
theorem sep_pw : ∀ n X, X ≠ 0 → sepP Z g Q X → tc Z g Q X ≤ n → ∃ v, pw R Z g Q b n X = some v := by
  have split : ∀ X, X ≠ 0 → sepP Z g Q X → sBy X (Z g) = -2 → ∃ q, q < Q ∧ tel Z g X q = true := by
    intro X hX hs hk
    obtain ⟨u, v, hu, hv, h1, h2, h3, h4⟩ := unk hX hk
    obtain ⟨q, hq, hg, hd⟩ := hs u v hu hv h1 h2 h3 h4
    refine ⟨q, hq, tel_iff.mpr ⟨hg, ?_, ?_⟩⟩
    · cases b1 : tb (Z q) u
      · cases b2 : tb (Z q) v
        · rw [b1, b2] at hd; exact absurd rfl hd
        · exact bit_ne0 hv (by rw [tb_and, h2, b2]; rfl)
      · exact bit_ne0 hu (by rw [tb_and, h1, b1]; rfl)
    · cases b1 : tb (Z q) u
      · exact bit_ne0 hu (by rw [tb_and, tb_not _ hu, h1, b1]; rfl)
      · cases b2 : tb (Z q) v
        · exact bit_ne0 hv (by rw [tb_and, tb_not _ hv, h2, b2]; rfl)
        · rw [b1, b2] at hd; exact absurd rfl hd
  intro n
  induction n with
  | zero =>
    intro X hX hs ht
    by_cases hk : sBy X (Z g) = -2
    · obtain ⟨q, hq, hq2⟩ := split X hX hs hk
      rw [tc_zero (show tc Z g Q X = 0 by omega) hq] at hq2; cases hq2
    · exact ⟨0, if_neg hk⟩
  | succ n ih =>
    intro X hX hs ht
    by_cases hk : sBy X (Z g) = -2
    · obtain ⟨q, hq, hq2⟩ := split X hX hs hk
      have t1 := tc_1 hq hq2
      have t0 := tc_0 hq hq2
      obtain ⟨a1, p1⟩ := ih (X &&& Z q) (tel_iff.mp hq2).2.1 (sep_sub hs) (by omega)
      obtain ⟨a0, p0⟩ := ih (X &&& (Z q ^^^ (-1))) (tel_iff.mp hq2).2.2 (sep_sub hs) (by omega)
      have e : pw R Z g Q b (n + 1) X = oa (if b then sWt R X else 1) (ofd (fun q acc => om acc (if tel Z g X q then oc b (pw R Z g Q b n (X &&& Z q)) (pw R Z g Q b n (X &&& (Z q ^^^ (-1)))) else none)) none Q) := if_pos hk
      rw [e]
      cases hf : ofd (fun q acc => om acc (if tel Z g X q then oc b (pw R Z g Q b n (X &&& Z q)) (pw R Z g Q b n (X &&& (Z q ^^^ (-1)))) else none)) none Q with
      | none =>
        have := (om_fold (f := fun q => if tel Z g X q then oc b (pw R Z g Q b n (X &&& Z q)) (pw R Z g Q b n (X &&& (Z q ^^^ (-1)))) else none) Q).1.mp hf q hq
        have this' : (if tel Z g X q then oc b (pw R Z g Q b n (X &&& Z q)) (pw R Z g Q b n (X &&& (Z q ^^^ (-1)))) else none) = none := this
        rw [if_pos hq2, p1, p0] at this'; cases this'
      | some m => exact ⟨_, rfl⟩
    · exact ⟨0, if_neg hk⟩
theorem Wv_kids (hQ : Q ≤ 8) {X : Int64} {v : Nat} (h : Wv R Z g Q b X = some v) {q : Nat} (hq : q < Q) (ht : tel Z g X q = true) : (∃ a, Wv R Z g Q b (X &&& Z q) = some a) ∧ ∃ a, Wv R Z g Q b (X &&& (Z q ^^^ (-1))) = some a := by
  have hs := pw_sep 8 X v h
  exact ⟨sep_pw 8 _ (tel_iff.mp ht).2.1 (sep_sub hs) (Nat.le_trans (cnt_le _ _) hQ), sep_pw 8 _ (tel_iff.mp ht).2.2 (sep_sub hs) (Nat.le_trans (cnt_le _ _) hQ)⟩
theorem Wv_none (hQ : Q ≤ 8) {X : Int64} (h : Wv R Z g Q b X = none) : sBy X (Z g) = -2 ∧ ∀ q, q < Q → tel Z g X q = true → Wv R Z g Q b (X &&& Z q) = none ∨ Wv R Z g Q b (X &&& (Z q ^^^ (-1))) = none := by
  rw [Wv_eq hQ] at h
  split at h
  · rename_i hk
    refine ⟨hk, fun q hq ht => ?_⟩
    cases hf : ofd (fun q acc => om acc (kid R Z g Q b X q)) none Q with
    | none =>
      have := (om_fold (f := kid R Z g Q b X) Q).1.mp hf q hq
      unfold kid at this
      rw [if_pos ht] at this
      cases p1 : Wv R Z g Q b (X &&& Z q) with
      | none => exact Or.inl rfl
      | some a1 =>
        cases p0 : Wv R Z g Q b (X &&& (Z q ^^^ (-1))) with
        | none => exact Or.inr rfl
        | some a0 => rw [p1, p0] at this; cases this
    | some m => rw [hf] at h; cases h
  · cases h
/-- no plan costs too much -/
theorem pw_le (hb : ∀ x, sWt R x ≤ 34012224) : ∀ n X v, pw R Z g Q b n X = some v → if b then v ≤ n * sWt R X else v ≤ n := by
  intro n
  induction n with
  | zero =>
    intro X v h
    have h' : (if sBy X (Z g) = -2 then none else some 0) = some v := h
    split at h'
    · cases h'
    · cases h'
      split <;> omega
  | succ n ih =>
    intro X v h
    have h' : (if sBy X (Z g) = -2 then oa (if b then sWt R X else 1) (ofd (fun q acc => om acc (if tel Z g X q then oc b (pw R Z g Q b n (X &&& Z q)) (pw R Z g Q b n (X &&& (Z q ^^^ (-1)))) else none)) none Q) else some 0) = some v := h
    split at h'
    · cases hf : ofd (fun q acc => om acc (if tel Z g X q then oc b (pw R Z g Q b n (X &&& Z q)) (pw R Z g Q b n (X &&& (Z q ^^^ (-1)))) else none)) none Q with
      | none => rw [hf] at h'; cases h'
      | some m =>
        rw [hf] at h'
        have hv : m + (if b then sWt R X else 1) = v := Option.some.inj h'
        obtain ⟨⟨q, hq, hm⟩, -⟩ := (om_fold (f := fun q => if tel Z g X q then oc b (pw R Z g Q b n (X &&& Z q)) (pw R Z g Q b n (X &&& (Z q ^^^ (-1)))) else none) Q).2 m hf
        have hm' : (if tel Z g X q then oc b (pw R Z g Q b n (X &&& Z q)) (pw R Z g Q b n (X &&& (Z q ^^^ (-1)))) else none) = some m := hm
        split at hm'
        · cases p1 : pw R Z g Q b n (X &&& Z q) with
          | none => rw [p1] at hm'; cases hm'
          | some a1 =>
            cases p0 : pw R Z g Q b n (X &&& (Z q ^^^ (-1))) with
            | none => rw [p1, p0] at hm'; cases hm'
            | some a0 =>
              rw [p1, p0] at hm'
              have hm2 : (if b then a1 + a0 else Nat.max a1 a0) = m := Option.some.inj hm'
              have i1 := ih _ _ p1
              have i0 := ih _ _ p0
              have sp := sWt_split R X (Z q)
              cases b
              · rw [if_neg (by decide)] at i1 i0 hm2 hv ⊢
                have : Nat.max a1 a0 ≤ n := Nat.max_le.mpr ⟨i1, i0⟩
                omega
              · rw [if_pos rfl] at i1 i0 hm2 hv ⊢
                have e1 : n * sWt R X = n * sWt R (X &&& Z q) + n * sWt R (X &&& (Z q ^^^ (-1))) := by rw [← Nat.mul_add, ← sp]
                rw [Nat.succ_mul]
                omega
        · cases hm'
    · cases h'
      split <;> omega
theorem Wv_le (hb : ∀ x, sWt R x ≤ 34012224) {X : Int64} {v : Nat} (h : Wv R Z g Q b X = some v) : v ≤ 272097792 := by
  have := pw_le hb 8 X v h
  have h2 := hb X
  split at this <;> omega
end
