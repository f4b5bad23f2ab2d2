/-! words on both sides -/
def zsL (s : Nat) : Nat := oslL.getD s 0
def zsN (s k : Nat) : Nat := nn ((osbL.getD s []).getD k 0)
theorem zs_ok : ∀ s, s < 22 → 1 ≤ zsL s ∧ zsL s ≤ 8 ∧ (∀ k, k < zsL s → 97 ≤ zsN s k ∧ zsN s k ≤ 122 ∧ ((((osbL.getD s []).getD k 0) &&& (255 : Int32)).toUInt32 % 65536).toInt32 = oi (zsN s k)) ∧ Int32.ofNat (oslL.getD s 0) >>> ((0 : Int32) &&& 31) = oi (zsL s) := by decide +kernel
theorem zch16 : ∀ x, 97 ≤ x → x ≤ 122 → ((oi x).toUInt32 % 65536).toInt32 = oi x := by
  have h : ∀ x, x ≤ 122 → 97 ≤ x → ((oi x).toUInt32 % 65536).toInt32 = oi x := by decide +kernel
  exact fun x a b => h x b a
theorem zcharAt {s k : Nat} (hs : s < 22) (hk : k < zsL s) (τ : OM) : fJ0_charAt_5068e s (oi k) τ = some (oi (zsN s k), τ) := by
  obtain ⟨a, b, c, d⟩ := zs_ok s hs
  obtain ⟨c1, c2, c3⟩ := c k hk
  have h1 : fJ1_charAt_3b067 s (oi k) τ = some (oi (zsN s k), τ) := by
    unfold fJ1_charAt_3b067 fJ0_checkIndex_df160
    have e1 : (decide (¬ oi k < 0) && decide (oi k < Int32.ofNat (oslL.getD s 0))) = true := by
      rw [Bool.and_eq_true, decide_eq_true_eq, decide_eq_true_eq]
      refine ⟨oi_nneg (by omega), ?_⟩
      show oi k < oi (zsL s)
      rw [oi_lt (by omega) (by omega)]; exact hk
    rw [ogd_t e1, obv_s, ogi (show k < oslL.getD s 0 from hk) (by omega), oi_nat (by omega), c3]
  unfold fJ0_charAt_5068e
  rw [show fJ0_isLatin1_aae02 s τ = some (1, τ) from rfl, obi_s, if_neg (by decide), h1, obi_s, ogd_d (zch16 _ c1 c2)]
def zis (g : Nat → Nat) (t : Tk) (s : Nat) : Bool := decide (t.1 = 2) && decide (zwv (fun k => g (t.2.1 + k)) (t.2.2 - t.2.1) = zwv (zsN s) (zsL s))
/-- what every token is -/
def zOk (g : Nat → Nat) (t : Tk) : Prop := (t.1 = 0 ∨ t.1 = 1 ∨ t.1 = 2 ∨ t.1 = 3 ∨ t.1 = 59 ∨ t.1 = 44 ∨ t.1 = 40 ∨ t.1 = 41) ∧ t.2.1 ≤ 900 ∧ t.2.2 ≤ 900 ∧ (t.1 = 2 → 1 ≤ t.2.2 - t.2.1 ∧ t.2.2 - t.2.1 ≤ 8 ∧ ∀ k, k < t.2.2 - t.2.1 → 97 ≤ g (t.2.1 + k) ∧ g (t.2.1 + k) ≤ 122) ∧ (t.1 = 3 → zdv (fun k => g (t.2.1 + k)) (t.2.2 - t.2.1) ≤ 999)
theorem ztok_ok {τ : OM} {f : Nat → Nat} {L p : Nat} {t : Tk} (h : zTR τ f L) (ht : zTok (zch f L) L p t) : zOk (zch f L) t := by
  have hL := h.1
  obtain ⟨t1, t2, t3, t4⟩ := ht
  unfold zOk
  rcases t4 with ⟨q1, q2, q3⟩ | ⟨q1, q2, q3⟩
  · refine ⟨Or.inl q2, by omega, by omega, fun q => absurd q (by omega), fun q => absurd q (by omega)⟩
  · rcases q3 with ⟨s1, m, s2, s3, s4, s5⟩ | ⟨s1, m, s2, s3, s4, s5⟩ | ⟨s1, s2, s3, s4⟩
    · have hm := zrun_pos s2 s1
      by_cases e : m ≤ 8
      · rw [if_pos e] at s5
        refine ⟨by omega, by omega, by omega, fun _ => ⟨by omega, by omega, fun k hk => ?_⟩, fun q => absurd q (by omega)⟩
        have := zsm_b _ (zch_le' h _) (s2.1 k (by omega)); omega
      · rw [if_neg e] at s5
        exact ⟨by omega, by omega, by omega, fun q => absurd q (by omega), fun q => absurd q (by omega)⟩
    · by_cases e : m ≤ 3
      · rw [if_pos e] at s5
        refine ⟨by omega, by omega, by omega, fun q => absurd q (by omega), fun _ => ?_⟩
        have hm : t.2.2 - t.2.1 = m := by omega
        rw [hm]
        have h1 := zdv_lt (u := fun k => zch f L (t.2.1 + k)) m (fun k hk => by have := zdg_b _ (zch_le' h _) (s2.1 k hk); omega)
        have h2 : 10 ^ m ≤ 10 ^ 3 := Nat.pow_le_pow_right (by decide) e
        have h3 : (10 : Nat) ^ 3 = 1000 := by decide
        omega
      · rw [if_neg e] at s5
        exact ⟨by omega, by omega, by omega, fun q => absurd q (by omega), fun q => absurd q (by omega)⟩
    · by_cases e : zsg (zch f L t.2.1) = true
      · have hv := zsg_v e
        rw [if_pos e] at s4
        exact ⟨by omega, by omega, by omega, fun q => absurd q (by omega), fun q => absurd q (by omega)⟩
      · rw [if_neg e] at s4
        exact ⟨by omega, by omega, by omega, fun q => absurd q (by omega), fun q => absurd q (by omega)⟩
theorem zis_iff {g : Nat → Nat} {t : Tk} (h : zOk g t) {s : Nat} (hs : s < 22) : zis g t s = true ↔ t.1 = 2 ∧ t.2.2 - t.2.1 = zsL s ∧ ∀ k, k < zsL s → g (t.2.1 + k) = zsN s k := by
  unfold zis
  rw [Bool.and_eq_true, decide_eq_true_eq, decide_eq_true_eq]
  obtain ⟨a, b, c, d⟩ := zs_ok s hs
  constructor
  · rintro ⟨e1, e2⟩
    obtain ⟨k1, k2, k3⟩ := h.2.2.2.1 e1
    obtain ⟨m1, m2⟩ := (zwv_inj _ _ (fun k hk => by have := k3 k hk; omega) (fun k hk => by have := c k hk; omega)).mp e2
    exact ⟨e1, m1, fun k hk => m2 k (by omega)⟩
  · rintro ⟨e1, e2, e3⟩
    obtain ⟨k1, k2, k3⟩ := h.2.2.2.1 e1
    exact ⟨e1, (zwv_inj _ _ (fun k hk => by have := k3 k hk; omega) (fun k hk => by have := c k hk; omega)).mpr ⟨e2, fun k hk => e3 k (by omega)⟩⟩
theorem zisr {τ : OM} {g : Nat → Nat} {t : Tk} (ho : zOk g t) (h : zRt τ g t) (h13 : mI τ 81 13 = 0) {s : Nat} (hs : s < 22) : fX10_isWord s τ = some (b2 (zis g t s), τ) := by
  obtain ⟨a, b, c, d⟩ := zs_ok s hs
  unfold fX10_isWord
  rw [h13, if_pos rfl, h.1.2.2]
  by_cases e : t.1 = 2
  · rw [e, if_pos (by rfl)]
    obtain ⟨k1, k2, k3⟩ := ho.2.2.2.1 e
    obtain ⟨r1, r2⟩ := h.2.1 e
    have hl : fJ0_length_8abf5 s τ = some (oi (zsL s), τ) := by
      unfold fJ0_length_8abf5
      rw [show fJ0_coder_7d493 s τ = some (0, τ) from rfl, obi_s, d]
    rw [hl, obi_s, r1]
    by_cases el : t.2.2 - t.2.1 = zsL s
    · rw [if_pos (by rw [el])]
      have go : ∀ d k n (b : Bool), k + d = zsL s → d < n → ∃ c : Bool, fX10_isWord_b32 n s (b2 b) (oi k) τ = some (b2 c, τ) ∧ (c = true ↔ b = true ∧ ∀ j, k ≤ j → j < zsL s → g (t.2.1 + j) = zsN s j) := by
        intro d
        induction d with
        | zero =>
          intro k n b hk hn
          obtain ⟨n, rfl⟩ : ∃ n', n = n' + 1 := ⟨n - 1, by omega⟩
          rw [fX10_isWord_b32, r1, if_pos (by rw [oi_le (by omega) (by omega)]; omega)]
          refine ⟨b, ogd_t (by cases b <;> rfl), fun q => ⟨q, fun j h1 h2 => absurd h2 (by omega)⟩, fun q => q.1⟩
        | succ d ih =>
          intro k n b hk hn
          obtain ⟨n, rfl⟩ : ∃ n', n = n' + 1 := ⟨n - 1, by omega⟩
          rw [fX10_isWord_b32, r1, if_neg (by rw [oi_le (by omega) (by omega)]; omega), oi_succ]
          cases b with
          | false =>
            rw [if_pos (by rfl)]
            obtain ⟨c', g1, g2⟩ := ih (k + 1) n false (by omega) (by omega)
            exact ⟨c', g1, fun q => absurd (g2.mp q).1 (by decide), fun q => absurd q.1 (by decide)⟩
          | true =>
            obtain ⟨c1, c2, c3⟩ := c k (by omega)
            rw [if_neg (by decide), ogi (by omega) (by omega), zcharAt hs (by omega), obi_s, oi_nat (by omega), r2 k (by omega)]
            have hg := k3 k (by omega)
            by_cases ek : g (t.2.1 + k) = zsN s k
            · rw [if_pos (by rw [ek])]
              obtain ⟨c', g1, g2⟩ := ih (k + 1) n true (by omega) (by omega)
              refine ⟨c', g1, fun q => ⟨rfl, fun j h1 h2 => ?_⟩, fun q => g2.mpr ⟨rfl, fun j h1 h2 => q.2 j (by omega) h2⟩⟩
              by_cases ej : j = k
              · rw [ej]; exact ek
              · exact (g2.mp q).2 j (by omega) h2
            · rw [if_neg (by rw [oi_inj (by omega) (by omega)]; exact ek)]
              obtain ⟨c', g1, g2⟩ := ih (k + 1) n false (by omega) (by omega)
              exact ⟨c', g1, fun q => absurd (g2.mp q).1 (by decide), fun q => absurd (q.2 k (Nat.le_refl _) (by omega)) ek⟩
      obtain ⟨c', g1, g2⟩ := go (zsL s) 0 oF true (by omega) (by unfold oF; omega)
      have hc : c' = zis g t s := by
        rw [Bool.eq_iff_iff, g2, zis_iff ho hs]
        exact ⟨fun q => ⟨e, el, fun k hk => q.2 k (Nat.zero_le _) hk⟩, fun q => ⟨rfl, fun j _ hj => q.2.2 j hj⟩⟩
      rw [← hc]; exact g1
    · rw [if_neg (by rw [oi_inj (by omega) (by omega)]; exact el)]
      have hz : zis g t s = false := by
        rw [Bool.eq_false_iff]; intro q; exact el ((zis_iff ho hs).mp q).2.1
      rw [hz]; rfl
  · have hz : zis g t s = false := by unfold zis; rw [decide_eq_false e]; rfl
    rw [if_neg (by rw [show (2 : Int32) = oi 2 from rfl, oi_inj (by have := ho.1; omega) (by omega)]; exact e), hz]; rfl
theorem zisr_dead {τ : OM} (h13 : mI τ 81 13 = 1) (s : Nat) : fX10_isWord s τ = some (0, τ) := by
  unfold fX10_isWord; rw [h13, if_neg (by decide)]
theorem ol_inj64 {a b : Nat} (ha : a < 18446744073709551616) (hb : b < 18446744073709551616) : ol a = ol b ↔ a = b := by
  refine ⟨fun e => Nat.eq_of_testBit_eq (fun i => ?_), fun e => by rw [e]⟩
  rw [← tb_ol a i ha, ← tb_ol b i hb, e]
def zkS (j : Nat) : Nat := [0, 2, 3, 4, 6, 7, 8, 9, 10, 11, 12, 5, 13, 14, 15].getD j 0
theorem zkw_t : ∀ j, j < 15 → okw j = ol (zwv (zsN (zkS j)) (zsL (zkS j))) ∧ zkS j < 22 := by decide +kernel
theorem zkw_n : zkw 7237495 = 1 ∧ zkw 1868850291 = 1 ∧ zkw 439855772532 = 1 ∧ zkw 1700881256 = 1 ∧ zkw 500219604595 = 1 ∧ zkw 7955827 = 1 ∧ zkw 28271 = 1 := by decide +kernel
theorem zkw_v : (7237495 : Int64) = ol (zwv (zsN 1) (zsL 1)) ∧ (1868850291 : Int64) = ol (zwv (zsN 16) (zsL 16)) ∧ (439855772532 : Int64) = ol (zwv (zsN 17) (zsL 17)) ∧ (1700881256 : Int64) = ol (zwv (zsN 18) (zsL 18)) ∧ (500219604595 : Int64) = ol (zwv (zsN 19) (zsL 19)) ∧ (7955827 : Int64) = ol (zwv (zsN 20) (zsL 20)) ∧ (28271 : Int64) = ol (zwv (zsN 21) (zsL 21)) := by decide +kernel
theorem zwv8 {u : Nat → Nat} {m : Nat} (hm : m ≤ 8) (h : ∀ k, k < m → u k < 256) : zwv u m < 18446744073709551616 := by
  have h1 := zwv_lt m h
  have h2 : 256 ^ m ≤ 256 ^ 8 := Nat.pow_le_pow_right (by decide) hm
  have h3 : (256 : Nat) ^ 8 = 18446744073709551616 := by decide
  omega
theorem zs8 {s : Nat} (hs : s < 22) : zwv (zsN s) (zsL s) < 18446744073709551616 := zwv8 (zs_ok s hs).2.1 (fun k hk => by have := (zs_ok s hs).2.2.1 k hk; omega)
theorem zw8 {g : Nat → Nat} {t : Tk} (h : zOk g t) (e : t.1 = 2) : zwv (fun k => g (t.2.1 + k)) (t.2.2 - t.2.1) < 18446744073709551616 := by
  obtain ⟨k1, k2, k3⟩ := h.2.2.2.1 e
  exact zwv8 k2 (fun k hk => by have := k3 k hk; omega)
theorem ofs_sp {p : Nat → Bool} : ∀ c k, (ofs p c k < k + c → p (ofs p c k) = true) ∧ k ≤ ofs p c k ∧ ofs p c k ≤ k + c ∧ ∀ j, k ≤ j → j < ofs p c k → p j = false
  | 0, k => ⟨fun h => absurd h (by show ¬ k < k + 0; omega), Nat.le_refl _, Nat.le_refl _, fun j h1 h2 => absurd (show j < k from h2) (by omega)⟩
  | c + 1, k => by
    unfold ofs
    by_cases h : p k = true
    · rw [if_pos h]
      exact ⟨fun _ => h, Nat.le_refl _, by omega, fun j h1 h2 => absurd h2 (by omega)⟩
    · rw [if_neg h]
      obtain ⟨a, b, d, e⟩ := ofs_sp (p := p) c (k + 1)
      refine ⟨fun q => a (by omega), by omega, by omega, fun j h1 h2 => ?_⟩
      by_cases ej : j = k
      · rw [ej]; exact Bool.eq_false_iff.mpr h
      · exact e j (by omega) h2
theorem okw_inj : ∀ i, i < 15 → ∀ j, j < 15 → okw i = okw j → i = j := by decide +kernel
/-- the kind of a word of the list -/
theorem zkw_iff (v : Int64) {j : Nat} (hj : j < 15) : zkw v = oi (256 + j) ↔ okw j = v := by
  obtain ⟨a, b, d, e⟩ := ofs_sp (p := fun k => decide (okw k = v)) 15 0
  unfold zkw
  by_cases h : ofs (fun k => decide (okw k = v)) 15 0 < 15
  · have ha := of_decide_eq_true (a (by omega))
    rw [if_pos h, oi_inj (by omega) (by omega)]
    constructor
    · intro q; rw [show j = ofs (fun k => decide (okw k = v)) 15 0 by omega]; exact ha
    · intro q
      have := okw_inj _ h _ hj (ha.trans q.symm)
      omega
  · rw [if_neg h]
    constructor
    · intro q
      rw [show (1 : Int32) = oi 1 from rfl, oi_inj (by omega) (by omega)] at q; omega
    · intro q
      have h2 := e j (by omega) (by omega)
      rw [decide_eq_false_iff_not] at h2
      exact absurd q h2
theorem zkw_one (v : Int64) : zkw v = 1 ↔ ∀ j, j < 15 → okw j ≠ v := by
  constructor
  · intro q j hj q2
    have := (zkw_iff v hj).mpr q2
    rw [q, show (1 : Int32) = oi 1 from rfl, oi_inj (by omega) (by omega)] at this; omega
  · intro q
    unfold zkw
    rw [if_neg]
    intro h
    obtain ⟨a, b, d, e⟩ := ofs_sp (p := fun k => decide (okw k = v)) 15 0
    exact q _ h (of_decide_eq_true (a (by omega)))
theorem zkw_cases (v : Int64) : zkw v = 1 ∨ ∃ j, j < 15 ∧ zkw v = oi (256 + j) := by
  unfold zkw
  by_cases h : ofs (fun k => decide (okw k = v)) 15 0 < 15
  · exact Or.inr ⟨_, h, if_pos h⟩
  · exact Or.inl (if_neg h)
section
variable {g : Nat → Nat} {t : Tk}
theorem zck_key (h : zOk g t) {j : Nat} (hj : j < 15) : zck g t = oi (256 + j) ↔ zis g t (zkS j) = true := by
  unfold zck zis
  obtain ⟨a, b⟩ := zkw_t j hj
  by_cases e : t.1 = 2
  · rw [if_pos e, zkw_iff _ hj, a, ol_inj64 (zs8 b) (zw8 h e), decide_eq_true e, Bool.true_and, decide_eq_true_eq]
    exact eq_comm
  · rw [if_neg e, decide_eq_false e, Bool.false_and]
    refine ⟨fun q => ?_, fun q => absurd q (by decide)⟩
    have h1 := h.1
    split at q
    · rw [show (2 : Int32) = oi 2 from rfl, oi_inj (by omega) (by omega)] at q; omega
    · split at q
      · rw [show (3 : Int32) = oi 3 from rfl, oi_inj (by omega) (by omega)] at q; omega
      · rw [oi_inj (by omega) (by omega)] at q; omega
theorem zck_sign (h : zOk g t) {x : Nat} (hx : x = 0 ∨ x = 59 ∨ x = 44 ∨ x = 40 ∨ x = 41) : zck g t = oi x ↔ t.1 = x := by
  unfold zck
  have h1 := h.1
  by_cases e : t.1 = 2
  · rw [if_pos e]
    refine ⟨fun q => ?_, fun q => absurd q (by omega)⟩
    rcases zkw_cases (ol (zwv (fun k => g (t.2.1 + k)) (t.2.2 - t.2.1))) with q2 | ⟨j, hj, q2⟩
    · rw [q2, show (1 : Int32) = oi 1 from rfl, oi_inj (by omega) (by omega)] at q; omega
    · rw [q2, oi_inj (by omega) (by omega)] at q; omega
  · rw [if_neg e]
    split
    · rw [show (2 : Int32) = oi 2 from rfl, oi_inj (by omega) (by omega)]; omega
    · split
      · rw [show (3 : Int32) = oi 3 from rfl, oi_inj (by omega) (by omega)]; omega
      · rw [oi_inj (by omega) (by omega)]
theorem zck_num (h : zOk g t) : zck g t = 2 ↔ t.1 = 3 := by
  unfold zck
  have h1 := h.1
  by_cases e : t.1 = 2
  · rw [if_pos e]
    refine ⟨fun q => ?_, fun q => absurd q (by omega)⟩
    rcases zkw_cases (ol (zwv (fun k => g (t.2.1 + k)) (t.2.2 - t.2.1))) with q2 | ⟨j, hj, q2⟩
    · rw [q2] at q; exact absurd q (by decide)
    · rw [q2, show (2 : Int32) = oi 2 from rfl, oi_inj (by omega) (by omega)] at q; omega
  · rw [if_neg e]
    split
    · rename_i q; exact ⟨fun _ => q, fun _ => rfl⟩
    · rename_i q
      refine ⟨fun q2 => ?_, fun q2 => absurd q2 q⟩
      split at q2
      · exact absurd q2 (by decide)
      · rw [show (2 : Int32) = oi 2 from rfl, oi_inj (by omega) (by omega)] at q2; omega
/-- a name: a word that is not in the list -/
def znm (g : Nat → Nat) (t : Tk) : Bool := decide (t.1 = 2) && allN (fun j => !(zis g t (zkS j))) 15
theorem zck_name (h : zOk g t) : zck g t = 1 ↔ znm g t = true := by
  unfold znm
  have h1 := h.1
  by_cases e : t.1 = 2
  · rw [decide_eq_true e, Bool.true_and, allN_iff]
    have hz : zck g t = zkw (ol (zwv (fun k => g (t.2.1 + k)) (t.2.2 - t.2.1))) := if_pos e
    constructor
    · intro q j hj
      rw [Bool.not_eq_true', Bool.eq_false_iff]
      intro q2
      have := (zck_key h hj).mpr q2
      rw [q, show (1 : Int32) = oi 1 from rfl, oi_inj (by omega) (by omega)] at this; omega
    · intro q
      rw [hz]
      rcases zkw_cases (ol (zwv (fun k => g (t.2.1 + k)) (t.2.2 - t.2.1))) with q2 | ⟨j, hj, q2⟩
      · exact q2
      · have h3 := (zck_key h hj).mp (hz.trans q2)
        have h4 := q j hj
        rw [h3] at h4; cases h4
  · rw [decide_eq_false e, Bool.false_and]
    refine ⟨fun q => ?_, fun q => absurd q (by decide)⟩
    unfold zck at q
    rw [if_neg e] at q
    split at q
    · exact absurd q (by decide)
    · split at q
      · exact absurd q (by decide)
      · rw [show (1 : Int32) = oi 1 from rfl, oi_inj (by omega) (by omega)] at q; omega
/-- the class asks for one of the words that are no names of lines -/
theorem zisc {σ : OM} {L i : Nat} {r : List Tk} (h : zOk g t) (hc : zCur σ g L t r i) {s : Nat} (hs : s < 22) (hk : zkw (ol (zwv (zsN s) (zsL s))) = 1) : fX6_isWord (ol (zwv (zsN s) (zsL s))) σ = some (b2 (zis g t s), σ) := by
  obtain ⟨⟨c1, c2, c3, c4⟩, _⟩ := hc
  unfold fX6_isWord
  rw [c2]
  unfold zis
  by_cases e : t.1 = 2
  · have hz : zck g t = zkw (ol (zwv (fun k => g (t.2.1 + k)) (t.2.2 - t.2.1))) := if_pos e
    rw [decide_eq_true e, Bool.true_and, c4.1 e, hz]
    by_cases ev : zwv (fun k => g (t.2.1 + k)) (t.2.2 - t.2.1) = zwv (zsN s) (zsL s)
    · rw [ev, if_pos hk, if_pos ((cmp_eq _ _).mpr rfl), decide_eq_true rfl]; rfl
    · rw [decide_eq_false ev]
      have hne : ¬ lg_cmp (ol (zwv (fun k => g (t.2.1 + k)) (t.2.2 - t.2.1))) (ol (zwv (zsN s) (zsL s))) = 0 := by
        rw [cmp_eq, ol_inj64 (zw8 h e) (zs8 hs)]; exact ev
      rw [if_neg hne]
      split <;> rfl
  · have hn : ¬ zck g t = 1 := by
      rw [zck_name h]; unfold znm; rw [decide_eq_false e]; exact Bool.false_ne_true
    rw [if_neg hn, decide_eq_false e]; rfl
end
