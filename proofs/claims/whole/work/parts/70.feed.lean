/-! the tape -/
/-- the i-th byte of a number, the highest first -/
def wb (x : Int32) (i : Nat) : Nat := (nW x >>> (24 - 8 * i)) % 256
theorem wb_lt (x : Int32) (i : Nat) : wb x i < 256 := Nat.mod_lt _ (by decide)
theorem nar_byte (y : Int32) : vp_nar .byte y = y.toInt8.toInt32 := rfl
theorem i8_idem (y : Int32) : y.toInt8.toInt32.toInt8 = y.toInt8 := by simp
theorem i8_low (y : Int32) : y.toInt8 = (oi (nW y % 256)).toInt8 := by
  apply Int8.toBitVec_inj.mp
  rw [Int32.toBitVec_toInt8, Int32.toBitVec_toInt8, BitVec.signExtend_eq_setWidth_of_le _ (by decide), BitVec.signExtend_eq_setWidth_of_le _ (by decide)]
  apply BitVec.eq_of_toNat_eq
  rw [BitVec.toNat_setWidth, BitVec.toNat_setWidth]
  show y.toBitVec.toNat % 2 ^ 8 = (BitVec.ofNat 32 (nW y % 256)).toNat % 2 ^ 8
  rw [BitVec.toNat_ofNat]
  unfold nW
  omega
theorem byte_c (x : Int32) {i : Nat} (hi : i < 4) : vp_nar .byte (((x.toUInt32 >>> ((oi (24 - 8 * i)).toUInt32 &&& Int32.toUInt32 31)).toInt32).toInt8.toInt32) = sgb (wb x i) := by
  rw [nar_byte, i8_idem, i8_low, nW_ushr _ (by omega)]; rfl
theorem byte_r (x : Int32) {i : Nat} (hi : i < 4) : (x >>> (oi (24 - 8 * i) &&& 31)) &&& 255 = oi (wb x i) := by
  apply tw_ext
  intro j hj
  rw [tw_and, tw_oi _ _ (by have := wb_lt x i; omega)]
  unfold wb
  rw [show 256 = 2 ^ 8 from rfl, Nat.testBit_mod_two_pow, Nat.testBit_shiftRight]
  by_cases h8 : j < 8
  · rw [tw_sshr x (by omega) (by omega), (by decide +kernel : ∀ j, j < 8 → tw 255 j = true) j h8, decide_eq_true h8, Bool.and_true, Bool.true_and]; rfl
  · rw [(by decide +kernel : ∀ j, j < 32 → ¬ j < 8 → tw 255 j = false) j hj h8, decide_eq_false h8, Bool.and_false, Bool.false_and]
def shv (i : Nat) : Int32 := if i = 4 then -8 else oi (24 - 8 * i)
theorem put_eq {σ : OM} {T : Nat} (hT : T + 4 ≤ 900) (h1 : mI σ 43 1 = oi T) (x : Int32) : ∃ σ1, fX6_put x σ = some σ1 ∧ mI σ1 43 1 = oi (T + 4) ∧ (∀ i, i < 4 → mI σ1 44 (T + i) = sgb (wb x i)) ∧ (∀ j, j < T → mI σ1 44 j = mI σ 44 j) ∧ Fr (fun a j => (a = 43 ∧ j = 1) ∨ a = 44) noL σ σ1 := by
  have go : ∀ d i m (τ : OM), i + d = 4 → d < m → mI τ 43 1 = oi (T + i) → (∀ k, k < i → mI τ 44 (T + k) = sgb (wb x k)) → (∀ j, j < T → mI τ 44 j = mI σ 44 j) → Fr (fun a j => (a = 43 ∧ j = 1) ∨ a = 44) noL σ τ → ∃ σ1, fX6_put_b3 m x (shv i) τ = some σ1 ∧ mI σ1 43 1 = oi (T + 4) ∧ (∀ i, i < 4 → mI σ1 44 (T + i) = sgb (wb x i)) ∧ (∀ j, j < T → mI σ1 44 j = mI σ 44 j) ∧ Fr (fun a j => (a = 43 ∧ j = 1) ∨ a = 44) noL σ σ1 := by
    intro d
    induction d with
    | zero =>
      intro i m τ e1 e2 e3 e4 e5 e6
      obtain ⟨m, rfl⟩ : ∃ m', m = m' + 1 := ⟨m - 1, by omega⟩
      have hi : i = 4 := by omega
      subst hi
      rw [fX6_put_b3, if_pos (by decide)]
      exact ⟨τ, rfl, e3, e4, e5, e6⟩
    | succ d ih =>
      intro i m τ e1 e2 e3 e4 e5 e6
      obtain ⟨m, rfl⟩ : ∃ m', m = m' + 1 := ⟨m - 1, by omega⟩
      have hs : shv i = oi (24 - 8 * i) := by unfold shv; rw [if_neg (by omega)]
      have hs1 : oi (24 - 8 * i) + (-8) = shv (i + 1) := (by decide +kernel : ∀ i, i < 4 → oi (24 - 8 * i) + (-8) = shv (i + 1)) i (by omega)
      rw [fX6_put_b3, hs, if_neg (oi_nneg (by omega)), e3, if_neg (by show ¬ oi 900 ≤ _; rw [oi_le (by omega) (by omega)]; omega), ogi (by omega) (by omega), oi_nat (by omega), byte_c x (by omega), hs1]
      have r1 : mI (sI τ 44 (T + i) (sgb (wb x i))) 43 1 = oi (T + i) := by rw [mI_sI, if_neg (by omega)]; exact e3
      rw [r1, oi_succ]
      refine ih (i + 1) m _ (by omega) (by omega) mI_at (fun k hk => ?_) (fun j hj => ?_) (fr_I (fr_I e6 (by omega)) (by omega))
      · rw [mI_sI, if_neg (by omega), mI_sI]
        by_cases ek : k = i
        · rw [if_pos ⟨rfl, by omega⟩, ek]
        · rw [if_neg (by omega)]; exact e4 k (by omega)
      · rw [mI_sI, if_neg (by omega), mI_sI, if_neg (by omega)]; exact e5 j hj
  exact go 4 0 oF σ rfl (by unfold oF; omega) h1 (fun k hk => absurd hk (by omega)) (fun _ _ => rfl) (fr_rfl _ _ _)
/-- which number a byte is of -/
def w5 (a b c d e : Int32) (k : Nat) : Int32 := if k < 4 then a else if k < 8 then b else if k < 12 then c else if k < 16 then d else e
theorem feedc_eq {σ : OM} {T : Nat} (hT : T + 20 ≤ 900) (h1 : mI σ 43 1 = oi T) (a b c d e : Int32) : ∃ σ1, fX9_feed a b c d e σ = some (oi (T + 20), σ1) ∧ mI σ1 43 1 = oi (T + 20) ∧ (∀ k, k < 20 → mI σ1 44 (T + k) = sgb (wb (w5 a b c d e k) (k % 4))) ∧ (∀ j, j < T → mI σ1 44 j = mI σ 44 j) ∧ Fr (fun a j => (a = 43 ∧ j = 1) ∨ a = 44) noL σ σ1 := by
  obtain ⟨σ1, a1, a2, a3, a4, a5⟩ := put_eq (by omega) h1 a
  obtain ⟨σ2, b1, b2', b3, b4, b5⟩ := put_eq (by omega) a2 b
  obtain ⟨σ3, c1, c2, c3, c4, c5⟩ := put_eq (by omega) b2' c
  obtain ⟨σ4, d1, d2, d3, d4, d5⟩ := put_eq (by omega) c2 d
  obtain ⟨σ5, e1, e2, e3, e4, e5⟩ := put_eq (by omega) d2 e
  unfold fX9_feed
  rw [if_pos (by rw [h1]; show oi T ≤ oi 880; rw [oi_le (by omega) (by omega)]; omega), a1, obv_s, b1, obv_s, c1, obv_s, d1, obv_s, e1, obv_s]
  refine ⟨σ5, by rw [e2], e2, fun k hk => ?_, fun j hj => ?_, fr_tr a5 (fr_tr b5 (fr_tr c5 (fr_tr d5 e5)))⟩
  · unfold w5
    by_cases k1 : k < 4
    · rw [if_pos k1, e4 _ (by omega), d4 _ (by omega), c4 _ (by omega), b4 _ (by omega), a3 k k1, Nat.mod_eq_of_lt k1]
    · rw [if_neg k1]
      by_cases k2 : k < 8
      · rw [if_pos k2, e4 _ (by omega), d4 _ (by omega), c4 _ (by omega), show T + k = T + 4 + (k - 4) by omega, b3 (k - 4) (by omega), show k % 4 = k - 4 by omega]
      · rw [if_neg k2]
        by_cases k3 : k < 12
        · rw [if_pos k3, e4 _ (by omega), d4 _ (by omega), show T + k = T + 4 + 4 + (k - 8) by omega, c3 (k - 8) (by omega), show k % 4 = k - 8 by omega]
        · rw [if_neg k3]
          by_cases k4 : k < 16
          · rw [if_pos k4, e4 _ (by omega), show T + k = T + 4 + 4 + 4 + (k - 12) by omega, d3 (k - 12) (by omega), show k % 4 = k - 12 by omega]
          · rw [if_neg k4, show T + k = T + 4 + 4 + 4 + 4 + (k - 16) by omega, e3 (k - 16) (by omega), show k % 4 = k - 16 by omega]
  · rw [e4 _ (by omega), d4 _ (by omega), c4 _ (by omega), b4 _ (by omega), a4 j hj]
theorem feedr_eq {σ : OM} {T : Nat} (hT : T + 20 ≤ 900) (h1 : mI σ 81 2 = oi T) (a b c d e : Int32) : ∃ σ1, fX10_feed a b c d e σ = some (oi (T + 20), σ1) ∧ mI σ1 81 2 = oi (T + 20) ∧ (∀ k, k < 20 → mI σ1 82 (T + k) = oi (wb (w5 a b c d e k) (k % 4))) ∧ (∀ j, j < T → mI σ1 82 j = mI σ 82 j) ∧ Fr (fun a j => (a = 81 ∧ (j = 0 ∨ j = 2)) ∨ a = 82) noL σ σ1 := by
  have go : ∀ n k m (τ : OM), k + n = 20 → n < m → mI τ 81 2 = oi (T + k) → (∀ i, i < k → mI τ 82 (T + i) = oi (wb (w5 a b c d e i) (i % 4))) → (∀ j, j < T → mI τ 82 j = mI σ 82 j) → Fr (fun a j => (a = 81 ∧ (j = 0 ∨ j = 2)) ∨ a = 82) noL σ τ → ∃ σ1, fX10_feed_b23 m a b c d e (oi k) τ = some (oi (T + 20), σ1) ∧ mI σ1 81 2 = oi (T + 20) ∧ (∀ k, k < 20 → mI σ1 82 (T + k) = oi (wb (w5 a b c d e k) (k % 4))) ∧ (∀ j, j < T → mI σ1 82 j = mI σ 82 j) ∧ Fr (fun a j => (a = 81 ∧ (j = 0 ∨ j = 2)) ∨ a = 82) noL σ σ1 := by
    intro n
    induction n with
    | zero =>
      intro k m τ e1 e2 e3 e4 e5 e6
      obtain ⟨m, rfl⟩ : ∃ m', m = m' + 1 := ⟨m - 1, by omega⟩
      have hi : k = 20 := by omega
      subst hi
      rw [fX10_feed_b23, if_pos (by decide), e3]
      exact ⟨τ, rfl, e3, e4, e5, e6⟩
    | succ n ih =>
      intro k m τ e1 e2 e3 e4 e5 e6
      obtain ⟨m, rfl⟩ : ∃ m', m = m' + 1 := ⟨m - 1, by omega⟩
      have step : ∀ w, w = w5 a b c d e k → ∃ σ1, fX10_feed_b76 (fX10_feed_b23 m) a b c d e (oi k) w τ = some (oi (T + 20), σ1) ∧ mI σ1 81 2 = oi (T + 20) ∧ (∀ k, k < 20 → mI σ1 82 (T + k) = oi (wb (w5 a b c d e k) (k % 4))) ∧ (∀ j, j < T → mI σ1 82 j = mI σ 82 j) ∧ Fr (fun a j => (a = 81 ∧ (j = 0 ∨ j = 2)) ∨ a = 82) noL σ σ1 := by
        intro w hw
        have hr : (24 : Int32) - ((8 : Int32) * (oi k - oi k / (4 : Int32) * (4 : Int32))) = oi (24 - 8 * (k % 4)) := by
          rw [lt4, oi_rem (by omega) (by omega), lt8, oi_mul]
          show oi 24 - _ = _
          rw [oi_sub (by omega)]
        unfold fX10_feed_b76
        have r1 : ∀ v, mI (sI τ 82 (T + k) v) 81 2 = oi (T + k) := fun v => by rw [mI_sI, if_neg (by omega)]; exact e3
        rw [e3, ogi (by omega) (by omega), oi_nat (by omega), hr, byte_r w (by omega), r1, oi_succ, oi_succ]
        refine ih (k + 1) m _ (by omega) (by omega) mI_at (fun i hi => ?_) (fun j hj => ?_) (fr_I (fr_I e6 (by omega)) (by omega))
        · rw [mI_sI, if_neg (by omega), mI_sI]
          by_cases ek : i = k
          · rw [if_pos ⟨rfl, by omega⟩, ek, hw]
          · rw [if_neg (by omega)]; exact e4 i (by omega)
        · rw [mI_sI, if_neg (by omega), mI_sI, if_neg (by omega)]; exact e5 j hj
      rw [fX10_feed_b23, lt20, if_neg (by rw [oi_le (by omega) (by omega)]; omega)]
      unfold w5 at step
      by_cases k1 : k < 4
      · rw [if_neg (by show ¬ oi 4 ≤ _; rw [oi_le (by omega) (by omega)]; omega)]
        rw [if_pos k1] at step; exact step a rfl
      · rw [if_pos (by show oi 4 ≤ _; rw [oi_le (by omega) (by omega)]; omega)]
        rw [if_neg k1] at step
        by_cases k2 : k < 8
        · rw [if_neg (by show ¬ oi 8 ≤ _; rw [oi_le (by omega) (by omega)]; omega)]
          rw [if_pos k2] at step; exact step b rfl
        · rw [if_pos (by show oi 8 ≤ _; rw [oi_le (by omega) (by omega)]; omega)]
          rw [if_neg k2] at step
          by_cases k3 : k < 12
          · rw [if_neg (by show ¬ oi 12 ≤ _; rw [oi_le (by omega) (by omega)]; omega)]
            rw [if_pos k3] at step; exact step c rfl
          · rw [if_pos (by show oi 12 ≤ _; rw [oi_le (by omega) (by omega)]; omega)]
            rw [if_neg k3] at step
            by_cases k4 : k < 16
            · rw [if_neg (by show ¬ oi 16 ≤ _; rw [oi_le (by omega) (by omega)]; omega)]
              rw [if_pos k4] at step; exact step d rfl
            · rw [if_pos (by show oi 16 ≤ _; rw [oi_le (by omega) (by omega)]; omega)]
              rw [if_neg k4] at step; exact step e rfl
  have r2 : mI (sI σ 81 0 0) 81 2 = oi T := by rw [mI_sI, if_neg (by omega)]; exact h1
  unfold fX10_feed
  rw [r2, if_pos (by show oi T + oi 20 ≤ oi 900; rw [oi_add, oi_le (by omega) (by omega)]; omega)]
  exact go 20 0 oF (sI σ 81 0 0) rfl (by unfold oF; omega) r2 (fun i hi => absurd hi (by omega)) (fun j hj => by rw [mI_sI, if_neg (by omega)]) (fr_I (fr_rfl _ _ _) (by omega))
theorem m_feed (n : Nat) (a b c d e : Int32) : okC n (fX9_feed a b c d e) (fX10_feed a b c d e) := by
  intro σ hi
  obtain ⟨⟨c1, ⟨T, t1, t2, t3, t4⟩, c3, c4⟩, ⟨p, p1, p2, p3⟩, ⟨r1, r2⟩, hD⟩ := hi
  by_cases hT : T + 20 ≤ 900
  · obtain ⟨σ1, f1, f2, f3, f4, f5⟩ := feedc_eq hT t2 a b c d e
    have t3' : mI σ1 81 2 = oi T := by rw [f5.1 _ _ (by omega)]; exact t3
    obtain ⟨σ2, g1, g2, g3, g4, g5⟩ := feedr_eq hT t3' a b c d e
    have hf : Fr (fun a j => (a = 43 ∧ j = 1) ∨ a = 44 ∨ (a = 81 ∧ (j = 0 ∨ j = 2)) ∨ a = 82) noL σ σ2 := fr_tr (fr_mono (fun _ _ q => by omega) (fun _ q => q) f5) (fr_mono (fun _ _ q => by omega) (fun _ q => q) g5)
    refine ⟨oi (T + 20), σ1, σ2, f1, g1, ⟨⟨?_, ⟨T + 20, hT, ?_, g2, fun j hj => ?_⟩, ?_, ?_⟩, ⟨p, by omega, ?_, fun j hj => ?_⟩, ⟨?_, fun q => ?_⟩, ?_⟩, by rw [f5.2.2], by rw [g5.2.2]⟩
    · rw [hf.2.2]; exact c1
    · rw [g5.1 _ _ (by omega)]; exact f2
    · by_cases hj2 : j < T
      · obtain ⟨x, x1, x2, x3⟩ := t4 j hj2
        exact ⟨x, x1, by rw [g4 j hj2, f5.1 _ _ (by omega)]; exact x2, by rw [g5.1 _ _ (by omega), f4 j hj2]; exact x3⟩
      · refine ⟨wb (w5 a b c d e (j - T)) ((j - T) % 4), wb_lt _ _, ?_, ?_⟩
        · have := g3 (j - T) (by omega)
          rw [show T + (j - T) = j by omega] at this; exact this
        · have := f3 (j - T) (by omega)
          rw [show T + (j - T) = j by omega] at this
          rw [g5.1 _ _ (by omega)]; exact this
    · rw [hf.1 _ _ (by omega), hf.1 _ _ (by omega)]; exact c3
    · rw [hf.2.2]
      generalize mR σ 0 0 = w at c1 c4
      have hw := okW_lt c1
      rcases c4 with hW | hN
      · left
        obtain ⟨w1, w2, w3, w4, w5'⟩ := hW
        unfold WI
        rw [show mI σ2 84 = mI σ 84 from funext fun j => hf.1 84 j (by omega), show mL σ2 86 = mL σ 86 from funext fun j => hf.2.1 86 j (fun q => q), show mI σ2 88 = mI σ 88 from funext fun j => hf.1 88 j (by omega)]
        refine ⟨?_, ?_, ⟨CX_fr hf (fun a j q => by omega) (fun a q => q.elim) w3.1, CM_congr (fun j => hf.1 _ _ (by omega)) w3.2⟩, ?_, ?_⟩
        · rw [hf.1 _ _ (by omega)]; exact w1
        · rw [hf.1 _ _ (by omega)]; exact w2
        · obtain ⟨c, u1, u2, u3, u4, u5⟩ := w4
          have hu : ∀ k, uRow σ2 c k = uRow σ c k := fun k => by
            unfold uRow
            rw [show mI σ2 88 = mI σ 88 from funext fun j => hf.1 88 j (by omega)]
            split
            · exact funext fun j => hf.1 89 _ (by omega)
            · rfl
          refine ⟨c, u1, ?_, ?_, fun k hk' => ?_, fun k hk' => ?_⟩
          · rw [hf.1 _ _ (by omega)]; exact u2
          · rw [hf.1 _ _ (by omega)]; exact u3
          · rw [hu]; exact u4 k hk'
          · rw [hu, hu, hf.1 _ _ (by omega), hf.1 _ _ (by omega), hf.1 _ _ (by omega)]; exact u5 k hk'
        · obtain ⟨m, m1, m2, m3, m4⟩ := w5'
          refine ⟨m, m1, ?_, ?_, fun i hi' => ?_⟩
          · rw [hf.1 _ _ (by omega)]; exact m2
          · rw [hf.1 _ _ (by omega)]; exact m3
          · rw [show kRow σ2 i = kRow σ i from funext fun j => hf.1 90 _ (by omega)]
            exact ⟨(m4 i hi').1, CT_congr (fun a j q => hf.1 a j (by omega)) (m4 i hi').2⟩
      · right
        unfold NW at hN ⊢
        rw [hf.1 _ _ (by omega), hf.1 _ _ (by omega), hf.1 _ _ (by omega), hf.1 _ _ (by omega), hf.1 _ _ (by omega), hf.1 _ _ (by omega), hf.1 _ _ (by omega), hf.1 _ _ (by omega), hf.1 _ _ (by omega), hf.1 _ _ (by omega), hf.1 _ _ (by omega), hf.1 _ _ (by omega), hf.1 _ _ (by omega), hf.1 _ _ (by omega), hf.1 _ _ (by omega), hf.1 _ _ (by omega)]
        exact hN
    · rw [hf.1 _ _ (by omega)]; exact p2
    · rw [hf.1 _ _ (by omega)]; exact p3 j hj
    · rw [hf.1 _ _ (by omega), hf.1 _ _ (by omega)]; exact r1
    · rw [hf.1 _ _ (by omega)] at q
      rw [hf.1 _ _ (by omega), hf.1 _ _ (by omega)]; exact r2 q
    · rw [hf.2.2]; omega
  · refine ⟨-1, σ, sI σ 81 0 0, ?_, ?_, thr_fin 0 ⟨⟨c1, ⟨T, t1, t2, t3, t4⟩, c3, c4⟩, ⟨p, p1, p2, p3⟩, ⟨r1, r2⟩, hD⟩, rfl, rfl⟩
    · unfold fX9_feed
      rw [if_neg (by rw [t2]; show ¬ oi T ≤ oi 880; rw [oi_le (by omega) (by omega)]; omega)]
    · unfold fX10_feed
      have rT : mI (sI σ 81 0 0) 81 2 = oi T := by rw [mI_sI, if_neg (by omega)]; exact t3
      rw [rT, if_neg (by show ¬ oi T + oi 20 ≤ oi 900; rw [oi_add, oi_le (by omega) (by omega)]; omega)]
