/-! weights of sets, the lowest bit first -/
theorem sum_upd {f g : Nat → Nat} {i d : Nat} : ∀ {n : Nat}, i < n → f i = g i + d → (∀ k, k < n → k ≠ i → f k = g k) → ofd (fun k v => v + f k) 0 n = ofd (fun k v => v + g k) 0 n + d
  | 0, h, _, _ => absurd h (by omega)
  | n + 1, h, he, hk => by
    show ofd (fun k v => v + f k) 0 n + f n = ofd (fun k v => v + g k) 0 n + g n + d
    by_cases hn : i = n
    · subst hn
      have e : ofd (fun k v => v + f k) 0 i = ofd (fun k v => v + g k) 0 i := ofd_congr (fun k v hk2 => by rw [hk k (by omega) (by omega)])
      rw [e, he]; omega
    · rw [sum_upd (n := n) (i := i) (d := d) (by omega) he (fun k h2 h3 => hk k (by omega) h3), hk n (by omega) (fun e => hn e.symm)]; omega
theorem neg_not (x : Int64) : -x = (x - 1) ^^^ (-1) := by
  apply Int64.toBitVec_inj.mp
  rw [Int64.toBitVec_xor, Int64.toBitVec_neg, Int64.toBitVec_sub]
  have h : (-1 : Int64).toBitVec = BitVec.allOnes 64 := by decide
  rw [h, BitVec.xor_allOnes, BitVec.not_eq_neg_add]
  show -x.toBitVec = -(x.toBitVec - 1#64) - 1#64
  apply BitVec.eq_of_toInt_eq
  simp [BitVec.toInt_sub, BitVec.toInt_neg]
  congr 1; omega
theorem low_ix (x : Int64) (h : x ≠ 0) : ∃ i, i < 64 ∧ tb x i = true ∧ (∀ k, k < 64 → tb (x &&& (x - 1)) k = (tb x k && decide (k ≠ i))) ∧ pc ((x &&& -x) - 1) = i := by
  obtain ⟨i, hi, hb, -, hk⟩ := low_off x h
  refine ⟨i, hi, hb, hk, ?_⟩
  have e : x &&& -x = ol (2 ^ i) := by
    apply tb_ext
    intro k hk2
    have h1 := hk k hk2
    rw [tb_and] at h1
    rw [tb_and, neg_not, tb_not _ hk2, tb_ol _ _ (Nat.lt_of_lt_of_le (Nat.pow_lt_pow_right (by decide) hi) (by decide : 2 ^ 64 ≤ 18446744073709551616)), Nat.testBit_two_pow]
    by_cases hki : k = i
    · subst hki
      rw [hb] at h1 ⊢
      simp at h1
      rw [h1]; simp
    · rw [decide_eq_true hki] at h1
      cases hx : tb x k
      · rw [decide_eq_false (fun e => hki e.symm)]; rfl
      · rw [hx] at h1
        simp at h1
        rw [h1, decide_eq_false (fun e => hki e.symm)]; rfl
  rw [e, show (1 : Int64) = ol 1 from rfl, ol_sub (Nat.one_le_two_pow)]
  exact (by decide +kernel : ∀ i, i < 64 → pc (ol (2 ^ i - 1)) = i) i hi
theorem sWt_low (R : Nat → Int32) {x : Int64} {i : Nat} (hi : i < 64) (hb : tb x i = true) (hk : ∀ k, k < 64 → tb (x &&& (x - 1)) k = (tb x k && decide (k ≠ i))) : sWt R x = sWt R (x &&& (x - 1)) + sOd R i := by
  refine sum_upd (f := fun k => if tb x k then sOd R k else 0) (g := fun k => if tb (x &&& (x - 1)) k then sOd R k else 0) (i := i) hi ?_ ?_
  · show (if tb x i then sOd R i else 0) = (if tb (x &&& (x - 1)) i then sOd R i else 0) + sOd R i
    rw [hk i hi, hb]; simp
  · intro k h1 h2
    show (if tb x k then sOd R k else 0) = (if tb (x &&& (x - 1)) k then sOd R k else 0)
    rw [hk k h1, decide_eq_true h2, Bool.and_true]
theorem sWt_0 (R : Nat → Int32) : sWt R 0 = 0 := by
  unfold sWt
  exact (ofd_zero (f := fun k => if tb 0 k then sOd R k else 0)).mpr (fun k _ => by
    show (if tb 0 k then sOd R k else 0) = 0
    rw [tb_0]; rfl)
section
variable {σ : OM} {w : Nat} {R : Nat → Int32} {Z : Nat → Int64} {s : Nat → Int32}
theorem weigh_go (h : CX σ w R Z s) : ∀ (m : Nat) (x : Int64) (a c : Nat), pc x < m → pc x + c ≤ 64 → x &&& Z 8 = x → fX2_weightOf_b13 m w (oi a) x (oi c) σ = some (oi (a + sWt R x), σ) := by
  intro m
  induction m with
  | zero => intro x a c h1; omega
  | succ m ih =>
    intro x a c h1 h2 hx
    rw [fX2_weightOf_b13, lt64]
    by_cases h0 : x = 0
    · subst h0
      rw [if_pos (show lg_cmp (0 : Int64) 0 = 0 by decide), sWt_0, Nat.add_zero]
      split <;> rfl
    · have hp := pc_low h0
      obtain ⟨i, hi, hb, hk, hl⟩ := low_ix x h0
      have hF : i < 2 ^ nn (R 1) := x_in h 8 (Nat.le_refl _) i (sub_tb hx hb)
      rw [if_neg (by rw [oi_le (by omega) (by omega)]; omega), if_neg (by rw [cmp_eq]; exact h0), bcL, obi_s, hl, if_neg (by rw [oi_le (by omega) (by omega)]; omega), ogi (by omega) (by omega), oi_nat (by omega), x_W h hF, oi_add, oi_succ, ih _ _ _ (by omega) (by omega) (by rw [Int64.and_assoc, Int64.and_comm (x - 1), ← Int64.and_assoc, hx]), sWt_low R hi hb hk]
      congr 3; omega
theorem weigh_eq (h : CX σ w R Z s) {x : Int64} (hx : x &&& Z 8 = x) : fX2_weightOf w x σ = some (oi (sWt R x), σ) := by
  unfold fX2_weightOf
  rw [x_C h, hx]
  have hp := pc_le x
  have := weigh_go h oF x 0 0 (by unfold oF; omega) (by omega) hx
  rw [Nat.zero_add] at this
  exact this
theorem x_and (h : CX σ w R Z s) {x : Int64} (hx : x &&& Z 8 = x) {q : Nat} (hq : q < nn (R 5)) : x &&& mL σ (w + 3) q = x &&& Z q := z_and (fun i hi hb => x_so h hq i hi (sub_tb hx hb))
theorem x_ne (h : CX σ w R Z s) : Z 8 ≠ 0 := h.1.1.2.2.2.2.2.2.2
theorem wt_le (h : MB R Z) (x : Int64) : sWt R x ≤ 34012224 := sWt_le h.1.1.2 h.2.1 x
theorem wt_pos (h : MB R Z) {x : Int64} (hx : x ≠ 0) : 0 < sWt R x := Nat.pos_of_ne_zero (fun e => hx ((sWt_zero h.1.1.2 h.2.1 x).mp e))
/-- a fraction's upper or lower whole -/
def sFr (u d : Nat) (lo : Bool) : Int64 := ol ((if lo then d else u) / Nat.gcd d u)
theorem b2_of {x : Int32} : x = 0 ∨ x = 1 → ∃ b, x = b2 b := fun h => h.elim (fun e => ⟨false, e⟩) (fun e => ⟨true, e⟩)
theorem chanceIn_eq (h : CX σ w R Z s) (h0 : mR σ 0 0 = w) (hk : okd w = 8) {x : Int64} (hx : x &&& Z 8 = x) (hne : x ≠ 0) {q : Nat} (hq : q < nn (R 5)) (lo : Bool) : fX9_chanceIn x (oi q) (b2 lo) σ = some (sFr (sWt R (x &&& Z q)) (sWt R x) lo, sI σ 0 9 0) := by
  have hQ := x_Qb h
  have l1 := wt_le h.1.1 (x &&& Z q)
  have l2 := wt_le h.1.1 x
  have l3 := wt_pos h.1.1 hne
  unfold fX9_chanceIn
  rw [h0, ogd_d hk, soWorlds_eq (by omega), obi_s, x_and h hx hq, weigh_eq h (sub_an _ hx), obi_s, weigh_eq h hx, obi_s, oi_long (by omega), oi_long (by omega), terms_eq (by omega) (by omega) l3, obi_s]; rfl
end
