/-! the reference's tokens -/
def zRt (τ : OM) (g : Nat → Nat) (t : Tk) : Prop :=
  (mI τ 81 4 = oi t.2.1 ∧ mI τ 81 5 = oi t.2.2 ∧ mI τ 81 6 = oi t.1) ∧ (t.1 = 2 → mI τ 81 8 = oi (t.2.2 - t.2.1) ∧ ∀ k, k < t.2.2 - t.2.1 → mI τ 83 k = oi (g (t.2.1 + k))) ∧ (t.1 = 3 → mI τ 81 7 = oi (zdv (fun k => g (t.2.1 + k)) (t.2.2 - t.2.1)))
def zP3 : Nat → Nat → Prop := fun a j => (a = 81 ∧ 4 ≤ j ∧ j ≤ 8) ∨ a = 83
theorem ztr_fr {τ τ' : OM} {f : Nat → Nat} {L : Nat} (hf : Fr zP3 noL τ τ') (h : zTR τ f L) : zTR τ' f L := ⟨h.1, (hf.1 81 3 (by unfold zP3; omega)).trans h.2.1, fun j hj => ⟨(h.2.2 j hj).1, (hf.1 82 j (by unfold zP3; omega)).trans (h.2.2 j hj).2⟩⟩
section
variable {f : Nat → Nat} {L : Nat}
theorem zlet_go {p m : Nat} (hp : p + m ≤ L) (hr : zRun zsm (zch f L) p m) : ∀ d k n (τ : OM), k + d = m → d < n → zTR τ f L → mI τ 81 8 = oi k → (∀ j, j < k → j < 8 → mI τ 83 j = oi (zch f L (p + j))) → ∃ τ', fX10_pass_b67 n (oi (p + k)) τ = some (sI (sI τ' 81 5 (oi (p + m))) 81 6 (oi (if m ≤ 8 then 2 else 1))) ∧ mI τ' 81 8 = oi m ∧ (∀ j, j < m → j < 8 → mI τ' 83 j = oi (zch f L (p + j))) ∧ Fr (fun a j => (a = 81 ∧ j = 8) ∨ a = 83) noL τ τ' := by
  intro d
  induction d with
  | zero =>
    intro k n τ hk hn h h8 hl
    have hL := h.1
    obtain ⟨n, rfl⟩ : ∃ n', n = n' + 1 := ⟨n - 1, by omega⟩
    have hkm : k = m := by omega
    subst hkm
    rw [fX10_pass_b67, zlook h (by omega), obi_s, zletr (zch_le' h _), obi_s, if_pos (by rw [b2_0]; exact hr.2)]
    unfold fX10_pass_b117
    have e8 : mI (sI τ 81 5 (oi (p + k))) 81 8 = oi k := by rw [mI_sI, if_neg (by omega), h8]
    rw [e8, show (8 : Int32) = oi 8 from rfl]
    refine ⟨τ, ?_, h8, hl, fr_rfl _ _ _⟩
    by_cases e : k ≤ 8
    · rw [if_pos ((oi_le (by omega) (by omega)).mpr e), if_pos e]; rfl
    · rw [if_neg (fun q => e ((oi_le (by omega) (by omega)).mp q)), if_neg e]; rfl
  | succ d ih =>
    intro k n τ hk hn h h8 hl
    have hL := h.1
    obtain ⟨n, rfl⟩ : ∃ n', n = n' + 1 := ⟨n - 1, by omega⟩
    rw [fX10_pass_b67, zlook h (by omega), obi_s, zletr (zch_le' h _), obi_s, if_neg (by rw [b2_0, hr.1 k (by omega)]; decide), h8, show (8 : Int32) = oi 8 from rfl, oi_succ, oi_succ]
    obtain ⟨_, _, _, _, z5, _⟩ := zsm_b _ (zch_le' h (p + k)) (hr.1 k (by omega))
    by_cases e : 8 ≤ k
    · rw [if_pos ((oi_le (by omega) (by omega)).mpr e)]
      have hfr : Fr (fun a j => (a = 81 ∧ j = 8) ∨ a = 83) noL τ (sI τ 81 8 (oi (k + 1))) := fr_I (fr_rfl _ _ _) (Or.inl ⟨rfl, rfl⟩)
      obtain ⟨τ', g1, g2, g3, g4⟩ := ih (k + 1) n (sI τ 81 8 (oi (k + 1))) (by omega) (by omega) (ztr_fr (fr_mono (fun a j q => by unfold zP3; omega) (fun _ q => q) hfr) h) mI_at (fun j hj h2 => by rw [mI_sI, if_neg (by omega)]; exact hl j (by omega) h2)
      exact ⟨τ', g1, g2, g3, fr_tr hfr g4⟩
    · rw [if_neg (fun q => e ((oi_le (by omega) (by omega)).mp q)), zlook h (by omega), obi_s, ogi (by omega) (by omega), oi_nat (by omega), z5]
      have e8 : mI (sI τ 83 k (oi (zch f L (p + k)))) 81 8 = oi k := by rw [mI_sI, if_neg (by omega), h8]
      rw [e8, oi_succ]
      have hfr : Fr (fun a j => (a = 81 ∧ j = 8) ∨ a = 83) noL τ (sI (sI τ 83 k (oi (zch f L (p + k)))) 81 8 (oi (k + 1))) := fr_I (fr_I (fr_rfl _ _ _) (Or.inr rfl)) (Or.inl ⟨rfl, rfl⟩)
      obtain ⟨τ', g1, g2, g3, g4⟩ := ih (k + 1) n _ (by omega) (by omega) (ztr_fr (fr_mono (fun a j q => by unfold zP3; omega) (fun _ q => q) hfr) h) mI_at (fun j hj h2 => by
        rw [mI_sI, if_neg (by omega), mI_sI]
        by_cases ej : j = k
        · rw [if_pos ⟨rfl, ej⟩, ej]
        · rw [if_neg (fun q => ej q.2)]; exact hl j (by omega) h2)
      exact ⟨τ', g1, g2, g3, fr_tr hfr g4⟩
theorem zdig_go {p m : Nat} (hp : p + m ≤ L) (hr : zRun zdg (zch f L) p m) : ∀ d k n (τ : OM), k + d = m → d < n → zTR τ f L → mI τ 81 7 = oi (zdv (fun j => zch f L (p + j)) (min k 3)) → ∃ τ', fX10_pass_b152 n (oi (p + k)) (oi k) τ = some (sI (sI τ' 81 5 (oi (p + m))) 81 6 (oi (if m ≤ 3 then 3 else 1))) ∧ mI τ' 81 7 = oi (zdv (fun j => zch f L (p + j)) (min m 3)) ∧ Fr (fun a j => a = 81 ∧ j = 7) noL τ τ' := by
  intro d
  induction d with
  | zero =>
    intro k n τ hk hn h h7
    have hL := h.1
    obtain ⟨n, rfl⟩ : ∃ n', n = n' + 1 := ⟨n - 1, by omega⟩
    have hkm : k = m := by omega
    subst hkm
    rw [fX10_pass_b152, zlook h (by omega), obi_s, zdigr (zch_le' h _), obi_s, if_pos (by rw [b2_0]; exact hr.2)]
    unfold fX10_pass_b197
    rw [show (3 : Int32) = oi 3 from rfl]
    refine ⟨τ, ?_, h7, fr_rfl _ _ _⟩
    by_cases e : k ≤ 3
    · rw [if_pos ((oi_le (by omega) (by omega)).mpr e), if_pos e]
    · rw [if_neg (fun q => e ((oi_le (by omega) (by omega)).mp q)), if_neg e]; rfl
  | succ d ih =>
    intro k n τ hk hn h h7
    have hL := h.1
    obtain ⟨n, rfl⟩ : ∃ n', n = n' + 1 := ⟨n - 1, by omega⟩
    rw [fX10_pass_b152, zlook h (by omega), obi_s, zdigr (zch_le' h _), obi_s, if_neg (by rw [b2_0, hr.1 k (by omega)]; decide), show (3 : Int32) = oi 3 from rfl, oi_succ, oi_succ]
    obtain ⟨z1, z2, _, _, z5, _⟩ := zdg_b _ (zch_le' h (p + k)) (hr.1 k (by omega))
    by_cases e : 3 ≤ k
    · rw [if_pos ((oi_le (by omega) (by omega)).mpr e)]
      exact ih (k + 1) n τ (by omega) (by omega) h (by rw [h7, show min (k + 1) 3 = min k 3 by omega])
    · rw [if_neg (fun q => e ((oi_le (by omega) (by omega)).mp q)), zlook h (by omega), obi_s, z5, h7, show min k 3 = k by omega, show (10 : Int32) = oi 10 from rfl, show (48 : Int32) = oi 48 from rfl, oi_mul, oi_add, oi_sub (by omega)]
      have hfr : Fr (fun a j => a = 81 ∧ j = 7) noL τ (sI τ 81 7 (oi (10 * zdv (fun j => zch f L (p + j)) k + zch f L (p + k) - 48))) := fr_I (fr_rfl _ _ _) ⟨rfl, rfl⟩
      obtain ⟨τ', g1, g2, g3⟩ := ih (k + 1) n _ (by omega) (by omega) (ztr_fr (fr_mono (fun a j q => by unfold zP3; omega) (fun _ q => q) hfr) h) (by rw [mI_at, show min (k + 1) 3 = k + 1 by omega]; rfl)
      exact ⟨τ', g1, g2, fr_tr hfr g3⟩
theorem zpass21 {τ : OM} (h : zTR τ f L) {t : Tk} {p : Nat} (ht : zTok (zch f L) L p t) : ∃ τ', fX10_pass_b21 (oi t.2.1) τ = some τ' ∧ zRt τ' (zch f L) t ∧ Fr zP3 noL τ τ' := by
  have hL := h.1
  obtain ⟨t1, t2, t3, t4⟩ := ht
  obtain ⟨c, a, e⟩ := t
  show ∃ τ', fX10_pass_b21 (oi a) τ = some τ' ∧ _
  replace t1 : p ≤ a := t1
  replace t2 : a ≤ L := t2
  have hf1 : Fr zP3 noL τ (sI τ 81 4 (oi a)) := fr_I (fr_rfl _ _ _) (Or.inl ⟨rfl, by omega, by omega⟩)
  have h1 := ztr_fr hf1 h
  have hx := zch_le' h a
  unfold fX10_pass_b21
  rw [zlook h1 (by omega), obi_s]
  have hf2 : Fr zP3 noL τ (sI (sI (sI τ 81 4 (oi a)) 81 8 0) 81 7 0) := fr_I (fr_I hf1 (Or.inl ⟨rfl, by omega, by omega⟩)) (Or.inl ⟨rfl, by omega, by omega⟩)
  have h2 := ztr_fr hf2 h
  have e4 : mI (sI (sI (sI τ 81 4 (oi a)) 81 8 0) 81 7 0) 81 4 = oi a := by rw [mI_sI, if_neg (by omega), mI_sI, if_neg (by omega), mI_at]
  have e8 : mI (sI (sI (sI τ 81 4 (oi a)) 81 8 0) 81 7 0) 81 8 = oi 0 := by rw [mI_sI, if_neg (by omega), mI_at]; rfl
  have e7 : mI (sI (sI (sI τ 81 4 (oi a)) 81 8 0) 81 7 0) 81 7 = oi 0 := by rw [mI_at]; rfl
  generalize (sI (sI (sI τ 81 4 (oi a)) 81 8 0) 81 7 0) = τ2 at hf2 h2 e4 e8 e7 ⊢
  rcases t4 with ⟨q1, q2, q3⟩ | ⟨q1, q2, q3⟩
  · replace q1 : a = L := q1
    replace q2 : c = 0 := q2
    replace q3 : e = L := q3
    subst q1; subst q2; subst q3
    have hz : zch f e e = 256 := if_neg (by omega)
    rw [hz, if_pos (by decide)]
    refine ⟨_, rfl, ⟨⟨by rw [mI_sI, if_neg (by omega), mI_sI, if_neg (by omega)]; exact e4, mI_at, by rw [mI_sI, if_neg (by omega), mI_at]; rfl⟩, fun q => absurd (show (0 : Nat) = 2 from q) (by decide), fun q => absurd (show (0 : Nat) = 3 from q) (by decide)⟩, fr_I (fr_I hf2 (Or.inl ⟨rfl, by omega, by omega⟩)) (Or.inl ⟨rfl, by omega, by omega⟩)⟩
  · replace q1 : a < L := q1
    replace q2 : zch f L a ≠ 32 := q2
    have hn1 : ¬ zrb (zch f L a) = -1 := by
      intro q
      have := (zlc0 _ hx).2.2.2.2.2.2.mpr q
      have h3 := (h.2.2 a q1).1
      unfold zch at this; rw [if_pos q1] at this; omega
    rw [if_neg hn1, zletr hx, obi_s]
    rcases q3 with ⟨s1, m, s2, s3, s4, s5⟩ | ⟨s1, m, s2, s3, s4, s5⟩ | ⟨s1, s2, s3, s4⟩
    · replace s1 : zsm (zch f L a) = true := s1
      replace s2 : zRun zsm (zch f L) a m := s2
      replace s3 : e = a + m := s3
      replace s4 : e ≤ L := s4
      replace s5 : c = if m ≤ 8 then 2 else 1 := s5
      rw [if_neg (by rw [b2_0, s1]; decide)]
      obtain ⟨τ', g1, g2, g3, g4⟩ := zlet_go (by omega) s2 m 0 oF τ2 (by omega) (by unfold oF; omega) h2 e8 (fun j hj => absurd hj (by omega))
      rw [Nat.add_zero] at g1
      refine ⟨_, g1, ⟨⟨?_, ?_, ?_⟩, fun q => ⟨?_, fun k hk => ?_⟩, fun q => ?_⟩, ?_⟩
      · rw [mI_sI, if_neg (by omega), mI_sI, if_neg (by omega), g4.1 81 4 (by omega)]; exact e4
      · rw [mI_sI, if_neg (by omega), mI_at, s3]
      · rw [mI_at, s5]
      · rw [mI_sI, if_neg (by omega), mI_sI, if_neg (by omega), g2]
        show oi m = oi (e - a)
        rw [s3, Nat.add_sub_cancel_left]
      · replace q : c = 2 := q
        replace hk : k < e - a := hk
        rw [s5] at q
        have hm : m ≤ 8 := by
          by_cases hm : m ≤ 8
          · exact hm
          · rw [if_neg hm] at q; cases q
        rw [mI_sI, if_neg (by omega), mI_sI, if_neg (by omega)]
        exact g3 k (by omega) (by omega)
      · replace q : c = 3 := q
        rw [s5] at q
        split at q <;> cases q
      · exact fr_I (fr_I (fr_tr hf2 (fr_mono (fun a j q => by unfold zP3; omega) (fun _ q => q) g4)) (Or.inl ⟨rfl, by omega, by omega⟩)) (Or.inl ⟨rfl, by omega, by omega⟩)
    · replace s1 : zdg (zch f L a) = true := s1
      replace s2 : zRun zdg (zch f L) a m := s2
      replace s3 : e = a + m := s3
      replace s4 : e ≤ L := s4
      replace s5 : c = if m ≤ 3 then 3 else 1 := s5
      rw [if_pos (by rw [b2_0]; exact (zdg_b _ hx s1).2.2.1), zdigr hx, obi_s, if_neg (by rw [b2_0, s1]; decide)]
      obtain ⟨τ', g1, g2, g4⟩ := zdig_go (by omega) s2 m 0 oF τ2 (by omega) (by unfold oF; omega) h2 e7
      rw [Nat.add_zero] at g1
      refine ⟨_, g1, ⟨⟨?_, ?_, ?_⟩, fun q => ?_, fun q => ?_⟩, ?_⟩
      · rw [mI_sI, if_neg (by omega), mI_sI, if_neg (by omega), g4.1 81 4 (by omega)]; exact e4
      · rw [mI_sI, if_neg (by omega), mI_at, s3]
      · rw [mI_at, s5]
      · replace q : c = 2 := q
        rw [s5] at q
        split at q <;> cases q
      · replace q : c = 3 := q
        rw [s5] at q
        have hm : m ≤ 3 := by
          by_cases hm : m ≤ 3
          · exact hm
          · rw [if_neg hm] at q; cases q
        rw [mI_sI, if_neg (by omega), mI_sI, if_neg (by omega), g2]
        show _ = oi (zdv (fun k => zch f L (a + k)) (e - a))
        rw [s3, Nat.add_sub_cancel_left, show min m 3 = m by omega]
      · exact fr_I (fr_I (fr_tr hf2 (fr_mono (fun a j q => by unfold zP3; omega) (fun _ q => q) g4)) (Or.inl ⟨rfl, by omega, by omega⟩)) (Or.inl ⟨rfl, by omega, by omega⟩)
    · replace s1 : zsm (zch f L a) = false := s1
      replace s2 : zdg (zch f L a) = false := s2
      replace s3 : e = a + 1 := s3
      replace s4 : c = if zsg (zch f L a) then zch f L a else 1 := s4
      obtain ⟨_, _, _, _, _, g1, g2, g3, g4, g5⟩ := zsgn _ hx
      rw [if_pos (by rw [b2_0]; exact s1), zdigr hx, obi_s, if_pos (by rw [b2_0]; exact s2), zsig4 _ _ g1 g2 g3 g4, oi_succ]
      have hc : (if zsg (zch f L a) = true then some (sI (sI τ2 81 5 (oi (a + 1))) 81 6 (zrb (zch f L a))) else some (sI (sI τ2 81 5 (oi (a + 1))) 81 6 1)) = some (sI (sI τ2 81 5 (oi e)) 81 6 (oi c)) := by
        rw [s3, s4]
        split
        · rename_i q; rw [g5 q]
        · rfl
      rw [hc]
      have hc23 : c ≠ 2 ∧ c ≠ 3 := by
        rw [s4]
        split
        · rename_i q; have := zsg_v q; omega
        · decide
      refine ⟨_, rfl, ⟨⟨?_, ?_, mI_at⟩, fun q => absurd q hc23.1, fun q => absurd q hc23.2⟩, fr_I (fr_I hf2 (Or.inl ⟨rfl, by omega, by omega⟩)) (Or.inl ⟨rfl, by omega, by omega⟩)⟩
      · rw [mI_sI, if_neg (by omega), mI_sI, if_neg (by omega)]; exact e4
      · rw [mI_sI, if_neg (by omega), mI_at]
/-- the reference steps on -/
theorem zpass {τ : OM} (h : zTR τ f L) {t : Tk} {p : Nat} (h5 : mI τ 81 5 = oi p) (ht : zTok (zch f L) L p t) : ∃ τ', fX10_pass τ = some τ' ∧ zRt τ' (zch f L) t ∧ Fr zP3 noL τ τ' := by
  have hL := h.1
  have t1 := ht.1
  have t2 := ht.2.1
  have go : ∀ d k n, k + d = t.2.1 → p ≤ k → d < n → fX10_pass_b5 n (oi k) τ = fX10_pass_b21 (oi t.2.1) τ := by
    intro d
    induction d with
    | zero =>
      intro k n hk hp hn
      obtain ⟨n, rfl⟩ : ∃ n', n = n' + 1 := ⟨n - 1, by omega⟩
      have hk2 : k = t.2.1 := by omega
      rw [fX10_pass_b5, zlook h (by omega), obi_s, if_neg, hk2]
      intro q
      have q2 := (zlc0 _ (zch_le' h k)).2.2.2.2.2.1.mpr q
      rw [hk2] at q2
      rcases ht.2.2.2 with ⟨r1, _⟩ | ⟨_, r2, _⟩
      · unfold zch at q2; rw [if_neg (by omega)] at q2; cases q2
      · exact r2 q2
    | succ d ih =>
      intro k n hk hp hn
      obtain ⟨n, rfl⟩ : ∃ n', n = n' + 1 := ⟨n - 1, by omega⟩
      rw [fX10_pass_b5, zlook h (by omega), obi_s, if_pos ((zlc0 _ (zch_le' h k)).2.2.2.2.2.1.mp (ht.2.2.1 k hp (by omega))), oi_succ]
      exact ih (k + 1) n (by omega) (by omega) (by omega)
  unfold fX10_pass
  rw [h5, go (t.2.1 - p) p oF (by omega) (Nat.le_refl _) (by unfold oF; omega)]
  exact zpass21 h ht
end
