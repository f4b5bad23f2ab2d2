/-! lines: truth -/
section
variable {f : Nat → Nat} {L w K F : Nat}
theorem oi_or {T s : Nat} (hT : T < 64) (hs : s < 6) : oi T ||| (1 : Int32) <<< (oi s &&& 31) = oi (T ||| 2 ^ s) := by
  have h : ∀ T, T < 64 → ∀ s, s < 6 → oi T ||| (1 : Int32) <<< (oi s &&& 31) = oi (T ||| 2 ^ s) := by decide +kernel
  exact h T hT s hs
def ztP (w : Nat) : Nat → Nat → Prop := fun a j => zkP a j ∨ (a = w + 1 ∧ j = 5)
theorem ztr_go (hw : w = 1 ∨ w = 22) (hk : okd w = 8) (hF6 : F ≤ 6) (x0 : Int32) : ∀ d n k (σ τ : OM) t r i T, cnt T.testBit 6 + d = 6 → d + 1 < n → d + 1 < k → mR σ 48 1 = w → zLv σ τ f L t r i → zNM σ (mI τ 85) K → (∀ s, s < 6 → 1 ≤ zSm (mI τ 85) s → s < F) → mI σ (w + 1) 5 = oi T → T < 2 ^ F → ∃ b σ', fX5_readTruthNames_b2 n (oi (cnt T.testBit 6)) σ = some (b2 b, σ') ∧ Fr (ztP w) zkQ σ σ' ∧ ((b = true ∧ ∃ T' τ', T' < 2 ^ F ∧ mI σ' (w + 1) 5 = oi T' ∧ fX10_truthLine_b68 k x0 (oi T) 1 τ = fX10_truthLine_b134 x0 (oi T') τ' ∧ zGo σ' τ' f L (i + 1) ∧ Fr zrP noL τ τ') ∨ (b = false ∧ ∃ τ', fX10_truthLine_b68 k x0 (oi T) 1 τ = some τ' ∧ zDead σ' τ' ∧ Fr zrP noL τ τ')) := by
  intro d
  induction d with
  | zero =>
    intro n k σ τ t r i T hd hn hk2 h1 hlv hNM hF h5 hT
    have h64 : T < 64 := Nat.lt_of_lt_of_le hT (Nat.pow_le_pow_right (n := 2) (by decide) hF6)
    obtain ⟨n, rfl⟩ : ∃ k', n = k' + 1 := ⟨n - 1, by omega⟩
    obtain ⟨k, rfl⟩ : ∃ k', k = k' + 1 := ⟨k - 1, by omega⟩
    rw [fX5_readTruthNames_b2, show (6 : Int32) = oi 6 from rfl, if_neg (by rw [oi_lt (by omega) (by omega)]; omega), fX10_truthLine_b68, if_neg (by decide)]
    rcases znamed hlv hNM (y := 1) (lo := 0) (hi := 5) (Or.inl ⟨rfl, rfl, rfl⟩) with ⟨s, a1, a2, a3, a4, a5, a6⟩ | ⟨c, c1, c2, c3⟩
    · obtain ⟨t1, r1, σ1, τ1, g1, g2, g3, g4, g5, g6⟩ := zboth hlv (by omega)
      have hC : fX5_takeName 1 σ = some (oi s, σ1) := a6 σ1 g1 (fun j => g5.1 52 j (by unfold zP2; omega))
      have hm : mR σ1 48 1 = w := by rw [g5.2.2]; exact h1
      have e5 : mI σ1 (w + 1) 5 = oi T := by rw [g5.1 (w + 1) 5 (by unfold zP2; omega)]; exact h5
      have hbit : T.testBit s = true := by
        have h2 : ∀ T, T < 64 → cnt T.testBit 6 = 6 → ∀ s, s < 6 → T.testBit s = true := by decide +kernel
        exact h2 T h64 (by omega) s (by omega)
      rw [hC, obi_s, if_pos (show (0 : Int32) ≤ oi s from (oi_le (a := 0) (by omega) (by omega)).mpr (by omega)), hm, ogd_d hk, e5, bitOfW_eq _ (by omega), obi_s, tw_oi _ _ (by omega), hbit, if_pos (by rfl)]
      unfold fX5_readTruthNames_b47
      rw [hlv.1.2.1.1.2.2.1, zfail (by rw [g5.1 48 2 (by unfold zP2; omega)]; exact hlv.2.1), obi_s]
      rw [show fX10_named 0 5 τ = fX10_named (oi 0) (oi 5) τ from rfl, a5, obi_s, if_pos hlv.2.2, Nat.sub_zero, hasBit_eq _ (by omega), obi_s, tw_oi _ _ (by omega), hbit, if_neg (by decide), hlv.1.2.2.1.1.1, zwrong hlv.2.2, obv_s]
      unfold fX10_truthLine_b105
      rw [zwr_13, if_neg (by decide)]
      exact ⟨false, _, rfl, fr_mono (fun a j q => Or.inl q) (fun a q => q) (fr_tr (zP2k g5) (zfl_fr _ _ _)), Or.inr ⟨rfl, _, rfl, zdead_mk _ _ (by decide) _, zwr_fr _ _ _⟩⟩
    · rw [show fX5_takeName 1 σ = fX5_takeName (oi 1) σ from rfl, c3, obi_s, if_neg (by decide), show fX10_named 0 5 τ = fX10_named (oi 0) (oi 5) τ from rfl, c2, obi_s, zwr_13, if_neg (by decide)]
      unfold fX10_truthLine_b105
      rw [zwr_13, if_neg (by decide)]
      exact ⟨false, _, rfl, fr_mono (fun a j q => Or.inl q) (fun a q => q) (zfl_fr _ _ _), Or.inr ⟨rfl, _, rfl, zdead_mk _ _ c1 _, zwr_fr _ _ _⟩⟩
  | succ d ih =>
    intro n k σ τ t r i T hd hn hk2 h1 hlv hNM hF h5 hT
    have h64 : T < 64 := Nat.lt_of_lt_of_le hT (Nat.pow_le_pow_right (n := 2) (by decide) hF6)
    obtain ⟨n, rfl⟩ : ∃ k', n = k' + 1 := ⟨n - 1, by omega⟩
    obtain ⟨k, rfl⟩ : ∃ k', k = k' + 1 := ⟨k - 1, by omega⟩
    rw [fX5_readTruthNames_b2, show (6 : Int32) = oi 6 from rfl, if_neg (by rw [oi_lt (by omega) (by omega)]; omega), fX10_truthLine_b68, if_neg (by decide)]
    rcases znamed hlv hNM (y := 1) (lo := 0) (hi := 5) (Or.inl ⟨rfl, rfl, rfl⟩) with ⟨s, a1, a2, a3, a4, a5, a6⟩ | ⟨c, c1, c2, c3⟩
    · obtain ⟨t1, r1, σ1, τ1, g1, g2, g3, g4, g5, g6⟩ := zboth hlv (by omega)
      have hC : fX5_takeName 1 σ = some (oi s, σ1) := a6 σ1 g1 (fun j => g5.1 52 j (by unfold zP2; omega))
      have hm : mR σ1 48 1 = w := by rw [g5.2.2]; exact h1
      have e5 : mI σ1 (w + 1) 5 = oi T := by rw [g5.1 (w + 1) 5 (by unfold zP2; omega)]; exact h5
      rw [hC, obi_s, if_pos (show (0 : Int32) ≤ oi s from (oi_le (a := 0) (by omega) (by omega)).mpr (by omega)), hm, ogd_d hk, e5, bitOfW_eq _ (by omega), obi_s, tw_oi _ _ (by omega)]
      rw [show fX10_named 0 5 τ = fX10_named (oi 0) (oi 5) τ from rfl, a5, obi_s, if_pos hlv.2.2, Nat.sub_zero, hasBit_eq _ (by omega), obi_s, tw_oi _ _ (by omega)]
      cases hbit : T.testBit s with
      | true =>
        rw [if_pos (by rfl), if_neg (by decide)]
        unfold fX5_readTruthNames_b47
        rw [hlv.1.2.1.1.2.2.1, zfail (by rw [g5.1 48 2 (by unfold zP2; omega)]; exact hlv.2.1), obi_s, hlv.1.2.2.1.1.1, zwrong hlv.2.2, obv_s]
        unfold fX10_truthLine_b105
        rw [zwr_13, if_neg (by decide)]
        exact ⟨false, _, rfl, fr_mono (fun a j q => Or.inl q) (fun a q => q) (fr_tr (zP2k g5) (zfl_fr _ _ _)), Or.inr ⟨rfl, _, rfl, zdead_mk _ _ (by decide) _, zwr_fr _ _ _⟩⟩
      | false =>
        rw [if_neg (show ¬ b2 false = 1 by decide), if_pos (show b2 false = 0 from rfl), hm, ogd_d hk, e5, oi_or h64 (by omega)]
        unfold fX10_truthLine_b105
        rw [if_pos hlv.2.2, g2, obv_s, oi_or h64 (by omega)]
        have hsF : s < F := hF s (by omega) a3
        have hT2 : T ||| 2 ^ s < 2 ^ F := Nat.or_lt_two_pow hT (Nat.pow_lt_pow_right (by decide) hsF)
        have hcn : cnt (T ||| 2 ^ s).testBit 6 = cnt T.testBit 6 + 1 := cnt_upd (i := s) (by omega) (by rw [Nat.testBit_or, Nat.testBit_two_pow_self, Bool.or_true]) hbit (fun k hk hne => by rw [Nat.testBit_or, Nat.testBit_two_pow_of_ne (Ne.symm hne), Bool.or_false])
        have hfa : Fr (ztP w) zkQ σ (sI σ1 (w + 1) 5 (oi (T ||| 2 ^ s))) := fr_I (fr_mono (fun a j q => Or.inl q) (fun a q => q) (zP2k g5)) (Or.inr ⟨rfl, rfl⟩)
        have hlva : zLv (sI σ1 (w + 1) 5 (oi (T ||| 2 ^ s))) τ1 f L t1 r1 (i + 1) := zlv_fr g3 (fun a j p q => by rw [mI_sI, if_neg (by omega)]) (fun a j p q => rfl) (by rw [mI_sI, if_neg (by omega)]) (fun _ _ _ => rfl) (fun _ => rfl) (fun _ => rfl) rfl
        have ea5 : mI (sI σ1 (w + 1) 5 (oi (T ||| 2 ^ s))) (w + 1) 5 = oi (T ||| 2 ^ s) := mI_at
        have hma : mR (sI σ1 (w + 1) 5 (oi (T ||| 2 ^ s))) 48 1 = w := hm
        generalize (sI σ1 (w + 1) 5 (oi (T ||| 2 ^ s))) = σ2 at hfa hlva ea5 hma ⊢
        have ho := zlv_ok hlva
        have h85 : mI τ1 85 = mI τ 85 := zrow_g g6 (fun j => by unfold zP3; omega)
        have hNM2 : zNM σ2 (mI τ1 85) K := by
          rw [h85]
          exact znm_fr (hfa.1 48 8 (by unfold ztP zkP; omega)) (fun j => hfa.2.1 50 j (by unfold zkQ; omega)) (fun j => hfa.1 51 j (by unfold ztP zkP; omega)) (fun j => hfa.1 52 j (by unfold ztP zkP; omega)) hNM
        unfold fX10_takesSign
        rw [if_pos hlva.2.2, hlva.1.2.2.1.1.2.2, hlva.1.2.1.1.2.1]
        by_cases e44 : t1.1 = 44
        · obtain ⟨t2, r2, σ3, τ3, q1, q2, q3, q4, q5, q6⟩ := zboth hlva (by omega)
          rw [if_pos (show zck (zch f L) t1 = 44 from (zck_sign ho (x := 44) (by decide)).mpr e44), q1, obv_s, e44, if_pos (by rfl), q2, obv_s, obi_s, oi_succ, ← hcn]
          have h853 : mI τ3 85 = mI τ 85 := (zrow_g q6 (fun j => by unfold zP3; omega)).trans h85
          obtain ⟨b, σ', y1, y2, y3⟩ := ih n k σ3 τ3 t2 r2 (i + 1 + 1) (T ||| 2 ^ s) (by omega) (by omega) (by omega) (by rw [q5.2.2]; exact hma) q3 (by rw [show mI τ3 85 = mI τ1 85 from zrow_g q6 (fun j => by unfold zP3; omega)]; exact znm_f (zP2f q5) hNM2) (by rw [h853]; exact hF) (by rw [q5.1 (w + 1) 5 (by unfold zP2; omega)]; exact ea5) hT2
          refine ⟨b, σ', y1, fr_tr hfa (fr_tr (fr_mono (fun a j q => Or.inl q) (fun a q => q) (zP2k q5)) y2), ?_⟩
          have hfr : Fr zrP noL τ τ3 := fr_tr (zP3r g6) (zP3r q6)
          rcases y3 with ⟨z1, T', τ', z2, z3, z4, z5, z6⟩ | ⟨z1, τ', z2, z3, z4⟩
          · exact Or.inl ⟨z1, T', τ', z2, z3, z4, zgo_lt z5 (by omega), fr_tr hfr z6⟩
          · exact Or.inr ⟨z1, τ', z2, z3, fr_tr hfr z4⟩
        · obtain ⟨k, rfl⟩ : ∃ k', k = k' + 1 := ⟨k - 1, by omega⟩
          rw [if_neg (show ¬ zck (zch f L) t1 = 44 from fun q => e44 ((zck_sign ho (x := 44) (by decide)).mp q)), if_neg (by rw [show (44 : Int32) = oi 44 from rfl, oi_inj (by have := ho.1; omega) (by omega)]; exact e44), obi_s, fX10_truthLine_b68, if_pos rfl]
          exact ⟨true, σ2, rfl, hfa, Or.inl ⟨rfl, _, τ1, hT2, ea5, rfl, ⟨t1, r1, i + 1, Nat.le_refl _, hlva⟩, zP3r g6⟩⟩
    · rw [show fX5_takeName 1 σ = fX5_takeName (oi 1) σ from rfl, c3, obi_s, if_neg (by decide), show fX10_named 0 5 τ = fX10_named (oi 0) (oi 5) τ from rfl, c2, obi_s, zwr_13, if_neg (by decide)]
      unfold fX10_truthLine_b105
      rw [zwr_13, if_neg (by decide)]
      exact ⟨false, _, rfl, fr_mono (fun a j q => Or.inl q) (fun a q => q) (zfl_fr _ _ _), Or.inr ⟨rfl, _, rfl, zdead_mk _ _ c1 _, zwr_fr _ _ _⟩⟩
end
