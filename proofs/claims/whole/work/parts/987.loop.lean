/-! all lines, on both sides -/
section
variable {f : Nat → Nat} {L w : Nat}
theorem b61_stop (m : Nat) (x : Int32) (σ : OM) : fX5_read_b61 (m + 1) 0 x σ = fX5_read_b109 σ := by
  rw [fX5_read_b61]
  by_cases e : (900 : Int32) < x
  · rw [if_pos e]
  · rw [if_neg e, if_pos rfl]
theorem b61_go (m : Nat) {n : Nat} (hn : n ≤ 900) (σ : OM) : fX5_read_b61 (m + 1) 1 (oi n) σ = fX5_read_b84 (fX5_read_b61 m) (oi n) (b2 (decide (n = 0))) σ := by
  rw [fX5_read_b61, if_neg (show ¬ (900 : Int32) < oi n from fun q => absurd ((oi_lt (a := 900) (by omega) (by omega)).mp q) (by omega)), if_neg (show ¬ (1 : Int32) = 0 by decide)]
  by_cases e : n = 0
  · rw [if_pos (show oi n = 0 by rw [e]; rfl), decide_eq_true e]; rfl
  · rw [if_neg (show ¬ oi n = 0 from fun q => e ((oi_inj (b := 0) (by omega) (by omega)).mp q)), decide_eq_false e]; rfl
theorem b100_dead (m : Nat) {τ : OM} (h : mI τ 81 13 = 1) : fX10_well_b100 (m + 1) τ = fX10_well_b150 τ := by
  rw [fX10_well_b100, if_neg (by rw [h]; decide)]
  unfold fX10_well_b127
  rw [if_neg (by rw [h]; decide)]
theorem zct_fr {σ σ' : OM} {R R' : Nat → Int32} {n : Nat} (h : ∀ k, mI σ' 49 k = mI σ 49 k) (hR : R' = R) (q : zCt σ R n) : zCt σ' R' n := by
  subst hR
  refine ⟨fun j p e g => by rw [h]; exact q.1 j p e g, by rw [h]; exact q.2.1, ?_⟩
  obtain ⟨e, e1, e2⟩ := q.2.2
  exact ⟨e, e1, by rw [h]; exact e2⟩
def zFin (σ' τ' : OM) (w : Nat) (f : Nat → Nat) (L : Nat) : Prop := zDead σ' τ' ∨ ∃ t r i, zLv σ' τ' f L t r i ∧ zDD σ' w (mI τ' 85) (mL τ' 87) ∧ mI τ' 85 9 = 1
theorem zloop (hw : w = 1 ∨ w = 22) (hk : okd w = 8) : ∀ m m2 n (σ τ : OM) (t : Tk) (r : List Tk) (i : Nat), 902 ≤ m + n → 902 ≤ m2 + n → n ≤ i → mR σ 48 1 = w → zLv σ τ f L t r i → zDD σ w (mI τ 85) (mL τ 87) → zCt σ (mI τ 85) n → (mI τ 85 9 = if n = 0 then 0 else 1) → (n = 0 → ∀ k, 1 ≤ k → k ≤ 10 → mI τ 85 k = 0) → ∃ σ' τ', fX5_read_b61 m 1 (oi n) σ = fX5_read_b109 σ' ∧ obv (fX10_readLine τ) (fun σ5 => fX10_well_b100 m2 σ5) = fX10_well_b150 τ' ∧ (Fr (znP w) (zlQ w) σ σ' ∧ Fr zmP zmQ τ τ') ∧ zFin σ' τ' w f L := by
  intro m
  induction m with
  | zero => intro m2 n σ τ t r i hm hm2 hn h1 hlv; have := hlv.1.2.1.2.1.2.2; omega
  | succ m ih =>
    intro m2 n σ τ t r i hm hm2 hn h1 hlv hD hc h9 h0
    have hi := hlv.1.2.1.2.1.2.2
    obtain ⟨m', rfl⟩ : ∃ m', m = m' + 1 := ⟨m - 1, by omega⟩
    obtain ⟨m2', rfl⟩ : ∃ m', m2 = m' + 1 := ⟨m2 - 1, by omega⟩
    obtain ⟨b, σ1, τ1, a1, a2, ⟨a3, a4⟩, a5⟩ := zline hw h1 hk hlv hD hc h9 h0 (by omega)
    rw [b61_go _ (by omega), fX5_read_b84, a1, obi_s, a2, obv_s]
    rcases a5 with ⟨rfl, ⟨t1, r1, i1, c1, c2⟩, c3, c4, c5⟩ | ⟨rfl, c1⟩
    · rw [if_neg (show ¬ b2 true = 0 by decide)]
      have ho := zlv_ok c2
      have hkd : mI σ1 43 8 = zck (zch f L) t1 := c2.1.2.1.1.2.1
      have hp1 : mI σ1 43 9 = oi t1.2.1 := c2.1.2.1.1.2.2.1
      have hp2 : mI τ1 81 4 = oi t1.2.1 := c2.1.2.2.1.1.1
      have hp6 : mI τ1 81 6 = oi t1.1 := c2.1.2.2.1.1.2.2
      have ht9 : t1.1 < 100 := by have := ho.1; omega
      have hs0 := zck_sign ho (x := 0) (Or.inl rfl)
      have hs59 := zck_sign ho (x := 59) (Or.inr (Or.inl rfl))
      unfold fX5_goesOn
      rw [hkd, fX10_well_b100, if_pos c2.2.2, hp6]
      by_cases e0 : t1.1 = 0
      · rw [if_pos (show zck (zch f L) t1 = 0 from hs0.mpr e0), obi_s, if_pos rfl, b61_stop, e0, if_neg (show ¬ oi 0 = (59 : Int32) by decide)]
        unfold fX10_well_b127
        rw [if_pos c2.2.2, hp6, e0, if_pos (show oi 0 = (0 : Int32) from rfl)]
        exact ⟨σ1, τ1, rfl, rfl, ⟨a3, a4⟩, Or.inr ⟨t1, r1, i1, c2, c3, c5⟩⟩
      · rw [if_neg (show ¬ zck (zch f L) t1 = 0 from fun q => e0 (hs0.mp q))]
        by_cases e59 : t1.1 = 59
        · rw [if_pos (show zck (zch f L) t1 = 59 from hs59.mpr e59), e59, if_pos (show oi 59 = (59 : Int32) from rfl)]
          obtain ⟨t5, r5, σ5, τ5, g1, g2, g3, g4, g5, g6⟩ := zboth c2 (by omega)
          rw [g1, obv_s, obi_s, if_neg (show ¬ (1 : Int32) = 0 by decide), g2, obv_s, oi_succ]
          have hR5 : mI τ5 85 = mI τ1 85 := funext (fun k => g6.1 85 k (by unfold zP3; omega))
          have hZ5 : mL τ5 87 = mL τ1 87 := funext (fun k => g6.2.1 87 k (fun q => q))
          have hf5 := zP2k g5
          obtain ⟨σ', τ', k1, k2, ⟨k3, k4⟩, k5⟩ := ih m2' (n + 1) σ5 τ5 t5 r5 (i1 + 1) (by omega) (by omega) (by omega) (by rw [g5.2.2, a3.2.2]; exact h1) g3 (by
            rw [hZ5, hR5]
            exact zdd_fr (fun a j p q => hf5.1 a j (by unfold zkP; omega)) (fun a j p q => hf5.2.1 a j (by unfold zkQ; omega)) (hf5.1 48 8 (by unfold zkP; omega)) (fun j => hf5.2.1 50 j (by unfold zkQ; omega)) (fun j => hf5.1 51 j (by unfold zkP; omega)) (fun j => hf5.1 52 j (by unfold zkP; omega)) c3) (zct_fr (fun k => hf5.1 49 k (by unfold zkP; omega)) hR5 c4) (by rw [hR5, if_neg (by omega)]; exact c5) (fun q => by omega)
          exact ⟨σ', τ', k1, k2, ⟨fr_tr a3 (fr_tr (zl_n (zk_l w hf5)) k3), fr_tr a4 (fr_tr (zr_m (zP3r g6)) k4)⟩, k5⟩
        · rw [if_neg (show ¬ zck (zch f L) t1 = 59 from fun q => e59 (hs59.mp q)), if_neg (show ¬ oi t1.1 = (59 : Int32) from fun q => e59 ((oi_inj (b := 59) (by omega) (by omega)).mp q)), zfail c2.2.1, obi_s, ogd_t (show oisb 0 = true from rfl), obi_s, if_pos rfl, b61_stop]
          unfold fX10_well_b127
          rw [if_pos c2.2.2, hp6, if_neg (show ¬ oi t1.1 = (0 : Int32) from fun q => e0 ((oi_inj (b := 0) (by omega) (by omega)).mp q)), zwrong c2.2.2, obv_s, hp1, hp2]
          exact ⟨_, _, rfl, rfl, ⟨fr_tr a3 (zl_n (zk_l w (zfl_fr _ _ _))), fr_tr a4 (zr_m (zwr_fr _ _ _))⟩, Or.inl (zdead_mk _ _ (by decide) _)⟩
    · rw [if_pos (show b2 false = 0 from rfl), b61_stop, b100_dead _ c1.2.2.2]
      exact ⟨σ1, τ1, rfl, rfl, ⟨a3, a4⟩, Or.inl c1⟩
/-- the end of the text: what is missing -/
theorem zends {σ τ : OM} (hw : w = 1 ∨ w = 22) (hk : okd w = 8) (h1 : mR σ 48 1 = w) (h : zFin σ τ w f L) : ∃ σ' τ', fX10_well_b150 τ = fX10_well_b195 τ' ∧ (Fr (znP w) (zlQ w) σ σ' ∧ Fr zmP zmQ τ τ') ∧ ((zDead σ' τ' ∧ fX5_read_b109 σ = some σ') ∨ (mI σ' 48 2 = 0 ∧ (mI τ' 81 13 = 0 ∧ mI τ' 81 9 = 0) ∧ fX5_read_b109 σ = obv (fX8_close w σ') (fun σ9 => some σ9) ∧ zDD σ' w (mI τ' 85) (mL τ' 87) ∧ 1 ≤ nn (mI τ' 85 1) ∧ 1 ≤ nn (mI τ' 85 3))) := by
  unfold fX10_well_b150 fX5_read_b109
  rcases h with h | ⟨t, r, i, hlv, hD, h9⟩
  · rw [if_neg (by rw [h.2.2.2]; decide), if_neg h.1, if_neg h.1]
    exact ⟨σ, τ, rfl, ⟨fr_rfl _ _ _, fr_rfl _ _ _⟩, Or.inl ⟨h, rfl⟩⟩
  · have hp1 : mI σ 43 9 = oi t.2.1 := hlv.1.2.1.1.2.2.1
    have hp2 : mI τ 81 4 = oi t.2.1 := hlv.1.2.2.1.1.1
    have hF : mI σ (w + 1) 0 = mI τ 85 1 := hD.2.1.1
    have hH : mI σ w 4 = mI τ 85 3 := hD.2.2.2.2.2.1.1.1
    have h139 : fX5_read_b139 σ = some (zfl σ 6 (oi t.2.1)) := by
      unfold fX5_read_b139
      rw [hp1, zfail hlv.2.1, obi_s, if_neg (by rw [zfl_2]; decide)]
    have hdd : (Fr (znP w) (zlQ w) σ (zfl σ 6 (oi t.2.1)) ∧ Fr zmP zmQ τ (zwr τ 6 (oi t.2.1))) := ⟨zl_n (zk_l w (zfl_fr _ _ _)), zr_m (zwr_fr _ _ _)⟩
    have nz : ∀ x : Int32, x = oi (nn x) → ¬ x = 0 → 1 ≤ nn x := fun x e q => by
      have : nn x ≠ 0 := fun g => q (by rw [e, g]; rfl)
      omega
    rw [if_pos hlv.2.2, h9, if_neg (show ¬ (1 : Int32) = 0 by decide), if_pos hlv.2.1, h1, ogd_d hk, ogd_d hk, h139, zwrong hlv.2.2, obv_s, hp2, hF, hH, if_pos hlv.2.1, ogd_d hk]
    by_cases e1 : mI τ 85 1 = 0
    · rw [if_pos e1, if_pos e1]
      exact ⟨_, _, rfl, hdd, Or.inl ⟨zdead_mk _ _ (by decide) _, rfl⟩⟩
    · rw [if_neg e1, if_neg e1]
      by_cases e3 : mI τ 85 3 = 0
      · rw [if_pos e3, if_pos e3]
        exact ⟨_, _, rfl, hdd, Or.inl ⟨zdead_mk _ _ (by decide) _, rfl⟩⟩
      · rw [if_neg e3, if_neg e3]
        exact ⟨σ, τ, rfl, ⟨fr_rfl _ _ _, fr_rfl _ _ _⟩, Or.inr ⟨hlv.2.1, ⟨hlv.2.2, hlv.1.2.2.2.2⟩, rfl, hD, nz _ hD.1.1.1.1.1 e1, nz _ hD.1.1.1.2.2.1.1 e3⟩⟩
end
