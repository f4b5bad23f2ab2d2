/-! lines: well, fact -/
def zlP (w : Nat) : Nat → Nat → Prop := fun a j => zfP a j ∨ (a = 48 ∧ j = 8) ∨ a = 51 ∨ a = 52 ∨ (w ≤ a ∧ a ≤ w + 20)
def zlQ (w : Nat) : Nat → Prop := fun a => zfQ a ∨ a = 50 ∨ (w ≤ a ∧ a ≤ w + 20)
def zmP : Nat → Nat → Prop := fun a j => zgP a j ∨ a = 85
def zmQ : Nat → Prop := fun a => a = 87
def zRs (w : Nat) (f : Nat → Nat) (L i : Nat) (b : Bool) (σ σ' τ τ' : OM) (P : Prop) : Prop := (Fr (zlP w) (zlQ w) σ σ' ∧ Fr zmP zmQ τ τ') ∧ ((b = true ∧ zGo σ' τ' f L i ∧ zDD σ' w (mI τ' 85) (mL τ' 87) ∧ P) ∨ (b = false ∧ zDead σ' τ'))
theorem zk_l {σ σ' : OM} (w : Nat) (h : Fr zkP zkQ σ σ') : Fr (zlP w) (zlQ w) σ σ' := fr_mono (fun a j q => Or.inl (Or.inl q)) (fun a q => Or.inl (Or.inl q)) h
theorem zr_m {τ τ' : OM} (h : Fr zrP noL τ τ') : Fr zmP zmQ τ τ' := fr_mono (fun a j q => Or.inl (Or.inl q)) (fun a q => q.elim) h
theorem zf_l {σ σ' : OM} (w : Nat) (h : Fr zfP zfQ σ σ') : Fr (zlP w) (zlQ w) σ σ' := fr_mono (fun a j q => Or.inl q) (fun a q => Or.inl q) h
theorem zg_m {τ τ' : OM} (h : Fr zgP noL τ τ') : Fr zmP zmQ τ τ' := fr_mono (fun a j q => Or.inl q) (fun a q => q.elim) h
theorem zc_l {σ σ' : OM} (w : Nat) (h : Fr zcP zcQ σ σ') : Fr (zlP w) (zlQ w) σ σ' := fr_mono (fun a j q => q.elim (fun q => Or.inl (Or.inl q)) (fun q => Or.inr (by omega))) (fun a q => by unfold zcQ at q; unfold zlQ zfQ; omega) h
section
variable {σ τ : OM} {f : Nat → Nat} {L i w : Nat} {t : Tk} {r : List Tk}
/-- a change outside what the readers look at keeps them -/
theorem zgo_fr {σ' τ' : OM} {j : Nat} (h : zGo σ τ f L j) (h43 : ∀ a j, 43 ≤ a → a ≤ 47 → mI σ' a j = mI σ a j) (hL : ∀ a j, 43 ≤ a → a ≤ 47 → mL σ' a j = mL σ a j) (h48 : mI σ' 48 2 = mI σ 48 2) (h81 : ∀ j, 3 ≤ j → j ≤ 9 → mI τ' 81 j = mI τ 81 j) (h82 : ∀ j, mI τ' 82 j = mI τ 82 j) (h83 : ∀ j, mI τ' 83 j = mI τ 83 j) (h13 : mI τ' 81 13 = mI τ 81 13) : zGo σ' τ' f L j := by
  obtain ⟨t, r, k, h1, h2⟩ := h
  exact ⟨t, r, k, h1, zlv_fr h2 h43 hL h48 h81 h82 h83 h13⟩
theorem zgo_13 {j : Nat} (h : zGo σ τ f L j) : mI σ 48 2 = 0 ∧ mI τ 81 13 = 0 := by
  obtain ⟨t, r, k, h1, h2⟩ := h
  exact ⟨h2.2.1, h2.2.2⟩
def rWell (τ : OM) : Option OM := obi (fX10_after 1 (0 : Int32) (999 : Int32) τ) (fun r4 σ5 => if (mI (sI σ5 85 0 r4) 81 13) = 0 then some (sI (sI σ5 85 0 r4) 85 9 (1 : Int32)) else some (sI σ5 85 0 r4))
theorem ln_well (hw : w = 1 ∨ w = 22) (h1 : mR σ 48 1 = w) (hk : okd w = 8) (hlv : zLv σ τ f L t r i) (hD : zDD σ w (mI τ 85) (mL τ 87)) : ∃ b σ' τ', fX5_readWell σ = some (b2 b, σ') ∧ rWell τ = some τ' ∧ zRs w f L (i + 1) b σ σ' τ τ' ((∀ k, 1 ≤ k → k ≤ 10 → k ≠ 9 → mI τ' 85 k = mI τ 85 k) ∧ mI τ' 85 9 = 1) := by
  unfold fX5_readWell rWell
  rw [show (7237495 : Int64) = ol (zwv (zsN 1) (zsL 1)) from zkw_v.1]
  obtain ⟨σ1, τ1, rv, ⟨k1, k2⟩, k3, k4⟩ := zafter hlv (s := 1) (by decide) (by rw [← zkw_v.1]; exact zkw_n.1) (lo := 0) (hi := 999) (by decide) (by decide)
  rw [show fX10_after 1 (0 : Int32) (999 : Int32) τ = fX10_after 1 (oi 0) (oi 999) τ from rfl, k3, obi_s]
  rcases k4 with ⟨v, σ2, v1, v2, v3, v4, v5, v6, v7⟩ | ⟨d1, d2⟩
  · rw [v4, obi_s, if_neg (by decide), v5.2.2, h1, ogd_d hk, show fX5_takeWhole (0 : Int32) (999 : Int32) σ2 = fX5_takeWhole (oi 0) (oi 999) σ2 from rfl, v6, obi_s, v3]
    have a1 : mI (sI σ1 (w + 5) 6 (oi v)) 48 2 = 0 := by rw [mI_sI, if_neg (by omega)]; exact (zgo_13 v7).1
    have a2 : mI (sI τ1 85 0 (oi v)) 81 13 = 0 := by rw [mI_sI, if_neg (by omega)]; exact (zgo_13 v7).2
    rw [if_pos a1, if_pos a2]
    have hrow : ∀ j, mI (sI (sI τ1 85 0 (oi v)) 85 9 1) 85 j = if j = 9 then 1 else if j = 0 then oi v else mI τ 85 j := fun j => by
      rw [mI_sI]
      by_cases e9 : j = 9
      · rw [if_pos ⟨rfl, e9⟩, if_pos e9]
      · rw [if_neg (fun q => e9 q.2), if_neg e9, mI_sI]
        by_cases e0 : j = 0
        · rw [if_pos ⟨rfl, e0⟩, if_pos e0]
        · rw [if_neg (fun q => e0 q.2), if_neg e0]; exact k2.1 85 j (by unfold zrP; omega)
    have hZ : mL (sI (sI τ1 85 0 (oi v)) 85 9 1) 87 = mL τ 87 := funext (fun j => k2.2.1 87 j (fun q => q))
    have hro : ∀ j, j ≠ 9 → j ≠ 0 → mI (sI (sI τ1 85 0 (oi v)) 85 9 1) 85 j = mI τ 85 j := fun j p q => by rw [hrow, if_neg p, if_neg q]
    have hIo : ∀ a j, w ≤ a → a ≤ w + 20 → ¬ (a = w + 5 ∧ j = 6) → mI (sI σ1 (w + 5) 6 (oi v)) a j = mI σ a j := fun a j p q e => by rw [mI_sI, if_neg e]; exact k1.1 a j (by unfold zkP; omega)
    have hLo : ∀ a j, w ≤ a → a ≤ w + 20 → mL (sI σ1 (w + 5) 6 (oi v)) a j = mL σ a j := fun a j p q => k1.2.1 a j (by unfold zkQ; omega)
    refine ⟨true, _, _, rfl, rfl, ⟨fr_I (zk_l w k1) (Or.inr (Or.inr (Or.inr (Or.inr ⟨by omega, by omega⟩)))), fr_I (fr_I (zr_m k2) (Or.inr rfl)) (Or.inr rfl)⟩, Or.inl ⟨rfl, ?_, ?_, fun k p q e => hro k e (by omega), by rw [hrow, if_pos rfl]⟩⟩
    · exact zgo_fr v7 (fun a j p q => by rw [mI_sI, if_neg (by omega)]) (fun a j p q => rfl) (by rw [mI_sI, if_neg (by omega)]) (fun j p q => by rw [mI_sI, if_neg (by omega), mI_sI, if_neg (by omega)]) (fun j => by rw [mI_sI, if_neg (by omega), mI_sI, if_neg (by omega)]) (fun j => by rw [mI_sI, if_neg (by omega), mI_sI, if_neg (by omega)]) (by rw [mI_sI, if_neg (by omega), mI_sI, if_neg (by omega)])
    · rw [hZ]
      obtain ⟨⟨b1, b2'⟩, b3, b4, b5, b6, b7, b8⟩ := hD
      have n8 : mI (sI σ1 (w + 5) 6 (oi v)) 48 8 = mI σ 48 8 := by rw [mI_sI, if_neg (by omega)]; exact k1.1 48 8 (by unfold zkP; omega)
      refine ⟨⟨zdb_c (fun j p q => hro j (by omega) (by omega)) b1, zdn_c (fun j p q => hro j (by omega) (by omega)) (hro 1 (by omega) (by omega)) (hro 3 (by omega) (by omega)) (hro 5 (by omega) (by omega)) n8 (fun j => k1.2.1 50 j (by unfold zkQ; omega)) (fun j => by rw [mI_sI, if_neg (by omega)]; exact k1.1 51 j (by unfold zkP; omega)) (fun j => by rw [mI_sI, if_neg (by omega)]; exact k1.1 52 j (by unfold zkP; omega)) b2'⟩, zdf_c (hro 1 (by omega) (by omega)) (fun j p q => hro j (by omega) (by omega)) b1.1.1.2 (hIo _ _ (by omega) (by omega) (by omega)) (fun j => hIo _ _ (by omega) (by omega) (by omega)) b3, zdl_c (hro 1 (by omega) (by omega)) (hro 2 (by omega) (by omega)) (hro 10 (by omega) (by omega)) rfl (hIo _ _ (by omega) (by omega) (by omega)) (hLo _ _ (by omega) (by omega)) (hIo _ _ (by omega) (by omega) (by omega)) (hIo _ _ (by omega) (by omega) (by omega)) b4, zdq_c (hro 1 (by omega) (by omega)) (hro 5 (by omega) (by omega)) (fun _ _ => rfl) (hIo _ _ (by omega) (by omega) (by omega)) (fun j => hLo _ _ (by omega) (by omega)) b5, zds_c (hro 7 (by omega) (by omega)) (fun j p q => hro j (by omega) (by omega)) b1.2.2.2.1.2 (hIo _ _ (by omega) (by omega) (by omega)) (hIo _ _ (by omega) (by omega) (by omega)) b6, zdh_c (hro 3 (by omega) (by omega)) (hro 4 (by omega) (by omega)) (fun j p q => hro j (by omega) (by omega)) b1.1.2.2.1.2 b1.1.2.2.2.2 (hIo _ _ (by omega) (by omega) (by omega)) (hIo _ _ (by omega) (by omega) (by omega)) (fun k j hk => hIo _ _ (by omega) (by omega) (by omega)) b7, ?_⟩
      obtain ⟨⟨c1, c2, c3, c4, c5⟩, ⟨d1, d2, d3, d4, d5⟩, e⟩ := b8
      have hs : ∀ j, 1 ≤ j → zsv (mI (sI (sI τ1 85 0 (oi v)) 85 9 1) 85) j = zsv (mI τ 85) j := fun j hj => by
        unfold zsv
        rw [if_neg (show ¬ j = 0 by omega), if_neg (show ¬ j = 0 by omega), hro 6 (by omega) (by omega)]
        by_cases e1 : j = 1
        · rw [if_pos e1, if_pos e1]
        · rw [if_neg e1, if_neg e1, hro (51 + j) (by omega) (by omega), hro (31 + j) (by omega) (by omega)]
      have hs0 : zsv (mI (sI (sI τ1 85 0 (oi v)) 85 9 1) 85) 0 = oi v := by
        show mI (sI (sI τ1 85 0 (oi v)) 85 9 1) 85 0 = oi v
        rw [hrow, if_neg (by omega), if_pos rfl]
      have hsW : sWd (zsv (mI (sI (sI τ1 85 0 (oi v)) 85 9 1) 85)) = sWd (zsv (mI τ 85)) := sWd_ext (fun i hi => hs (62 + i) (by omega))
      refine ⟨⟨by rw [hs0]; exact bd_of v2 (by omega), by rw [hs 1 (by omega)]; exact c2, fun k hk => ?_, fun i hi j => ?_, fun i hi j hj => ?_⟩, ⟨?_, ?_, fun k hk => ?_, fun i hi => ?_, ?_⟩, ?_⟩
      · rw [hs 1 (by omega)] at hk
        rw [hs (2 + 3 * k) (by omega), hs (3 + 3 * k) (by omega), hs (4 + 3 * k) (by omega), hro 3 (by omega) (by omega), hro 5 (by omega) (by omega)]; exact c3 k hk
      · rw [hs (62 + i) (by omega), hro 3 (by omega) (by omega)]; exact c4 i hi j
      · rw [hs (62 + i) (by omega), hs (62 + j) (by omega)]; exact c5 i hi j hj
      · rw [hs 1 (by omega), hIo _ _ (by omega) (by omega) (by omega)]; exact d1
      · rw [hs0, mI_at]
      · rw [hs 1 (by omega)] at hk
        rw [hs (2 + 3 * k) (by omega), hs (3 + 3 * k) (by omega), hs (4 + 3 * k) (by omega), hIo _ _ (by omega) (by omega) (by omega), hIo _ _ (by omega) (by omega) (by omega), hIo _ _ (by omega) (by omega) (by omega)]; exact d3 k hk
      · rw [hs (62 + i) (by omega), hIo _ _ (by omega) (by omega) (by omega)]; exact d4 i hi
      · rw [hsW, hIo _ _ (by omega) (by omega) (by omega)]; exact d5
      · rw [hsW, hro 8 (by omega) (by omega)]; exact e
  · have hr13 := d1.2.2.2
    have a2 : ¬ mI (sI τ1 85 0 rv) 81 13 = 0 := by rw [mI_sI, if_neg (by omega), hr13]; decide
    rw [if_neg a2]
    have hfr : Fr zmP zmQ τ (sI τ1 85 0 rv) := fr_I (zr_m k2) (Or.inr rfl)
    rcases d2 with d2 | ⟨σ2, d2, d3, d4⟩
    · rw [d2, obi_s, if_pos rfl]
      exact ⟨false, _, _, rfl, rfl, ⟨zk_l w k1, hfr⟩, Or.inr ⟨rfl, zdead_fr rfl rfl (by rw [mI_sI, if_neg (by omega)]) (by rw [mI_sI, if_neg (by omega)]) (by rw [mI_sI, if_neg (by omega)]) d1⟩⟩
    · rw [d3, obi_s, if_neg (by decide), d2.2.2, h1, ogd_d hk, show fX5_takeWhole (0 : Int32) (999 : Int32) σ2 = fX5_takeWhole (oi 0) (oi 999) σ2 from rfl, d4, obi_s]
      have a1 : ¬ mI (sI σ1 (w + 5) 6 (-1)) 48 2 = 0 := by rw [mI_sI, if_neg (by omega)]; exact d1.1
      rw [if_neg a1]
      exact ⟨false, _, _, rfl, rfl, ⟨fr_I (zk_l w k1) (Or.inr (Or.inr (Or.inr (Or.inr ⟨by omega, by omega⟩)))), hfr⟩, Or.inr ⟨rfl, zdead_fr (by rw [mI_sI, if_neg (by omega)]) (by rw [mI_sI, if_neg (by omega)]) (by rw [mI_sI, if_neg (by omega)]) (by rw [mI_sI, if_neg (by omega)]) (by rw [mI_sI, if_neg (by omega)]) d1⟩⟩
end
