/-! a line, on both sides -/
def zcx (j : Nat) : Nat := [9, 1, 2, 10, 3, 4, 0, 5, 6, 7, 8].getD j 0
theorem zcx_inj : ∀ j, j < 11 → ∀ j', j' < 11 → zcx j = zcx j' → j = j' := by decide
theorem zcx_b : ∀ j, j < 11 → j ≠ 3 → j ≠ 6 → 1 ≤ zcx j ∧ zcx j ≤ 9 := by decide
def zCt (σ : OM) (R : Nat → Int32) (n : Nat) : Prop := (∀ j, j < 11 → j ≠ 3 → j ≠ 6 → mI σ 49 j = R (zcx j)) ∧ mI σ 49 3 = b2 (decide (0 < nn (R 10))) ∧ ∃ e, e ≤ n ∧ mI σ 49 6 = oi e
def zOut (w : Nat) (f : Nat → Nat) (L i n : Nat) (b : Bool) (σ σ' τ τ' : OM) : Prop := (Fr (znP w) (zlQ w) σ σ' ∧ Fr zmP zmQ τ τ') ∧ ((b = true ∧ zGo σ' τ' f L (i + 1) ∧ zDD σ' w (mI τ' 85) (mL τ' 87) ∧ zCt σ' (mI τ' 85) (n + 1) ∧ mI τ' 85 9 = 1) ∨ (b = false ∧ zDead σ' τ'))
section
variable {σ τ : OM} {f : Nat → Nat} {L i w : Nat} {t : Tk} {r : List Tk}
theorem zcnt {n j s l x : Nat} {XL : OM → Option OM} {fc : OM → Option (Int32 × OM)} (h1 : mR σ 48 1 = w) (hw : w = 1 ∨ w = 22) (hlv : zLv σ τ f L t r i) (hD : zDD σ w (mI τ 85) (mL τ 87))
    (hs : s < 22) (hj : 1 ≤ j) (hj2 : j < 11) (hj3 : j ≠ 3) (hj6 : j ≠ 6) (hx : zcx j = x) (hx9 : x < 9) (hl : zlim j = l) (hb : bd (mI τ 85 x) l) (hz : zis (zch f L) t s = true) (hkk : zck (zch f L) t = oi (256 + j)) (hc : zCt σ (mI τ 85) n) (h9 : mI τ 85 9 = if n = 0 then 0 else 1) (h0 : n = 0 → ∀ k, 1 ≤ k → k ≤ 10 → mI τ 85 k = 0)
    (hdisp : ∀ σ5, zdisp (oi j) (oi t.2.1) σ5 = obi (fc σ5) (fun r σ' => ogd (oisb r) (some (r, σ')))) (hdead : ∀ τ, mI τ 81 13 = 1 → XL τ = some τ)
    (hln : ∀ σ5 τ5 t5 r5, mR σ5 48 1 = w → zLv σ5 τ5 f L t5 r5 (i + 1) → zDD σ5 w (mI τ5 85) (mL τ5 87) → nn (mI τ5 85 x) < l → ∃ b σ' τ', fc σ5 = some (b2 b, σ') ∧ XL τ5 = some τ' ∧ zRs w f L (i + 1 + 1) b σ5 σ' τ5 τ' ((∀ k, 1 ≤ k → k ≤ 10 → k ≠ x → mI τ' 85 k = mI τ5 85 k) ∧ mI τ' 85 x = oi (nn (mI τ5 85 x) + 1))) :
    ∃ b σ' τ', fX5_readLine (b2 (decide (n = 0))) σ = some (b2 b, σ') ∧ (∀ E : OM → Option OM, obi (fX10_begins s (if oi l ≤ mI τ 85 x then 0 else 1) τ) (fun r1 σ2 => if r1 = 0 then E σ2 else obv (XL σ2) (fun σ5 => some σ5)) = some τ') ∧ zOut w f L i n b σ σ' τ τ' := by
  have hlb := (zlim_o j hj2).2
  have hxb := zcx_b j hj2 hj3 hj6
  rw [hx] at hxb
  rw [hl] at hlb
  have hb1 := hb.1
  have hb2 := hb.2
  have hc1 : mI σ 49 j = oi (nn (mI τ 85 x)) := by rw [hc.1 j hj2 hj3 hj6, hx]; exact hb1
  obtain ⟨b, σ', τ', q1, q2, q3, q4⟩ := zplain (n := n) (j := j) (s := s) (c := nn (mI τ 85 x)) (k2 := if oi l ≤ mI τ 85 x then 0 else 1) (XL := XL) (fc := fc) (P := fun τ' => (∀ k, 1 ≤ k → k ≤ 10 → k ≠ x → mI τ' 85 k = mI τ 85 k) ∧ mI τ' 85 x = oi (nn (mI τ 85 x) + 1)) h1 hw hlv hD hs hj hj2 hj3 hz hkk hc1 (by omega) (by
      rw [hl]
      by_cases e : l ≤ nn (mI τ 85 x)
      · exact Or.inl ⟨if_pos (by rw [hb1]; exact (oi_le (by omega) (by omega)).mpr e), e⟩
      · exact Or.inr ⟨if_neg (fun q => e (by rw [hb1] at q; exact (oi_le (by omega) (by omega)).mp q)), by omega⟩) h9 (fun q => by rw [h0 q x (by omega) (by omega), hl, show nn (0 : Int32) = 0 from rfl]; omega) hdisp hdead (fun _ hc σ5 τ5 t5 r5 a b c d => by
      obtain ⟨b, σ', τ', e1, e2, e3, e4⟩ := hln σ5 τ5 t5 r5 a b c (by rw [d, ← hl]; exact hc)
      refine ⟨b, σ', τ', e1, e2, e3, ?_⟩
      rcases e4 with ⟨a1, a2, a3, a4, a5⟩ | e4
      · exact Or.inl ⟨a1, a2, a3, fun k p q e => (a4 k p q e).trans (d k), by rw [a5, d]⟩
      · exact Or.inr e4)
  refine ⟨b, σ', τ', q1, q2, q3, ?_⟩
  rcases q4 with ⟨a1, an, a2, a3, ⟨a4, a5⟩, a6, a7⟩ | q4
  · refine Or.inl ⟨a1, a2, a3, ⟨fun k p q e => ?_, ?_, ?_⟩, by rw [a4 9 (by omega) (by omega) (by omega), h9, if_neg an]⟩
    · by_cases ek : k = j
      · rw [ek, hx, a5, a7]
      · rw [a6 k ek, hc.1 k p q e]
        have hkb := zcx_b k p q e
        exact (a4 _ (by omega) (by omega) (fun g => ek (zcx_inj k p j hj2 (g.trans hx.symm)))).symm
    · rw [a6 3 (by omega), a4 10 (by omega) (by omega) (by omega)]; exact hc.2.1
    · obtain ⟨e, e1, e2⟩ := hc.2.2
      exact ⟨e, by omega, by rw [a6 6 (by omega)]; exact e2⟩
  · exact Or.inr q4

theorem zl_1 {n : Nat} (hw : w = 1 ∨ w = 22) (h1 : mR σ 48 1 = w) (hk : okd w = 8) (hlv : zLv σ τ f L t r i) (hD : zDD σ w (mI τ 85) (mL τ 87)) (hc : zCt σ (mI τ 85) n) (h9 : mI τ 85 9 = if n = 0 then 0 else 1) (h0 : n = 0 → ∀ k, 1 ≤ k → k ≤ 10 → mI τ 85 k = 0) (hz : zis (zch f L) t 2 = true) : ∃ b σ' τ', fX5_readLine (b2 (decide (n = 0))) σ = some (b2 b, σ') ∧ fX10_readLine τ = some τ' ∧ zOut w f L i n b σ σ' τ τ' := by
  have no : ∀ s', s' < 22 → 2 ≠ s' → zis (zch f L) t s' = false := fun s' p q => zis_o (by decide) p hz q
  have hp2 : mI τ 81 4 = oi t.2.1 := hlv.1.2.2.1.1.1
  have hB := hD.1.1
  obtain ⟨b, σ', τ', q1, q2, q3⟩ := zcnt (n := n) (j := 1) (s := 2) (l := 6) (x := 1) (XL := fX10_factLine) (fc := fX5_readFact) h1 hw hlv hD (by decide) (by decide) (by decide) (by decide) (by decide) rfl (by decide) rfl hB.1.1 hz ((zck_key (zlv_ok hlv) (j := 1) (by decide)).mpr hz) hc h9 h0 (fun σ5 => rfl) (fun τ q => by unfold fX10_factLine; rw [if_neg (by rw [q]; decide)]) (fun σ5 τ5 t5 r5 a b c d => ln_fact hw a hk b c d)
  refine ⟨b, σ', τ', q1, ?_, q3⟩
  rw [rc0 hlv (no 0 (by decide) (by decide))]
  unfold fX10_readLine_b40
  exact q2 _

theorem zl_2 {n : Nat} (hw : w = 1 ∨ w = 22) (h1 : mR σ 48 1 = w) (hk : okd w = 8) (hlv : zLv σ τ f L t r i) (hD : zDD σ w (mI τ 85) (mL τ 87)) (hc : zCt σ (mI τ 85) n) (h9 : mI τ 85 9 = if n = 0 then 0 else 1) (h0 : n = 0 → ∀ k, 1 ≤ k → k ≤ 10 → mI τ 85 k = 0) (hz : zis (zch f L) t 3 = true) : ∃ b σ' τ', fX5_readLine (b2 (decide (n = 0))) σ = some (b2 b, σ') ∧ fX10_readLine τ = some τ' ∧ zOut w f L i n b σ σ' τ τ' := by
  have no : ∀ s', s' < 22 → 3 ≠ s' → zis (zch f L) t s' = false := fun s' p q => zis_o (by decide) p hz q
  have hp2 : mI τ 81 4 = oi t.2.1 := hlv.1.2.2.1.1.1
  have hB := hD.1.1
  obtain ⟨b, σ', τ', q1, q2, q3⟩ := zcnt (n := n) (j := 2) (s := 3) (l := 6) (x := 2) (XL := fX10_lawLine (oi t.2.1)) (fc := fX5_readLaw (oi t.2.1)) h1 hw hlv hD (by decide) (by decide) (by decide) (by decide) (by decide) rfl (by decide) rfl hB.1.2.1 hz ((zck_key (zlv_ok hlv) (j := 2) (by decide)).mpr hz) hc h9 h0 (fun σ5 => rfl) (fun τ q => by unfold fX10_lawLine; rw [if_neg (by rw [q]; decide)]) (fun σ5 τ5 t5 r5 a b c d => ln_law hw a hk b c d _)
  refine ⟨b, σ', τ', q1, ?_, q3⟩
  rw [rc0 hlv (no 0 (by decide) (by decide)), rc1 hlv (no 2 (by decide) (by decide)), hp2]
  unfold fX10_readLine_b72
  exact q2 _

theorem zl_4 {n : Nat} (hw : w = 1 ∨ w = 22) (h1 : mR σ 48 1 = w) (hk : okd w = 8) (hlv : zLv σ τ f L t r i) (hD : zDD σ w (mI τ 85) (mL τ 87)) (hc : zCt σ (mI τ 85) n) (h9 : mI τ 85 9 = if n = 0 then 0 else 1) (h0 : n = 0 → ∀ k, 1 ≤ k → k ≤ 10 → mI τ 85 k = 0) (hz : zis (zch f L) t 6 = true) : ∃ b σ' τ', fX5_readLine (b2 (decide (n = 0))) σ = some (b2 b, σ') ∧ fX10_readLine τ = some τ' ∧ zOut w f L i n b σ σ' τ τ' := by
  have no : ∀ s', s' < 22 → 6 ≠ s' → zis (zch f L) t s' = false := fun s' p q => zis_o (by decide) p hz q
  have hp2 : mI τ 81 4 = oi t.2.1 := hlv.1.2.2.1.1.1
  have hB := hD.1.1
  obtain ⟨b, σ', τ', q1, q2, q3⟩ := zcnt (n := n) (j := 4) (s := 6) (l := 6) (x := 3) (XL := fX10_houseLine) (fc := fX5_readHouse) h1 hw hlv hD (by decide) (by decide) (by decide) (by decide) (by decide) rfl (by decide) rfl hB.1.2.2.1 hz ((zck_key (zlv_ok hlv) (j := 4) (by decide)).mpr hz) hc h9 h0 (fun σ5 => rfl) (fun τ q => by unfold fX10_houseLine; rw [if_neg (by rw [q]; decide)]) (fun σ5 τ5 t5 r5 a b c d => ln_house hw a hk b c d)
  refine ⟨b, σ', τ', q1, ?_, q3⟩
  rw [rc0 hlv (no 0 (by decide) (by decide)), rc1 hlv (no 2 (by decide) (by decide)), rc2 hlv (no 3 (by decide) (by decide)) (no 4 (by decide) (by decide))]
  unfold fX10_readLine_b122
  exact q2 _

theorem zl_5 {n : Nat} (hw : w = 1 ∨ w = 22) (h1 : mR σ 48 1 = w) (hk : okd w = 8) (hlv : zLv σ τ f L t r i) (hD : zDD σ w (mI τ 85) (mL τ 87)) (hc : zCt σ (mI τ 85) n) (h9 : mI τ 85 9 = if n = 0 then 0 else 1) (h0 : n = 0 → ∀ k, 1 ≤ k → k ≤ 10 → mI τ 85 k = 0) (hz : zis (zch f L) t 7 = true) : ∃ b σ' τ', fX5_readLine (b2 (decide (n = 0))) σ = some (b2 b, σ') ∧ fX10_readLine τ = some τ' ∧ zOut w f L i n b σ σ' τ τ' := by
  have no : ∀ s', s' < 22 → 7 ≠ s' → zis (zch f L) t s' = false := fun s' p q => zis_o (by decide) p hz q
  have hp2 : mI τ 81 4 = oi t.2.1 := hlv.1.2.2.1.1.1
  have hB := hD.1.1
  obtain ⟨b, σ', τ', q1, q2, q3⟩ := zcnt (n := n) (j := 5) (s := 7) (l := 6) (x := 4) (XL := fX10_twinLine) (fc := fX5_readTwin) h1 hw hlv hD (by decide) (by decide) (by decide) (by decide) (by decide) rfl (by decide) rfl hB.1.2.2.2 hz ((zck_key (zlv_ok hlv) (j := 5) (by decide)).mpr hz) hc h9 h0 (fun σ5 => rfl) (fun τ q => by unfold fX10_twinLine; rw [if_neg (by rw [q]; decide)]) (fun σ5 τ5 t5 r5 a b c d => ln_twin hw a hk b c d)
  refine ⟨b, σ', τ', q1, ?_, q3⟩
  rw [rc0 hlv (no 0 (by decide) (by decide)), rc1 hlv (no 2 (by decide) (by decide)), rc2 hlv (no 3 (by decide) (by decide)) (no 4 (by decide) (by decide)), rc3 hlv (no 6 (by decide) (by decide))]
  unfold fX10_readLine_b154
  exact q2 _

theorem zl_7 {n : Nat} (hw : w = 1 ∨ w = 22) (h1 : mR σ 48 1 = w) (hk : okd w = 8) (hlv : zLv σ τ f L t r i) (hD : zDD σ w (mI τ 85) (mL τ 87)) (hc : zCt σ (mI τ 85) n) (h9 : mI τ 85 9 = if n = 0 then 0 else 1) (h0 : n = 0 → ∀ k, 1 ≤ k → k ≤ 10 → mI τ 85 k = 0) (hz : zis (zch f L) t 9 = true) : ∃ b σ' τ', fX5_readLine (b2 (decide (n = 0))) σ = some (b2 b, σ') ∧ fX10_readLine τ = some τ' ∧ zOut w f L i n b σ σ' τ τ' := by
  have no : ∀ s', s' < 22 → 9 ≠ s' → zis (zch f L) t s' = false := fun s' p q => zis_o (by decide) p hz q
  have hp2 : mI τ 81 4 = oi t.2.1 := hlv.1.2.2.1.1.1
  have hB := hD.1.1
  obtain ⟨b, σ', τ', q1, q2, q3⟩ := zcnt (n := n) (j := 7) (s := 9) (l := 8) (x := 5) (XL := fX10_questionLine) (fc := fX5_readQuestion) h1 hw hlv hD (by decide) (by decide) (by decide) (by decide) (by decide) rfl (by decide) rfl hB.2.1 hz ((zck_key (zlv_ok hlv) (j := 7) (by decide)).mpr hz) hc h9 h0 (fun σ5 => rfl) (fun τ q => by unfold fX10_questionLine; rw [if_neg (by rw [q]; decide)]) (fun σ5 τ5 t5 r5 a b c d => ln_question hw a hk b c d)
  refine ⟨b, σ', τ', q1, ?_, q3⟩
  rw [rc0 hlv (no 0 (by decide) (by decide)), rc1 hlv (no 2 (by decide) (by decide)), rc2 hlv (no 3 (by decide) (by decide)) (no 4 (by decide) (by decide)), rc3 hlv (no 6 (by decide) (by decide)), rc4 hlv (no 7 (by decide) (by decide)) (no 8 (by decide) (by decide))]
  unfold fX10_readLine_b203
  exact q2 _

theorem zl_8 {n : Nat} (hw : w = 1 ∨ w = 22) (h1 : mR σ 48 1 = w) (hk : okd w = 8) (hlv : zLv σ τ f L t r i) (hD : zDD σ w (mI τ 85) (mL τ 87)) (hc : zCt σ (mI τ 85) n) (h9 : mI τ 85 9 = if n = 0 then 0 else 1) (h0 : n = 0 → ∀ k, 1 ≤ k → k ≤ 10 → mI τ 85 k = 0) (hz : zis (zch f L) t 10 = true) : ∃ b σ' τ', fX5_readLine (b2 (decide (n = 0))) σ = some (b2 b, σ') ∧ fX10_readLine τ = some τ' ∧ zOut w f L i n b σ σ' τ τ' := by
  have no : ∀ s', s' < 22 → 10 ≠ s' → zis (zch f L) t s' = false := fun s' p q => zis_o (by decide) p hz q
  have hp2 : mI τ 81 4 = oi t.2.1 := hlv.1.2.2.1.1.1
  have hB := hD.1.1
  obtain ⟨b, σ', τ', q1, q2, q3⟩ := zcnt (n := n) (j := 8) (s := 10) (l := 12) (x := 6) (XL := fX10_toldLine) (fc := fX5_readTold) h1 hw hlv hD (by decide) (by decide) (by decide) (by decide) (by decide) rfl (by decide) rfl hB.2.2.1 hz ((zck_key (zlv_ok hlv) (j := 8) (by decide)).mpr hz) hc h9 h0 (fun σ5 => rfl) (fun τ q => by unfold fX10_toldLine; rw [if_neg (by rw [q]; decide)]) (fun σ5 τ5 t5 r5 a b c d => ln_told hw a hk b c d)
  refine ⟨b, σ', τ', q1, ?_, q3⟩
  rw [rc0 hlv (no 0 (by decide) (by decide)), rc1 hlv (no 2 (by decide) (by decide)), rc2 hlv (no 3 (by decide) (by decide)) (no 4 (by decide) (by decide)), rc3 hlv (no 6 (by decide) (by decide)), rc4 hlv (no 7 (by decide) (by decide)) (no 8 (by decide) (by decide)), rc5 hlv (no 9 (by decide) (by decide))]
  unfold fX10_readLine_b236
  exact q2 _

theorem zl_9 {n : Nat} (hw : w = 1 ∨ w = 22) (h1 : mR σ 48 1 = w) (hk : okd w = 8) (hlv : zLv σ τ f L t r i) (hD : zDD σ w (mI τ 85) (mL τ 87)) (hc : zCt σ (mI τ 85) n) (h9 : mI τ 85 9 = if n = 0 then 0 else 1) (h0 : n = 0 → ∀ k, 1 ≤ k → k ≤ 10 → mI τ 85 k = 0) (hz : zis (zch f L) t 11 = true) : ∃ b σ' τ', fX5_readLine (b2 (decide (n = 0))) σ = some (b2 b, σ') ∧ fX10_readLine τ = some τ' ∧ zOut w f L i n b σ σ' τ τ' := by
  have no : ∀ s', s' < 22 → 11 ≠ s' → zis (zch f L) t s' = false := fun s' p q => zis_o (by decide) p hz q
  have hp2 : mI τ 81 4 = oi t.2.1 := hlv.1.2.2.1.1.1
  have hB := hD.1.1
  obtain ⟨b, σ', τ', q1, q2, q3⟩ := zcnt (n := n) (j := 9) (s := 11) (l := 4) (x := 7) (XL := fX10_stoneLine) (fc := fX5_readStone) h1 hw hlv hD (by decide) (by decide) (by decide) (by decide) (by decide) rfl (by decide) rfl hB.2.2.2.1 hz ((zck_key (zlv_ok hlv) (j := 9) (by decide)).mpr hz) hc h9 h0 (fun σ5 => rfl) (fun τ q => by unfold fX10_stoneLine; rw [if_neg (by rw [q]; decide)]) (fun σ5 τ5 t5 r5 a b c d => ln_stone hw a hk b c d)
  refine ⟨b, σ', τ', q1, ?_, q3⟩
  rw [rc0 hlv (no 0 (by decide) (by decide)), rc1 hlv (no 2 (by decide) (by decide)), rc2 hlv (no 3 (by decide) (by decide)) (no 4 (by decide) (by decide)), rc3 hlv (no 6 (by decide) (by decide)), rc4 hlv (no 7 (by decide) (by decide)) (no 8 (by decide) (by decide)), rc5 hlv (no 9 (by decide) (by decide)), rc6 hlv (no 10 (by decide) (by decide))]
  unfold fX10_readLine_b268
  exact q2 _

theorem zl_10 {n : Nat} (hw : w = 1 ∨ w = 22) (h1 : mR σ 48 1 = w) (hk : okd w = 8) (hlv : zLv σ τ f L t r i) (hD : zDD σ w (mI τ 85) (mL τ 87)) (hc : zCt σ (mI τ 85) n) (h9 : mI τ 85 9 = if n = 0 then 0 else 1) (h0 : n = 0 → ∀ k, 1 ≤ k → k ≤ 10 → mI τ 85 k = 0) (hz : zis (zch f L) t 12 = true) : ∃ b σ' τ', fX5_readLine (b2 (decide (n = 0))) σ = some (b2 b, σ') ∧ fX10_readLine τ = some τ' ∧ zOut w f L i n b σ σ' τ τ' := by
  have no : ∀ s', s' < 22 → 12 ≠ s' → zis (zch f L) t s' = false := fun s' p q => zis_o (by decide) p hz q
  have hp2 : mI τ 81 4 = oi t.2.1 := hlv.1.2.2.1.1.1
  have hB := hD.1.1
  obtain ⟨b, σ', τ', q1, q2, q3⟩ := zcnt (n := n) (j := 10) (s := 12) (l := 8) (x := 8) (XL := fX10_wedsLine) (fc := fX5_readWeds) h1 hw hlv hD (by decide) (by decide) (by decide) (by decide) (by decide) rfl (by decide) rfl hB.2.2.2.2 hz ((zck_key (zlv_ok hlv) (j := 10) (by decide)).mpr hz) hc h9 h0 (fun σ5 => rfl) (fun τ q => by unfold fX10_wedsLine; rw [if_neg (by rw [q]; decide)]) (fun σ5 τ5 t5 r5 a b c d => ln_weds hw a hk b c d)
  refine ⟨b, σ', τ', q1, ?_, q3⟩
  rw [rc0 hlv (no 0 (by decide) (by decide)), rc1 hlv (no 2 (by decide) (by decide)), rc2 hlv (no 3 (by decide) (by decide)) (no 4 (by decide) (by decide)), rc3 hlv (no 6 (by decide) (by decide)), rc4 hlv (no 7 (by decide) (by decide)) (no 8 (by decide) (by decide)), rc5 hlv (no 9 (by decide) (by decide)), rc6 hlv (no 10 (by decide) (by decide)), rc7 hlv (no 11 (by decide) (by decide))]
  unfold fX10_readLine_b301
  exact q2 _

theorem zl_6 {n : Nat} (hw : w = 1 ∨ w = 22) (h1 : mR σ 48 1 = w) (hk : okd w = 8) (hlv : zLv σ τ f L t r i) (hD : zDD σ w (mI τ 85) (mL τ 87)) (hc : zCt σ (mI τ 85) n) (h9 : mI τ 85 9 = if n = 0 then 0 else 1) (h0 : n = 0 → ∀ k, 1 ≤ k → k ≤ 10 → mI τ 85 k = 0) (hn : n ≤ 900) (hz : zis (zch f L) t 8 = true) : ∃ b σ' τ', fX5_readLine (b2 (decide (n = 0))) σ = some (b2 b, σ') ∧ fX10_readLine τ = some τ' ∧ zOut w f L i n b σ σ' τ τ' := by
  have no : ∀ s', s' < 22 → 8 ≠ s' → zis (zch f L) t s' = false := fun s' p q => zis_o (by decide) p hz q
  obtain ⟨e, e1, e2⟩ := hc.2.2
  obtain ⟨b, σ', τ', q1, q2, q3, q4⟩ := zplain (n := n) (j := 6) (s := 8) (c := e) (k2 := 1) (XL := fX10_endsLine) (fc := fX5_readEnds) (P := fun τ' => ∀ k, 1 ≤ k → k ≤ 10 → mI τ' 85 k = mI τ 85 k) h1 hw hlv hD (by decide) (by decide) (by decide) (by decide) hz ((zck_key (zlv_ok hlv) (j := 6) (by decide)).mpr hz) e2 (by omega) (Or.inr ⟨rfl, show e < 1000 by omega⟩) h9 (fun q => show e < 1000 by omega) (fun σ5 => rfl) (fun τ q => by unfold fX10_endsLine; rw [if_neg (by rw [q]; decide)]) (fun _ _ σ5 τ5 t5 r5 a b c d => by
    obtain ⟨b, σ', τ', e1, e2, e3, e4⟩ := ln_ends hw a hk b c
    refine ⟨b, σ', τ', e1, e2, e3, ?_⟩
    rcases e4 with ⟨a1, a2, a3, a4⟩ | e4
    · exact Or.inl ⟨a1, a2, a3, fun k p q => (a4 k p q).trans (d k)⟩
    · exact Or.inr e4)
  refine ⟨b, σ', τ', q1, ?_, q3, ?_⟩
  · rw [rc0 hlv (no 0 (by decide) (by decide)), rc1 hlv (no 2 (by decide) (by decide)), rc2 hlv (no 3 (by decide) (by decide)) (no 4 (by decide) (by decide)), rc3 hlv (no 6 (by decide) (by decide))]
    unfold fX10_readLine_b154
    rw [bg_n hlv (by decide) (no 7 (by decide) (by decide)), obi_s, if_pos rfl]
    exact q2 _
  · rcases q4 with ⟨a1, an, a2, a3, a4, a6, a7⟩ | q4
    · refine Or.inl ⟨a1, a2, a3, ⟨fun k p q e' => ?_, ?_, ?_⟩, by rw [a4 9 (by omega) (by omega), h9, if_neg an]⟩
      · have hkb := zcx_b k p q e'
        rw [a6 k e', hc.1 k p q e', a4 _ (by omega) (by omega)]
      · rw [a6 3 (by omega), a4 10 (by omega) (by omega)]; exact hc.2.1
      · exact ⟨e + 1, by omega, a7⟩
    · exact Or.inr q4

theorem zl_0 {n : Nat} (hw : w = 1 ∨ w = 22) (h1 : mR σ 48 1 = w) (hk : okd w = 8) (hlv : zLv σ τ f L t r i) (hD : zDD σ w (mI τ 85) (mL τ 87)) (hc : zCt σ (mI τ 85) n) (h9 : mI τ 85 9 = if n = 0 then 0 else 1) (h0 : n = 0 → ∀ k, 1 ≤ k → k ≤ 10 → mI τ 85 k = 0) (hz : zis (zch f L) t 0 = true) : ∃ b σ' τ', fX5_readLine (b2 (decide (n = 0))) σ = some (b2 b, σ') ∧ fX10_readLine τ = some τ' ∧ zOut w f L i n b σ σ' τ τ' := by
  have hp1 : mI σ 43 9 = oi t.2.1 := hlv.1.2.1.1.2.2.1
  have hp2 : mI τ 81 4 = oi t.2.1 := hlv.1.2.2.1.1.1
  have hkd : mI σ 43 8 = zck (zch f L) t := hlv.1.2.1.1.2.1
  have hkj : mI σ 43 8 - 256 = oi 0 := by rw [hkd, (zck_key (zlv_ok hlv) (j := 0) (by decide)).mpr hz]; rfl
  have hc0 : mI σ 49 0 = mI τ 85 9 := hc.1 0 (by decide) (by decide) (by decide)
  have hr : fX10_readLine τ = obv (fX10_wellLine τ) (fun σ5 => some σ5) := by
    unfold fX10_readLine; rw [zisr (zlv_ok hlv) hlv.1.2.2.1 hlv.2.2 (by decide), hz, obi_s, if_neg (show ¬ b2 true = 0 by decide)]
  rw [disp_eq, hkj, mb_in (by decide) (Or.inr rfl), hr]
  unfold fX10_wellLine
  by_cases hn : n = 0
  · rw [if_pos hn] at h9
    rw [h9] at hc0
    rw [mb_ok (c := 0) (by decide) hc0 (by decide), obi_s, if_neg (show ¬ (1 : Int32) = 0 by decide), h9, if_neg (show ¬ (0 : Int32) = 1 by decide)]
    have hl2 : zLv (sI σ 49 0 (oi (0 + 1))) τ f L t r i := zlv_fr hlv (fun a b p q => by rw [mI_sI, if_neg (by omega)]) (fun _ _ _ _ => rfl) (by rw [mI_sI, if_neg (by omega)]) (fun _ _ _ => rfl) (fun _ => rfl) (fun _ => rfl) rfl
    have ht2 : t.1 = 2 := by
      unfold zis at hz
      rw [Bool.and_eq_true, decide_eq_true_eq] at hz; exact hz.1
    obtain ⟨t5, r5, σ5, τ5, g1, g2, g3, g4, g5, g6⟩ := zboth hl2 (by omega)
    have hf5 : Fr (fun a j => zkP a j ∨ a = 49) zkQ σ σ5 := fr_tr (fr_I (fr_rfl _ _ _) (Or.inr rfl)) (fr_mono (fun a j q => Or.inl (Or.inl q)) (fun a q => q) g5)
    have hR5 : ∀ k, mI τ5 85 k = mI τ 85 k := fun k => g6.1 85 k (by unfold zP3; omega)
    have hZ5 : mL τ5 87 = mL τ 87 := funext (fun k => g6.2.1 87 k (fun q => q))
    have hD5 : zDD σ5 w (mI τ5 85) (mL τ5 87) := by
      rw [hZ5, show mI τ5 85 = mI τ 85 from funext hR5]
      exact zdd_fr (fun a j p q => hf5.1 a j (by unfold zkP; omega)) (fun a j p q => hf5.2.1 a j (by unfold zkQ; omega)) (hf5.1 48 8 (by unfold zkP; omega)) (fun j => hf5.2.1 50 j (by unfold zkQ; omega)) (fun j => hf5.1 51 j (by unfold zkP; omega)) (fun j => hf5.1 52 j (by unfold zkP; omega)) hD
    obtain ⟨b, σ', τ', e1, e2, ⟨e3, e4⟩, e5⟩ := ln_well hw (by rw [hf5.2.2]; exact h1) hk g3 hD5
    refine ⟨b, σ', τ', ?_, ?_, ⟨fr_tr (fr_mono (fun a j q => q.elim (fun q => Or.inl (Or.inl (Or.inl q))) Or.inr) (fun a q => Or.inl (Or.inl q)) hf5) (zl_n e3), fr_tr (zr_m (zP3r g6)) e4⟩, ?_⟩
    · rw [g1, obv_s, show zdisp (oi 0) (mI σ 43 9) σ5 = obi (fX5_readWell σ5) (fun r7 σ8 => ogd (oisb r7) (some (r7, σ8))) from rfl, e1, obi_s]
      cases b <;> rfl
    · unfold fX10_wellLine_b20
      rw [if_pos hlv.2.2, g2, obv_s]
      show obv (rWell τ5) _ = _
      rw [e2, obv_s]
    · rcases e5 with ⟨p1, p2, p3, p4, p5⟩ | p
      · have h49 : ∀ k, k ≠ 0 → mI σ' 49 k = mI σ 49 k := fun k hk => by rw [e3.1 49 k (by unfold zlP zfP zkP; omega), g5.1 49 k (by unfold zP2; omega), mI_sI, if_neg (by omega)]
        refine Or.inl ⟨p1, zgo_lt p2 (by omega), p3, ⟨fun k p q e' => ?_, ?_, ?_⟩, p5⟩
        · by_cases k0 : k = 0
          · rw [k0, e3.1 49 0 (by unfold zlP zfP zkP; omega), g5.1 49 0 (by unfold zP2; omega), mI_at]; exact p5.symm
          · have hkb := zcx_b k p q e'
            have h99 : zcx k ≠ 9 := fun g => k0 (zcx_inj k p 0 (by decide) g)
            rw [h49 k k0, hc.1 k p q e', p4 _ (by omega) (by omega) h99, hR5]
        · rw [h49 3 (by omega), p4 10 (by omega) (by omega) (by omega), hR5]; exact hc.2.1
        · obtain ⟨e, q1, q2⟩ := hc.2.2
          exact ⟨e, by omega, by rw [h49 6 (by omega)]; exact q2⟩
      · exact Or.inr p
  · rw [if_neg hn] at h9
    rw [h9] at hc0
    rw [mb_ov (c := 1) (by decide) hc0 (by decide) (by decide) hlv.2.1, obi_s, if_pos rfl, h9, if_pos rfl, zwrong hlv.2.2, obv_s]
    unfold fX10_wellLine_b20
    rw [if_pos (show (0 = 0 ∨ 0 = 3) from Or.inl rfl), if_neg (by rw [zwr_13]; decide), obv_s, hp1, hp2]
    exact ⟨false, _, _, rfl, rfl, ⟨fr_tr (fr_I (fr_rfl _ _ _) (Or.inr rfl)) (zl_n (zk_l w (zfl_fr _ _ _))), zr_m (zwr_fr _ _ _)⟩, Or.inr ⟨rfl, zdead_mk _ _ (by decide) _⟩⟩

theorem zl_3 {n : Nat} (hw : w = 1 ∨ w = 22) (h1 : mR σ 48 1 = w) (hk : okd w = 8) (hlv : zLv σ τ f L t r i) (hD : zDD σ w (mI τ 85) (mL τ 87)) (hc : zCt σ (mI τ 85) n) (h9 : mI τ 85 9 = if n = 0 then 0 else 1) (h0 : n = 0 → ∀ k, 1 ≤ k → k ≤ 10 → mI τ 85 k = 0) (hz : zis (zch f L) t 4 = true) : ∃ b σ' τ', fX5_readLine (b2 (decide (n = 0))) σ = some (b2 b, σ') ∧ fX10_readLine τ = some τ' ∧ zOut w f L i n b σ σ' τ τ' := by
  have no : ∀ s', s' < 22 → 4 ≠ s' → zis (zch f L) t s' = false := fun s' p q => zis_o (by decide) p hz q
  have hp1 : mI σ 43 9 = oi t.2.1 := hlv.1.2.1.1.2.2.1
  have hp2 : mI τ 81 4 = oi t.2.1 := hlv.1.2.2.1.1.1
  have hkd : mI σ 43 8 = zck (zch f L) t := hlv.1.2.1.1.2.1
  have hkj : mI σ 43 8 - 256 = oi 3 := by rw [hkd, (zck_key (zlv_ok hlv) (j := 3) (by decide)).mpr hz]; rfl
  have hc3 : mI σ 49 3 = b2 (decide (0 < nn (mI τ 85 10))) := hc.2.1
  have hb10 := hD.2.2.1.2.2.2.1
  have hF := hD.1.1.1.1.2
  have h64 : 2 ^ nn (mI τ 85 1) ≤ 64 := by
    have := Nat.pow_le_pow_right (show 0 < 2 by decide) hF
    omega
  have h10 : mI τ 85 10 = oi (nn (mI τ 85 10)) := hb10.1
  have h10b := hb10.2
  have hr : fX10_readLine τ = obv (fX10_truthLine (oi t.2.1) τ) (fun σ5 => some σ5) := by
    rw [rc0 hlv (no 0 (by decide) (by decide)), rc1 hlv (no 2 (by decide) (by decide))]
    unfold fX10_readLine_b72
    rw [bg_n hlv (by decide) (no 3 (by decide) (by decide)), obi_s, if_pos rfl, zisr (zlv_ok hlv) hlv.1.2.2.1 hlv.2.2 (by decide), hz, obi_s, if_neg (show ¬ b2 true = 0 by decide), hp2]
  have hle : (mI τ 85 10 ≤ 0) ↔ nn (mI τ 85 10) = 0 := by
    rw [h10, show (0 : Int32) = oi 0 from rfl, oi_le (by omega) (by omega), nn_oi (by omega)]; omega
  rw [disp_eq, hkj, hr]
  unfold fX10_truthLine
  by_cases hn : n = 0
  · rw [if_pos hn] at h9
    rw [decide_eq_true hn, show b2 true = 1 from rfl, mb_6 (by decide) (by decide) hlv.2.1, obi_s, if_pos rfl, if_pos (hle.mpr (by rw [h0 hn 10 (by omega) (by omega)]; rfl)), if_pos h9, zwrong hlv.2.2, obv_s]
    unfold fX10_truthLine_b39
    rw [if_neg (by rw [zwr_13]; decide), obv_s, hp1, hp2]
    exact ⟨false, _, _, rfl, rfl, ⟨zl_n (zk_l w (zfl_fr _ _ _)), zr_m (zwr_fr _ _ _)⟩, Or.inr ⟨rfl, zdead_mk _ _ (by decide) _⟩⟩
  · rw [if_neg hn] at h9
    rw [decide_eq_false hn, mb_in (x1 := b2 false) (by decide) (Or.inl rfl)]
    by_cases ht : nn (mI τ 85 10) = 0
    · rw [ht] at hc3
      rw [mb_ok (c := 0) (by decide) hc3 (by decide), obi_s, if_neg (show ¬ (1 : Int32) = 0 by decide), if_pos (hle.mpr ht), h9, if_neg (show ¬ (1 : Int32) = 0 by decide)]
      have hl2 : zLv (sI σ 49 3 (oi (0 + 1))) τ f L t r i := zlv_fr hlv (fun a b p q => by rw [mI_sI, if_neg (by omega)]) (fun _ _ _ _ => rfl) (by rw [mI_sI, if_neg (by omega)]) (fun _ _ _ => rfl) (fun _ => rfl) (fun _ => rfl) rfl
      have ht2 : t.1 = 2 := by
        unfold zis at hz
        rw [Bool.and_eq_true, decide_eq_true_eq] at hz; exact hz.1
      obtain ⟨t5, r5, σ5, τ5, g1, g2, g3, g4, g5, g6⟩ := zboth hl2 (by omega)
      have hf5 : Fr (fun a j => zkP a j ∨ a = 49) zkQ σ σ5 := fr_tr (fr_I (fr_rfl _ _ _) (Or.inr rfl)) (fr_mono (fun a j q => Or.inl (Or.inl q)) (fun a q => q) g5)
      have hR5 : ∀ k, mI τ5 85 k = mI τ 85 k := fun k => g6.1 85 k (by unfold zP3; omega)
      have hZ5 : mL τ5 87 = mL τ 87 := funext (fun k => g6.2.1 87 k (fun q => q))
      have hD5 : zDD σ5 w (mI τ5 85) (mL τ5 87) := by
        rw [hZ5, show mI τ5 85 = mI τ 85 from funext hR5]
        exact zdd_fr (fun a j p q => hf5.1 a j (by unfold zkP; omega)) (fun a j p q => hf5.2.1 a j (by unfold zkQ; omega)) (hf5.1 48 8 (by unfold zkP; omega)) (fun j => hf5.2.1 50 j (by unfold zkQ; omega)) (fun j => hf5.1 51 j (by unfold zkP; omega)) (fun j => hf5.1 52 j (by unfold zkP; omega)) hD
      obtain ⟨b, σ', τ', e1, e2, ⟨e3, e4⟩, e5⟩ := ln_truth hw (by rw [hf5.2.2]; exact h1) hk g3 hD5 (by rw [hR5]; exact ht) (oi t.2.1)
      refine ⟨b, σ', τ', ?_, ?_, ⟨fr_tr (fr_mono (fun a j q => q.elim (fun q => Or.inl (Or.inl (Or.inl q))) Or.inr) (fun a q => Or.inl (Or.inl q)) hf5) (zl_n e3), fr_tr (zr_m (zP3r g6)) e4⟩, ?_⟩
      · rw [g1, obv_s, hp1, show zdisp (oi 3) (oi t.2.1) σ5 = obi (fX5_readTruth (oi t.2.1) σ5) (fun r7 σ8 => ogd (oisb r7) (some (r7, σ8))) from rfl, e1, obi_s]
        cases b <;> rfl
      · unfold fX10_truthLine_b39
        rw [if_pos hlv.2.2, g2, obv_s]
        show obv (rTruth (oi t.2.1) τ5) _ = _
        rw [e2, obv_s]
      · rcases e5 with ⟨p1, p2, p3, p4, p5⟩ | p
        · have h49 : ∀ k, k ≠ 3 → mI σ' 49 k = mI σ 49 k := fun k hk => by rw [e3.1 49 k (by unfold zlP zfP zkP; omega), g5.1 49 k (by unfold zP2; omega), mI_sI, if_neg (by omega)]
          refine Or.inl ⟨p1, zgo_lt p2 (by omega), p3, ⟨fun k p q e' => ?_, ?_, ?_⟩, by rw [p4 9 (by omega) (by omega) (by omega), hR5]; exact h9⟩
          · have hkb := zcx_b k p q e'
            rw [h49 k q, hc.1 k p q e', p4 _ (by omega) (by omega) (by omega), hR5]
          · rw [e3.1 49 3 (by unfold zlP zfP zkP; omega), g5.1 49 3 (by unfold zP2; omega), mI_at, decide_eq_true p5]; rfl
          · obtain ⟨e, q1, q2⟩ := hc.2.2
            exact ⟨e, by omega, by rw [h49 6 (by omega)]; exact q2⟩
        · exact Or.inr p
    · rw [decide_eq_true (show 0 < nn (mI τ 85 10) by omega)] at hc3
      rw [mb_ov (c := 1) (by decide) hc3 (by decide) (by decide) hlv.2.1, obi_s, if_pos rfl, if_neg (fun q => ht (hle.mp q)), zwrong hlv.2.2, obv_s]
      have e9 : mI (zwr τ 3 (mI τ 81 4)) 85 9 = 1 := by rw [(zwr_fr τ 3 (mI τ 81 4)).1 85 9 (by unfold zrP; omega)]; exact h9
      unfold fX10_truthLine_b39
      rw [e9, if_neg (show ¬ (1 : Int32) = 0 by decide), if_pos (show (3 = 0 ∨ 3 = 3) from Or.inr rfl), if_neg (by rw [zwr_13]; decide), obv_s, hp1, hp2]
      exact ⟨false, _, _, rfl, rfl, ⟨fr_tr (fr_I (fr_rfl _ _ _) (Or.inr rfl)) (zl_n (zk_l w (zfl_fr _ _ _))), zr_m (zwr_fr _ _ _)⟩, Or.inr ⟨rfl, zdead_mk _ _ (by decide) _⟩⟩
theorem zck_not (ho : zOk (zch f L) t) (hn : ∀ j, j < 11 → zis (zch f L) t (zkS j) = false) : zck (zch f L) t - 256 < 0 ∨ ¬ zck (zch f L) t - 256 < 11 := by
  have hq : ∀ j, j < 11 → ¬ zck (zch f L) t = oi (256 + j) := fun j hj e => by
    have h1 := hn j hj
    rw [(zck_key ho (by omega)).mp e] at h1
    exact absurd h1 (by decide)
  revert hq
  unfold zck
  intro hq
  by_cases e2 : t.1 = 2
  · rw [if_pos e2] at hq ⊢
    rcases zkw_cases (ol (zwv (fun k => zch f L (t.2.1 + k)) (t.2.2 - t.2.1))) with e | ⟨j, hj, e⟩
    · rw [e]; exact Or.inl (by decide)
    · rw [e] at hq ⊢
      have h11 : ¬ j < 11 := fun q => hq j q rfl
      rw [oi_256]
      exact Or.inr (fun q => h11 (by have := (oi_lt (b := 11) (by omega) (by omega)).mp q; omega))
  · rw [if_neg e2]
    by_cases e3 : t.1 = 3
    · rw [if_pos e3]; exact Or.inl (by decide)
    · rw [if_neg e3]
      by_cases e1 : t.1 = 1
      · rw [if_pos e1]; exact Or.inl (by decide)
      · rw [if_neg e1]
        rcases ho.1 with e | e | e | e | e | e | e | e
        · rw [e]; exact Or.inl (by decide)
        · exact absurd e e1
        · exact absurd e e2
        · exact absurd e e3
        · rw [e]; exact Or.inl (by decide)
        · rw [e]; exact Or.inl (by decide)
        · rw [e]; exact Or.inl (by decide)
        · rw [e]; exact Or.inl (by decide)

theorem zline {n : Nat} (hw : w = 1 ∨ w = 22) (h1 : mR σ 48 1 = w) (hk : okd w = 8) (hlv : zLv σ τ f L t r i) (hD : zDD σ w (mI τ 85) (mL τ 87)) (hc : zCt σ (mI τ 85) n) (h9 : mI τ 85 9 = if n = 0 then 0 else 1) (h0 : n = 0 → ∀ k, 1 ≤ k → k ≤ 10 → mI τ 85 k = 0) (hn : n ≤ 900) : ∃ b σ' τ', fX5_readLine (b2 (decide (n = 0))) σ = some (b2 b, σ') ∧ fX10_readLine τ = some τ' ∧ zOut w f L i n b σ σ' τ τ' := by
  have ho := zlv_ok hlv
  by_cases h : ∃ j, j < 11 ∧ zis (zch f L) t (zkS j) = true
  · obtain ⟨j, hj, hz⟩ := h
    rcases (show j = 0 ∨ j = 1 ∨ j = 2 ∨ j = 3 ∨ j = 4 ∨ j = 5 ∨ j = 6 ∨ j = 7 ∨ j = 8 ∨ j = 9 ∨ j = 10 by omega) with rfl | rfl | rfl | rfl | rfl | rfl | rfl | rfl | rfl | rfl | rfl
    · exact zl_0 hw h1 hk hlv hD hc h9 h0 hz
    · exact zl_1 hw h1 hk hlv hD hc h9 h0 hz
    · exact zl_2 hw h1 hk hlv hD hc h9 h0 hz
    · exact zl_3 hw h1 hk hlv hD hc h9 h0 hz
    · exact zl_4 hw h1 hk hlv hD hc h9 h0 hz
    · exact zl_5 hw h1 hk hlv hD hc h9 h0 hz
    · exact zl_6 hw h1 hk hlv hD hc h9 h0 hn hz
    · exact zl_7 hw h1 hk hlv hD hc h9 h0 hz
    · exact zl_8 hw h1 hk hlv hD hc h9 h0 hz
    · exact zl_9 hw h1 hk hlv hD hc h9 h0 hz
    · exact zl_10 hw h1 hk hlv hD hc h9 h0 hz
  · have hno : ∀ j, j < 11 → zis (zch f L) t (zkS j) = false := fun j hj => by
      cases e : zis (zch f L) t (zkS j)
      · rfl
      · exact absurd ⟨j, hj, e⟩ h
    have hp1 : mI σ 43 9 = oi t.2.1 := hlv.1.2.1.1.2.2.1
    have hp2 : mI τ 81 4 = oi t.2.1 := hlv.1.2.2.1.1.1
    have hkd : mI σ 43 8 = zck (zch f L) t := hlv.1.2.1.1.2.1
    rw [disp_eq, mb_no (by rw [hkd]; exact zck_not ho hno) hlv.2.1, obi_s, if_pos rfl, rc0 hlv (hno 0 (by decide)), rc1 hlv (hno 1 (by decide)), rc2 hlv (hno 2 (by decide)) (hno 3 (by decide)), rc3 hlv (hno 4 (by decide)), rc4 hlv (hno 5 (by decide)) (hno 6 (by decide)), rc5 hlv (hno 7 (by decide)), rc6 hlv (hno 8 (by decide)), rc7 hlv (hno 9 (by decide)), rc8 hlv (hno 10 (by decide)), hp1, hp2]
    exact ⟨false, _, _, rfl, rfl, ⟨zl_n (zk_l w (zfl_fr _ _ _)), zr_m (zwr_fr _ _ _)⟩, Or.inr ⟨rfl, zdead_mk _ _ (by decide) _⟩⟩
end