/-! lines: law -/
section
variable {σ τ : OM} {f : Nat → Nat} {L i w : Nat} {t : Tk} {r : List Tk}
def zst1 (T : Nat) (V : Int64) : Bool := if 0 < T then tb V (T - 1) else decide (V ≠ 0)
theorem zstands {T : Nat} (hT : T ≤ 64) (h4 : mI σ (w + 1) 4 = b2 (decide (0 < T))) (h5 : mI σ (w + 1) 5 = oi (T - 1)) : fX2_stands w σ = some (b2 (zst1 T (mL σ (w + 1) 3)), σ) := by
  unfold fX2_stands zst1
  rw [h4, h5]
  by_cases e : 0 < T
  · rw [decide_eq_true e, if_neg (by decide), bitOf_eq _ (by omega), obi_s, if_pos e]
    cases tb (mL σ (w + 1) 3) (T - 1) with
    | true => rw [if_pos (by rfl)]; rfl
    | false => rw [if_neg (by decide)]; rfl
  · rw [decide_eq_false e, if_pos (by rfl), if_neg e]
    by_cases e0 : mL σ (w + 1) 3 = 0
    · rw [if_pos ((cmp_eq _ _).mpr e0), decide_eq_false (fun q => q e0)]; rfl
    · rw [if_neg (fun q => e0 ((cmp_eq _ _).mp q)), decide_eq_true e0]; rfl
theorem zst1_ne {T : Nat} {V : Int64} (h : zst1 T V = true) : V ≠ 0 := by
  unfold zst1 at h
  by_cases e : 0 < T
  · rw [if_pos e] at h
    intro q; rw [q, tb_0] at h; cases h
  · rw [if_neg e] at h; exact of_decide_eq_true h
theorem ln_law (hw : w = 1 ∨ w = 22) (h1 : mR σ 48 1 = w) (hk : okd w = 8) (hlv : zLv σ τ f L t r i) (hD : zDD σ w (mI τ 85) (mL τ 87)) (hl : nn (mI τ 85 2) < 6) (x0 : Int32) : ∃ b σ' τ', fX5_readLaw x0 σ = some (b2 b, σ') ∧ fX10_lawLine x0 τ = some τ' ∧ zRs w f L (i + 1) b σ σ' τ τ' ((∀ k, 1 ≤ k → k ≤ 10 → k ≠ 2 → mI τ' 85 k = mI τ 85 k) ∧ mI τ' 85 2 = oi (nn (mI τ 85 2) + 1)) := by
  obtain ⟨⟨b1, bn⟩, b3, b4, b5, b6, b7, b8⟩ := hD
  have hFb := b1.1.1.2
  obtain ⟨⟨l1, l2, l3, l4⟩, l5, l6, l7, l8⟩ := b4
  have hT64 : nn (mI τ 85 10) ≤ 64 := Nat.le_trans l7.2 (Nat.pow_le_pow_right (n := 2) (by decide) hFb)
  obtain ⟨x, σ1, v, τ1, f1, f2, f3, f4, f5⟩ := zformula (F := nn (mI τ 85 1)) hFb hlv bn.1 (fun s hs hm => by have := bn.2 s (by omega) hm; omega)
  unfold fX5_readLaw fX10_lawLine
  rw [f1, obi_s, if_pos hlv.2.2, f2, obi_s]
  rcases f5 with ⟨rfl, f6, f7⟩ | f5
  · have hmR : ∀ τ', mR τ' = mR σ → mR τ' 48 1 = w := fun τ' e => by rw [e]; exact h1
    rw [if_pos (zgo_13 f7).1, if_pos (zgo_13 f7).2]
    have m0 : mR σ1 48 1 = w := hmR _ f3.2.2
    rw [m0, ogd_d hk]
    have m1 : mR (sL σ1 (w + 1) 3 (mL σ1 (w + 1) 3 &&& x)) 48 1 = w := m0
    rw [m1, ogd_d hk]
    have e3 : mL σ1 (w + 1) 3 = mL τ 87 8 := (f3.2.1 _ _ (by unfold zfQ; omega)).trans l2
    have e2 : mI (sL σ1 (w + 1) 3 (mL σ1 (w + 1) 3 &&& x)) (w + 1) 2 = oi (nn (mI τ 85 2)) := (f3.1 _ _ (by unfold zfP zkP; omega)).trans (l1.trans b1.1.2.1.1)
    rw [e2, oi_succ]
    have m2 : mR (sI (sL σ1 (w + 1) 3 (mL σ1 (w + 1) 3 &&& x)) (w + 1) 2 (oi (nn (mI τ 85 2) + 1))) 48 1 = w := m0
    rw [m2, ogd_d hk]
    have hI : ∀ a j, ¬ (a = w + 1 ∧ j = 2) → mI (sI (sL σ1 (w + 1) 3 (mL σ1 (w + 1) 3 &&& x)) (w + 1) 2 (oi (nn (mI τ 85 2) + 1))) a j = mI σ1 a j := fun a j e => by rw [mI_sI, if_neg e]; rfl
    have hL : ∀ a j, ¬ (a = w + 1 ∧ j = 3) → mL (sI (sL σ1 (w + 1) 3 (mL σ1 (w + 1) 3 &&& x)) (w + 1) 2 (oi (nn (mI τ 85 2) + 1))) a j = mL σ1 a j := fun a j e => by
      show mL (sL σ1 (w + 1) 3 _) a j = _
      rw [mL_sL, if_neg e]
    have hL3 : mL (sI (sL σ1 (w + 1) 3 (mL σ1 (w + 1) 3 &&& x)) (w + 1) 2 (oi (nn (mI τ 85 2) + 1))) (w + 1) 3 = mL τ 87 8 &&& x := by
      show mL (sL σ1 (w + 1) 3 _) (w + 1) 3 = _
      rw [mL_at, e3]
    have hI2 : mI (sI (sL σ1 (w + 1) 3 (mL σ1 (w + 1) 3 &&& x)) (w + 1) 2 (oi (nn (mI τ 85 2) + 1))) (w + 1) 2 = oi (nn (mI τ 85 2) + 1) := mI_at
    have hfc : Fr (zlP w) (zlQ w) σ (sI (sL σ1 (w + 1) 3 (mL σ1 (w + 1) 3 &&& x)) (w + 1) 2 (oi (nn (mI τ 85 2) + 1))) := fr_I (fr_L (zf_l w f3) (Or.inr (Or.inr ⟨by omega, by omega⟩))) (Or.inr (Or.inr (Or.inr (Or.inr ⟨by omega, by omega⟩))))
    generalize (sI (sL σ1 (w + 1) 3 (mL σ1 (w + 1) 3 &&& x)) (w + 1) 2 (oi (nn (mI τ 85 2) + 1))) = σ2 at hI hL hL3 hI2 hfc ⊢
    have hIw : ∀ a j, w ≤ a → a ≤ w + 20 → ¬ (a = w + 1 ∧ j = 2) → mI σ2 a j = mI σ a j := fun a j p q e => (hI a j e).trans (f3.1 a j (by unfold zfP zkP; omega))
    have hLw : ∀ a j, w ≤ a → a ≤ w + 20 → ¬ (a = w + 1 ∧ j = 3) → mL σ2 a j = mL σ a j := fun a j p q e => (hL a j e).trans (f3.2.1 a j (by unfold zfQ; omega))
    rw [zstands (T := nn (mI τ 85 10)) hT64 ((hIw _ _ (by omega) (by omega) (by omega)).trans l5) ((hIw _ _ (by omega) (by omega) (by omega)).trans l6), obi_s, hL3]
    -- the reference
    have r85 : mI τ1 85 = mI τ 85 := zrow_g f4 z85
    have r87 : mL τ1 87 = mL τ 87 := funext (fun j => f4.2.1 87 j (fun q => q))
    have rZ : ∀ j, mL (sL τ1 87 8 (mL τ1 87 8 &&& x)) 87 j = if j = 8 then mL τ 87 8 &&& x else mL τ 87 j := fun j => by
      rw [mL_sL, r87]
      by_cases e : j = 8
      · rw [if_pos ⟨rfl, e⟩, if_pos e]
      · rw [if_neg (fun q => e q.2), if_neg e]
    have r10 : mI (sL τ1 87 8 (mL τ1 87 8 &&& x)) 85 10 = oi (nn (mI τ 85 10)) := by
      show mI τ1 85 10 = _
      rw [r85]; exact l7.1
    have h13 : mI (sL τ1 87 8 (mL τ1 87 8 &&& x)) 81 13 = 0 := (zgo_13 f7).2
    have rI : ∀ a j, mI (sL τ1 87 8 (mL τ1 87 8 &&& x)) a j = mI τ1 a j := fun a j => rfl
    have hfr : Fr zmP zmQ τ (sL τ1 87 8 (mL τ1 87 8 &&& x)) := fr_L (zg_m f4) rfl
    have rZ8 : mL (sL τ1 87 8 (mL τ1 87 8 &&& x)) 87 8 = mL τ 87 8 &&& x := by rw [rZ, if_pos rfl]
    generalize (sL τ1 87 8 (mL τ1 87 8 &&& x)) = τ2 at rZ r10 h13 rI hfr rZ8 ⊢
    have r2 : mI τ2 85 = mI τ 85 := (funext (fun j => rI 85 j)).trans r85
    have e22 : mI τ 85 2 = oi (nn (mI τ 85 2)) := b1.1.2.1.1
    have hb81 : ∀ k0 : Int32, fX10_lawLine_b81 x0 k0 τ2 = if mL τ 87 8 &&& x = 0 ∨ k0 = 0 then fX10_lawLine_b100 x0 τ2 else some (sI τ2 85 2 (oi (nn (mI τ 85 2) + 1))) := by
      intro k0
      unfold fX10_lawLine_b81
      rw [rZ8, r2, e22, oi_succ, ← e22]
      by_cases ea : mL τ 87 8 &&& x = 0
      · rw [if_pos ((cmp_eq _ _).mpr ea), if_pos (Or.inl ea)]
      · rw [if_neg (fun q => ea ((cmp_eq _ _).mp q))]
        by_cases eb : k0 = 0
        · rw [if_pos eb, if_pos (Or.inr eb)]
        · rw [if_neg eb, if_neg (fun q => q.elim ea eb)]
    have href : (if mI τ2 85 10 = 0 then fX10_lawLine_b81 x0 1 τ2 else if lg_cmp (mL τ2 87 8 >>> ((mI τ2 85 10 - 1).toInt64 &&& 63) &&& 1) 1 = 0 then fX10_lawLine_b81 x0 1 τ2 else fX10_lawLine_b81 x0 0 τ2) = if zst1 (nn (mI τ 85 10)) (mL τ 87 8 &&& x) = true then some (sI τ2 85 2 (oi (nn (mI τ 85 2) + 1))) else fX10_lawLine_b100 x0 τ2 := by
      rw [r10, rZ8, hb81, hb81]
      generalize hTe : nn (mI τ 85 10) = T at *
      by_cases e : T = 0
      · subst e
        rw [if_pos (by rfl)]
        unfold zst1
        rw [if_neg (Nat.lt_irrefl 0)]
        by_cases ea : mL τ 87 8 &&& x = 0
        · rw [if_pos (Or.inl ea), decide_eq_false (fun q => q ea), if_neg Bool.false_ne_true]
        · rw [if_neg (fun q => q.elim ea (by decide)), decide_eq_true ea, if_pos rfl]
      · rw [if_neg (by rw [oi_ne0 (by omega)]; exact e), show oi T - 1 = oi (T - 1) from oi_sub (b := 1) (by omega), bitS _ (by omega)]
        unfold zst1
        rw [if_pos (show 0 < T by omega)]
        cases eb : tb (mL τ 87 8 &&& x) (T - 1) with
        | true =>
          have hne : ¬ mL τ 87 8 &&& x = 0 := fun q => by rw [q, tb_0] at eb; cases eb
          rw [if_pos rfl, if_pos ((cmp_eq _ _).mpr rfl), if_neg (fun q => q.elim hne (by decide)), if_pos rfl]
        | false =>
          rw [if_neg Bool.false_ne_true, if_neg (fun q => absurd ((cmp_eq _ _).mp q) (by decide)), if_pos (Or.inr rfl), if_neg Bool.false_ne_true]
    rw [href]
    cases es : zst1 (nn (mI τ 85 10)) (mL τ 87 8 &&& x) with
    | false =>
      rw [if_neg Bool.false_ne_true, if_pos (by rfl)]
      unfold fX10_lawLine_b100
      rw [zfail ((hI 48 2 (by omega)).trans (zgo_13 f7).1), obi_s, if_pos rfl, zwrong h13, obv_s]
      exact ⟨false, _, _, rfl, rfl, ⟨fr_tr hfc (zk_l w (zfl_fr _ _ _)), fr_I (fr_tr hfr (zr_m (zwr_fr _ _ _))) (Or.inr rfl)⟩, Or.inr ⟨rfl, zdead_fr rfl rfl (by rw [mI_sI, if_neg (by omega)]) (by rw [mI_sI, if_neg (by omega)]) (by rw [mI_sI, if_neg (by omega)]) (zdead_mk _ _ (by decide) _)⟩⟩
    | true =>
      rw [if_pos rfl, if_neg (by decide)]
      have hro : ∀ j, j ≠ 2 → mI (sI τ2 85 2 (oi (nn (mI τ 85 2) + 1))) 85 j = mI τ 85 j := fun j e => by rw [mI_sI, if_neg (fun q => e q.2), r2]
      have hr2 : mI (sI τ2 85 2 (oi (nn (mI τ 85 2) + 1))) 85 2 = oi (nn (mI τ 85 2) + 1) := mI_at
      refine ⟨true, _, _, rfl, rfl, ⟨hfc, fr_I hfr (Or.inr rfl)⟩, Or.inl ⟨rfl, ?_, ?_, fun k p q e => hro k e, hr2⟩⟩
      · exact zgo_fr f7 (fun a j p q => hI a j (by omega)) (fun a j p q => hL a j (by omega)) (hI 48 2 (by omega)) (fun j p q => by rw [mI_sI, if_neg (by omega)]; exact rI _ _) (fun j => by rw [mI_sI, if_neg (by omega)]; exact rI _ _) (fun j => by rw [mI_sI, if_neg (by omega)]; exact rI _ _) (by rw [mI_sI, if_neg (by omega)]; exact rI _ _)
      · rw [mL_sI]
        have nC : nn (oi (nn (mI τ 85 2) + 1)) = nn (mI τ 85 2) + 1 := nn_oi (by omega)
        generalize mI (sI τ2 85 2 (oi (nn (mI τ 85 2) + 1))) 85 = R4 at hro hr2 ⊢
        have n8 : mI σ2 48 8 = mI σ 48 8 := (hI 48 8 (by omega)).trans (f3.1 48 8 (by unfold zfP zkP; omega))
        refine ⟨⟨⟨⟨by rw [hro 1 (by omega)]; exact b1.1.1, by rw [hr2]; exact bd_of (by omega) (by omega), by rw [hro 3 (by omega)]; exact b1.1.2.2.1, by rw [hro 4 (by omega)]; exact b1.1.2.2.2⟩, by rw [hro 5 (by omega)]; exact b1.2.1, by rw [hro 6 (by omega)]; exact b1.2.2.1, by rw [hro 7 (by omega)]; exact b1.2.2.2.1, by rw [hro 8 (by omega)]; exact b1.2.2.2.2⟩, zdn_c (fun j p q => hro j (by omega)) (hro 1 (by omega)) (hro 3 (by omega)) (hro 5 (by omega)) n8 (fun j => (hL 50 j (by omega)).trans (f3.2.1 50 j (by unfold zfQ; omega))) (fun j => (hI 51 j (by omega)).trans (f3.1 51 j (by unfold zfP zkP; omega))) (fun j => (hI 52 j (by omega)).trans (f3.1 52 j (by unfold zfP zkP; omega))) bn⟩, zdf_c (hro 1 (by omega)) (fun j p q => hro j (by omega)) hFb (hIw _ _ (by omega) (by omega) (by omega)) (fun j => hIw _ _ (by omega) (by omega) (by omega)) b3, ?_, zdq_c (hro 1 (by omega)) (hro 5 (by omega)) (fun q hq => by rw [rZ, if_neg (by have := b1.2.1.2; omega)]) (hIw _ _ (by omega) (by omega) (by omega)) (fun j => hLw _ _ (by omega) (by omega) (by omega)) b5, zds_c (hro 7 (by omega)) (fun j p q => hro j (by omega)) b1.2.2.2.1.2 (hIw _ _ (by omega) (by omega) (by omega)) (hIw _ _ (by omega) (by omega) (by omega)) b6, zdh_c (hro 3 (by omega)) (hro 4 (by omega)) (fun j p q => hro j (by omega)) b1.1.2.2.1.2 b1.1.2.2.2.2 (hIw _ _ (by omega) (by omega) (by omega)) (hIw _ _ (by omega) (by omega) (by omega)) (fun k j hk => hIw _ _ (by omega) (by omega) (by omega)) b7, zdt_c (hro 0 (by omega)) (hro 3 (by omega)) (hro 5 (by omega)) (hro 6 (by omega)) (hro 8 (by omega)) (fun j p q e1 e2 => hro j (by omega)) b1.2.2.1.2 (fun a j p q => hIw _ _ (by omega) (by omega) (by omega)) b8⟩
        refine ⟨⟨by rw [hI2, hr2], by rw [hL3, rZ8], ?_, by rw [rZ8]; exact zst1_ne es⟩, ?_, ?_, ?_, fun h0 => ?_⟩
        · rw [hro 1 (by omega), rZ8]; exact zlo_and l3 f6
        · rw [hro 10 (by omega), hIw _ _ (by omega) (by omega) (by omega)]; exact l5
        · rw [hro 10 (by omega), hIw _ _ (by omega) (by omega) (by omega)]; exact l6
        · rw [hro 10 (by omega), hro 1 (by omega)]; exact l7
        · rw [hro 10 (by omega)] at h0 ⊢
          rw [rZ8]
          unfold zst1 at es
          rw [if_pos h0] at es; exact es
  · rw [if_neg f5.1, if_neg (by rw [f5.2.2.2]; decide)]
    exact ⟨false, _, _, rfl, rfl, ⟨zf_l w f3, zg_m f4⟩, Or.inr ⟨rfl, f5⟩⟩
end
