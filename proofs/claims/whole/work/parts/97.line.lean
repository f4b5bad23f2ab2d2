/-! lines: stone -/
section
variable {σ τ : OM} {f : Nat → Nat} {L i w : Nat} {t : Tk} {r : List Tk}
theorem zyes (hlv : zLv σ τ f L t r i) : ∃ y σ' τ', fX5_takeYes σ = some (b2 y, σ') ∧ fX10_yes τ = some (b2 y, τ') ∧ (Fr zkP zkQ σ σ' ∧ Fr zrP noL τ τ') ∧ (zGo σ' τ' f L (i + 1) ∨ (y = false ∧ zDead σ' τ')) := by
  have ho := zlv_ok hlv
  have k20 : zkw (ol (zwv (zsN 20) (zsL 20))) = 1 := by rw [← zkw_v.2.2.2.2.2.1]; exact zkw_n.2.2.2.2.2.1
  have k21 : zkw (ol (zwv (zsN 21) (zsL 21))) = 1 := by rw [← zkw_v.2.2.2.2.2.2]; exact zkw_n.2.2.2.2.2.2
  unfold fX5_takeYes fX10_yes
  rw [show (7955827 : Int64) = ol (zwv (zsN 20) (zsL 20)) from zkw_v.2.2.2.2.2.1, show (28271 : Int64) = ol (zwv (zsN 21) (zsL 21)) from zkw_v.2.2.2.2.2.2, zisc ho hlv.1.2.1 (by decide) k20, obi_s]
  cases e : zis (zch f L) t 20 with
  | true =>
    obtain ⟨t1, r1, σ1, τ1, g1, g2, g3, g4, g5, g6⟩ := zboth hlv (by have := zis_2 e; omega)
    have hT : fX5_takeWord (ol (zwv (zsN 20) (zsL 20))) σ = some (1, σ1) := by
      unfold fX5_takeWord
      rw [zisc ho hlv.1.2.1 (by decide) k20, obi_s, e, if_neg (by decide), g1, obv_s]
    rw [if_neg (show ¬ b2 true = 0 by decide), hT, obi_s, if_neg (show ¬ (1 : Int32) = 0 by decide), if_neg (show ¬ b2 true = 0 by decide), ztw_y hlv (by decide) e g2, obi_s, if_neg (by decide)]
    exact ⟨true, σ1, τ1, rfl, rfl, ⟨zP2k g5, zP3r g6⟩, Or.inl ⟨t1, r1, i + 1, Nat.le_refl _, g3⟩⟩
  | false =>
    rw [if_pos (show b2 false = 0 from rfl), ztw hlv (by decide) e, obi_s, if_pos rfl]
    obtain ⟨σ1, τ1, k1, k3, k4⟩ := ztake hlv (s := 21) (by decide) k21
    rw [k3, obv_s]
    rcases k4 with ⟨a, b⟩ | ⟨a, b⟩
    · rw [a, obi_s, if_neg (show ¬ (1 : Int32) = 0 by decide), if_pos (show b2 false = 0 from rfl)]
      exact ⟨false, σ1, τ1, rfl, rfl, k1, Or.inl b⟩
    · rw [a, obi_s, if_pos rfl]
      exact ⟨false, σ1, τ1, rfl, rfl, k1, Or.inr ⟨rfl, b⟩⟩
theorem ln_stone (hw : w = 1 ∨ w = 22) (h1 : mR σ 48 1 = w) (hk : okd w = 8) (hlv : zLv σ τ f L t r i) (hD : zDD σ w (mI τ 85) (mL τ 87)) (hS : nn (mI τ 85 7) < 4) : ∃ b σ' τ', fX5_readStone σ = some (b2 b, σ') ∧ fX10_stoneLine τ = some τ' ∧ zRs w f L (i + 1) b σ σ' τ τ' ((∀ k, 1 ≤ k → k ≤ 10 → k ≠ 7 → mI τ' 85 k = mI τ 85 k) ∧ mI τ' 85 7 = oi (nn (mI τ 85 7) + 1)) := by
  obtain ⟨⟨b1, bn⟩, b3, b4, b5, b6, b7, b8⟩ := hD
  have hR7 : mI τ 85 7 = oi (nn (mI τ 85 7)) := b1.2.2.2.1.1
  generalize hSe : nn (mI τ 85 7) = S at *
  have hc8 : mI σ (w + 1) 8 = oi S := b6.1.trans hR7
  obtain ⟨y, σ1, τ1, e1, e2, ⟨e3, e4⟩, e5⟩ := zyes hlv
  have hm1 : mR σ1 48 1 = w := by rw [e3.2.2]; exact h1
  have s8 : mI σ1 (w + 1) 8 = oi S := by rw [e3.1 (w + 1) 8 (by unfold zkP; omega)]; exact hc8
  have s9 : mI σ1 (w + 1) 9 = mI σ (w + 1) 9 := e3.1 (w + 1) 9 (by unfold zkP; omega)
  have hcl : fX5_readStone σ = fX5_readStone_b34 (if y then sI σ1 (w + 1) 9 (mI σ (w + 1) 9 ||| (1 : Int32) <<< (oi S &&& 31)) else σ1) := by
    unfold fX5_readStone
    rw [e1, obi_s]
    cases y with
    | false => rw [if_pos (show b2 false = 0 from rfl)]; rfl
    | true => rw [if_neg (show ¬ b2 true = 0 by decide), hm1, ogd_d hk, ogd_d hk, s8, s9]; rfl
  have hb34 : ∀ σ2 : OM, mR σ2 48 1 = w → mI σ2 (w + 1) 8 = oi S → fX5_readStone_b34 σ2 = if mI σ2 48 2 = 0 then some (1, sI σ2 (w + 1) 8 (oi (S + 1))) else some (0, sI σ2 (w + 1) 8 (oi (S + 1))) := by
    intro σ2 p q
    unfold fX5_readStone_b34
    have e2 : mI (sI σ2 (w + 1) 8 (oi (S + 1))) 48 2 = mI σ2 48 2 := by rw [mI_sI, if_neg (by omega)]
    rw [p, ogd_d hk, q, oi_succ, e2]
  rw [hcl]
  unfold fX10_stoneLine
  rw [if_pos hlv.2.2, e2, obi_s]
  rcases e5 with e5 | ⟨rfl, e5⟩
  · have r7 : mI τ1 85 7 = oi S := by rw [e4.1 85 7 (by unfold zrP; omega)]; exact hR7
    have h9 : ∃ σ2, σ2 = (if y then sI σ1 (w + 1) 9 (mI σ (w + 1) 9 ||| (1 : Int32) <<< (oi S &&& 31)) else σ1) ∧ mR σ2 = mR σ1 ∧ (∀ a j, ¬ (a = w + 1 ∧ j = 9) → mI σ2 a j = mI σ1 a j) ∧ mL σ2 = mL σ1 ∧ ∀ k, k < 32 → tw (mI σ2 (w + 1) 9) k = if k = S then y else tw (mI σ (w + 1) 9) k := by
      cases y with
      | false =>
        refine ⟨σ1, rfl, rfl, fun _ _ _ => rfl, rfl, fun k hk => ?_⟩
        rw [s9]
        by_cases e : k = S
        · rw [if_pos e, e]; exact b6.2.2 S (by omega)
        · rw [if_neg e]
      | true =>
        refine ⟨_, rfl, rfl, fun a j e => by rw [if_pos rfl, mI_sI, if_neg e], rfl, fun k hk => ?_⟩
        rw [if_pos rfl, mI_at, tw_or, tw_shl S (by omega) k hk]
        by_cases e : k = S
        · rw [if_pos e, decide_eq_true e, Bool.or_true]
        · rw [if_neg e, decide_eq_false e, Bool.or_false]
    obtain ⟨σ2, q0, q1, q2, q3, q4⟩ := h9
    rw [← q0, hb34 σ2 (by rw [q1]; exact hm1) (by rw [q2 _ _ (by omega)]; exact s8), if_pos (by rw [q2 _ _ (by omega)]; exact (zgo_13 e5).1), if_pos (zgo_13 e5).2, r7, show (89 : Int32) + oi S = oi (89 + S) from oi_add 89 S, ogi (by omega) (by omega), oi_nat (by omega)]
    have r72 : mI (sI τ1 85 (89 + S) (b2 y)) 85 7 = oi S := by rw [mI_sI, if_neg (by omega)]; exact r7
    rw [r72, oi_succ]
    have hfr2 : Fr (zlP w) (zlQ w) σ σ2 := by
      refine fr_tr (zk_l w e3) ⟨fun a j p => q2 a j (fun e => p (Or.inr (Or.inr (Or.inr (Or.inr ⟨by omega, by omega⟩))))), fun a j p => by rw [q3], q1⟩
    have hrow : ∀ j, mI (sI (sI τ1 85 (89 + S) (b2 y)) 85 7 (oi (S + 1))) 85 j = if j = 7 then oi (S + 1) else if j = 89 + S then b2 y else mI τ 85 j := fun j => by
      rw [mI_sI]
      by_cases e9 : j = 7
      · rw [if_pos ⟨rfl, e9⟩, if_pos e9]
      · rw [if_neg (fun q => e9 q.2), if_neg e9, mI_sI]
        by_cases e0 : j = 89 + S
        · rw [if_pos ⟨rfl, e0⟩, if_pos e0]
        · rw [if_neg (fun q => e0 q.2), if_neg e0]; exact e4.1 85 j (by unfold zrP; omega)
    have hro : ∀ j, j ≠ 7 → j ≠ 89 + S → mI (sI (sI τ1 85 (89 + S) (b2 y)) 85 7 (oi (S + 1))) 85 j = mI τ 85 j := fun j p q => by rw [hrow, if_neg p, if_neg q]
    have hr7 : mI (sI (sI τ1 85 (89 + S) (b2 y)) 85 7 (oi (S + 1))) 85 7 = oi (S + 1) := by rw [hrow, if_pos rfl]
    have hrS : mI (sI (sI τ1 85 (89 + S) (b2 y)) 85 7 (oi (S + 1))) 85 (89 + S) = b2 y := by rw [hrow, if_neg (by omega), if_pos rfl]
    have hZ : mL (sI (sI τ1 85 (89 + S) (b2 y)) 85 7 (oi (S + 1))) 87 = mL τ 87 := funext (fun j => e4.2.1 87 j (fun q => q))
    have hIw : ∀ a j, w ≤ a → a ≤ w + 20 → ¬ (a = w + 1 ∧ (j = 8 ∨ j = 9)) → mI (sI σ2 (w + 1) 8 (oi (S + 1))) a j = mI σ a j := fun a j p q e => by
      rw [mI_sI, if_neg (by omega), q2 a j (by omega)]; exact e3.1 a j (by unfold zkP; omega)
    have hLw : ∀ a j, a ≠ 43 → mL (sI σ2 (w + 1) 8 (oi (S + 1))) a j = mL σ a j := fun a j p => by
      rw [mL_sI, q3]; exact e3.2.1 a j (by unfold zkQ; omega)
    have hI5 : ∀ a j, 48 ≤ a → ¬ zkP a j → mI (sI σ2 (w + 1) 8 (oi (S + 1))) a j = mI σ a j := fun a j p q => by
      rw [mI_sI, if_neg (by omega), q2 a j (by omega)]; exact e3.1 a j q
    have g8 : mI (sI σ2 (w + 1) 8 (oi (S + 1))) (w + 1) 8 = oi (S + 1) := mI_at
    have g9 : mI (sI σ2 (w + 1) 8 (oi (S + 1))) (w + 1) 9 = mI σ2 (w + 1) 9 := by rw [mI_sI, if_neg (by omega)]
    refine ⟨true, _, _, rfl, rfl, ⟨fr_I hfr2 (Or.inr (Or.inr (Or.inr (Or.inr ⟨by omega, by omega⟩)))), fr_I (fr_I (zr_m e4) (Or.inr rfl)) (Or.inr rfl)⟩, Or.inl ⟨rfl, ?_, ?_, fun k p q e => hro k e (by omega), hr7⟩⟩
    · exact zgo_fr e5 (fun a j p q => by rw [mI_sI, if_neg (by omega), q2 a j (by omega)]) (fun a j p q => by rw [mL_sI, q3]) (by rw [mI_sI, if_neg (by omega), q2 _ _ (by omega)]) (fun j p q => by rw [mI_sI, if_neg (by omega), mI_sI, if_neg (by omega)]) (fun j => by rw [mI_sI, if_neg (by omega), mI_sI, if_neg (by omega)]) (fun j => by rw [mI_sI, if_neg (by omega), mI_sI, if_neg (by omega)]) (by rw [mI_sI, if_neg (by omega), mI_sI, if_neg (by omega)])
    · rw [hZ]
      have nS : nn (oi (S + 1)) = S + 1 := nn_oi (by omega)
      generalize (sI σ2 (w + 1) 8 (oi (S + 1))) = σ4 at hIw hLw hI5 g8 g9 ⊢
      generalize mI (sI (sI τ1 85 (89 + S) (b2 y)) 85 7 (oi (S + 1))) 85 = R4 at hro hr7 hrS ⊢
      refine ⟨⟨⟨⟨by rw [hro 1 (by omega) (by omega)]; exact b1.1.1, by rw [hro 2 (by omega) (by omega)]; exact b1.1.2.1, by rw [hro 3 (by omega) (by omega)]; exact b1.1.2.2.1, by rw [hro 4 (by omega) (by omega)]; exact b1.1.2.2.2⟩, by rw [hro 5 (by omega) (by omega)]; exact b1.2.1, by rw [hro 6 (by omega) (by omega)]; exact b1.2.2.1, by rw [hr7]; exact bd_of (by omega) (by omega), by rw [hro 8 (by omega) (by omega)]; exact b1.2.2.2.2⟩, zdn_c (fun j p q => hro j (by omega) (by omega)) (hro 1 (by omega) (by omega)) (hro 3 (by omega) (by omega)) (hro 5 (by omega) (by omega)) (hI5 48 8 (by omega) (by unfold zkP; omega)) (fun j => hLw 50 j (by omega)) (fun j => hI5 51 j (by omega) (by unfold zkP; omega)) (fun j => hI5 52 j (by omega) (by unfold zkP; omega)) bn⟩, zdf_c (hro 1 (by omega) (by omega)) (fun j p q => hro j (by omega) (by omega)) b1.1.1.2 (hIw _ _ (by omega) (by omega) (by omega)) (fun j => hIw _ _ (by omega) (by omega) (by omega)) b3, zdl_c (hro 1 (by omega) (by omega)) (hro 2 (by omega) (by omega)) (hro 10 (by omega) (by omega)) rfl (hIw _ _ (by omega) (by omega) (by omega)) (hLw _ _ (by omega)) (hIw _ _ (by omega) (by omega) (by omega)) (hIw _ _ (by omega) (by omega) (by omega)) b4, zdq_c (hro 1 (by omega) (by omega)) (hro 5 (by omega) (by omega)) (fun q hq => rfl) (hIw _ _ (by omega) (by omega) (by omega)) (fun j => hLw _ _ (by omega)) b5, ⟨by rw [g8, hr7], fun k hk => ?_, fun k hk => ?_⟩, zdh_c (hro 3 (by omega) (by omega)) (hro 4 (by omega) (by omega)) (fun j p q => hro j (by omega) (by omega)) b1.1.2.2.1.2 b1.1.2.2.2.2 (hIw _ _ (by omega) (by omega) (by omega)) (hIw _ _ (by omega) (by omega) (by omega)) (fun k j hk => hIw _ _ (by omega) (by omega) (by omega)) b7, zdt_c (hro 0 (by omega) (by omega)) (hro 3 (by omega) (by omega)) (hro 5 (by omega) (by omega)) (hro 6 (by omega) (by omega)) (hro 8 (by omega) (by omega)) (fun j p q e1 e2 => hro j (by omega) (by omega)) b1.2.2.1.2 (fun a j p q => hIw _ _ (by omega) (by omega) (by omega)) b8⟩
      · rw [hr7, nS] at hk
        rw [g9, q4 k (by omega)]
        by_cases e : k = S
        · rw [if_pos e, e, hrS]
          cases y with
          | true => exact ⟨rfl, Or.inr rfl⟩
          | false => exact ⟨rfl, Or.inl rfl⟩
        · rw [if_neg e, hro (89 + k) (by omega) (by omega)]
          exact b6.2.1 k (by omega)
      · rw [hr7, nS] at hk
        rw [g9]
        by_cases e : k < 32
        · rw [q4 k e, if_neg (by omega)]; exact b6.2.2 k (by omega)
        · exact tw_big (by omega)
  · rw [show (if false = true then sI σ1 (w + 1) 9 (mI σ (w + 1) 9 ||| (1 : Int32) <<< (oi S &&& 31)) else σ1) = σ1 from rfl, hb34 σ1 hm1 s8, if_neg e5.1, if_neg (by rw [e5.2.2.2]; decide)]
    exact ⟨false, _, _, rfl, rfl, ⟨fr_I (zk_l w e3) (Or.inr (Or.inr (Or.inr (Or.inr ⟨by omega, by omega⟩)))), zr_m e4⟩, Or.inr ⟨rfl, zdead_fr (by rw [mI_sI, if_neg (by omega)]) (by rw [mI_sI, if_neg (by omega)]) rfl rfl rfl e5⟩⟩
end
