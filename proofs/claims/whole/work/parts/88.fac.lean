/-! factors on both sides -/
section
variable {σ τ : OM} {f : Nat → Nat} {L i d c K F n : Nat} {t : Tk} {r : List Tk} {R : Nat → Int32}
/-- a fact's name -/
theorem zfac_fact (hF6 : F ≤ 6) (hF : ∀ s, s < 6 → 1 ≤ zSm R s → s < F) (rc : OM → Option (Int64 × OM)) {N m a b : Nat} {B : Bool} (hfs : zFS σ τ f L t r i d c R K) (hB : mI σ 55 d = b2 B) (h13 : zis (zch f L) t 13 = false) (h40 : t.1 ≠ 40) (ha : a ≤ c) (hN : 100 ≤ N + a) (hb : b ≤ i) (hm : 2000 ≤ m + b) : ∃ v τ', fX10_factor_s rc τ = some (v, τ') ∧ Fr zgP noL τ τ' ∧ ((zLo F v ∧ zCl (zCO N m a b σ) σ τ' f L (i + 1) t.2.1 d R K (fun S T => S = mL σ 53 d ∧ T = mL σ 54 d &&& zng B v) (fun _ => True)) ∨ zDe (zCO N m a b σ) σ τ') := by
  have hfs0 := hfs
  obtain ⟨hlv, ⟨h85, hNM⟩, ⟨h9, h25, hd8⟩, h13c, h24, hc12⟩ := hfs
  have hi := zlv_i hlv
  have ho := zlv_ok hlv
  obtain ⟨m, rfl⟩ : ∃ k', m = k' + 1 := ⟨m - 1, by omega⟩
  rw [zco_fact hlv h13 h40 (by omega)]
  unfold fX10_factor_s
  rw [if_pos hlv.2.2, ztw hlv (by decide) h13, obi_s, if_pos rfl, hlv.1.2.2.1.1.2.2, if_neg (by rw [show (40 : Int32) = oi 40 from rfl, oi_inj (by have := ho.1; omega) (by omega)]; exact h40)]
  have hNM' : zNM σ (mI τ 85) K := by rw [h85]; exact hNM
  rcases znamed hlv hNM' (y := 1) (lo := 0) (hi := 5) (Or.inl ⟨rfl, rfl, rfl⟩) with ⟨s, a1, a2, a3, a4, a5, a6⟩ | ⟨cc, c1, c2, c3⟩
  · rw [show fX10_named 0 5 τ = fX10_named (oi 0) (oi 5) τ from rfl, a5, obi_s, if_pos hlv.2.2, Nat.sub_zero, h24]
    -- the reference counts, then both step on
    have hfa : Fr zgP noL τ (sI τ 81 24 (oi (c + 1))) := fr_I (fr_rfl _ _ _) (Or.inr ⟨rfl, Or.inl rfl⟩)
    have hlva : zLv σ (sI τ 81 24 (oi (c + 1))) f L t r i := zlv_fr hlv (fun _ _ _ _ => rfl) (fun _ _ _ _ => rfl) rfl (fun j p q => by rw [mI_sI, if_neg (by omega)]) (fun j => by rw [mI_sI, if_neg (by omega)]) (fun j => by rw [mI_sI, if_neg (by omega)]) (by rw [mI_sI, if_neg (by omega)])
    obtain ⟨t1, r1, σ1, τ1, g1, g2, g3, g4, g5, g6⟩ := zboth hlva (by omega)
    have hT : fX5_takeName 1 σ = some (oi s, σ1) := a6 σ1 g1 (fun j => g5.1 52 j (by unfold zP2; omega))
    have k13 : mI σ1 48 13 = oi c := by rw [g5.1 48 13 (by unfold zP2; omega)]; exact h13c
    have k9 : mI σ1 48 9 = oi d := by rw [g5.1 48 9 (by unfold zP2; omega)]; exact h9
    have hs6 : s < 6 := by omega
    by_cases e : c = 12
    · -- too many
      subst e
      rw [if_pos (by rfl), hlv.1.2.2.1.1.1, zwrong hlv.2.2, obv_s]
      unfold fX10_factor_b151
      rw [zwr_13, if_neg (by decide)]
      refine ⟨_, _, rfl, zwr_g _ _ _, Or.inr ?_⟩
      have hrd : fX5_readFactInFormula σ = some (0, zfl (sI σ1 48 13 (oi 13)) 5 (oi t.2.1)) := by
        unfold fX5_readFactInFormula
        rw [hT, obi_s, if_neg (oi_nneg (by omega)), show (6 : Int32) = oi 6 from rfl, if_pos ((oi_lt (by omega) (by omega)).mpr hs6), k13, oi_succ, mI_at, show (12 : Int32) = oi 12 from rfl, if_neg (by decide), hlv.1.2.1.1.2.2.1, zfail (by rw [mI_sI, if_neg (by omega), g5.1 48 2 (by unfold zP2; omega)]; exact hlv.2.1)]
        rfl
      rw [hrd, obi_s, if_pos rfl, zb0 (by omega) (by omega) (d := d) (by unfold zfl; rw [mI_sI, if_neg (by omega), mI_sI, if_neg (by omega), mI_sI, if_neg (by omega)]; exact k9) hd8]
      exact ⟨_, _, rfl, zdead_mk _ _ (by decide) _, fr_tr (zP2f g5) (fr_tr (fr_I (fr_rfl _ _ _) (Or.inr (Or.inl ⟨rfl, Or.inr rfl⟩))) (zfl_f _ _ _))⟩
    · rw [if_neg (by rw [show (12 : Int32) = oi 12 from rfl, oi_inj (by omega) (by omega)]; exact e)]
      unfold fX10_factor_b151
      rw [if_pos hlv.2.2, h24, oi_succ, g2, obv_s, zworlds hs6, obi_s]
      have hrd : fX5_readFactInFormula σ = some (1, zjf (sI σ1 48 13 (oi (c + 1))) d (mL σ1 54 d &&& zng B (oho s))) := by
        unfold fX5_readFactInFormula
        rw [hT, obi_s, if_neg (oi_nneg (by omega)), show (6 : Int32) = oi 6 from rfl, if_pos ((oi_lt (by omega) (by omega)).mpr hs6), k13, oi_succ, mI_at, show (12 : Int32) = oi 12 from rfl, if_pos ((oi_le (by omega) (by omega)).mpr (by omega)), ogi (by omega) (by omega), oi_nat (by omega), zjoin (d := d) (B := B) (by rw [mI_sI, if_neg (by omega)]; exact k9) hd8 (by rw [mI_sI, if_neg (by omega), g5.1 55 d (by unfold zP2; omega)]; exact hB), obv_s]
        rfl
      rw [hrd, obi_s, if_neg (by decide)]
      have hfr : Fr zfP zfQ σ1 (zjf (sI σ1 48 13 (oi (c + 1))) d (mL σ1 54 d &&& zng B (oho s))) := fr_I (fr_L (fr_I (fr_rfl _ _ _) (Or.inr (Or.inl ⟨rfl, Or.inr rfl⟩))) (Or.inr (Or.inr rfl))) (Or.inr (Or.inr rfl))
      have q53 : ∀ j, mL (zjf (sI σ1 48 13 (oi (c + 1))) d (mL σ1 54 d &&& zng B (oho s))) 53 j = mL σ1 53 j := fun j => by
        show mL (sL σ1 54 d _) 53 j = _
        rw [mL_sL, if_neg (by omega)]
      have q54 : ∀ j, mL (zjf (sI σ1 48 13 (oi (c + 1))) d (mL σ1 54 d &&& zng B (oho s))) 54 j = if j = d then mL σ1 54 d &&& zng B (oho s) else mL σ1 54 j := fun j => by
        show mL (sL σ1 54 d _) 54 j = _
        rw [mL_sL]
        by_cases ej : j = d
        · rw [if_pos ⟨rfl, ej⟩, if_pos ej]
        · rw [if_neg (fun q => ej q.2), if_neg ej]
      have q55 : ∀ j, mI (zjf (sI σ1 48 13 (oi (c + 1))) d (mL σ1 54 d &&& zng B (oho s))) 55 j = if j = d then 0 else mI σ1 55 j := fun j => by
        unfold zjf
        rw [mI_sI]
        by_cases ej : j = d
        · rw [if_pos ⟨rfl, ej⟩, if_pos ej]
        · rw [if_neg (fun q => ej q.2), if_neg ej, mI_sL, mI_sI, if_neg (by omega)]
      have q13 : mI (zjf (sI σ1 48 13 (oi (c + 1))) d (mL σ1 54 d &&& zng B (oho s))) 48 13 = oi (c + 1) := by
        unfold zjf; rw [mI_sI, if_neg (by omega), mI_sL, mI_at]
      have qo : ∀ a j, a ≠ 55 → ¬ (a = 48 ∧ j = 13) → mI (zjf (sI σ1 48 13 (oi (c + 1))) d (mL σ1 54 d &&& zng B (oho s))) a j = mI σ1 a j := fun a j p q => by
        unfold zjf; rw [mI_sI, if_neg (fun e => p e.1), mI_sL, mI_sI, if_neg q]
      have qL : ∀ a j, a ≠ 54 → mL (zjf (sI σ1 48 13 (oi (c + 1))) d (mL σ1 54 d &&& zng B (oho s))) a j = mL σ1 a j := fun a j p => by
        show mL (sL σ1 54 d _) a j = _
        rw [mL_sL, if_neg (fun e => p e.1)]
      generalize (zjf (sI σ1 48 13 (oi (c + 1))) d (mL σ1 54 d &&& zng B (oho s))) = σ2 at hfr q53 q54 q55 q13 qo qL ⊢
      have hlv2 : zLv σ2 τ1 f L t1 r1 (i + 1) := zlv_fr g3 (fun a j p q => qo a j (by omega) (by omega)) (fun a j p q => qL a j (by omega)) (qo 48 2 (by omega) (by omega)) (fun _ _ _ => rfl) (fun _ => rfl) (fun _ => rfl) rfl
      obtain ⟨p, hp⟩ := zlv_tok hlv
      have hen := ztk_en hp
      have hat := ztk_le g4
      refine ⟨oho s, τ1, rfl, fr_tr hfa (zP3g g6), Or.inl ⟨fun j hj => zlo_oho F hF6 s (hF s hs6 (by rw [← h85]; exact a3)) j hj, σ2, t1, r1, i + 1, N, oF, a, 0, c + 1, rfl, ⟨⟨hlv2, ⟨?_, znm_f (fr_tr (zP2f g5) hfr) hNM⟩, ⟨?_, ?_, hd8⟩, q13, ?_, by omega⟩, by omega, hN, by omega, by unfold oF; omega, ?_⟩, Nat.le_refl _, by omega, ⟨?_, ?_⟩, trivial, ⟨fun j hj => ⟨?_, ?_, ?_⟩, fr_tr (zP2f g5) hfr⟩⟩⟩
      · rw [zrow_g g6 (fun j => by unfold zP3; omega), mI_row (by decide)]; exact h85
      · rw [qo 48 9 (by omega) (by omega)]; exact k9
      · rw [g6.1 81 25 (by unfold zP3; omega), mI_sI, if_neg (by omega)]; exact h25
      · rw [g6.1 81 24 (by unfold zP3; omega), mI_at]
      · rw [q55, if_pos rfl]
      · rw [q53]; exact g5.2.1 53 d (by unfold zQ2; omega)
      · rw [q54, if_pos rfl, g5.2.1 54 d (by unfold zQ2; omega)]
      · rw [q53]; exact g5.2.1 53 j (by unfold zQ2; omega)
      · rw [q54, if_neg (by omega)]; exact g5.2.1 54 j (by unfold zQ2; omega)
      · rw [q55, if_neg (by omega)]; exact g5.1 55 j (by unfold zP2; omega)
  · rw [show fX10_named 0 5 τ = fX10_named (oi 0) (oi 5) τ from rfl, c2, obi_s, zwr_13, if_neg (by decide)]
    unfold fX10_factor_b151
    rw [zwr_13, if_neg (by decide)]
    refine ⟨_, _, rfl, zwr_g _ _ _, Or.inr ?_⟩
    have hrd : fX5_readFactInFormula σ = some (0, zfl σ cc (oi t.2.1)) := by
      unfold fX5_readFactInFormula
      rw [show fX5_takeName 1 σ = fX5_takeName (oi 1) σ from rfl, c3, obi_s, if_pos (by decide)]
    rw [hrd, obi_s, if_pos rfl, zb0 (by omega) (by omega) (d := d) (by unfold zfl; rw [mI_sI, if_neg (by omega), mI_sI, if_neg (by omega)]; exact h9) hd8]
    exact ⟨_, _, rfl, zdead_mk _ _ c1 _, zfl_f _ _ _⟩
/-- 'not' before a factor -/
theorem zfac_not (hrc : zFac f L R K F n) {N m a b : Nat} {B : Bool} (hfs : zFS σ τ f L t r i d c R K) (hB : mI σ 55 d = b2 B) (h13 : zis (zch f L) t 13 = true) (hn : zNeed L (n + 1) d t) (ha : a ≤ c) (hN : 100 ≤ N + a) (hb : b ≤ i) (hm : 2000 ≤ m + b) : ∃ v τ', fX10_factor_s (fX10_factor n) τ = some (v, τ') ∧ Fr zgP noL τ τ' ∧ ((zLo F v ∧ zCl (zCO N m a b σ) σ τ' f L (i + 1) t.2.1 d R K (fun S T => S = mL σ 53 d ∧ T = mL σ 54 d &&& zng B v) (fun _ => True)) ∨ zDe (zCO N m a b σ) σ τ') := by
  obtain ⟨hlv, ⟨h85, hNM⟩, ⟨h9, h25, hd8⟩, h13c, h24, hc12⟩ := hfs
  have hi := zlv_i hlv
  have ho := zlv_ok hlv
  have ht2 := zis_2 h13
  obtain ⟨m, rfl⟩ : ∃ k', m = k' + 1 := ⟨m - 1, by omega⟩
  have hfb : Fr zfP zfQ σ (sI σ 55 d (b2 (!B))) := fr_I (fr_rfl _ _ _) (Or.inr (Or.inr rfl))
  have hfsb : zFS (sI σ 55 d (b2 (!B))) τ f L t r i d c R K := ⟨zlv_fr hlv (fun a j p q => by rw [mI_sI, if_neg (by omega)]) (fun a j p q => rfl) (by rw [mI_sI, if_neg (by omega)]) (fun j p q => rfl) (fun j => rfl) (fun j => rfl) rfl, ⟨h85, znm_f hfb hNM⟩, ⟨by rw [mI_sI, if_neg (by omega)]; exact h9, h25, hd8⟩, by rw [mI_sI, if_neg (by omega)]; exact h13c, h24, hc12⟩
  obtain ⟨t1, r1, σ1, τ1, g1, g2, g3, g4, g5, g6⟩ := zfs_step hfsb (by omega)
  rw [zco_not hlv h13 (by omega) h9 hd8 hB g1]
  unfold fX10_factor_s
  rw [if_pos hlv.2.2, ztw_y hlv (by decide) h13 g2, obi_s, if_neg (by decide)]
  have e55 : mI σ1 55 d = b2 (!B) := by rw [g5.1 55 d (by unfold zP2; omega), mI_at]
  obtain ⟨p, hp⟩ := zlv_tok hlv
  have hen := ztk_en hp
  have hat := ztk_le g4
  have h3 := ((zis_iff ho (by decide)).mp h13).2.1
  have hl3 : zsL 13 = 3 := by decide
  have hneed : zNeed L n d t1 := by
    have hL : t.2.2 ≤ L := by
      obtain ⟨_, q0, _, ⟨_, _, b⟩ | ⟨_, _, ⟨_, m, _, _, b, _⟩ | ⟨_, m, _, _, b, _⟩ | ⟨q1, _, b, _⟩⟩⟩ := hp <;> omega
    have hn2 := hn.2.1 ht2
    have hL1 := g4.2.1
    refine ⟨by omega, fun q => ?_, fun q => by omega⟩
    have hne : t1.2.1 ≠ t.2.2 := by
      intro q2
      have z1 : zsm (zch f L t1.2.1) = true := by
        obtain ⟨_, _, _, ⟨_, b, _⟩ | ⟨_, _, ⟨b, _⟩ | ⟨_, m, _, _, _, b⟩ | ⟨_, _, _, b⟩⟩⟩ := g4
        · omega
        · exact b
        · exfalso; rw [q] at b; split at b <;> omega
        · exfalso; rw [q] at b
          split at b
          · rename_i z; have := zsg_v z; omega
          · omega
      have z2 : zsm (zch f L t.2.2) = false := by
        obtain ⟨_, _, _, ⟨_, b, _⟩ | ⟨_, _, ⟨_, m, b1, b2', _⟩ | ⟨_, m, _, _, _, b⟩ | ⟨_, _, _, b⟩⟩⟩ := hp
        · omega
        · rw [b2']; exact b1.2
        · exfalso; rw [ht2] at b; split at b <;> omega
        · exfalso; rw [ht2] at b
          split at b
          · rename_i z; have := zsg_v z; omega
          · omega
      rw [q2, z2] at z1; cases z1
    omega
  obtain ⟨v, τ2, f1, f2, f3⟩ := hrc σ1 τ1 t1 r1 (i + 1) d c N m a (b + 1) (!B) g3 e55 hneed ha hN (by omega) (by omega)
  rw [f1, obi_s]
  have hw : zLw σ σ1 d := zlw_tr (σ1 := sI σ 55 d (b2 (!B))) ⟨fun j hj => ⟨rfl, rfl, by rw [mI_sI, if_neg (by omega)]⟩, hfb⟩ (zP2w g5 d)
  refine ⟨_, τ2, rfl, fr_tr (zP3g g6) f2, ?_⟩
  have e53 : mL σ1 53 d = mL σ 53 d := g5.2.1 53 d (by unfold zQ2; omega)
  have e54 : mL σ1 54 d = mL σ 54 d := g5.2.1 54 d (by unfold zQ2; omega)
  have hng : zng (!B) v = zng B (v ^^^ (-1)) := by
    cases B with
    | false => rfl
    | true => show v = (v ^^^ -1) ^^^ -1; rw [Int64.xor_assoc, Int64.xor_self, Int64.xor_zero]
  rcases f3 with ⟨f3, f4⟩ | f3
  · exact Or.inl ⟨zlo_not f3, zcl_up f4 hw (by omega) (by omega) (fun S T q => ⟨by rw [q.1, e53], by rw [q.2, e54, hng]⟩) (fun _ q => q)⟩
  · exact Or.inr (zde_up f3 hw.2)
/-- brackets -/
theorem zfac_par (hrc : zFac f L R K F n) {N m a b : Nat} {B : Bool} (hfs : zFS σ τ f L t r i d c R K) (hB : mI σ 55 d = b2 B) (h40 : t.1 = 40) (hn : zNeed L (n + 1) d t) (ha : a ≤ c) (hN : 100 ≤ N + a) (hb : b ≤ i) (hm : 2000 ≤ m + b) : ∃ v τ', fX10_factor_s (fX10_factor n) τ = some (v, τ') ∧ Fr zgP noL τ τ' ∧ ((zLo F v ∧ zCl (zCO N m a b σ) σ τ' f L (i + 1) t.2.1 d R K (fun S T => S = mL σ 53 d ∧ T = mL σ 54 d &&& zng B v) (fun _ => True)) ∨ zDe (zCO N m a b σ) σ τ') := by
  obtain ⟨hlv, ⟨h85, hNM⟩, ⟨h9, h25, hd8⟩, h13c, h24, hc12⟩ := hfs
  have hi := zlv_i hlv
  have ho := zlv_ok hlv
  have h13 : zis (zch f L) t 13 = false := by unfold zis; rw [decide_eq_false (by omega)]; rfl
  obtain ⟨m, rfl⟩ : ∃ k', m = k' + 1 := ⟨m - 1, by omega⟩
  unfold fX10_factor_s
  rw [if_pos hlv.2.2, ztw hlv (by decide) h13, obi_s, if_pos rfl, hlv.1.2.2.1.1.2.2, h40, if_pos (by rfl), h25]
  by_cases e8 : d = 8
  · subst e8
    rw [if_pos (by rfl), hlv.1.2.2.1.1.1, zwrong hlv.2.2, obv_s]
    unfold fX10_factor_b54
    rw [zwr_13, if_neg (by decide)]
    obtain ⟨x, hx⟩ := zco_deep (n := m) (b := b) hlv h40 (N := N) (a := a) (by omega) (by omega) (by omega) h9
    exact ⟨_, _, rfl, zwr_g _ _ _, Or.inr ⟨x, _, hx, zdead_mk _ _ (by decide) _, zfl_f _ _ _⟩⟩
  · rw [if_neg (by rw [show (8 : Int32) = oi 8 from rfl, oi_inj (by omega) (by omega)]; exact e8)]
    unfold fX10_factor_b54
    rw [if_pos hlv.2.2]
    -- one level deeper
    have hfb : Fr zfP zfQ σ (zbl (sI σ 48 9 (oi (d + 1))) (d + 1)) := fr_I (fr_L (fr_L (fr_I (fr_rfl _ _ _) (Or.inr (Or.inl ⟨rfl, Or.inl rfl⟩))) (Or.inr (Or.inl rfl))) (Or.inr (Or.inr rfl))) (Or.inr (Or.inr rfl))
    have qI : ∀ a j, ¬ (a = 55 ∧ j = d + 1) → ¬ (a = 48 ∧ j = 9) → mI (zbl (sI σ 48 9 (oi (d + 1))) (d + 1)) a j = mI σ a j := fun a j p q => by
      unfold zbl; rw [mI_sI, if_neg p, mI_sL, mI_sL, mI_sI, if_neg q]
    have q9 : mI (zbl (sI σ 48 9 (oi (d + 1))) (d + 1)) 48 9 = oi (d + 1) := by
      unfold zbl; rw [mI_sI, if_neg (by omega), mI_sL, mI_sL, mI_at]
    have q55 : mI (zbl (sI σ 48 9 (oi (d + 1))) (d + 1)) 55 (d + 1) = 0 := by unfold zbl; rw [mI_at]
    have q53 : mL (zbl (sI σ 48 9 (oi (d + 1))) (d + 1)) 53 (d + 1) = 0 := by
      show mL (sL (sL σ 53 (d + 1) 0) 54 (d + 1) (-1)) 53 (d + 1) = 0
      rw [mL_sL, if_neg (by omega), mL_at]
    have q54 : mL (zbl (sI σ 48 9 (oi (d + 1))) (d + 1)) 54 (d + 1) = -1 := by
      show mL (sL (sL σ 53 (d + 1) 0) 54 (d + 1) (-1)) 54 (d + 1) = -1
      rw [mL_at]
    have qL : ∀ a j, ¬ ((a = 53 ∨ a = 54) ∧ j = d + 1) → mL (zbl (sI σ 48 9 (oi (d + 1))) (d + 1)) a j = mL σ a j := fun a j p => by
      show mL (sL (sL σ 53 (d + 1) 0) 54 (d + 1) (-1)) a j = mL σ a j
      rw [mL_sL, if_neg (by omega), mL_sL, if_neg (by omega)]
    have hlvb : zLv (zbl (sI σ 48 9 (oi (d + 1))) (d + 1)) τ f L t r i := zlv_fr hlv (fun a j p q => qI a j (by omega) (by omega)) (fun a j p q => qL a j (by omega)) (qI 48 2 (by omega) (by omega)) (fun j p q => rfl) (fun j => rfl) (fun j => rfl) rfl
    obtain ⟨t1, r1, σ1, τ1, g1, g2, g3, g4, g5, g6⟩ := zboth hlvb (by omega)
    rw [zco_par hlv h40 (by omega) h9 (by omega) g1, g2, obv_s, g6.1 81 25 (by unfold zP3; omega), h25, oi_succ]
    have hlv1 : zLv σ1 (sI τ1 81 25 (oi (d + 1))) f L t1 r1 (i + 1) := zlv_fr g3 (fun _ _ _ _ => rfl) (fun _ _ _ _ => rfl) rfl (fun j p q => by rw [mI_sI, if_neg (by omega)]) (fun j => by rw [mI_sI, if_neg (by omega)]) (fun j => by rw [mI_sI, if_neg (by omega)]) (by rw [mI_sI, if_neg (by omega)])
    have hfr1 : Fr zgP noL τ (sI τ1 81 25 (oi (d + 1))) := fr_I (zP3g g6) (Or.inr ⟨rfl, Or.inr rfl⟩)
    have hfc1 : Fr zfP zfQ σ σ1 := fr_tr hfb (zP2f g5)
    have hfs1 : zFS σ1 (sI τ1 81 25 (oi (d + 1))) f L t1 r1 (i + 1) (d + 1) c R K := ⟨hlv1, ⟨(zrow_g hfr1 z85).trans h85, znm_f hfc1 hNM⟩, ⟨by rw [g5.1 48 9 (by unfold zP2; omega)]; exact q9, mI_at, by omega⟩, by rw [g5.1 48 13 (by unfold zP2; omega), qI 48 13 (by omega) (by omega)]; exact h13c, by rw [mI_sI, if_neg (by omega), g6.1 81 24 (by unfold zP3; omega)]; exact h24, hc12⟩
    obtain ⟨p, hp⟩ := zlv_tok hlv
    have hen : t.2.1 + 1 ≤ t.2.2 := by
      obtain ⟨_, q0, _, ⟨_, b, _⟩ | ⟨_, _, ⟨q1, m, q2, b, _⟩ | ⟨q1, m, q2, b, _⟩ | ⟨q1, _, b, _⟩⟩⟩ := hp
      · omega
      · have := zrun_pos q2 q1; omega
      · have := zrun_pos q2 q1; omega
      · omega
    have hat := ztk_le g4
    have hL1 := g4.2.1
    have hn2 := hn.2.2 h40
    obtain ⟨v, τ2, f1, f2, f3⟩ := zform hrc (N := N) (m := m) (a := a) (b := b + 1) hfs1 (by rw [g5.1 55 _ (by unfold zP2; omega)]; exact q55) (by rw [g5.2.1 53 _ (by unfold zQ2; omega)]; exact q53) (by rw [g5.2.1 54 _ (by unfold zQ2; omega)]; exact q54) (by omega) ha hN (by omega) (by omega)
    rw [f1, obi_s]
    have l53 : ∀ j, j ≤ d → mL σ1 53 j = mL σ 53 j := fun j hj => by rw [g5.2.1 53 j (by unfold zQ2; omega)]; exact qL 53 j (by omega)
    have l54 : ∀ j, j ≤ d → mL σ1 54 j = mL σ 54 j := fun j hj => by rw [g5.2.1 54 j (by unfold zQ2; omega)]; exact qL 54 j (by omega)
    have l55 : ∀ j, j ≤ d → mI σ1 55 j = mI σ 55 j := fun j hj => by rw [g5.1 55 j (by unfold zP2; omega)]; exact qI 55 j (by omega) (by omega)
    rcases f3 with ⟨f3, σ2, t2, r2, i2, N2, m2, a2, b2', c2', x1, x2, x3, x4, x5, ⟨x6, x7⟩, x8⟩ | f3
    · rw [x1]
      obtain ⟨y1, y2, y3, y4, y5, y6⟩ := x2
      have hlv2 := y1.1
      have ho2 := zlv_ok hlv2
      rw [if_pos hlv2.2.2]
      unfold fX10_takesSign
      rw [if_pos hlv2.2.2, hlv2.1.2.2.1.1.2.2]
      have hc2 := y1.2.2.2.2.2
      by_cases e41 : t2.1 = 41
      · rw [e41, if_pos (by rfl)]
        obtain ⟨m2, rfl⟩ : ∃ k', m2 = k' + 1 := ⟨m2 - 1, by omega⟩
        -- back to the level before
        have b55 : mI σ2 55 d = b2 B := by rw [(x8.1 d (by omega)).2.2, l55 d (by omega)]; exact hB
        have b54 : mL σ2 54 d = mL σ 54 d := by rw [(x8.1 d (by omega)).2.1, l54 d (by omega)]
        have b53 : mL σ2 53 d = mL σ 53 d := by rw [(x8.1 d (by omega)).1, l53 d (by omega)]
        have hstep := fun σ' h => zcc_par (σ' := σ') hlv2 e41 (N := N2) (n := m2) (a := a2) (b := b2') (d := d) (B := B) y4 y1.2.2.1.1 b55 h
        rw [x5, b54] at hstep
        have hfj : Fr zfP zfQ σ2 (zjf (sI σ2 48 9 (oi d)) d (mL σ 54 d &&& zng B v)) := fr_I (fr_L (fr_I (fr_rfl _ _ _) (Or.inr (Or.inl ⟨rfl, Or.inl rfl⟩))) (Or.inr (Or.inr rfl))) (Or.inr (Or.inr rfl))
        have rI : ∀ a j, ¬ (a = 55 ∧ j = d) → ¬ (a = 48 ∧ j = 9) → mI (zjf (sI σ2 48 9 (oi d)) d (mL σ 54 d &&& zng B v)) a j = mI σ2 a j := fun a j p q => by
          unfold zjf; rw [mI_sI, if_neg p, mI_sL, mI_sI, if_neg q]
        have r9 : mI (zjf (sI σ2 48 9 (oi d)) d (mL σ 54 d &&& zng B v)) 48 9 = oi d := by
          unfold zjf; rw [mI_sI, if_neg (by omega), mI_sL, mI_at]
        have r55 : mI (zjf (sI σ2 48 9 (oi d)) d (mL σ 54 d &&& zng B v)) 55 d = 0 := by unfold zjf; rw [mI_at]
        have r54 : mL (zjf (sI σ2 48 9 (oi d)) d (mL σ 54 d &&& zng B v)) 54 d = mL σ 54 d &&& zng B v := by
          show mL (sL σ2 54 d _) 54 d = _
          rw [mL_at]
        have rL : ∀ a j, ¬ (a = 54 ∧ j = d) → mL (zjf (sI σ2 48 9 (oi d)) d (mL σ 54 d &&& zng B v)) a j = mL σ2 a j := fun a j p => by
          show mL (sL σ2 54 d _) a j = _
          rw [mL_sL, if_neg p]
        generalize (zjf (sI σ2 48 9 (oi d)) d (mL σ 54 d &&& zng B v)) = σ3 at hstep hfj rI r9 r55 r54 rL
        have hlv3 : zLv σ3 τ2 f L t2 r2 i2 := zlv_fr hlv2 (fun a j p q => rI a j (by omega) (by omega)) (fun a j p q => rL a j (by omega)) (rI 48 2 (by omega) (by omega)) (fun j p q => rfl) (fun j => rfl) (fun j => rfl) rfl
        obtain ⟨t4, r4, σ4, τ4, k1, k2, k3, k4, k5, k6⟩ := zboth hlv3 (by omega)
        rw [hstep σ4 k1, k2, obv_s, obi_s, if_neg (by decide), k6.1 81 25 (by unfold zP3; omega), y1.2.2.1.2.1, show oi (d + 1) - 1 = oi d from oi_sub (a := d + 1) (b := 1) (by omega)]
        have hlv4 : zLv σ4 (sI τ4 81 25 (oi d)) f L t4 r4 (i2 + 1) := zlv_fr k3 (fun _ _ _ _ => rfl) (fun _ _ _ _ => rfl) rfl (fun j p q => by rw [mI_sI, if_neg (by omega)]) (fun j => by rw [mI_sI, if_neg (by omega)]) (fun j => by rw [mI_sI, if_neg (by omega)]) (by rw [mI_sI, if_neg (by omega)])
        have hfr4 : Fr zgP noL τ (sI τ4 81 25 (oi d)) := fr_I (fr_tr (fr_tr hfr1 f2) (zP3g k6)) (Or.inr ⟨rfl, Or.inr rfl⟩)
        have hfc4 : Fr zfP zfQ σ σ4 := fr_tr (fr_tr (fr_tr hfc1 x8.2) hfj) (zP2f k5)
        obtain ⟨p2, hp2⟩ := zlv_tok hlv2
        have hen2 := ztk_en hp2
        have hat2 := ztk_le k4
        refine ⟨v, _, rfl, hfr4, Or.inl ⟨f3, σ4, t4, r4, i2 + 1, N2, m2, a2, b2' + 1, c2', rfl, ⟨⟨hlv4, ⟨(zrow_g hfr4 z85).trans h85, znm_f hfc4 hNM⟩, ⟨?_, mI_at, by omega⟩, ?_, ?_, hc2⟩, y2, y3, by omega, by omega, ?_⟩, by omega, by omega, ⟨?_, ?_⟩, trivial, ⟨fun j hj => ⟨?_, ?_, ?_⟩, hfc4⟩⟩⟩
        · rw [k5.1 48 9 (by unfold zP2; omega)]; exact r9
        · rw [k5.1 48 13 (by unfold zP2; omega), rI 48 13 (by omega) (by omega)]; exact y1.2.2.2.1
        · rw [mI_sI, if_neg (by omega), k6.1 81 24 (by unfold zP3; omega)]; exact y1.2.2.2.2.1
        · rw [k5.1 55 d (by unfold zP2; omega)]; exact r55
        · rw [k5.2.1 53 d (by unfold zQ2; omega), rL 53 d (by omega)]; exact b53
        · rw [k5.2.1 54 d (by unfold zQ2; omega)]; exact r54
        · rw [k5.2.1 53 j (by unfold zQ2; omega), rL 53 j (by omega), (x8.1 j (by omega)).1, l53 j (by omega)]
        · rw [k5.2.1 54 j (by unfold zQ2; omega), rL 54 j (by omega), (x8.1 j (by omega)).2.1, l54 j (by omega)]
        · rw [k5.1 55 j (by unfold zP2; omega), rI 55 j (by omega) (by omega), (x8.1 j (by omega)).2.2, l55 j (by omega)]
      · rw [if_neg (by rw [show (41 : Int32) = oi 41 from rfl, oi_inj (by have := ho2.1; omega) (by omega)]; exact e41), obi_s, if_pos rfl, hlv2.1.2.2.1.1.1, zwrong hlv2.2.2, obv_s]
        obtain ⟨m2, rfl⟩ : ∃ k', m2 = k' + 1 := ⟨m2 - 1, by omega⟩
        obtain ⟨x, hx⟩ := zcc_bad (n := m2) (b := b2') hlv2 x6 x7 e41 (N := N2) (a := a2) (d := d) (by omega) (by omega) (by omega) y1.2.2.1.1
        refine ⟨_, _, rfl, fr_I (fr_tr (fr_tr hfr1 f2) (zwr_g _ _ _)) (Or.inr ⟨rfl, Or.inr rfl⟩), Or.inr ⟨x, _, hx, ?_, fr_tr (fr_tr hfc1 x8.2) (zfl_f _ _ _)⟩⟩
        exact zdead_fr rfl rfl (by rw [mI_sI, if_neg (by omega)]) (by rw [mI_sI, if_neg (by omega)]) (by rw [mI_sI, if_neg (by omega)]) (zdead_mk _ _ (by decide) _)
    · obtain ⟨x, σ2, w1, w2, w3⟩ := f3
      rw [w2.2.2.2, if_neg (by decide)]
      refine ⟨_, _, rfl, fr_I (fr_tr hfr1 f2) (Or.inr ⟨rfl, Or.inr rfl⟩), Or.inr ⟨x, σ2, w1, ?_, fr_tr hfc1 w3⟩⟩
      exact zdead_fr rfl rfl (by rw [mI_sI, if_neg (by omega)]) (by rw [mI_sI, if_neg (by omega)]) (by rw [mI_sI, if_neg (by omega)]) w2
/-- every factor -/
theorem zfactor (hF6 : F ≤ 6) (hF : ∀ s, s < 6 → 1 ≤ zSm R s → s < F) : ∀ n, zFac f L R K F n
  | 0 => fun σ τ t r i d c N m a b B _ _ hn => absurd hn.1 (by decide)
  | n + 1 => by
    intro σ τ t r i d c N m a b B hfs hB hn ha hN hb hm
    show ∃ v τ', fX10_factor_s (fX10_factor n) τ = some (v, τ') ∧ _
    cases e : zis (zch f L) t 13 with
    | true => exact zfac_not (zfactor hF6 hF n) hfs hB e hn ha hN hb hm
    | false =>
      by_cases e40 : t.1 = 40
      · exact zfac_par (zfactor hF6 hF n) hfs hB e40 hn ha hN hb hm
      · exact zfac_fact hF6 hF _ hfs hB e e40 ha hN hb hm
end
