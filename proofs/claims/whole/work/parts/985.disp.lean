/-! how a line begins, on both sides -/
theorem oi_256 (j : Nat) : oi (256 + j) - (256 : Int32) = oi j := by
  rw [show (256 : Int32) = oi 256 by decide +kernel, oi_sub (by omega), show 256 + j - 256 = j by omega]
def zlim (j : Nat) : Nat := [1, 6, 6, 1, 6, 6, 1000, 8, 12, 4, 8].getD j 0
theorem zlim_o : ∀ j, j < 11 → olr j = oi (zlim j) ∧ zlim j ≤ 1000 ∧ 1 ≤ zlim j := by decide +kernel
theorem zs_inj : ∀ s, s < 22 → ∀ s', s' < 22 → zwv (zsN s) (zsL s) = zwv (zsN s') (zsL s') → s = s' := by decide +kernel
theorem zis_o {g : Nat → Nat} {t : Tk} {s s' : Nat} (hs : s < 22) (hs' : s' < 22) (h : zis g t s = true) (hne : s ≠ s') : zis g t s' = false := by
  unfold zis at h ⊢
  rw [Bool.and_eq_true, decide_eq_true_eq, decide_eq_true_eq] at h
  rw [h.2, decide_eq_false (fun e => hne (zs_inj s hs s' hs' e)), Bool.and_false]
def zdisp (k p : Int32) (σ5 : OM) : Option (Int32 × OM) :=
  if k = 0 then obi (fX5_readWell σ5) (fun r7 σ8 => ogd (oisb r7) (some (r7, σ8)))
  else if k = 1 then obi (fX5_readFact σ5) (fun r11 σ12 => ogd (oisb r11) (some (r11, σ12)))
  else if k = 2 then obi (fX5_readLaw p σ5) (fun r15 σ16 => ogd (oisb r15) (some (r15, σ16)))
  else if k = 3 then obi (fX5_readTruth p σ5) (fun r19 σ20 => ogd (oisb r19) (some (r19, σ20)))
  else if k = 4 then obi (fX5_readHouse σ5) (fun r23 σ24 => ogd (oisb r23) (some (r23, σ24)))
  else if k = 5 then obi (fX5_readTwin σ5) (fun r27 σ28 => ogd (oisb r27) (some (r27, σ28)))
  else if k = 6 then obi (fX5_readEnds σ5) (fun r31 σ32 => ogd (oisb r31) (some (r31, σ32)))
  else if k = 7 then obi (fX5_readQuestion σ5) (fun r35 σ36 => ogd (oisb r35) (some (r35, σ36)))
  else if k = 8 then obi (fX5_readTold σ5) (fun r39 σ40 => ogd (oisb r39) (some (r39, σ40)))
  else if k = 9 then obi (fX5_readStone σ5) (fun r43 σ44 => ogd (oisb r43) (some (r43, σ44)))
  else if k = 10 then obi (fX5_readWeds σ5) (fun r47 σ48 => ogd (oisb r47) (some (r47, σ48)))
  else some (0, σ5)
theorem disp_eq (x0 : Int32) (σ : OM) : fX5_readLine x0 σ = obi (fX5_mayBegin (mI σ 43 8 - 256) x0 σ) (fun r1 σ2 => if r1 = 0 then some (0, σ2) else obv (fX6_advance σ2) (fun σ5 => zdisp (mI σ 43 8 - 256) (mI σ 43 9) σ5)) := rfl
section
variable {σ τ : OM} {f : Nat → Nat} {L i w : Nat} {t : Tk} {r : List Tk}
theorem mb_6 {j : Nat} (hj0 : 1 ≤ j) (hj : j < 11) (h2 : mI σ 48 2 = 0) : fX5_mayBegin (oi j) 1 σ = some (0, zfl σ 6 (mI σ 43 9)) := by
  unfold fX5_mayBegin
  rw [if_neg (oi_nneg (by omega)), if_pos (show oi j < (11 : Int32) from (oi_lt (b := 11) (by omega) (by omega)).mpr hj), if_neg (show ¬ (1 : Int32) = 0 by decide), if_neg (show ¬ oi j = 0 from fun e => absurd ((oi_inj (b := 0) (by omega) (by omega)).mp e) (by omega)), zfail h2, obi_s, ogd_t (show oisb 0 = true from rfl)]
theorem mb_in {j : Nat} {x1 : Int32} (hj : j < 11) (h : x1 = 0 ∨ j = 0) : fX5_mayBegin (oi j) x1 σ = fX5_mayBegin_b45 (oi j) σ := by
  unfold fX5_mayBegin
  rw [if_neg (oi_nneg (by omega)), if_pos (show oi j < (11 : Int32) from (oi_lt (b := 11) (by omega) (by omega)).mpr hj)]
  by_cases e : x1 = 0
  · rw [if_pos e]
  · rw [if_neg e, if_pos (show oi j = 0 by rw [h.resolve_left e]; rfl)]
theorem mb_ok {j c : Nat} (hj : j < 11) (hc : mI σ 49 j = oi c) (hl : c < zlim j) : fX5_mayBegin_b45 (oi j) σ = some (1, sI σ 49 j (oi (c + 1))) := by
  have h3 := (zlim_o j hj).2.1
  unfold fX5_mayBegin_b45
  rw [ogi hj (by omega), ogi hj (by omega), ogi hj (by omega), ogi hj (by omega), oi_nat (by omega), hc, oi_succ, mI_at, (zlim_o j hj).1, if_pos ((oi_le (by omega) (by omega)).mpr hl)]
theorem mb_ov {j c : Nat} (hj : j < 11) (hc : mI σ 49 j = oi c) (hcb : c ≤ 1000) (hl : zlim j ≤ c) (h2 : mI σ 48 2 = 0) : fX5_mayBegin_b45 (oi j) σ = some (0, zfl (sI σ 49 j (oi (c + 1))) (if j = 0 ∨ j = 3 then 3 else 5) (mI σ 43 9)) := by
  have h3 := (zlim_o j hj).2.1
  have h48 : mI (sI σ 49 j (oi (c + 1))) 48 2 = 0 := by rw [mI_sI, if_neg (by omega)]; exact h2
  have h43 : mI (sI σ 49 j (oi (c + 1))) 43 9 = mI σ 43 9 := by rw [mI_sI, if_neg (by omega)]
  unfold fX5_mayBegin_b45
  rw [ogi hj (by omega), ogi hj (by omega), ogi hj (by omega), ogi hj (by omega), oi_nat (by omega), hc, oi_succ, mI_at, (zlim_o j hj).1, if_neg (fun q => absurd ((oi_le (by omega) (by omega)).mp q) (by omega)), h43, zfail h48, zfail h48, obi_s, obi_s, ogd_t (show oisb 0 = true from rfl), ogd_t (show oisb 0 = true from rfl)]
  by_cases e0 : j = 0
  · rw [if_pos (show oi j = 0 by rw [e0]; rfl), if_pos (Or.inl e0)]
  · rw [if_neg (show ¬ oi j = 0 from fun e => absurd ((oi_inj (b := 0) (by omega) (by omega)).mp e) (by omega))]
    by_cases e3 : j = 3
    · rw [if_pos (show oi j = 3 by rw [e3]; rfl), if_pos (Or.inr e3)]
    · rw [if_neg (show ¬ oi j = 3 from fun e => absurd ((oi_inj (b := 3) (by omega) (by omega)).mp e) (by omega)), if_neg (by omega)]
theorem mb_no {k x1 : Int32} (h : k < 0 ∨ ¬ k < 11) (h2 : mI σ 48 2 = 0) : fX5_mayBegin k x1 σ = some (0, zfl σ 1 (mI σ 43 9)) := by
  unfold fX5_mayBegin
  rw [zfail h2, obi_s, ogd_t (show oisb 0 = true from rfl)]
  by_cases e : k < 0
  · rw [if_pos e]
  · rw [if_neg e, if_neg (h.resolve_left e)]
/-- the reference's words, tried one after another -/
theorem bg_n {s : Nat} (hlv : zLv σ τ f L t r i) (hs : s < 22) (h : zis (zch f L) t s = false) (k : Int32) : fX10_begins s k τ = some (0, τ) := by
  unfold fX10_begins; rw [zisr (zlv_ok hlv) hlv.1.2.2.1 hlv.2.2 hs, h, obi_s, if_pos (show b2 false = 0 from rfl)]
theorem rc0 (hlv : zLv σ τ f L t r i) (h : zis (zch f L) t 0 = false) : fX10_readLine τ = fX10_readLine_b40 (mI τ 81 4) 2 (if (6 : Int32) ≤ mI τ 85 1 then 0 else 1) τ := by
  unfold fX10_readLine
  rw [zisr (zlv_ok hlv) hlv.1.2.2.1 hlv.2.2 (by decide), h, obi_s, if_pos (show b2 false = 0 from rfl)]
  by_cases e : (6 : Int32) ≤ mI τ 85 1
  · rw [if_pos e, if_pos e]
  · rw [if_neg e, if_neg e]
theorem rc1 (hlv : zLv σ τ f L t r i) (h : zis (zch f L) t 2 = false) (l k : Int32) : fX10_readLine_b40 l 2 k τ = fX10_readLine_b72 l 3 (if (6 : Int32) ≤ mI τ 85 2 then 0 else 1) τ := by
  unfold fX10_readLine_b40
  rw [bg_n hlv (by decide) h, obi_s, if_pos rfl]
  by_cases e : (6 : Int32) ≤ mI τ 85 2
  · rw [if_pos e, if_pos e]
  · rw [if_neg e, if_neg e]
theorem rc2 (hlv : zLv σ τ f L t r i) (h : zis (zch f L) t 3 = false) (h' : zis (zch f L) t 4 = false) (l k : Int32) : fX10_readLine_b72 l 3 k τ = fX10_readLine_b122 6 (if (6 : Int32) ≤ mI τ 85 3 then 0 else 1) τ := by
  unfold fX10_readLine_b72
  rw [bg_n hlv (by decide) h, obi_s, if_pos rfl, zisr (zlv_ok hlv) hlv.1.2.2.1 hlv.2.2 (by decide), h', obi_s, if_pos (show b2 false = 0 from rfl)]
  by_cases e : (6 : Int32) ≤ mI τ 85 3
  · rw [if_pos e, if_pos e]
  · rw [if_neg e, if_neg e]
theorem rc3 (hlv : zLv σ τ f L t r i) (h : zis (zch f L) t 6 = false) (k : Int32) : fX10_readLine_b122 6 k τ = fX10_readLine_b154 7 (if (6 : Int32) ≤ mI τ 85 4 then 0 else 1) τ := by
  unfold fX10_readLine_b122
  rw [bg_n hlv (by decide) h, obi_s, if_pos rfl]
  by_cases e : (6 : Int32) ≤ mI τ 85 4
  · rw [if_pos e, if_pos e]
  · rw [if_neg e, if_neg e]
theorem rc4 (hlv : zLv σ τ f L t r i) (h : zis (zch f L) t 7 = false) (h' : zis (zch f L) t 8 = false) (k : Int32) : fX10_readLine_b154 7 k τ = fX10_readLine_b203 9 (if (8 : Int32) ≤ mI τ 85 5 then 0 else 1) τ := by
  unfold fX10_readLine_b154
  rw [bg_n hlv (by decide) h, obi_s, if_pos rfl, bg_n hlv (by decide) h', obi_s, if_pos rfl]
  by_cases e : (8 : Int32) ≤ mI τ 85 5
  · rw [if_pos e, if_pos e]
  · rw [if_neg e, if_neg e]
theorem rc5 (hlv : zLv σ τ f L t r i) (h : zis (zch f L) t 9 = false) (k : Int32) : fX10_readLine_b203 9 k τ = fX10_readLine_b236 10 (if (12 : Int32) ≤ mI τ 85 6 then 0 else 1) τ := by
  unfold fX10_readLine_b203
  rw [bg_n hlv (by decide) h, obi_s, if_pos rfl]
  by_cases e : (12 : Int32) ≤ mI τ 85 6
  · rw [if_pos e, if_pos e]
  · rw [if_neg e, if_neg e]
theorem rc6 (hlv : zLv σ τ f L t r i) (h : zis (zch f L) t 10 = false) (k : Int32) : fX10_readLine_b236 10 k τ = fX10_readLine_b268 11 (if (4 : Int32) ≤ mI τ 85 7 then 0 else 1) τ := by
  unfold fX10_readLine_b236
  rw [bg_n hlv (by decide) h, obi_s, if_pos rfl]
  by_cases e : (4 : Int32) ≤ mI τ 85 7
  · rw [if_pos e, if_pos e]
  · rw [if_neg e, if_neg e]
theorem rc7 (hlv : zLv σ τ f L t r i) (h : zis (zch f L) t 11 = false) (k : Int32) : fX10_readLine_b268 11 k τ = fX10_readLine_b301 12 (if (8 : Int32) ≤ mI τ 85 8 then 0 else 1) τ := by
  unfold fX10_readLine_b268
  rw [bg_n hlv (by decide) h, obi_s, if_pos rfl]
  by_cases e : (8 : Int32) ≤ mI τ 85 8
  · rw [if_pos e, if_pos e]
  · rw [if_neg e, if_neg e]
theorem rc8 (hlv : zLv σ τ f L t r i) (h : zis (zch f L) t 12 = false) (k : Int32) : fX10_readLine_b301 12 k τ = some (zwr τ 1 (mI τ 81 4)) := by
  unfold fX10_readLine_b301
  rw [bg_n hlv (by decide) h, obi_s, if_pos rfl, zwrong hlv.2.2, obv_s]
/-- a line whose word the reference passes in its 'begins' -/
def znP (w : Nat) : Nat → Nat → Prop := fun a j => zlP w a j ∨ a = 49
theorem zl_n {σ σ' : OM} (h : Fr (zlP w) (zlQ w) σ σ') : Fr (znP w) (zlQ w) σ σ' := fr_mono (fun a j q => Or.inl q) (fun a q => q) h
theorem zplain {n j s c : Nat} {k2 : Int32} {XL : OM → Option OM} {fc : OM → Option (Int32 × OM)} {P : OM → Prop} (h1 : mR σ 48 1 = w) (hw : w = 1 ∨ w = 22) (hlv : zLv σ τ f L t r i) (hD : zDD σ w (mI τ 85) (mL τ 87))
    (hs : s < 22) (hj : 1 ≤ j) (hj2 : j < 11) (hj3 : j ≠ 3) (hz : zis (zch f L) t s = true) (hkk : zck (zch f L) t = oi (256 + j)) (hc : mI σ 49 j = oi c) (hc2 : c ≤ 1000) (hk2 : (k2 = 0 ∧ zlim j ≤ c) ∨ (k2 = 1 ∧ c < zlim j)) (h9 : mI τ 85 9 = if n = 0 then 0 else 1) (h0 : n = 0 → c < zlim j)
    (hdisp : ∀ σ5, zdisp (oi j) (oi t.2.1) σ5 = obi (fc σ5) (fun r σ' => ogd (oisb r) (some (r, σ')))) (hdead : ∀ τ, mI τ 81 13 = 1 → XL τ = some τ)
    (hln : n ≠ 0 → c < zlim j → ∀ σ5 τ5 t5 r5, mR σ5 48 1 = w → zLv σ5 τ5 f L t5 r5 (i + 1) → zDD σ5 w (mI τ5 85) (mL τ5 87) → (∀ k, mI τ5 85 k = mI τ 85 k) → ∃ b σ' τ', fc σ5 = some (b2 b, σ') ∧ XL τ5 = some τ' ∧ zRs w f L (i + 1 + 1) b σ5 σ' τ5 τ' (P τ')) :
    ∃ b σ' τ', fX5_readLine (b2 (decide (n = 0))) σ = some (b2 b, σ') ∧ (∀ E : OM → Option OM, obi (fX10_begins s k2 τ) (fun r1 σ2 => if r1 = 0 then E σ2 else obv (XL σ2) (fun σ5 => some σ5)) = some τ') ∧ (Fr (znP w) (zlQ w) σ σ' ∧ Fr zmP zmQ τ τ') ∧ ((b = true ∧ n ≠ 0 ∧ zGo σ' τ' f L (i + 1) ∧ zDD σ' w (mI τ' 85) (mL τ' 87) ∧ P τ' ∧ (∀ k, k ≠ j → mI σ' 49 k = mI σ 49 k) ∧ mI σ' 49 j = oi (c + 1)) ∨ (b = false ∧ zDead σ' τ')) := by
  have hp1 : mI σ 43 9 = oi t.2.1 := hlv.1.2.1.1.2.2.1
  have hp2 : mI τ 81 4 = oi t.2.1 := hlv.1.2.2.1.1.1
  have hkd : mI σ 43 8 = zck (zch f L) t := hlv.1.2.1.1.2.1
  have hkj : mI σ 43 8 - 256 = oi j := by
    rw [hkd, hkk, oi_256]
  have hb : ∀ k2, fX10_begins s k2 τ = if k2 = 0 then obv (fX10_wrong (5 : Int32) (mI τ 81 4) τ) (fun σ5 => fX10_begins_b23 σ5) else fX10_begins_b23 τ := fun k2 => by
    unfold fX10_begins; rw [zisr (zlv_ok hlv) hlv.1.2.2.1 hlv.2.2 hs, hz, obi_s, if_neg (show ¬ b2 true = 0 by decide)]
  rw [disp_eq, hkj]
  by_cases hn : n = 0
  · have k21 : k2 = 1 := (hk2.resolve_left (fun q => absurd (h0 hn) (by omega))).1
    rw [if_pos hn] at h9
    refine ⟨false, zfl σ 6 (oi t.2.1), zwr τ 6 (oi t.2.1), ?_, fun E => ?_, ⟨zl_n (zk_l w (zfl_fr _ _ _)), zr_m (zwr_fr _ _ _)⟩, Or.inr ⟨rfl, zdead_mk _ _ (by decide) _⟩⟩
    · rw [decide_eq_true hn, show b2 true = 1 from rfl, mb_6 hj hj2 hlv.2.1, obi_s, if_pos rfl, hp1]; rfl
    · rw [hb, k21, if_neg (show ¬ (1 : Int32) = 0 by decide)]
      unfold fX10_begins_b23
      rw [if_pos h9, zwrong hlv.2.2, obv_s, if_neg (by rw [zwr_13]; decide), obi_s, if_neg (show ¬ (1 : Int32) = 0 by decide), hdead _ (zwr_13 _ _ _), obv_s, hp2]
  · rw [if_neg hn] at h9
    rw [decide_eq_false hn, mb_in (x1 := b2 false) hj2 (Or.inl rfl)]
    rcases hk2 with ⟨k20, hl⟩ | ⟨k21, hl⟩
    · refine ⟨false, zfl (sI σ 49 j (oi (c + 1))) 5 (oi t.2.1), zwr τ 5 (oi t.2.1), ?_, fun E => ?_, ⟨fr_tr (fr_I (fr_rfl _ _ _) (Or.inr rfl)) (zl_n (zk_l w (zfl_fr _ _ _))), zr_m (zwr_fr _ _ _)⟩, Or.inr ⟨rfl, zdead_mk _ _ (by decide) _⟩⟩
      · rw [mb_ov hj2 hc hc2 hl hlv.2.1, obi_s, if_pos rfl, if_neg (by omega), hp1]; rfl
      · rw [hb, k20, if_pos rfl, zwrong hlv.2.2, obv_s]
        have e9 : mI (zwr τ 5 (mI τ 81 4)) 85 9 = 1 := by rw [(zwr_fr τ 5 (mI τ 81 4)).1 85 9 (by unfold zrP; omega)]; exact h9
        unfold fX10_begins_b23
        rw [e9, if_neg (show ¬ (1 : Int32) = 0 by decide), if_neg (by rw [zwr_13]; decide), obi_s, if_neg (show ¬ (1 : Int32) = 0 by decide), hdead _ (zwr_13 _ _ _), obv_s, hp2]
    · have hl2 : zLv (sI σ 49 j (oi (c + 1))) τ f L t r i := zlv_fr hlv (fun a b p q => by rw [mI_sI, if_neg (by omega)]) (fun _ _ _ _ => rfl) (by rw [mI_sI, if_neg (by omega)]) (fun _ _ _ => rfl) (fun _ => rfl) (fun _ => rfl) rfl
      have ht2 : t.1 = 2 := by
        unfold zis at hz
        rw [Bool.and_eq_true, decide_eq_true_eq] at hz; exact hz.1
      obtain ⟨t5, r5, σ5, τ5, g1, g2, g3, g4, g5, g6⟩ := zboth hl2 (by omega)
      have hf5 : Fr (fun a j => zkP a j ∨ a = 49) zkQ σ σ5 := fr_tr (fr_I (fr_rfl _ _ _) (Or.inr rfl)) (fr_mono (fun a j q => Or.inl (Or.inl q)) (fun a q => q) g5)
      have hR5 : ∀ k, mI τ5 85 k = mI τ 85 k := fun k => g6.1 85 k (by unfold zP3; omega)
      have hZ5 : mL τ5 87 = mL τ 87 := funext (fun k => g6.2.1 87 k (fun q => q))
      have hD5 : zDD σ5 w (mI τ5 85) (mL τ5 87) := by
        rw [hZ5, show mI τ5 85 = mI τ 85 from funext hR5]
        exact zdd_fr (fun a j p q => hf5.1 a j (by unfold zkP; omega)) (fun a j p q => hf5.2.1 a j (by unfold zkQ; omega)) (hf5.1 48 8 (by unfold zkP; omega)) (fun j => hf5.2.1 50 j (by unfold zkQ; omega)) (fun j => hf5.1 51 j (by unfold zkP; omega)) (fun j => hf5.1 52 j (by unfold zkP; omega)) hD
      obtain ⟨b, σ', τ', e1, e2, ⟨e3, e4⟩, e5⟩ := hln hn hl σ5 τ5 t5 r5 (by rw [hf5.2.2]; exact h1) g3 hD5 hR5
      refine ⟨b, σ', τ', ?_, fun E => ?_, ⟨fr_tr (fr_mono (fun a j q => q.elim (fun q => Or.inl (Or.inl (Or.inl q))) Or.inr) (fun a q => Or.inl (Or.inl q)) hf5) (zl_n e3), fr_tr (zr_m (zP3r g6)) e4⟩, ?_⟩
      · rw [mb_ok hj2 hc hl, obi_s, if_neg (show ¬ (1 : Int32) = 0 by decide), g1, obv_s, hp1, hdisp, e1, obi_s]
        cases b <;> rfl
      · rw [hb, k21, if_neg (show ¬ (1 : Int32) = 0 by decide)]
        unfold fX10_begins_b23
        rw [h9, if_neg (show ¬ (1 : Int32) = 0 by decide), if_pos hlv.2.2, g2, obv_s, obi_s, if_neg (show ¬ (1 : Int32) = 0 by decide), e2, obv_s]
      · rcases e5 with ⟨p1, p2, p3, p4⟩ | p
        · refine Or.inl ⟨p1, hn, zgo_lt p2 (by omega), p3, p4, fun k hk => ?_, ?_⟩
          · rw [e3.1 49 k (by unfold zlP zfP zkP; omega), g5.1 49 k (by unfold zP2; omega), mI_sI, if_neg (by omega)]
          · rw [e3.1 49 j (by unfold zlP zfP zkP; omega), g5.1 49 j (by unfold zP2; omega), mI_at]
        · exact Or.inr p
end
