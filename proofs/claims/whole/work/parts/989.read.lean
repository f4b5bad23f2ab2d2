/-! the reading, from its start to its end -/
def zsP : Nat → Nat → Prop := fun a j => (a = 43 ∧ j ≠ 1) ∨ a = 45 ∨ a = 46
def zsQ : Nat → Prop := fun a => a = 43 ∨ a = 47
def zwP (w : Nat) : Nat → Nat → Prop := fun a j => (w ≤ a ∧ a ≤ w + 20) ∨ (a = 43 ∧ j ≠ 1) ∨ (45 ≤ a ∧ a ≤ 55)
def zwQ (w : Nat) : Nat → Prop := fun a => (w ≤ a ∧ a ≤ w + 20) ∨ (43 ≤ a ∧ a ≤ 55)
def zvP : Nat → Nat → Prop := fun a j => (a = 81 ∧ ((3 ≤ j ∧ j ≤ 10) ∨ j = 13 ∨ j = 24 ∨ j = 25)) ∨ a = 83 ∨ a = 85
def zuP : Nat → Nat → Prop := fun a j => (a = 81 ∧ 3 ≤ j ∧ j ≤ 8) ∨ a = 83 ∨ a = 85
section
variable {σ τ : OM} {f : Nat → Nat} {L T w : Nat}
theorem zstart (hT : T ≤ 900) (h1 : mI σ 43 1 = oi T) (hL : L ≤ T) (hb : ∀ j, j < T → f j < 256 ∧ mI σ 44 j = sgb (f j)) : ∃ σ' t r, fX6_begin (oi L) σ = some σ' ∧ zTC σ' f L ∧ zCur σ' (zch f L) L t r 0 ∧ zTok (zch f L) L 0 t ∧ Fr zsP zsQ σ σ' := by
  unfold fX6_begin fJ9_min_7cf53
  rw [h1, if_neg (show ¬ oi T < oi L from fun q => absurd ((oi_lt (by omega) (by omega)).mp q) (by omega)), obi_s]
  have hf0 : Fr zsP zsQ σ (sI (sI σ 43 2 (oi L)) 43 6 0) := fr_I (fr_I (fr_rfl _ _ _) (Or.inl ⟨rfl, by omega⟩)) (Or.inl ⟨rfl, by omega⟩)
  have hTC : zTC (sI (sI σ 43 2 (oi L)) 43 6 0) f L := ⟨by omega, by rw [mI_sI, if_neg (by omega), mI_at], fun j hj => ⟨(hb j (by omega)).1, by rw [mI_sI, if_neg (by omega), mI_sI, if_neg (by omega)]; exact (hb j (by omega)).2⟩⟩
  obtain ⟨σ1, ts, e1, e2, e3, e4, e5, e6, e7⟩ := zbegin L 0 0 oF (sI (sI σ 43 2 (oi L)) 43 6 0) (by omega) (by omega) (by rw [show oF = 100000 from rfl]; omega) hTC mI_at
  cases ts with
  | nil => exact absurd e2 (fun q => q)
  | cons t r =>
    rw [show (0 : Int32) = oi 0 from rfl] at e1 ⊢
    rw [e1]
    have h6 : mI (sI σ1 43 7 (-1)) 43 6 = oi (0 + 1 + r.length) := by rw [mI_sI, if_neg (by omega), e4]; congr 1; rw [List.length_cons]; omega
    rw [List.length_cons] at e5
    have hA : zArr (sI σ1 43 7 (-1)) (zch f L) (t :: r) 0 := zarr_ext (σ := σ1) (σ' := sI σ1 43 7 (-1)) (fun j => by rw [mI_sI, if_neg (by omega)]) (fun j => by rw [mI_sI, if_neg (by omega)]) (fun j => rfl) _ _ e3
    rw [zadv_eq (c := 0 + 1 + r.length) (j := 0) (by omega) (by omega) h6 (by rw [mI_at]; decide)]
    have hfa := zadv_fr (sI σ1 43 7 (-1)) 0
    have hf1 : Fr zsP zsQ σ (zadv (sI σ1 43 7 (-1)) 0) := fr_tr (fr_I (fr_tr hf0 (fr_mono (fun a j q => by unfold zP1 at q; unfold zsP; omega) (fun a q => Or.inr q) e6)) (Or.inl ⟨rfl, by omega⟩)) (fr_mono (fun a j q => by unfold zP2 at q; unfold zsP; omega) (fun a q => Or.inl q) hfa)
    refine ⟨_, t, r, rfl, ?_, zadv_cur hA e2 h6 (by omega), e2.1, hf1⟩
    refine ztc_fr ?_ (fun j => ?_) hTC
    · rw [hfa.1 43 2 (by unfold zP2; omega), mI_sI, if_neg (by omega), e6.1 43 2 (by unfold zP1; omega)]
    · rw [hfa.1 44 j (by unfold zP2; omega), mI_sI, if_neg (by omega), e6.1 44 j (by unfold zP1; omega)]
theorem zstart_r (hL : L ≤ 900) (hb : ∀ j, j < L → f j < 256 ∧ mI τ 82 j = oi (f j)) {t : Tk} (ht : zTok (zch f L) L 0 t) : ∃ τ', fX10_well_b39 oF (oi L) 0 τ = obv (fX10_readLine τ') (fun σ5 => fX10_well_b100 oF σ5) ∧ zTR τ' f L ∧ zRt τ' (zch f L) t ∧ (∀ j, j < 279 → mI τ' 85 j = 0) ∧ (∀ q, q < 9 → mL τ' 87 q = -1) ∧ Fr zuP zmQ τ τ' := by
  obtain ⟨τ1, a1, a2, a3, a4, a5⟩ := zfill (fun n x σ => fX10_well_b39 n (oi L) x σ) (fun σ => fX10_well_b61 oF (oi L) 0 σ) 85 279 0 (fun n σ => by show fX10_well_b39 (n + 1) (oi L) (oi 279) σ = _; rw [fX10_well_b39, if_pos (show (279 : Int32) ≤ oi 279 by decide)]) (fun n k σ hk => by show fX10_well_b39 (n + 1) (oi L) (oi k) σ = _; rw [fX10_well_b39, if_neg (show ¬ (279 : Int32) ≤ oi k from nle hk (by decide)), ogi hk (by omega), oi_nat (by omega), oi_succ]) 279 0 oF τ rfl (by decide)
  obtain ⟨τ2, b1, b2', b3, b4, b5⟩ := zfillL (fun n x σ => fX10_well_b61 n (oi L) x σ) (fun σ => fX10_well_b82 (oi L) σ) 87 86 9 (fun _ => -1) (by decide) (fun n σ => by show fX10_well_b61 (n + 1) (oi L) (oi 9) σ = _; rw [fX10_well_b61, if_pos (show (9 : Int32) ≤ oi 9 by decide)]) (fun n k σ hk => by show fX10_well_b61 (n + 1) (oi L) (oi k) σ = _; rw [fX10_well_b61, if_neg (show ¬ (9 : Int32) ≤ oi k from nle hk (by decide)), ogi hk (by omega), oi_nat (by omega), oi_succ]) 9 0 oF τ1 rfl (by decide)
  have hf2 : Fr zuP zmQ τ τ2 := ⟨fun a j p => by rw [b4, a3 a j (fun q => p (Or.inr (Or.inr q.1)))], fun a j p => by rw [b3 a j (fun q => p q.1), a4], b5.trans a5⟩
  have hTR : zTR (sI (sI τ2 81 3 (oi L)) 81 5 0) f L := ⟨hL, by rw [mI_sI, if_neg (by omega), mI_at], fun j hj => ⟨(hb j hj).1, by rw [mI_sI, if_neg (by omega), mI_sI, if_neg (by omega), hf2.1 82 j (by unfold zuP; omega)]; exact (hb j hj).2⟩⟩
  obtain ⟨τ3, c1, c2, c3⟩ := zpass hTR (p := 0) mI_at ht
  have hf3 : Fr zuP zmQ τ τ3 := fr_tr (fr_I (fr_I hf2 (Or.inl ⟨rfl, by omega⟩)) (Or.inl ⟨rfl, by omega⟩)) (fr_mono (fun a j q => by unfold zP3 at q; unfold zuP; omega) (fun a q => q.elim) c3)
  refine ⟨τ3, ?_, ztr_fr c3 hTR, c2, fun j hj => ?_, fun q hq => ?_, hf3⟩
  · rw [show fX10_well_b39 oF (oi L) 0 τ = fX10_well_b61 oF (oi L) 0 τ1 from a1, show fX10_well_b61 oF (oi L) 0 τ1 = fX10_well_b82 (oi L) τ2 from b1]
    unfold fX10_well_b82
    rw [c1, obv_s]
  · rw [c3.1 85 j (by unfold zP3; omega), mI_sI, if_neg (by omega), mI_sI, if_neg (by omega), b4]; exact a2 j (by omega) hj
  · rw [c3.2.1 87 q (fun q => q)]; exact b2' q (by omega) hq
theorem zread (hw : w = 1 ∨ w = 22) (hk : okd w = 8) (hT : T ≤ 900) (h1 : mI σ 43 1 = oi T) (hL : L ≤ T) (hb : ∀ j, j < T → f j < 256 ∧ mI σ 44 j = sgb (f j)) (hb2 : ∀ j, j < T → mI τ 82 j = oi (f j)) (h13 : mI τ 81 13 = 0) (h9z : mI τ 81 9 = 0) : ∃ σ' τ', fX10_well_b39 oF (oi L) 0 τ = fX10_well_b195 τ' ∧ (Fr (zwP w) (zwQ w) (sR σ 48 1 w) σ' ∧ Fr zvP zmQ τ τ') ∧ ((zDead σ' τ' ∧ fX5_read w (oi L) σ = some σ') ∨ (mI σ' 48 2 = 0 ∧ (mI τ' 81 13 = 0 ∧ mI τ' 81 9 = 0) ∧ fX5_read w (oi L) σ = obv (fX8_close w σ') (fun σ9 => some σ9) ∧ zDD σ' w (mI τ' 85) (mL τ' 87) ∧ 1 ≤ nn (mI τ' 85 1) ∧ 1 ≤ nn (mI τ' 85 3))) := by
  have hm : mR (sR σ 48 1 w) 48 1 = w := by rw [mR_sR, if_pos ⟨rfl, rfl⟩]
  obtain ⟨σ1, a1, a2, a3, a4, a5⟩ := c8_eq w (sR σ 48 1 w)
  obtain ⟨σ2, b1, b2', b3, b4, b5⟩ := zfill (fun n x σ => fX5_read_b29 n (oi L) x σ) (fun σ => fX5_read_b48 (oi L) σ) 49 11 0 (fun n σ => by show fX5_read_b29 (n + 1) (oi L) (oi 11) σ = _; rw [fX5_read_b29, if_pos (show (11 : Int32) ≤ oi 11 by decide)]) (fun n k σ hk => by show fX5_read_b29 (n + 1) (oi L) (oi k) σ = _; rw [fX5_read_b29, if_neg (show ¬ (11 : Int32) ≤ oi k from nle hk (by decide)), ogi hk (by omega), oi_nat (by omega), oi_succ]) 11 0 oF (sI (sI (sI σ1 48 2 0) 48 3 0) 48 8 0) rfl (by decide)
  have h2 : ∀ a j, a ≠ 48 → a ≠ 49 → mI σ2 a j = mI σ1 a j := fun a j p q => by rw [b3 a j (fun g => q g.1), mI_sI, if_neg (fun g => p g.1), mI_sI, if_neg (fun g => p g.1), mI_sI, if_neg (fun g => p g.1)]
  have h20 : ∀ a j, ¬ (w ≤ a ∧ a ≤ w + 20) → a ≠ 48 → a ≠ 49 → mI σ2 a j = mI σ a j := fun a j p q g => by rw [h2 a j q g, a3 a j p]; rfl
  have hl2 : ∀ a j, mL σ2 a j = mL σ1 a j := fun a j => by rw [b4]; rfl
  have hm2 : mR σ2 = mR (sR σ 48 1 w) := by rw [b5]; show mR σ1 = _; exact a5
  obtain ⟨σ3, t, r, c1, c2, c3, c4, c5⟩ := zstart (σ := σ2) (f := f) (L := L) hT (by rw [h20 43 1 (by omega) (by omega) (by omega)]; exact h1) hL (fun j hj => ⟨(hb j hj).1, by rw [h20 44 j (by omega) (by omega) (by omega)]; exact (hb j hj).2⟩)
  obtain ⟨τ3, d1, d2, d3, d4, d5, d6⟩ := zstart_r (τ := τ) (f := f) (L := L) (by omega) (fun j hj => ⟨(hb j (by omega)).1, hb2 j (by omega)⟩) c4
  have hem : zEm σ3 w := by
    obtain ⟨⟨q1, q2, q3, q4, q5, q6, q7, q8⟩, ⟨r1, r2⟩, s1, s2, s3, s4, s5⟩ := a2
    have hI : ∀ a j, w ≤ a → a ≤ w + 20 → mI σ3 a j = mI σ1 a j := fun a j p q => (c5.1 a j (by unfold zsP; omega)).trans (h2 a j (by omega) (by omega))
    have hLL : mL σ3 (w + 1) 3 = mL σ1 (w + 1) 3 := (c5.2.1 _ _ (by unfold zsQ; omega)).trans (hl2 _ _)
    refine ⟨⟨?_, ?_, by rw [hLL]; exact q3, ?_, ?_, ?_, ?_, ?_⟩, ⟨?_, ?_⟩, fun h hh => ?_, ?_, ?_, ?_, fun j hj => ?_⟩
    · rw [hI _ _ (by omega) (by omega)]; exact q1
    · rw [hI _ _ (by omega) (by omega)]; exact q2
    · rw [hI _ _ (by omega) (by omega)]; exact q4
    · rw [hI _ _ (by omega) (by omega)]; exact q5
    · rw [hI _ _ (by omega) (by omega)]; exact q6
    · rw [hI _ _ (by omega) (by omega)]; exact q7
    · rw [hI _ _ (by omega) (by omega)]; exact q8
    · rw [hI _ _ (by omega) (by omega)]; exact r1
    · rw [hI _ _ (by omega) (by omega)]; exact r2
    · rw [hI _ _ (by omega) (by omega), hI _ _ (by omega) (by omega)]; exact s1 h hh
    · rw [hI _ _ (by omega) (by omega)]; exact s2
    · rw [hI _ _ (by omega) (by omega)]; exact s3
    · rw [hI _ _ (by omega) (by omega)]; exact s4
    · rw [hI _ _ (by omega) (by omega)]; exact s5 j hj
  have h488 : mI σ3 48 8 = 0 := by rw [c5.1 48 8 (by unfold zsP; omega), b3 48 8 (by omega), mI_at]
  have h482 : mI σ3 48 2 = 0 := by rw [c5.1 48 2 (by unfold zsP; omega), b3 48 2 (by omega), mI_sI, if_neg (by omega), mI_sI, if_neg (by omega), mI_at]
  have h49 : ∀ j, j < 11 → mI σ3 49 j = 0 := fun j hj => by rw [c5.1 49 j (by unfold zsP; omega)]; exact b2' j (by omega) hj
  have hD : zDD σ3 w (mI τ3 85) (mL τ3 87) := zdd_em hem h488 d4 d5
  have h313 : mI τ3 81 13 = 0 := by
    rw [d6.1 81 13 (by unfold zuP; omega)]; exact h13
  have hlv : zLv σ3 τ3 f L t r 0 := ⟨⟨⟨c2, d2⟩, c3, d3, ⟨0, c4⟩, by rw [d6.1 81 9 (by unfold zuP; omega)]; exact h9z⟩, h482, h313⟩
  have hct : zCt σ3 (mI τ3 85) 0 := ⟨fun j p q e => by rw [h49 j p, d4 _ (by have := zcx_b j p q e; omega)], by rw [h49 3 (by decide), d4 10 (by decide)]; rfl, 0, by omega, h49 6 (by decide)⟩
  have hm3 : mR σ3 48 1 = w := by rw [c5.2.2, hm2]; exact hm
  obtain ⟨σ4, τ4, k1, k2, ⟨k3, k4⟩, k5⟩ := zloop (f := f) (L := L) hw hk oF oF 0 σ3 τ3 t r 0 (by decide) (by decide) (by omega) hm3 hlv hD hct (by rw [if_pos rfl]; exact d4 9 (by decide)) (fun _ k p q => d4 k (by omega))
  obtain ⟨σ5, τ5, e1, ⟨e2, e3⟩, e4⟩ := zends hw hk (by rw [k3.2.2]; exact hm3) k5
  have hcl : fX5_read w (oi L) σ = fX5_read_b109 σ4 := by
    unfold fX5_read
    rw [hm, ogd_d hk, a1, obv_s, show fX5_read_b29 oF (oi L) 0 (sI (sI (sI σ1 48 2 0) 48 3 0) 48 8 0) = fX5_read_b48 (oi L) σ2 from b1]
    unfold fX5_read_b48
    rw [c1, obv_s]; exact k1
  have hfc : Fr (zwP w) (zwQ w) (sR σ 48 1 w) σ5 := by
    have g1 : Fr (zwP w) (zwQ w) (sR σ 48 1 w) σ2 := ⟨fun a j p => h20 a j (fun q => p (Or.inl q)) (fun q => p (Or.inr (Or.inr (by omega)))) (fun q => p (Or.inr (Or.inr (by omega)))), fun a j p => by rw [hl2, a4 a j (fun q => p (Or.inl (by omega)))], hm2⟩
    have g2 : Fr (zwP w) (zwQ w) σ2 σ3 := fr_mono (fun a j q => by unfold zsP at q; unfold zwP; omega) (fun a q => by unfold zsQ at q; unfold zwQ; omega) c5
    have g3 : ∀ {x y : OM}, Fr (znP w) (zlQ w) x y → Fr (zwP w) (zwQ w) x y := fun h => fr_mono (fun a j q => by unfold znP zlP zfP zkP at q; unfold zwP; omega) (fun a q => by unfold zlQ zfQ at q; unfold zwQ; omega) h
    exact fr_tr g1 (fr_tr g2 (fr_tr (g3 k3) (g3 e2)))
  have hfr : Fr zvP zmQ τ τ5 := by
    have g3 : ∀ {x y : OM}, Fr zmP zmQ x y → Fr zvP zmQ x y := fun h => fr_mono (fun a j q => by unfold zmP zgP zrP at q; unfold zvP; omega) (fun a q => q) h
    exact fr_tr (fr_mono (fun a j q => by unfold zuP at q; unfold zvP; omega) (fun a q => q) d6) (fr_tr (g3 k4) (g3 e3))
  refine ⟨σ5, τ5, ?_, ⟨hfc, hfr⟩, ?_⟩
  · rw [d1, k2, e1]
  · rw [hcl]; exact e4
end
