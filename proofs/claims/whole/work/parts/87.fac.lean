/-! formulas on both sides -/
def zfP : Nat → Nat → Prop := fun a j => zkP a j ∨ (a = 48 ∧ (j = 9 ∨ j = 13)) ∨ a = 55
def zfQ : Nat → Prop := fun a => a = 43 ∨ a = 53 ∨ a = 54
def zgP : Nat → Nat → Prop := fun a j => zrP a j ∨ (a = 81 ∧ (j = 24 ∨ j = 25))
def zFS (σ τ : OM) (f : Nat → Nat) (L : Nat) (t : Tk) (r : List Tk) (i d c : Nat) (R : Nat → Int32) (K : Nat) : Prop := zLv σ τ f L t r i ∧ (mI τ 85 = R ∧ zNM σ R K) ∧ (mI σ 48 9 = oi d ∧ mI τ 81 25 = oi d ∧ d ≤ 8) ∧ mI σ 48 13 = oi c ∧ mI τ 81 24 = oi c ∧ c ≤ 12
def zCS (σ τ : OM) (f : Nat → Nat) (L : Nat) (t : Tk) (r : List Tk) (i d c : Nat) (R : Nat → Int32) (K N m a b : Nat) : Prop := zFS σ τ f L t r i d c R K ∧ a + 1 ≤ c ∧ 100 ≤ N + a ∧ b + d ≤ 8 ∧ 100 ≤ m + b ∧ mI σ 55 d = 0
def zLw (σ σ' : OM) (d : Nat) : Prop := (∀ j, j < d → mL σ' 53 j = mL σ 53 j ∧ mL σ' 54 j = mL σ 54 j ∧ mI σ' 55 j = mI σ 55 j) ∧ Fr zfP zfQ σ σ'
def zCl (X : Option (Int64 × OM)) (σ τ : OM) (f : Nat → Nat) (L i p d : Nat) (R : Nat → Int32) (K : Nat) (Φ : Int64 → Int64 → Prop) (Ψ : Tk → Prop) : Prop :=
  ∃ σ' t r i' N m a b c, X = zCC N m a b σ' ∧ zCS σ' τ f L t r i' d c R K N m a b ∧ i ≤ i' ∧ p ≤ t.2.1 ∧ Φ (mL σ' 53 d) (mL σ' 54 d) ∧ Ψ t ∧ zLw σ σ' d
def zDe (X : Option (Int64 × OM)) (σ τ : OM) : Prop := ∃ x σ', X = some (x, σ') ∧ zDead σ' τ ∧ Fr zfP zfQ σ σ'
def zNeed (L n d : Nat) (t : Tk) : Prop := 1 ≤ n ∧ (t.1 = 2 → (L - t.2.1) + 8 * (8 - d) + 4 < 4 * n) ∧ (t.1 = 40 → (L - t.2.1) + 8 * (8 - d) + 4 < 4 * n + 4)
def zFac (f : Nat → Nat) (L : Nat) (R : Nat → Int32) (K F n : Nat) : Prop := ∀ σ τ t r i d c N m a b (B : Bool), zFS σ τ f L t r i d c R K → mI σ 55 d = b2 B → zNeed L n d t → a ≤ c → 100 ≤ N + a → b ≤ i → 2000 ≤ m + b →
  ∃ v τ', fX10_factor n τ = some (v, τ') ∧ Fr zgP noL τ τ' ∧ ((zLo F v ∧ zCl (zCO N m a b σ) σ τ' f L (i + 1) t.2.1 d R K (fun S T => S = mL σ 53 d ∧ T = mL σ 54 d &&& zng B v) (fun _ => True)) ∨ zDe (zCO N m a b σ) σ τ')
theorem zlw_tr {σ σ1 σ2 : OM} {d : Nat} (h : zLw σ σ1 d) (g : zLw σ1 σ2 d) : zLw σ σ2 d := ⟨fun j hj => ⟨(g.1 j hj).1.trans (h.1 j hj).1, (g.1 j hj).2.1.trans (h.1 j hj).2.1, (g.1 j hj).2.2.trans (h.1 j hj).2.2⟩, fr_tr h.2 g.2⟩
theorem zcl_up {X : Option (Int64 × OM)} {σ σ1 τ : OM} {f : Nat → Nat} {L i p d i0 p0 : Nat} {R : Nat → Int32} {K : Nat} {Φ Φ0 : Int64 → Int64 → Prop} {Ψ Ψ0 : Tk → Prop} (h : zCl X σ1 τ f L i p d R K Φ Ψ) (hl : zLw σ σ1 d) (hi : i0 ≤ i) (hp : p0 ≤ p) (hΦ : ∀ S T, Φ S T → Φ0 S T) (hΨ : ∀ t, Ψ t → Ψ0 t) : zCl X σ τ f L i0 p0 d R K Φ0 Ψ0 := by
  obtain ⟨σ', t, r, i', N, m, a, b, c, h1, h2, h3, h4, h5, h6, h7⟩ := h
  exact ⟨σ', t, r, i', N, m, a, b, c, h1, h2, by omega, by omega, hΦ _ _ h5, hΨ _ h6, zlw_tr hl h7⟩
theorem zde_up {X : Option (Int64 × OM)} {σ σ1 τ : OM} (h : zDe X σ1 τ) (hl : Fr zfP zfQ σ σ1) : zDe X σ τ := by
  obtain ⟨x, σ', h1, h2, h3⟩ := h
  exact ⟨x, σ', h1, h2, fr_tr hl h3⟩
theorem zfl_f (σ : OM) (c x : Int32) : Fr zfP zfQ σ (zfl σ c x) := fr_mono (fun a j q => Or.inl q) (fun a q => Or.inl q) (zfl_fr _ _ _)
theorem zwr_g (τ : OM) (c x : Int32) : Fr zgP noL τ (zwr τ c x) := fr_mono (fun a j q => Or.inl q) (fun a q => q) (zwr_fr _ _ _)
theorem znm_f {σ σ' : OM} {R : Nat → Int32} {K : Nat} (hf : Fr zfP zfQ σ σ') (h : zNM σ R K) : zNM σ' R K := znm_fr (hf.1 48 8 (by unfold zfP zkP; omega)) (fun j => hf.2.1 50 j (by unfold zfQ; omega)) (fun j => hf.1 51 j (by unfold zfP zkP; omega)) (fun j => hf.1 52 j (by unfold zfP zkP; omega)) h
theorem zrow_g {τ τ' : OM} {P : Nat → Nat → Prop} {Q : Nat → Prop} (hf : Fr P Q τ τ') (hP : ∀ j, ¬ P 85 j) : mI τ' 85 = mI τ 85 := funext (fun j => hf.1 85 j (hP j))
theorem z85 (j : Nat) : ¬ zgP 85 j := by unfold zgP zrP; omega
theorem zP2f {σ σ' : OM} (h : Fr zP2 zQ2 σ σ') : Fr zfP zfQ σ σ' := fr_mono (fun a j q => Or.inl (Or.inl q)) (fun a q => Or.inl q) h
theorem zP3g {σ σ' : OM} (h : Fr zP3 noL σ σ') : Fr zgP noL σ σ' := fr_mono (fun a j q => Or.inl (by unfold zP3 at q; unfold zrP; omega)) (fun a q => q) h
theorem zP2w {σ σ' : OM} (h : Fr zP2 zQ2 σ σ') (d : Nat) : zLw σ σ' d := ⟨fun j _ => ⟨h.2.1 53 j (by unfold zQ2; omega), h.2.1 54 j (by unfold zQ2; omega), h.1 55 j (by unfold zP2; omega)⟩, zP2f h⟩
section
variable {σ τ : OM} {f : Nat → Nat} {L i d c K F n : Nat} {t : Tk} {r : List Tk} {R : Nat → Int32}
theorem zneed_of (h : (L - t.2.1) + 8 * (8 - d) + 4 < 4 * n) : zNeed L n d t := ⟨by omega, fun _ => h, fun _ => by omega⟩
theorem ztk_le {g : Nat → Nat} {p : Nat} {t' : Tk} (h : zTok g L p t') : p ≤ t'.2.1 := h.1
theorem ztk_en {g : Nat → Nat} {p : Nat} (h : zTok g L p t) : t.2.1 ≤ t.2.2 := by
  obtain ⟨_, _, _, ⟨a, _, b⟩ | ⟨_, _, ⟨_, m, _, b, _⟩ | ⟨_, m, _, b, _⟩ | ⟨_, _, b, _⟩⟩⟩ := h <;> omega
theorem zlv_tok (h : zLv σ τ f L t r i) : ∃ p, zTok (zch f L) L p t := h.1.2.2.2.1
theorem zlv_i (h : zLv σ τ f L t r i) : i ≤ 900 := by have := h.1.2.1.2.1.2.2; omega
/-- both step on within a formula -/
theorem zfs_step (h : zFS σ τ f L t r i d c R K) (ht : ¬ (t.1 = 0 ∨ t.1 = 1)) : ∃ t' r' σ' τ', fX6_advance σ = some σ' ∧ fX10_pass τ = some τ' ∧ zFS σ' τ' f L t' r' (i + 1) d c R K ∧ zTok (zch f L) L t.2.2 t' ∧ Fr zP2 zQ2 σ σ' ∧ Fr zP3 noL τ τ' := by
  obtain ⟨h1, ⟨h2, h3⟩, ⟨h4, h5, h6⟩, h7, h8, h9⟩ := h
  obtain ⟨t', r', σ', τ', g1, g2, g3, g4, g5, g6⟩ := zboth h1 ht
  refine ⟨t', r', σ', τ', g1, g2, ⟨g3, ⟨(zrow_g g6 (fun j => by unfold zP3; omega)).trans h2, znm_f (zP2f g5) h3⟩, ⟨?_, ?_, h6⟩, ?_, ?_, h9⟩, g4, g5, g6⟩
  · rw [g5.1 48 9 (by unfold zP2; omega)]; exact h4
  · rw [g6.1 81 25 (by unfold zP3; omega)]; exact h5
  · rw [g5.1 48 13 (by unfold zP2; omega)]; exact h7
  · rw [g6.1 81 24 (by unfold zP3; omega)]; exact h8
theorem ztw {s : Nat} (h : zLv σ τ f L t r i) (hs : s < 22) (hz : zis (zch f L) t s = false) : fX10_takesWord s τ = some (0, τ) := by
  unfold fX10_takesWord; rw [zisr (zlv_ok h) h.1.2.2.1 h.2.2 hs, obi_s, hz, if_pos (by rfl)]
theorem ztw_y {s : Nat} (h : zLv σ τ f L t r i) (hs : s < 22) (hz : zis (zch f L) t s = true) {τ' : OM} (hp : fX10_pass τ = some τ') : fX10_takesWord s τ = some (1, τ') := by
  unfold fX10_takesWord; rw [zisr (zlv_ok h) h.1.2.2.1 h.2.2 hs, obi_s, hz, if_neg (by decide), hp, obv_s]
theorem ztw_d (h13 : mI τ 81 13 = 1) (s : Nat) : fX10_takesWord s τ = some (0, τ) := by
  unfold fX10_takesWord; rw [zisr_dead h13, obi_s, if_pos rfl]
/-- factors joined by 'and' -/
theorem zterm_go (hrc : zFac f L R K F n) : ∀ e k (σ τ : OM) t r i c N m a b V, i + e = 901 → e < k → zCS σ τ f L t r i d c R K N m a b → mL σ 54 d = V → (L - t.2.1) + 8 * (8 - d) + 4 < 4 * n → zLo F V → ∃ v τ', fX10_term_b5 (fX10_factor n) k V τ = some (v, τ') ∧ Fr zgP noL τ τ' ∧ ((zLo F v ∧ zCl (zCC N m a b σ) σ τ' f L i t.2.1 d R K (fun S T => S = mL σ 53 d ∧ T = v) (fun t' => zis (zch f L) t' 14 = false)) ∨ zDe (zCC N m a b σ) σ τ') := by
  intro e
  induction e using Nat.strongRecOn with
  | ind e ih =>
    intro k σ τ t r i c N m a b V he hk hcs hV hn hlo
    have hcs0 := hcs
    obtain ⟨hfs, c1, c2, c3, c4, c5⟩ := hcs
    have hlv := hfs.1
    have hi := zlv_i hlv
    have hc12 := hfs.2.2.2.2.2
    obtain ⟨k, rfl⟩ : ∃ k', k = k' + 1 := ⟨k - 1, by omega⟩
    rw [fX10_term_b5]
    cases ez : zis (zch f L) t 14 with
    | false =>
      rw [ztw hlv (by decide) ez, obi_s, if_pos rfl]
      exact ⟨V, τ, rfl, fr_rfl _ _ _, Or.inl ⟨hlo, σ, t, r, i, N, m, a, b, c, rfl, hcs0, Nat.le_refl _, Nat.le_refl _, ⟨rfl, hV⟩, ez, fun j _ => ⟨rfl, rfl, rfl⟩, fr_rfl _ _ _⟩⟩
    | true =>
      have ht2 := zis_2 ez
      obtain ⟨t1, r1, σ1, τ1, g1, g2, g3, g4, g5, g6⟩ := zfs_step hfs (by omega)
      rw [ztw_y hlv (by decide) ez g2, obi_s, if_neg (by decide)]
      obtain ⟨N, rfl⟩ : ∃ k', N = k' + 1 := ⟨N - 1, by omega⟩
      obtain ⟨m, rfl⟩ : ∃ k', m = k' + 1 := ⟨m - 1, by omega⟩
      rw [zcc_and hlv ez (by omega) c3 hfs.2.2.1.1 g1]
      obtain ⟨p, hp⟩ := zlv_tok hlv
      have hen := ztk_en hp
      have hat := ztk_le g4
      have h55 : mI σ1 55 d = b2 false := by rw [g5.1 55 d (by unfold zP2; omega)]; exact c5
      obtain ⟨v, τ2, f1, f2, f3⟩ := hrc σ1 τ1 t1 r1 (i + 1) d c N oF (a + 1) 0 false g3 h55 (zneed_of (by omega)) c1 (by omega) (by omega) (by unfold oF; omega)
      rw [f1, obi_s]
      rcases f3 with ⟨f3, σ2, t2, r2, i2, N2, m2, a2, b2', c2', x1, x2, x3, x4, ⟨x5, x6⟩, x7, x8⟩ | f3
      · have hi2 := zlv_i x2.1.1
        rw [x1]
        have e53 : mL σ1 53 d = mL σ 53 d := g5.2.1 53 d (by unfold zQ2; omega)
        have e54 : mL σ1 54 d = V := by rw [g5.2.1 54 d (by unfold zQ2; omega)]; exact hV
        obtain ⟨v', τ3, y1, y2, y3⟩ := ih (901 - i2) (by omega) k σ2 τ2 t2 r2 i2 c2' N2 m2 a2 b2' (V &&& v) (by omega) (by omega) x2 (by rw [x6, e54]; rfl) (by omega) (zlo_and hlo f3)
        refine ⟨v', τ3, y1, fr_tr (fr_tr (zP3g g6) f2) y2, ?_⟩
        have hw : zLw σ σ2 d := zlw_tr (zP2w g5 d) x8
        rcases y3 with ⟨y3, y4⟩ | y3
        · exact Or.inl ⟨y3, zcl_up y4 hw (by omega) (by omega) (fun S T q => ⟨by rw [q.1, x5, e53], q.2⟩) (fun _ q => q)⟩
        · exact Or.inr (zde_up y3 hw.2)
      · obtain ⟨k, rfl⟩ : ∃ k', k = k' + 1 := ⟨k - 1, by omega⟩
        rw [fX10_term_b5, ztw_d f3.choose_spec.choose_spec.2.1.2.2.2, obi_s, if_pos rfl]
        exact ⟨_, τ2, rfl, fr_tr (zP3g g6) f2, Or.inr (zde_up f3 (zP2f g5))⟩
theorem zterm (hrc : zFac f L R K F n) {N m a b : Nat} (hfs : zFS σ τ f L t r i d c R K) (h55 : mI σ 55 d = b2 false) (h54 : mL σ 54 d = -1) (hn : (L - t.2.1) + 8 * (8 - d) + 4 < 4 * n) (ha : a ≤ c) (hN : 100 ≤ N + a) (hb : b ≤ i) (hm : 2000 ≤ m + b) : ∃ v τ', fX10_term (fX10_factor n) τ = some (v, τ') ∧ Fr zgP noL τ τ' ∧ ((zLo F v ∧ zCl (zCO N m a b σ) σ τ' f L (i + 1) t.2.1 d R K (fun S T => S = mL σ 53 d ∧ T = v) (fun t' => zis (zch f L) t' 14 = false)) ∨ zDe (zCO N m a b σ) σ τ') := by
  unfold fX10_term
  obtain ⟨v, τ2, f1, f2, f3⟩ := hrc σ τ t r i d c N m a b false hfs h55 (zneed_of hn) ha hN hb hm
  rw [f1, obi_s]
  rcases f3 with ⟨f3, σ2, t2, r2, i2, N2, m2, a2, b2', c2', x1, x2, x3, x4, ⟨x5, x6⟩, x7, x8⟩ | f3
  · have hi2 := zlv_i x2.1.1
    rw [x1]
    obtain ⟨v', τ3, y1, y2, y3⟩ := zterm_go hrc (901 - i2) oF σ2 τ2 t2 r2 i2 c2' N2 m2 a2 b2' v (by omega) (by unfold oF; omega) x2 (by rw [x6, h54]; show -1 &&& v = v; rw [Int64.and_comm]; exact tb_ext (fun j hj => by rw [tb_and, tb_m1 j hj, Bool.and_true])) (by omega) f3
    refine ⟨v', τ3, y1, fr_tr f2 y2, ?_⟩
    rcases y3 with ⟨y3, y4⟩ | y3
    · exact Or.inl ⟨y3, zcl_up y4 x8 (by omega) (by omega) (fun S T q => ⟨by rw [q.1, x5], q.2⟩) (fun _ q => q)⟩
    · exact Or.inr (zde_up y3 x8.2)
  · rw [show oF = 99999 + 1 from rfl, fX10_term_b5, ztw_d f3.choose_spec.choose_spec.2.1.2.2.2, obi_s, if_pos rfl]
    exact ⟨_, τ2, rfl, f2, Or.inr f3⟩
/-- terms joined by 'or' -/
theorem zform_go (hrc : zFac f L R K F n) : ∀ e k (σ τ : OM) t r i c N m a b V, i + e = 901 → e < k → zCS σ τ f L t r i d c R K N m a b → mL σ 53 d ||| mL σ 54 d = V → zis (zch f L) t 14 = false → (L - t.2.1) + 8 * (8 - d) + 4 < 4 * n → zLo F V → ∃ v τ', fX10_formula_b5 (fX10_factor n) k V τ = some (v, τ') ∧ Fr zgP noL τ τ' ∧ ((zLo F v ∧ zCl (zCC N m a b σ) σ τ' f L i t.2.1 d R K (fun S T => S ||| T = v) (fun t' => zis (zch f L) t' 14 = false ∧ zis (zch f L) t' 15 = false)) ∨ zDe (zCC N m a b σ) σ τ') := by
  intro e
  induction e using Nat.strongRecOn with
  | ind e ih =>
    intro k σ τ t r i c N m a b V he hk hcs hV h14 hn hlo
    have hcs0 := hcs
    obtain ⟨hfs, c1, c2, c3, c4, c5⟩ := hcs
    have hlv := hfs.1
    have hi := zlv_i hlv
    have hc12 := hfs.2.2.2.2.2
    obtain ⟨k, rfl⟩ : ∃ k', k = k' + 1 := ⟨k - 1, by omega⟩
    rw [fX10_formula_b5]
    cases ez : zis (zch f L) t 15 with
    | false =>
      rw [ztw hlv (by decide) ez, obi_s, if_pos rfl]
      exact ⟨V, τ, rfl, fr_rfl _ _ _, Or.inl ⟨hlo, σ, t, r, i, N, m, a, b, c, rfl, hcs0, Nat.le_refl _, Nat.le_refl _, hV, ⟨h14, ez⟩, fun j _ => ⟨rfl, rfl, rfl⟩, fr_rfl _ _ _⟩⟩
    | true =>
      have ht2 := zis_2 ez
      have hfb : Fr zfP zfQ σ (zbt σ d) := fr_L (fr_L (fr_rfl _ _ _) (Or.inr (Or.inl rfl))) (Or.inr (Or.inr rfl))
      have hfsb : zFS (zbt σ d) τ f L t r i d c R K := ⟨zlv_fr hlv (fun a j p q => rfl) (fun a j p q => by unfold zbt; rw [mL_sL, if_neg (by omega), mL_sL, if_neg (by omega)]) rfl (fun j p q => rfl) (fun j => rfl) (fun j => rfl) rfl, ⟨hfs.2.1.1, znm_f hfb hfs.2.1.2⟩, hfs.2.2.1, hfs.2.2.2⟩
      have b53 : mL (zbt σ d) 53 d = V := by unfold zbt; rw [mL_sL, if_neg (by omega), mL_at]; exact hV
      have b54 : mL (zbt σ d) 54 d = -1 := by unfold zbt; rw [mL_at]
      have hwb : zLw σ (zbt σ d) d := ⟨fun j hj => ⟨by unfold zbt; rw [mL_sL, if_neg (by omega), mL_sL, if_neg (by omega)], by unfold zbt; rw [mL_sL, if_neg (by omega), mL_sL, if_neg (by omega)], rfl⟩, hfb⟩
      have b55 : mI (zbt σ d) 55 d = 0 := c5
      obtain ⟨t1, r1, σ1, τ1, g1, g2, g3, g4, g5, g6⟩ := zfs_step hfsb (by omega)
      rw [ztw_y hlv (by decide) ez g2, obi_s, if_neg (by decide)]
      obtain ⟨N, rfl⟩ : ∃ k', N = k' + 1 := ⟨N - 1, by omega⟩
      obtain ⟨m, rfl⟩ : ∃ k', m = k' + 1 := ⟨m - 1, by omega⟩
      rw [zcc_or hlv ez (by omega) c3 hfs.2.2.1.1 g1]
      obtain ⟨p, hp⟩ := zlv_tok hlv
      have hen := ztk_en hp
      have hat := ztk_le g4
      have h55 : mI σ1 55 d = b2 false := by rw [g5.1 55 d (by unfold zP2; omega)]; exact b55
      have e53 : mL σ1 53 d = V := by rw [g5.2.1 53 d (by unfold zQ2; omega)]; exact b53
      have e54 : mL σ1 54 d = -1 := by rw [g5.2.1 54 d (by unfold zQ2; omega)]; exact b54
      have hw1 : zLw σ σ1 d := zlw_tr hwb (zP2w g5 d)
      obtain ⟨v, τ2, f1, f2, f3⟩ := zterm hrc (N := N) (m := oF) (a := a + 1) (b := 0) g3 h55 e54 (by omega) c1 (by omega) (by omega) (by unfold oF; omega)
      rw [f1, obi_s]
      rcases f3 with ⟨f3, σ2, t2, r2, i2, N2, m2, a2, b2', c2', x1, x2, x3, x4, ⟨x5, x6⟩, x7, x8⟩ | f3
      · have hi2 := zlv_i x2.1.1
        rw [x1]
        obtain ⟨v', τ3, y1, y2, y3⟩ := ih (901 - i2) (by omega) k σ2 τ2 t2 r2 i2 c2' N2 m2 a2 b2' (V ||| v) (by omega) (by omega) x2 (by rw [x5, x6, e53]) x7 (by omega) (zlo_or hlo f3)
        refine ⟨v', τ3, y1, fr_tr (fr_tr (zP3g g6) f2) y2, ?_⟩
        have hw : zLw σ σ2 d := zlw_tr hw1 x8
        rcases y3 with ⟨y3, y4⟩ | y3
        · exact Or.inl ⟨y3, zcl_up y4 hw (by omega) (by omega) (fun S T q => q) (fun _ q => q)⟩
        · exact Or.inr (zde_up y3 hw.2)
      · obtain ⟨k, rfl⟩ : ∃ k', k = k' + 1 := ⟨k - 1, by omega⟩
        rw [fX10_formula_b5, ztw_d f3.choose_spec.choose_spec.2.1.2.2.2, obi_s, if_pos rfl]
        exact ⟨_, τ2, rfl, fr_tr (zP3g g6) f2, Or.inr (zde_up f3 hw1.2)⟩
theorem zform (hrc : zFac f L R K F n) {N m a b : Nat} (hfs : zFS σ τ f L t r i d c R K) (h55 : mI σ 55 d = b2 false) (h53 : mL σ 53 d = 0) (h54 : mL σ 54 d = -1) (hn : (L - t.2.1) + 8 * (8 - d) + 4 < 4 * n) (ha : a ≤ c) (hN : 100 ≤ N + a) (hb : b ≤ i) (hm : 2000 ≤ m + b) : ∃ v τ', fX10_formula (fX10_factor n) τ = some (v, τ') ∧ Fr zgP noL τ τ' ∧ ((zLo F v ∧ zCl (zCO N m a b σ) σ τ' f L (i + 1) t.2.1 d R K (fun S T => S ||| T = v) (fun t' => zis (zch f L) t' 14 = false ∧ zis (zch f L) t' 15 = false)) ∨ zDe (zCO N m a b σ) σ τ') := by
  unfold fX10_formula
  obtain ⟨v, τ2, f1, f2, f3⟩ := zterm hrc (N := N) (m := m) (a := a) (b := b) hfs h55 h54 hn ha hN hb hm
  rw [f1, obi_s]
  rcases f3 with ⟨f3, σ2, t2, r2, i2, N2, m2, a2, b2', c2', x1, x2, x3, x4, ⟨x5, x6⟩, x7, x8⟩ | f3
  · have hi2 := zlv_i x2.1.1
    rw [x1]
    obtain ⟨v', τ3, y1, y2, y3⟩ := zform_go hrc (901 - i2) oF σ2 τ2 t2 r2 i2 c2' N2 m2 a2 b2' v (by omega) (by unfold oF; omega) x2 (by rw [x5, x6, h53]; exact tb_ext (fun j hj => by rw [tb_or, tb_0, Bool.false_or])) x7 (by omega) f3
    refine ⟨v', τ3, y1, fr_tr f2 y2, ?_⟩
    rcases y3 with ⟨y3, y4⟩ | y3
    · exact Or.inl ⟨y3, zcl_up y4 x8 (by omega) (by omega) (fun S T q => q) (fun _ q => q)⟩
    · exact Or.inr (zde_up y3 x8.2)
  · rw [show oF = 99999 + 1 from rfl, fX10_formula_b5, ztw_d f3.choose_spec.choose_spec.2.1.2.2.2, obi_s, if_pos rfl]
    exact ⟨_, τ2, rfl, f2, Or.inr f3⟩
end
