/-! both readers side by side -/
def zLx (σ τ : OM) (f : Nat → Nat) (L : Nat) (t : Tk) (r : List Tk) (i : Nat) : Prop := (zTC σ f L ∧ zTR τ f L) ∧ zCur σ (zch f L) L t r i ∧ zRt τ (zch f L) t ∧ (∃ p, zTok (zch f L) L p t) ∧ mI τ 81 9 = 0
def zLv (σ τ : OM) (f : Nat → Nat) (L : Nat) (t : Tk) (r : List Tk) (i : Nat) : Prop := zLx σ τ f L t r i ∧ mI σ 48 2 = 0 ∧ mI τ 81 13 = 0
def zDead (σ τ : OM) : Prop := mI σ 48 2 ≠ 0 ∧ mI σ 48 2 = mI τ 81 9 ∧ mI σ 48 3 = mI τ 81 10 ∧ mI τ 81 13 = 1
def zGo (σ τ : OM) (f : Nat → Nat) (L i : Nat) : Prop := ∃ t r i', i ≤ i' ∧ zLv σ τ f L t r i'
def zkP : Nat → Nat → Prop := fun a j => (a = 43 ∧ (j = 7 ∨ j = 8 ∨ j = 9)) ∨ (a = 48 ∧ (j = 2 ∨ j = 3))
def zkQ : Nat → Prop := fun a => a = 43
def zrP : Nat → Nat → Prop := fun a j => (a = 81 ∧ ((4 ≤ j ∧ j ≤ 10) ∨ j = 13)) ∨ a = 83
def zfl (σ : OM) (c x : Int32) : OM := sI (sI σ 48 2 c) 48 3 x
def zwr (τ : OM) (c x : Int32) : OM := sI (sI (sI τ 81 13 1) 81 9 c) 81 10 x
theorem zfail {σ : OM} (h : mI σ 48 2 = 0) (c x : Int32) : fX5_fail c x σ = some (0, zfl σ c x) := by unfold fX5_fail; rw [if_pos h]; rfl
theorem zwrong {τ : OM} (h : mI τ 81 13 = 0) (c x : Int32) : fX10_wrong c x τ = some (zwr τ c x) := by unfold fX10_wrong; rw [if_pos h]; rfl
theorem zwrong_d {τ : OM} (h : mI τ 81 13 = 1) (c x : Int32) : fX10_wrong c x τ = some τ := by unfold fX10_wrong; rw [h, if_neg (by decide)]
theorem zfl_fr (σ : OM) (c x : Int32) : Fr zkP zkQ σ (zfl σ c x) := fr_I (fr_I (fr_rfl _ _ _) (Or.inr ⟨rfl, Or.inl rfl⟩)) (Or.inr ⟨rfl, Or.inr rfl⟩)
theorem zwr_fr (τ : OM) (c x : Int32) : Fr zrP noL τ (zwr τ c x) := fr_I (fr_I (fr_I (fr_rfl _ _ _) (Or.inl ⟨rfl, Or.inr rfl⟩)) (Or.inl ⟨rfl, Or.inl (by omega)⟩)) (Or.inl ⟨rfl, Or.inl (by omega)⟩)
theorem zwr_13 (τ : OM) (c x : Int32) : mI (zwr τ c x) 81 13 = 1 := by unfold zwr; rw [mI_sI, if_neg (by omega), mI_sI, if_neg (by omega), mI_at]
theorem zfl_2 (σ : OM) (c x : Int32) : mI (zfl σ c x) 48 2 = c := by unfold zfl; rw [mI_sI, if_neg (by omega), mI_at]
theorem zdead_mk (σ τ : OM) {c : Int32} (hc : c ≠ 0) (x : Int32) : zDead (zfl σ c x) (zwr τ c x) := by
  refine ⟨by rw [zfl_2]; exact hc, ?_, ?_, zwr_13 _ _ _⟩
  · rw [zfl_2]; unfold zwr; rw [mI_sI, if_neg (by omega), mI_at]
  · unfold zfl zwr; rw [mI_at, mI_at]
theorem zdead_fr {σ σ' τ τ' : OM} (h1 : mI σ' 48 2 = mI σ 48 2) (h2 : mI σ' 48 3 = mI σ 48 3) (h3 : mI τ' 81 9 = mI τ 81 9) (h4 : mI τ' 81 10 = mI τ 81 10) (h5 : mI τ' 81 13 = mI τ 81 13) (h : zDead σ τ) : zDead σ' τ' := by
  unfold zDead; rw [h1, h2, h3, h4, h5]; exact h
section
variable {σ τ : OM} {f : Nat → Nat} {L i : Nat} {t : Tk} {r : List Tk}
theorem zlv_ok (h : zLv σ τ f L t r i) : zOk (zch f L) t := by
  obtain ⟨⟨⟨_, h2⟩, _, _, ⟨p, hp⟩, _⟩, _⟩ := h
  exact ztok_ok h2 hp
/-- what both readers see is left alone -/
theorem zlv_fr {σ' τ' : OM} (h : zLv σ τ f L t r i) (h43 : ∀ a j, 43 ≤ a → a ≤ 47 → mI σ' a j = mI σ a j) (hL : ∀ a j, 43 ≤ a → a ≤ 47 → mL σ' a j = mL σ a j) (h48 : mI σ' 48 2 = mI σ 48 2) (h81 : ∀ j, 3 ≤ j → j ≤ 9 → mI τ' 81 j = mI τ 81 j) (h82 : ∀ j, mI τ' 82 j = mI τ 82 j) (h83 : ∀ j, mI τ' 83 j = mI τ 83 j) (h13 : mI τ' 81 13 = mI τ 81 13) : zLv σ' τ' f L t r i := by
  obtain ⟨⟨⟨a1, a2⟩, ⟨⟨b1, b2', b3, b4⟩, ⟨b5, b6, b7⟩, b8⟩, ⟨⟨c1, c2, c3⟩, c4, c5⟩, d, d9⟩, e1, e2⟩ := h
  refine ⟨⟨⟨ztc_fr (h43 43 2 (by omega) (by omega)) (fun j => h43 44 j (by omega) (by omega)) a1, a2.1, (h81 3 (by omega) (by omega)).trans a2.2.1, fun j hj => ⟨(a2.2.2 j hj).1, (h82 j).trans (a2.2.2 j hj).2⟩⟩, ⟨⟨?_, ?_, ?_, ?_⟩, ⟨zarr_ext (fun j => h43 45 j (by omega) (by omega)) (fun j => h43 46 j (by omega) (by omega)) (fun j => hL 47 j (by omega) (by omega)) _ _ b5, ?_, b7⟩, b8⟩, ⟨⟨?_, ?_, ?_⟩, fun q => ?_, fun q => ?_⟩, d, (h81 9 (by omega) (by omega)).trans d9⟩, h48.trans e1, h13.trans e2⟩
  · rw [h43 43 7 (by omega) (by omega)]; exact b1
  · rw [h43 43 8 (by omega) (by omega)]; exact b2'
  · rw [h43 43 9 (by omega) (by omega)]; exact b3
  · rw [hL 43 10 (by omega) (by omega)]; exact b4
  · rw [h43 43 6 (by omega) (by omega)]; exact b6
  · rw [h81 4 (by omega) (by omega)]; exact c1
  · rw [h81 5 (by omega) (by omega)]; exact c2
  · rw [h81 6 (by omega) (by omega)]; exact c3
  · obtain ⟨q1, q2⟩ := c4 q
    refine ⟨by rw [h81 8 (by omega) (by omega)]; exact q1, fun k hk => by rw [h83]; exact q2 k hk⟩
  · rw [h81 7 (by omega) (by omega)]; exact c5 q
/-- both step on -/
theorem zboth (h : zLv σ τ f L t r i) (ht : ¬ (t.1 = 0 ∨ t.1 = 1)) : ∃ t' r' σ' τ', fX6_advance σ = some σ' ∧ fX10_pass τ = some τ' ∧ zLv σ' τ' f L t' r' (i + 1) ∧ zTok (zch f L) L t.2.2 t' ∧ Fr zP2 zQ2 σ σ' ∧ Fr zP3 noL τ τ' := by
  obtain ⟨⟨⟨a1, a2⟩, b, c, d, d9⟩, e1, e2⟩ := h
  obtain ⟨t', r', g1, g2, g3, g4⟩ := zstep b ht
  obtain ⟨τ', k1, k2, k3⟩ := zpass a2 c.1.2.1 g2
  have hf := zadv_fr σ (i + 1)
  exact ⟨t', r', _, τ', g3, k1, ⟨⟨⟨ztc_fr (hf.1 43 2 (by unfold zP2; omega)) (fun j => hf.1 44 j (by unfold zP2; omega)) a1, ztr_fr k3 a2⟩, g4, k2, ⟨t.2.2, g2⟩, by rw [k3.1 81 9 (by unfold zP3; omega)]; exact d9⟩, by rw [hf.1 48 2 (by unfold zP2; omega)]; exact e1, by rw [k3.1 81 13 (by unfold zP3; omega)]; exact e2⟩, g2, hf, k3⟩
theorem zP2k {σ σ' : OM} (h : Fr zP2 zQ2 σ σ') : Fr zkP zkQ σ σ' := fr_mono (fun a j q => Or.inl q) (fun a q => q) h
theorem zP3r {σ σ' : OM} (h : Fr zP3 noL σ σ') : Fr zrP noL σ σ' := fr_mono (fun a j q => by unfold zP3 at q; unfold zrP; omega) (fun a q => q) h
/-- the class takes one word, the reference must have it -/
theorem ztake (h : zLv σ τ f L t r i) {s : Nat} (hs : s < 22) (hk : zkw (ol (zwv (zsN s) (zsL s))) = 1) : ∃ σ' τ', (Fr zkP zkQ σ σ' ∧ Fr zrP noL τ τ') ∧ fX10_must s τ = some τ' ∧ ((fX5_takeWord (ol (zwv (zsN s) (zsL s))) σ = some (1, σ') ∧ zGo σ' τ' f L (i + 1)) ∨ (fX5_takeWord (ol (zwv (zsN s) (zsL s))) σ = some (0, σ') ∧ zDead σ' τ')) := by
  have ho := zlv_ok h
  have hc := h.1.2.1
  unfold fX5_takeWord fX10_must fX10_takesWord
  rw [zisc ho hc hs hk, obi_s, h.2.2, if_pos rfl, zisr ho h.1.2.2.1 h.2.2 hs, obi_s]
  cases e : zis (zch f L) t s with
  | true =>
    have ht : t.1 = 2 := ((zis_iff ho hs).mp e).1
    obtain ⟨t', r', σ', τ', g1, g2, g3, _, g4, g5⟩ := zboth h (by omega)
    rw [if_neg (by decide), if_neg (by decide), g1, obv_s, g2, obv_s, obi_s, if_neg (by decide)]
    exact ⟨σ', τ', ⟨zP2k g4, zP3r g5⟩, rfl, Or.inl ⟨rfl, t', r', i + 1, Nat.le_refl _, g3⟩⟩
  | false =>
    rw [if_pos (by decide), if_pos (by decide), obi_s, if_pos rfl, hc.1.2.2.1, zfail h.2.1, h.1.2.2.1.1.1, zwrong h.2.2, obv_s]
    exact ⟨_, _, ⟨zfl_fr _ _ _, zwr_fr _ _ _⟩, rfl, Or.inr ⟨rfl, zdead_mk _ _ (by decide) _⟩⟩
/-- the reference's number, before it steps on -/
theorem znum_r (h : zLv σ τ f L t r i) {lo hi : Nat} (hl : lo < 2000) (hh : hi < 2000) : (t.1 = 3 ∧ lo ≤ zdv (fun k => zch f L (t.2.1 + k)) (t.2.2 - t.2.1) ∧ zdv (fun k => zch f L (t.2.1 + k)) (t.2.2 - t.2.1) ≤ hi ∧ fX10_numberHere (oi lo) (oi hi) τ = some (oi (zdv (fun k => zch f L (t.2.1 + k)) (t.2.2 - t.2.1)), τ)) ∨ (t.1 = 3 ∧ ¬ (lo ≤ zdv (fun k => zch f L (t.2.1 + k)) (t.2.2 - t.2.1) ∧ zdv (fun k => zch f L (t.2.1 + k)) (t.2.2 - t.2.1) ≤ hi) ∧ fX10_numberHere (oi lo) (oi hi) τ = some (oi lo, zwr τ 4 (oi t.2.1))) ∨ (t.1 ≠ 3 ∧ fX10_numberHere (oi lo) (oi hi) τ = some (oi lo, zwr τ 1 (oi t.2.1))) := by
  have ho := zlv_ok h
  have hr := h.1.2.2.1
  unfold fX10_numberHere fX10_in
  rw [if_pos h.2.2, hr.1.2.2, show (3 : Int32) = oi 3 from rfl, hr.1.1]
  by_cases e : t.1 = 3
  · have hv := ho.2.2.2.2 e
    have hr7 := hr.2.2 e
    rw [if_pos (by rw [e]), hr7]
    generalize zdv (fun k => zch f L (t.2.1 + k)) (t.2.2 - t.2.1) = v at *
    by_cases e1 : v < lo
    · rw [if_pos ((oi_lt (by omega) (by omega)).mpr e1), obi_s, if_pos rfl, hr.1.1, zwrong h.2.2, obv_s, zwr_13, if_neg (by decide)]
      exact Or.inr (Or.inl ⟨e, by omega, rfl⟩)
    · rw [if_neg (by rw [oi_lt (by omega) (by omega)]; exact e1)]
      by_cases e2 : hi < v
      · rw [if_pos ((oi_lt (by omega) (by omega)).mpr e2), obi_s, if_pos rfl, hr.1.1, zwrong h.2.2, obv_s, zwr_13, if_neg (by decide)]
        exact Or.inr (Or.inl ⟨e, by omega, rfl⟩)
      · rw [if_neg (by rw [oi_lt (by omega) (by omega)]; exact e2), obi_s, if_neg (by decide), if_pos h.2.2, hr7]
        exact Or.inl ⟨e, by omega, by omega, rfl⟩
  · rw [if_neg (by rw [oi_inj (by have := ho.1; omega) (by omega)]; exact e), zwrong h.2.2, obv_s, zwr_13, if_neg (by decide)]
    exact Or.inr (Or.inr ⟨e, rfl⟩)
theorem znum_c (h : zLv σ τ f L t r i) {lo hi : Nat} (hl : lo < 2000) (hh : hi < 2000) : (t.1 = 3 → lo ≤ zdv (fun k => zch f L (t.2.1 + k)) (t.2.2 - t.2.1) ∧ zdv (fun k => zch f L (t.2.1 + k)) (t.2.2 - t.2.1) ≤ hi → fX5_takeWhole (oi lo) (oi hi) σ = obv (fX6_advance σ) (fun σ5 => some (oi (zdv (fun k => zch f L (t.2.1 + k)) (t.2.2 - t.2.1)), σ5))) ∧ (t.1 = 3 → ¬ (lo ≤ zdv (fun k => zch f L (t.2.1 + k)) (t.2.2 - t.2.1) ∧ zdv (fun k => zch f L (t.2.1 + k)) (t.2.2 - t.2.1) ≤ hi) → fX5_takeWhole (oi lo) (oi hi) σ = some (-1, zfl σ 4 (oi t.2.1))) ∧ (t.1 ≠ 3 → fX5_takeWhole (oi lo) (oi hi) σ = some (-1, zfl σ 1 (oi t.2.1))) := by
  have ho := zlv_ok h
  have hc := h.1.2.1
  unfold fX5_takeWhole
  rw [hc.1.2.1, hc.1.2.2.1]
  refine ⟨fun e q => ?_, fun e q => ?_, fun e => ?_⟩
  · have hv := ho.2.2.2.2 e
    rw [if_pos ((zck_num ho).mpr e), hc.1.2.2.2.2 e, ol_int32 (by omega), if_neg (by rw [oi_lt (by omega) (by omega)]; omega), if_pos ((oi_le (by omega) (by omega)).mpr q.2)]
  · have hv := ho.2.2.2.2 e
    rw [if_pos ((zck_num ho).mpr e), hc.1.2.2.2.2 e, ol_int32 (by omega)]
    by_cases e1 : zdv (fun k => zch f L (t.2.1 + k)) (t.2.2 - t.2.1) < lo
    · rw [if_pos ((oi_lt (by omega) (by omega)).mpr e1), zfail h.2.1, obi_s]
    · rw [if_neg (by rw [oi_lt (by omega) (by omega)]; exact e1), if_neg (by rw [oi_le (by omega) (by omega)]; omega), zfail h.2.1, obi_s]
  · rw [if_neg (fun q => e ((zck_num ho).mp q)), zfail h.2.1, obi_s]
theorem znumber (h : zLv σ τ f L t r i) {lo hi : Nat} (hl : lo < 2000) (hh : hi < 2000) : ∃ σ' τ' rv, (Fr zkP zkQ σ σ' ∧ Fr zrP noL τ τ') ∧ fX10_number (oi lo) (oi hi) τ = some (rv, τ') ∧ ((∃ v, lo ≤ v ∧ v ≤ hi ∧ rv = oi v ∧ fX5_takeWhole (oi lo) (oi hi) σ = some (oi v, σ') ∧ zGo σ' τ' f L (i + 1)) ∨ (fX5_takeWhole (oi lo) (oi hi) σ = some (-1, σ') ∧ zDead σ' τ')) := by
  obtain ⟨c1, c2, c3⟩ := znum_c h hl hh
  unfold fX10_number
  rcases znum_r h hl hh with ⟨e, e1, e2, e3⟩ | ⟨e, e1, e3⟩ | ⟨e, e3⟩
  · obtain ⟨t', r', σ', τ', g1, g2, g3, _, g4, g5⟩ := zboth h (by omega)
    rw [e3, obi_s, if_pos h.2.2, g2, obv_s]
    refine ⟨σ', τ', _, ⟨zP2k g4, zP3r g5⟩, rfl, Or.inl ⟨_, e1, e2, rfl, ?_, t', r', i + 1, Nat.le_refl _, g3⟩⟩
    rw [c1 e ⟨e1, e2⟩, g1, obv_s]
  · rw [e3, obi_s, zwr_13, if_neg (by decide)]
    exact ⟨_, _, _, ⟨zfl_fr _ _ _, zwr_fr _ _ _⟩, rfl, Or.inr ⟨c2 e e1, zdead_mk _ _ (by decide) _⟩⟩
  · rw [e3, obi_s, zwr_13, if_neg (by decide)]
    exact ⟨_, _, _, ⟨zfl_fr _ _ _, zwr_fr _ _ _⟩, rfl, Or.inr ⟨c3 e, zdead_mk _ _ (by decide) _⟩⟩
/-- the reference is through -/
theorem zmust_d (h : mI τ 81 13 = 1) (s : Nat) : fX10_must s τ = some τ := by unfold fX10_must; rw [h, if_neg (by decide)]
theorem znum_d (h : mI τ 81 13 = 1) (x y : Int32) : fX10_numberHere x y τ = some (x, τ) := by unfold fX10_numberHere; rw [h, if_neg (by decide)]
theorem znumb_d (h : mI τ 81 13 = 1) (x y : Int32) : fX10_number x y τ = some (x, τ) := by unfold fX10_number; rw [znum_d h, obi_s, h, if_neg (by decide)]
theorem zaft_d (h : mI τ 81 13 = 1) (s : Nat) (x y : Int32) : fX10_after s x y τ = some (x, τ) := by unfold fX10_after; rw [zmust_d h, obv_s, znumb_d h, obi_s]
theorem zgo_lt {i j : Nat} (h : zGo σ τ f L j) (hij : i ≤ j) : zGo σ τ f L i := by
  obtain ⟨t, r, k, h1, h2⟩ := h
  exact ⟨t, r, k, by omega, h2⟩
/-- a word, then a number -/
theorem zafter (h : zLv σ τ f L t r i) {s : Nat} (hs : s < 22) (hk : zkw (ol (zwv (zsN s) (zsL s))) = 1) {lo hi : Nat} (hl : lo < 2000) (hh : hi < 2000) : ∃ σ' τ' rv, (Fr zkP zkQ σ σ' ∧ Fr zrP noL τ τ') ∧ fX10_after s (oi lo) (oi hi) τ = some (rv, τ') ∧ ((∃ v σ1, lo ≤ v ∧ v ≤ hi ∧ rv = oi v ∧ fX5_takeWord (ol (zwv (zsN s) (zsL s))) σ = some (1, σ1) ∧ Fr zkP zkQ σ σ1 ∧ fX5_takeWhole (oi lo) (oi hi) σ1 = some (oi v, σ') ∧ zGo σ' τ' f L (i + 1)) ∨ (zDead σ' τ' ∧ (fX5_takeWord (ol (zwv (zsN s) (zsL s))) σ = some (0, σ') ∨ ∃ σ1, Fr zkP zkQ σ σ1 ∧ fX5_takeWord (ol (zwv (zsN s) (zsL s))) σ = some (1, σ1) ∧ fX5_takeWhole (oi lo) (oi hi) σ1 = some (-1, σ')))) := by
  obtain ⟨σ1, τ1, ⟨k1, k2⟩, k3, k4⟩ := ztake h hs hk
  unfold fX10_after
  rw [k3, obv_s]
  rcases k4 with ⟨e1, t', r', i', e2, e3⟩ | ⟨e1, e2⟩
  · obtain ⟨σ2, τ2, rv, ⟨m1, m2⟩, m3, m4⟩ := znumber e3 hl hh
    rw [m3, obi_s]
    refine ⟨σ2, τ2, rv, ⟨fr_tr k1 m1, fr_tr k2 m2⟩, rfl, ?_⟩
    rcases m4 with ⟨v, v1, v2, v3, v4, v5⟩ | ⟨v1, v2⟩
    · exact Or.inl ⟨v, σ1, v1, v2, v3, e1, k1, v4, zgo_lt v5 (by omega)⟩
    · exact Or.inr ⟨v2, Or.inr ⟨σ1, k1, e1, v1⟩⟩
  · rw [znumb_d e2.2.2.2, obi_s]
    exact ⟨σ1, τ1, _, ⟨k1, k2⟩, rfl, Or.inr ⟨e2, Or.inl e1⟩⟩
end
