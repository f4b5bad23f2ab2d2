/-! what was read so far, on both sides -/
def zsv (R : Nat → Int32) : Nat → Int32 := fun j => if j = 0 then R 0 else if j = 1 then R 6 else if j < 62 then R (51 + j) else R (31 + j)
def zDB (R : Nat → Int32) : Prop := (bd (R 1) 6 ∧ bd (R 2) 6 ∧ bd (R 3) 6 ∧ bd (R 4) 6) ∧ bd (R 5) 8 ∧ bd (R 6) 12 ∧ bd (R 7) 4 ∧ bd (R 8) 8
def zDN (σ : OM) (R : Nat → Int32) : Prop := zNM σ R (nn (R 1) + nn (R 3) + nn (R 5)) ∧ ∀ s, s < 20 → 1 ≤ zSm R s → s < nn (R 1) ∨ (6 ≤ s ∧ s < 6 + nn (R 3)) ∨ (12 ≤ s ∧ s < 12 + nn (R 5))
def zDF (σ : OM) (w : Nat) (R : Nat → Int32) : Prop := mI σ (w + 1) 0 = R 1 ∧ ∀ k, k < nn (R 1) → mI σ (w + 2) k = R (11 + k) ∧ bd (R (11 + k)) 9 ∧ 1 ≤ nn (R (11 + k))
def zDL (σ : OM) (w : Nat) (R : Nat → Int32) (Z : Nat → Int64) : Prop := (mI σ (w + 1) 2 = R 2 ∧ mL σ (w + 1) 3 = Z 8 ∧ zLo (nn (R 1)) (Z 8) ∧ Z 8 ≠ 0) ∧ mI σ (w + 1) 4 = b2 (decide (0 < nn (R 10))) ∧ mI σ (w + 1) 5 = oi (nn (R 10) - 1) ∧ bd (R 10) (2 ^ nn (R 1)) ∧ (0 < nn (R 10) → tb (Z 8) (nn (R 10) - 1) = true)
def zDQ (σ : OM) (w : Nat) (R : Nat → Int32) (Z : Nat → Int64) : Prop := mI σ (w + 1) 6 = R 5 ∧ ∀ q, q < nn (R 5) → mL σ (w + 3) q = Z q ∧ zLo (nn (R 1)) (Z q)
def zDS (σ : OM) (w : Nat) (R : Nat → Int32) : Prop := mI σ (w + 1) 8 = R 7 ∧ (∀ k, k < nn (R 7) → tw (mI σ (w + 1) 9) k = decide (R (89 + k) = 1) ∧ (R (89 + k) = 0 ∨ R (89 + k) = 1)) ∧ ∀ k, nn (R 7) ≤ k → tw (mI σ (w + 1) 9) k = false
def zDH (σ : OM) (w : Nat) (R : Nat → Int32) : Prop := (mI σ w 4 = R 3 ∧ mI σ w 5 = R 4) ∧
  (∀ h, h < nn (R 3) → (mI σ (w + 14 + h) 0 = R (17 + 4 * h) ∧ mI σ (w + 14 + h) 1 = R (18 + 4 * h) ∧ mI σ (w + 14 + h) 2 = R (19 + 4 * h)) ∧ bd (R (17 + 4 * h)) 999 ∧ bd (R (18 + 4 * h)) 99 ∧ 1 ≤ nn (R (18 + 4 * h)) ∧ bd (R (19 + 4 * h)) 99) ∧
  (∀ h, h < 6 → mI σ (w + 14 + h) 4 = R (20 + 4 * h) - 1 ∧ bd (R (20 + 4 * h)) 1000 ∧ ∀ g, g < 32 → tw (mI σ (w + 14 + h) 3) g = sTw R h g) ∧
  ∀ k, k < nn (R 4) → bd (R (41 + 2 * k)) 5 ∧ nn (R (41 + 2 * k)) < nn (R 3) ∧ bd (R (42 + 2 * k)) 30 ∧ ∀ j, j < k → ¬ (R (41 + 2 * j) = R (41 + 2 * k) ∧ R (42 + 2 * j) = R (42 + 2 * k))
def zDT (σ : OM) (w : Nat) (R : Nat → Int32) : Prop := TB R (zsv R) ∧ CT σ (w + 5) (zsv R) ∧ R 8 = oi (sWd (zsv R) / 2)
def zDD (σ : OM) (w : Nat) (R : Nat → Int32) (Z : Nat → Int64) : Prop := (zDB R ∧ zDN σ R) ∧ zDF σ w R ∧ zDL σ w R Z ∧ zDQ σ w R Z ∧ zDS σ w R ∧ zDH σ w R ∧ zDT σ w R
section
variable {σ σ' : OM} {w : Nat} {R R' : Nat → Int32} {Z Z' : Nat → Int64}
theorem zdb_c (h : ∀ j, 1 ≤ j → j ≤ 8 → R' j = R j) (q : zDB R) : zDB R' := by
  unfold zDB; rw [h 1 (by omega) (by omega), h 2 (by omega) (by omega), h 3 (by omega) (by omega), h 4 (by omega) (by omega), h 5 (by omega) (by omega), h 6 (by omega) (by omega), h 7 (by omega) (by omega), h 8 (by omega) (by omega)]; exact q
theorem zSm_c (h : ∀ j, 99 ≤ j → j < 279 → R' j = R j) {s : Nat} (hs : s < 20) : zSm R' s = zSm R s := by unfold zSm; rw [h (99 + s) (by omega) (by omega)]
theorem zSu_c (h : ∀ j, 99 ≤ j → j < 279 → R' j = R j) {s k : Nat} (hs : s < 20) (hk : k < 8) : zSu R' s k = zSu R s k := by unfold zSu; rw [h (119 + 8 * s + k) (by omega) (by omega)]
theorem zSv_c (h : ∀ j, 99 ≤ j → j < 279 → R' j = R j) (hg : zSg R) {s : Nat} (hs : s < 20) : zSv R' s = zSv R s := by
  unfold zSv; rw [zSm_c h hs]
  exact ofd_congr (fun k x hk => by rw [zSu_c h hs (by have := (hg s hs).2.1; omega)])
theorem zsg_c (h : ∀ j, 99 ≤ j → j < 279 → R' j = R j) (hg : zSg R) : zSg R' := fun s hs => by
  obtain ⟨a, b, c⟩ := hg s hs
  rw [zSm_c h hs, h (99 + s) (by omega) (by omega)]
  refine ⟨a, b, fun k hk => ?_⟩
  rw [zSu_c h hs (by omega), h (119 + 8 * s + k) (by omega) (by omega)]; exact c k hk
theorem znm_c (h : ∀ j, 99 ≤ j → j < 279 → R' j = R j) {N : Nat} (q : zNM σ R N) : zNM σ R' N := by
  obtain ⟨a, b, c, e, d1, d2, d3⟩ := q
  refine ⟨a, b, zsg_c h c, e, fun k hk => ?_, fun s hs h1 => d2 s hs (by rw [← zSm_c h hs]; exact h1), fun s s' hs hs' h1 h2 => d3 s s' hs hs' (by rw [← zSm_c h hs]; exact h1) (by rw [← zSv_c h c hs, ← zSv_c h c hs']; exact h2)⟩
  obtain ⟨q1, q2⟩ := d1 k hk
  rw [zSm_c h q1, zSv_c h c q1]; exact ⟨q1, q2⟩
theorem zdn_c (h : ∀ j, 99 ≤ j → j < 279 → R' j = R j) (h1 : R' 1 = R 1) (h3 : R' 3 = R 3) (h5 : R' 5 = R 5) (h8 : mI σ' 48 8 = mI σ 48 8) (h50 : ∀ j, mL σ' 50 j = mL σ 50 j) (h51 : ∀ j, mI σ' 51 j = mI σ 51 j) (h52 : ∀ j, mI σ' 52 j = mI σ 52 j) (q : zDN σ R) : zDN σ' R' := by
  unfold zDN; rw [h1, h3, h5]
  exact ⟨znm_fr h8 h50 h51 h52 (znm_c h q.1), fun s hs hm => q.2 s hs (by rw [← zSm_c h hs]; exact hm)⟩
theorem zdf_c (h1 : R' 1 = R 1) (h : ∀ j, 11 ≤ j → j < 17 → R' j = R j) (hF : nn (R 1) ≤ 6) (s1 : mI σ' (w + 1) 0 = mI σ (w + 1) 0) (s2 : ∀ j, mI σ' (w + 2) j = mI σ (w + 2) j) (q : zDF σ w R) : zDF σ' w R' := by
  unfold zDF; rw [h1, s1]
  exact ⟨q.1, fun k hk => by rw [s2, h (11 + k) (by omega) (by omega)]; exact q.2 k hk⟩
theorem zdl_c (h1 : R' 1 = R 1) (h2 : R' 2 = R 2) (h10 : R' 10 = R 10) (hZ : Z' 8 = Z 8) (s2 : mI σ' (w + 1) 2 = mI σ (w + 1) 2) (s3 : mL σ' (w + 1) 3 = mL σ (w + 1) 3) (s4 : mI σ' (w + 1) 4 = mI σ (w + 1) 4) (s5 : mI σ' (w + 1) 5 = mI σ (w + 1) 5) (q : zDL σ w R Z) : zDL σ' w R' Z' := by
  unfold zDL; rw [h1, h2, h10, hZ, s2, s3, s4, s5]; exact q
theorem zdq_c (h1 : R' 1 = R 1) (h5 : R' 5 = R 5) (hZ : ∀ q, q < nn (R 5) → Z' q = Z q) (s6 : mI σ' (w + 1) 6 = mI σ (w + 1) 6) (s3 : ∀ j, mL σ' (w + 3) j = mL σ (w + 3) j) (q : zDQ σ w R Z) : zDQ σ' w R' Z' := by
  unfold zDQ; rw [h1, h5, s6]
  exact ⟨q.1, fun k hk => by rw [s3, hZ k hk]; exact q.2 k hk⟩
theorem zds_c (h7 : R' 7 = R 7) (h : ∀ j, 89 ≤ j → j < 93 → R' j = R j) (h4 : nn (R 7) ≤ 4) (s8 : mI σ' (w + 1) 8 = mI σ (w + 1) 8) (s9 : mI σ' (w + 1) 9 = mI σ (w + 1) 9) (q : zDS σ w R) : zDS σ' w R' := by
  unfold zDS; rw [h7, s8, s9]
  exact ⟨q.1, fun k hk => by rw [h (89 + k) (by omega) (by omega)]; exact q.2.1 k hk, q.2.2⟩
theorem sTw_c (h4 : R' 4 = R 4) (h : ∀ j, 41 ≤ j → j < 53 → R' j = R j) (hb : nn (R 4) ≤ 6) (x y : Nat) : sTw R' x y = sTw R x y := by
  unfold sTw; rw [h4]
  rw [Bool.eq_iff_iff, anyN_iff, anyN_iff]
  constructor
  · rintro ⟨k, k1, k2⟩; exact ⟨k, k1, by rw [← h (41 + 2 * k) (by omega) (by omega), ← h (42 + 2 * k) (by omega) (by omega)]; exact k2⟩
  · rintro ⟨k, k1, k2⟩; exact ⟨k, k1, by rw [h (41 + 2 * k) (by omega) (by omega), h (42 + 2 * k) (by omega) (by omega)]; exact k2⟩
theorem zdh_c (h3 : R' 3 = R 3) (h4 : R' 4 = R 4) (h : ∀ j, 17 ≤ j → j < 53 → R' j = R j) (b3 : nn (R 3) ≤ 6) (b4 : nn (R 4) ≤ 6) (s4 : mI σ' w 4 = mI σ w 4) (s5 : mI σ' w 5 = mI σ w 5) (s14 : ∀ k j, k < 6 → mI σ' (w + 14 + k) j = mI σ (w + 14 + k) j) (q : zDH σ w R) : zDH σ' w R' := by
  obtain ⟨q1, q2, q3, q4⟩ := q
  unfold zDH; rw [h3, h4, s4, s5]
  refine ⟨q1, fun k hk => ?_, fun k hk => ?_, fun k hk => ?_⟩
  · rw [s14 k _ (by omega), s14 k _ (by omega), s14 k _ (by omega), h (17 + 4 * k) (by omega) (by omega), h (18 + 4 * k) (by omega) (by omega), h (19 + 4 * k) (by omega) (by omega)]; exact q2 k hk
  · rw [s14 k _ hk, s14 k _ hk, h (20 + 4 * k) (by omega) (by omega)]
    obtain ⟨p1, p2, p3⟩ := q3 k hk
    exact ⟨p1, p2, fun g hg => by rw [sTw_c h4 (fun j a b => h j (by omega) b) b4]; exact p3 g hg⟩
  · rw [h (41 + 2 * k) (by omega) (by omega), h (42 + 2 * k) (by omega) (by omega)]
    obtain ⟨p1, p2, p3, p4⟩ := q4 k hk
    exact ⟨p1, p2, p3, fun j hj => by rw [h (41 + 2 * j) (by omega) (by omega), h (42 + 2 * j) (by omega) (by omega)]; exact p4 j hj⟩
theorem zsv_c (h0 : R' 0 = R 0) (h6 : R' 6 = R 6) (h53 : ∀ j, 53 ≤ j → j < 113 → ¬ (89 ≤ j ∧ j < 93) → ¬ (99 ≤ j) → R' j = R j) (hN : nn (R 6) ≤ 12) : ∀ j, (j < 2 ∨ (2 ≤ j ∧ j < 38) ∨ (62 ≤ j ∧ j < 68)) → zsv R' j = zsv R j := by
  intro j hj
  unfold zsv
  by_cases e0 : j = 0
  · rw [if_pos e0, if_pos e0, h0]
  · rw [if_neg e0, if_neg e0]
    by_cases e1 : j = 1
    · rw [if_pos e1, if_pos e1, h6]
    · rw [if_neg e1, if_neg e1]
      by_cases e2 : j < 62
      · rw [if_pos e2, if_pos e2, h53 (51 + j) (by omega) (by omega) (by omega) (by omega)]
      · rw [if_neg e2, if_neg e2, h53 (31 + j) (by omega) (by omega) (by omega) (by omega)]
theorem zsv_at (R : Nat → Int32) : zsv R 0 = R 0 ∧ zsv R 1 = R 6 ∧ (∀ k, k < 12 → zsv R (2 + 3 * k) = R (53 + 3 * k) ∧ zsv R (3 + 3 * k) = R (54 + 3 * k) ∧ zsv R (4 + 3 * k) = R (55 + 3 * k)) ∧ ∀ i, i < 6 → zsv R (62 + i) = R (93 + i) := by
  unfold zsv
  refine ⟨rfl, rfl, fun k hk => ⟨?_, ?_, ?_⟩, fun i hi => ?_⟩
  · rw [if_neg (by omega), if_neg (by omega), if_pos (by omega), show 51 + (2 + 3 * k) = 53 + 3 * k by omega]
  · rw [if_neg (by omega), if_neg (by omega), if_pos (by omega), show 51 + (3 + 3 * k) = 54 + 3 * k by omega]
  · rw [if_neg (by omega), if_neg (by omega), if_pos (by omega), show 51 + (4 + 3 * k) = 55 + 3 * k by omega]
  · rw [if_neg (by omega), if_neg (by omega), if_neg (by omega), show 31 + (62 + i) = 93 + i by omega]
/-- the told rows, as far as they are used -/
theorem TB_c {s s' : Nat → Int32} (h3 : R' 3 = R 3) (h5 : R' 5 = R 5) (h : ∀ j, (j < 2 ∨ (2 ≤ j ∧ j < 38) ∨ (62 ≤ j ∧ j < 68)) → s' j = s j) (hN : nn (s 1) ≤ 12) (q : TB R s) : TB R' s' := by
  obtain ⟨a, b, c, d, e⟩ := q
  unfold TB; rw [h3, h5, h 0 (by omega), h 1 (by omega)]
  refine ⟨a, b, fun k hk => ?_, fun i hi j => ?_, fun i hi j hj => ?_⟩
  · rw [h (2 + 3 * k) (by omega), h (3 + 3 * k) (by omega), h (4 + 3 * k) (by omega)]; exact c k hk
  · rw [h (62 + i) (by omega)]; exact d i hi j
  · rw [h (62 + i) (by omega), h (62 + j) (by omega)]; exact e i hi j hj
theorem CT_c {t : Nat} {s s' : Nat → Int32} (h : ∀ j, (j < 2 ∨ (2 ≤ j ∧ j < 38) ∨ (62 ≤ j ∧ j < 68)) → s' j = s j) (hN : nn (s 1) ≤ 12) (st : ∀ a j, t ≤ a → a ≤ t + 4 → mI σ' a j = mI σ a j) (q : CT σ t s) : CT σ' t s' := by
  obtain ⟨a, b, c, d, e⟩ := q
  unfold CT; rw [h 0 (by omega), h 1 (by omega), st t 0 (by omega) (by omega), st t 6 (by omega) (by omega), st t 5 (by omega) (by omega)]
  refine ⟨a, b, fun k hk => ?_, fun i hi => ?_, ?_⟩
  · rw [h (2 + 3 * k) (by omega), h (3 + 3 * k) (by omega), h (4 + 3 * k) (by omega), st _ _ (by omega) (by omega), st _ _ (by omega) (by omega), st _ _ (by omega) (by omega)]; exact c k hk
  · rw [h (62 + i) (by omega), st _ _ (by omega) (by omega)]; exact d i hi
  · rw [sWd_ext (fun i hi => h (62 + i) (by omega))]; exact e
theorem zdt_c (h0 : R' 0 = R 0) (h3 : R' 3 = R 3) (h5 : R' 5 = R 5) (h6 : R' 6 = R 6) (h8 : R' 8 = R 8) (h53 : ∀ j, 53 ≤ j → j < 113 → ¬ (89 ≤ j ∧ j < 93) → ¬ (99 ≤ j) → R' j = R j) (hN : nn (R 6) ≤ 12) (st : ∀ a j, w + 5 ≤ a → a ≤ w + 9 → mI σ' a j = mI σ a j) (q : zDT σ w R) : zDT σ' w R' := by
  obtain ⟨a, b, c⟩ := q
  have hs := zsv_c h0 h6 h53 hN
  exact ⟨TB_c h3 h5 hs hN a, CT_c hs hN (fun a j p q => st a j (by omega) (by omega)) b, by rw [h8, c, sWd_ext (fun i hi => hs (62 + i) (by omega))]⟩
/-- nothing of it touched -/
theorem zdd_fr (hI : ∀ a j, w ≤ a → a ≤ w + 20 → mI σ' a j = mI σ a j) (hL : ∀ a j, w ≤ a → a ≤ w + 20 → mL σ' a j = mL σ a j) (h8 : mI σ' 48 8 = mI σ 48 8) (h50 : ∀ j, mL σ' 50 j = mL σ 50 j) (h51 : ∀ j, mI σ' 51 j = mI σ 51 j) (h52 : ∀ j, mI σ' 52 j = mI σ 52 j) (q : zDD σ w R Z) : zDD σ' w R Z := by
  obtain ⟨⟨a1, a2⟩, b, c, d, e, g, k⟩ := q
  exact ⟨⟨a1, zdn_c (fun _ _ _ => rfl) rfl rfl rfl h8 h50 h51 h52 a2⟩, zdf_c rfl (fun _ _ _ => rfl) a1.1.1.2 (hI _ _ (by omega) (by omega)) (fun j => hI _ _ (by omega) (by omega)) b, zdl_c rfl rfl rfl rfl (hI _ _ (by omega) (by omega)) (hL _ _ (by omega) (by omega)) (hI _ _ (by omega) (by omega)) (hI _ _ (by omega) (by omega)) c, zdq_c rfl rfl (fun _ _ => rfl) (hI _ _ (by omega) (by omega)) (fun j => hL _ _ (by omega) (by omega)) d, zds_c rfl (fun _ _ _ => rfl) a1.2.2.2.1.2 (hI _ _ (by omega) (by omega)) (hI _ _ (by omega) (by omega)) e, zdh_c rfl rfl (fun _ _ _ => rfl) a1.1.2.2.1.2 a1.1.2.2.2.2 (hI _ _ (by omega) (by omega)) (hI _ _ (by omega) (by omega)) (fun k j hk => hI _ _ (by omega) (by omega)) g, zdt_c rfl rfl rfl rfl rfl (fun _ _ _ _ _ => rfl) a1.2.2.1.2 (fun a j p q => hI _ _ (by omega) (by omega)) k⟩
end
