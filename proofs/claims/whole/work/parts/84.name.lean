/-! names -/
def zty (s : Nat) : Nat := if s < 6 then 1 else if s < 12 then 4 else 7
def zix (s : Nat) : Nat := if s < 6 then s else if s < 12 then s - 6 else s - 12
def zSm (R : Nat → Int32) (s : Nat) : Nat := nn (R (99 + s))
def zSu (R : Nat → Int32) (s k : Nat) : Nat := nn (R (119 + 8 * s + k))
def zSv (R : Nat → Int32) (s : Nat) : Nat := zwv (zSu R s) (zSm R s)
def zSg (R : Nat → Int32) : Prop := ∀ s, s < 20 → R (99 + s) = oi (zSm R s) ∧ zSm R s ≤ 8 ∧ ∀ k, k < zSm R s → R (119 + 8 * s + k) = oi (zSu R s k) ∧ 97 ≤ zSu R s k ∧ zSu R s k ≤ 122
def zNe (σ : OM) (R : Nat → Int32) (N : Nat) (e : Nat → Nat) : Prop :=
  (∀ k, k < N → e k < 20 ∧ 1 ≤ zSm R (e k) ∧ mL σ 50 k = ol (zSv R (e k)) ∧ mI σ 51 k = oi (zty (e k)) ∧ mI σ 52 k = oi (zix (e k))) ∧
  (∀ s, s < 20 → 1 ≤ zSm R s → ∃ k, k < N ∧ e k = s) ∧
  ∀ s s', s < 20 → s' < 20 → 1 ≤ zSm R s → zSv R s = zSv R s' → s = s'
def zNM (σ : OM) (R : Nat → Int32) (N : Nat) : Prop := N ≤ 20 ∧ mI σ 48 8 = oi N ∧ zSg R ∧ ∃ e, zNe σ R N e
theorem znm_fr {σ σ' : OM} {R : Nat → Int32} {N : Nat} (h8 : mI σ' 48 8 = mI σ 48 8) (h50 : ∀ j, mL σ' 50 j = mL σ 50 j) (h51 : ∀ j, mI σ' 51 j = mI σ 51 j) (h52 : ∀ j, mI σ' 52 j = mI σ 52 j) (h : zNM σ R N) : zNM σ' R N := by
  obtain ⟨a, b, c, e, d1, d2⟩ := h
  exact ⟨a, h8.trans b, c, e, fun k hk => by rw [h50, h51, h52]; exact d1 k hk, d2⟩
section
variable {σ τ : OM} {f : Nat → Nat} {L i : Nat} {t : Tk} {r : List Tk}
theorem zmustName (h : zLv σ τ f L t r i) : fX10_mustName τ = some (if znm (zch f L) t then τ else zwr τ 1 (oi t.2.1)) := by
  have ho := zlv_ok h
  have hr := h.1.2.2.1
  have fin1 : ∀ j, j < 15 → zis (zch f L) t (zkS j) = true → fX10_mustName_b140 1 τ = some (if znm (zch f L) t then τ else zwr τ 1 (oi t.2.1)) := by
    intro j hj e
    have h2 := ((zis_iff ho (zkw_t j hj).2).mp e).1
    have hz : znm (zch f L) t = false := by
      rw [Bool.eq_false_iff]
      intro q
      unfold znm at q
      rw [Bool.and_eq_true, allN_iff] at q
      have := q.2 j hj
      rw [e] at this; cases this
    unfold fX10_mustName_b140
    rw [hr.1.2.2, h2, if_pos (by rfl), if_neg (by decide), hr.1.1, zwrong h.2.2, obv_s, hz]
    rfl
  unfold fX10_mustName
  by_cases e0 : zis (zch f L) t 0 = true
  · rw [zisr ho hr h.2.2 (by decide), obi_s, e0, if_neg (by decide)]; exact fin1 0 (by decide) e0
  rw [zisr ho hr h.2.2 (by decide), obi_s, Bool.eq_false_iff.mpr e0, if_pos (by rfl)]
  by_cases e2 : zis (zch f L) t 2 = true
  · rw [zisr ho hr h.2.2 (by decide), obi_s, e2, if_neg (by decide)]; exact fin1 1 (by decide) e2
  rw [zisr ho hr h.2.2 (by decide), obi_s, Bool.eq_false_iff.mpr e2, if_pos (by rfl)]
  by_cases e3 : zis (zch f L) t 3 = true
  · rw [zisr ho hr h.2.2 (by decide), obi_s, e3, if_neg (by decide)]; exact fin1 2 (by decide) e3
  rw [zisr ho hr h.2.2 (by decide), obi_s, Bool.eq_false_iff.mpr e3, if_pos (by rfl)]
  by_cases e4 : zis (zch f L) t 4 = true
  · rw [zisr ho hr h.2.2 (by decide), obi_s, e4, if_neg (by decide)]; exact fin1 3 (by decide) e4
  rw [zisr ho hr h.2.2 (by decide), obi_s, Bool.eq_false_iff.mpr e4, if_pos (by rfl)]
  by_cases e5 : zis (zch f L) t 5 = true
  · rw [zisr ho hr h.2.2 (by decide), obi_s, e5, if_neg (by decide)]; exact fin1 11 (by decide) e5
  rw [zisr ho hr h.2.2 (by decide), obi_s, Bool.eq_false_iff.mpr e5, if_pos (by rfl)]
  by_cases e6 : zis (zch f L) t 6 = true
  · rw [zisr ho hr h.2.2 (by decide), obi_s, e6, if_neg (by decide)]; exact fin1 4 (by decide) e6
  rw [zisr ho hr h.2.2 (by decide), obi_s, Bool.eq_false_iff.mpr e6, if_pos (by rfl)]
  by_cases e7 : zis (zch f L) t 7 = true
  · rw [zisr ho hr h.2.2 (by decide), obi_s, e7, if_neg (by decide)]; exact fin1 5 (by decide) e7
  rw [zisr ho hr h.2.2 (by decide), obi_s, Bool.eq_false_iff.mpr e7, if_pos (by rfl)]
  by_cases e8 : zis (zch f L) t 8 = true
  · rw [zisr ho hr h.2.2 (by decide), obi_s, e8, if_neg (by decide)]; exact fin1 6 (by decide) e8
  rw [zisr ho hr h.2.2 (by decide), obi_s, Bool.eq_false_iff.mpr e8, if_pos (by rfl)]
  by_cases e9 : zis (zch f L) t 9 = true
  · rw [zisr ho hr h.2.2 (by decide), obi_s, e9, if_neg (by decide)]; exact fin1 7 (by decide) e9
  rw [zisr ho hr h.2.2 (by decide), obi_s, Bool.eq_false_iff.mpr e9, if_pos (by rfl)]
  by_cases e10 : zis (zch f L) t 10 = true
  · rw [zisr ho hr h.2.2 (by decide), obi_s, e10, if_neg (by decide)]; exact fin1 8 (by decide) e10
  rw [zisr ho hr h.2.2 (by decide), obi_s, Bool.eq_false_iff.mpr e10, if_pos (by rfl)]
  by_cases e11 : zis (zch f L) t 11 = true
  · rw [zisr ho hr h.2.2 (by decide), obi_s, e11, if_neg (by decide)]; exact fin1 9 (by decide) e11
  rw [zisr ho hr h.2.2 (by decide), obi_s, Bool.eq_false_iff.mpr e11, if_pos (by rfl)]
  by_cases e12 : zis (zch f L) t 12 = true
  · rw [zisr ho hr h.2.2 (by decide), obi_s, e12, if_neg (by decide)]; exact fin1 10 (by decide) e12
  rw [zisr ho hr h.2.2 (by decide), obi_s, Bool.eq_false_iff.mpr e12, if_pos (by rfl)]
  by_cases e13 : zis (zch f L) t 13 = true
  · rw [zisr ho hr h.2.2 (by decide), obi_s, e13, if_neg (by decide)]; exact fin1 12 (by decide) e13
  rw [zisr ho hr h.2.2 (by decide), obi_s, Bool.eq_false_iff.mpr e13, if_pos (by rfl)]
  by_cases e14 : zis (zch f L) t 14 = true
  · rw [zisr ho hr h.2.2 (by decide), obi_s, e14, if_neg (by decide)]; exact fin1 13 (by decide) e14
  rw [zisr ho hr h.2.2 (by decide), obi_s, Bool.eq_false_iff.mpr e14, if_pos (by rfl)]
  by_cases e15 : zis (zch f L) t 15 = true
  · rw [zisr ho hr h.2.2 (by decide), obi_s, e15, if_neg (by decide)]; exact fin1 14 (by decide) e15
  rw [zisr ho hr h.2.2 (by decide), obi_s, Bool.eq_false_iff.mpr e15, if_pos (by rfl)]
  unfold fX10_mustName_b140
  rw [hr.1.2.2, hr.1.1]
  have hall : allN (fun j => !(zis (zch f L) t (zkS j))) 15 = true := by
    rw [allN_iff]
    intro j hj
    rw [Bool.not_eq_true', Bool.eq_false_iff]
    match j, hj with
    | 0, _ => exact e0
    | 1, _ => exact e2
    | 2, _ => exact e3
    | 3, _ => exact e4
    | 4, _ => exact e6
    | 5, _ => exact e7
    | 6, _ => exact e8
    | 7, _ => exact e9
    | 8, _ => exact e10
    | 9, _ => exact e11
    | 10, _ => exact e12
    | 11, _ => exact e5
    | 12, _ => exact e13
    | 13, _ => exact e14
    | 14, _ => exact e15
  unfold znm
  rw [hall, Bool.and_true]
  by_cases e2 : t.1 = 2
  · rw [e2, if_pos (by rfl), if_pos (by rfl), if_pos (by decide)]
  · rw [if_neg (by rw [show (2 : Int32) = oi 2 from rfl, oi_inj (by have := ho.1; omega) (by omega)]; exact e2), zwrong h.2.2, obv_s, if_neg (by rw [decide_eq_true_eq]; exact e2)]
/-- one place of the table against the word that stands there -/
def zmt (R : Nat → Int32) (g : Nat → Nat) (t : Tk) (s : Nat) : Bool := decide (1 ≤ zSm R s) && decide (zSv R s = zwv (fun k => g (t.2.1 + k)) (t.2.2 - t.2.1))
theorem zmt_iff {R : Nat → Int32} {g : Nat → Nat} {s : Nat} (hg : zSg R) (hs : s < 20) (ho : zOk g t) (h2 : t.1 = 2) : zmt R g t s = true ↔ zSm R s = t.2.2 - t.2.1 ∧ ∀ k, k < t.2.2 - t.2.1 → zSu R s k = g (t.2.1 + k) := by
  obtain ⟨k1, k2, k3⟩ := ho.2.2.2.1 h2
  obtain ⟨a, b, c⟩ := hg s hs
  unfold zmt zSv
  rw [Bool.and_eq_true, decide_eq_true_eq, decide_eq_true_eq, zwv_inj _ _ (fun k hk => by have := c k hk; omega) (fun k hk => by have := k3 k hk; omega)]
  constructor
  · rintro ⟨q1, q2, q3⟩
    exact ⟨q2, fun k hk => q3 k (by omega)⟩
  · rintro ⟨q1, q2⟩
    exact ⟨by omega, q1, fun k hk => q2 k (by omega)⟩
theorem zfind_r (h : zLv σ τ f L t r i) (h2 : t.1 = 2) (hg : zSg (mI τ 85)) : fX10_find τ = if ofs (zmt (mI τ 85) (zch f L) t) 20 0 < 20 then some (oi (ofs (zmt (mI τ 85) (zch f L) t) 20 0), τ) else some (-1, τ) := by
  have ho := zlv_ok h
  obtain ⟨k1, k2, k3⟩ := ho.2.2.2.1 h2
  obtain ⟨r1, r2⟩ := h.1.2.2.1.2.1 h2
  have f0 : ∀ (rc : Int32 → OM → Option (Int32 × OM)) n s, fX10_find_b44 rc (n + 1) (oi s) 0 0 τ = rc (oi (s + 1)) τ := by
    intro rc n s
    rw [fX10_find_b44, oi_succ]
    split <;> rw [if_pos (by rfl)]
    rw [if_pos (by rfl)]
  have f1 : ∀ (rc : Int32 → OM → Option (Int32 × OM)) s, s < 20 → zSm (mI τ 85) s = t.2.2 - t.2.1 → ∀ d k n, k + d = t.2.2 - t.2.1 → d + 1 < n → (∀ j, j < k → zSu (mI τ 85) s j = zch f L (t.2.1 + j)) → fX10_find_b44 rc n (oi s) 1 (oi k) τ = if zmt (mI τ 85) (zch f L) t s then some (oi s, τ) else rc (oi (s + 1)) τ := by
    intro rc s hs hm d
    obtain ⟨c1, c2, c3⟩ := hg s hs
    induction d with
    | zero =>
      intro k n hk hn hj
      obtain ⟨n, rfl⟩ : ∃ n', n = n' + 1 := ⟨n - 1, by omega⟩
      rw [fX10_find_b44, r1, if_pos (by rw [oi_le (by omega) (by omega)]; omega), if_neg (by decide), if_pos ((zmt_iff hg hs ho h2).mpr ⟨hm, fun j hj2 => hj j (by omega)⟩)]
    | succ d ih =>
      intro k n hk hn hj
      obtain ⟨n, rfl⟩ : ∃ n', n = n' + 1 := ⟨n - 1, by omega⟩
      have ea : ((119 : Int32) + (8 : Int32) * oi s) + oi k = oi (119 + 8 * s + k) := by
        rw [show (119 : Int32) = oi 119 from rfl, show (8 : Int32) = oi 8 from rfl, oi_mul, oi_add, oi_add]
      rw [fX10_find_b44, r1, if_neg (by rw [oi_le (by omega) (by omega)]; omega), if_neg (by decide), ea, ogi (by omega) (by omega), ogi (by omega) (by omega), oi_nat (by omega), oi_nat (by omega), r2 k (by omega), (c3 k (by omega)).1, oi_succ]
      have hg3 := k3 k (by omega)
      have hc3 := c3 k (by omega)
      by_cases e : zSu (mI τ 85) s k = zch f L (t.2.1 + k)
      · rw [if_pos (by rw [e])]
        exact ih (k + 1) n (by omega) (by omega) (fun j hj2 => by
          by_cases ej : j = k
          · rw [ej]; exact e
          · exact hj j (by omega))
      · rw [if_neg (by rw [oi_inj (by omega) (by omega)]; exact e)]
        have hz : ¬ zmt (mI τ 85) (zch f L) t s = true := fun q => e (((zmt_iff hg hs ho h2).mp q).2 k (by omega))
        rw [if_neg hz]
        obtain ⟨n, rfl⟩ : ∃ n', n = n' + 1 := ⟨n - 1, by omega⟩
        rw [fX10_find_b44]
        rw [oi_succ]
        split <;> rw [if_pos (by rfl)]
        rw [if_pos (by rfl)]
  have hl := lfs (g := fun n k => fX10_find_b2 n (oi k) τ) (n := 20) (p := zmt (mI τ 85) (zch f L) t) (yes := fun k => some (oi k, τ)) (fin := some (-1, τ))
    (fun m s hs => by
      show fX10_find_b2 (m + 1) (oi s) τ = _
      obtain ⟨c1, c2, c3⟩ := hg s hs
      rw [fX10_find_b2, show (20 : Int32) = oi 20 from rfl, if_neg (by rw [oi_le (by omega) (by omega)]; omega), show (99 : Int32) + oi s = oi (99 + s) from oi_add 99 s, ogi (by omega) (by omega), ogi (by omega) (by omega), oi_nat (by omega), c1, r1]
      by_cases e0 : zSm (mI τ 85) s = 0
      · have hz : ¬ zmt (mI τ 85) (zch f L) t s = true := by
          unfold zmt; rw [e0]; exact Bool.false_ne_true
        rw [if_neg hz, e0, if_pos (by decide)]
        exact f0 _ 99999 s
      · rw [if_neg (by rw [show (0 : Int32) = oi 0 from rfl, oi_le (by omega) (by omega)]; omega)]
        by_cases e1 : zSm (mI τ 85) s = t.2.2 - t.2.1
        · rw [if_pos (by rw [e1])]
          exact f1 _ s hs e1 (t.2.2 - t.2.1) 0 oF (by omega) (by unfold oF; omega) (fun j hj => absurd hj (by omega))
        · have hz : ¬ zmt (mI τ 85) (zch f L) t s = true := fun q => e1 ((zmt_iff hg hs ho h2).mp q).1
          rw [if_neg hz, if_neg (by rw [oi_inj (by omega) (by omega)]; exact e1)]
          exact f0 _ 99999 s)
    (fun m => by
      show fX10_find_b2 (m + 1) (oi 20) τ = _
      rw [fX10_find_b2, if_pos (by decide)])
    20 0 oF rfl (by unfold oF; omega)
  exact hl
theorem zfind_c {N : Nat} (hN : N ≤ 20) (h8 : mI σ 48 8 = oi N) : fX5_findName σ = if ofs (fun k => decide (mL σ 50 k = mL σ 43 10)) N 0 < N then some (oi (ofs (fun k => decide (mL σ 50 k = mL σ 43 10)) N 0), σ) else some (-1, σ) := by
  exact lfs (g := fun n k => fX5_findName_b2 n (oi k) σ) (n := N) (p := fun k => decide (mL σ 50 k = mL σ 43 10)) (yes := fun k => some (oi k, σ)) (fin := some (-1, σ))
    (fun m k hk => by
      show fX5_findName_b2 (m + 1) (oi k) σ = _
      rw [fX5_findName_b2, h8, if_neg (by rw [oi_le (by omega) (by omega)]; omega), show (20 : Int32) = oi 20 from rfl, if_neg (by rw [oi_le (by omega) (by omega)]; omega), ogi (by omega) (by omega), oi_nat (by omega), oi_succ]
      by_cases e : mL σ 50 k = mL σ 43 10
      · rw [if_pos ((cmp_eq _ _).mpr e), if_pos (decide_eq_true e)]
      · rw [if_neg (fun q => e ((cmp_eq _ _).mp q)), if_neg (by rw [decide_eq_true_eq]; exact e)])
    (fun m => by
      show fX5_findName_b2 (m + 1) (oi N) σ = _
      rw [fX5_findName_b2, h8, if_pos (by rw [oi_le (by omega) (by omega)]; omega)])
    N 0 oF (by omega) (by unfold oF; omega)
/-- a name is found by both, or by none -/
theorem zfind {N : Nat} (h : zLv σ τ f L t r i) (h2 : t.1 = 2) (hN : zNM σ (mI τ 85) N) : (∃ s k, s < 20 ∧ k < 20 ∧ zmt (mI τ 85) (zch f L) t s = true ∧ fX10_find τ = some (oi s, τ) ∧ fX5_findName σ = some (oi k, σ) ∧ mI σ 51 k = oi (zty s) ∧ mI σ 52 k = oi (zix s)) ∨ ((∀ s, s < 20 → zmt (mI τ 85) (zch f L) t s = false) ∧ fX10_find τ = some (-1, τ) ∧ fX5_findName σ = some (-1, σ)) := by
  have ho := zlv_ok h
  obtain ⟨n1, n2, n3, e, n4, n5, n6⟩ := hN
  have hv := h.1.2.1.1.2.2.2.1 h2
  have ht := zw8 ho h2
  have s8 : ∀ s, s < 20 → zSv (mI τ 85) s < 18446744073709551616 := fun s hs => by
    obtain ⟨c1, c2, c3⟩ := n3 s hs
    exact zwv8 c2 (fun k hk => by have := c3 k hk; omega)
  rw [zfind_r h h2 n3, zfind_c n1 n2]
  obtain ⟨a1, a2, a3, a4⟩ := ofs_sp (p := zmt (mI τ 85) (zch f L) t) 20 0
  obtain ⟨b1, b2', b3, b4⟩ := ofs_sp (p := fun k => decide (mL σ 50 k = mL σ 43 10)) N 0
  have hit : ∀ k, k < N → (mL σ 50 k = mL σ 43 10 ↔ zmt (mI τ 85) (zch f L) t (e k) = true) := by
    intro k hk
    obtain ⟨q1, q2, q3, _⟩ := n4 k hk
    rw [q3, hv, ol_inj64 (s8 _ q1) ht]
    unfold zmt
    rw [decide_eq_true q2, Bool.true_and, decide_eq_true_eq]
  by_cases hA : ofs (zmt (mI τ 85) (zch f L) t) 20 0 < 20
  · left
    have hm := a1 (by omega)
    have hm1 : 1 ≤ zSm (mI τ 85) (ofs (zmt (mI τ 85) (zch f L) t) 20 0) := by
      unfold zmt at hm; rw [Bool.and_eq_true, decide_eq_true_eq] at hm; exact hm.1
    have hm2 : zSv (mI τ 85) (ofs (zmt (mI τ 85) (zch f L) t) 20 0) = zwv (fun k => zch f L (t.2.1 + k)) (t.2.2 - t.2.1) := by
      unfold zmt at hm; rw [Bool.and_eq_true, decide_eq_true_eq, decide_eq_true_eq] at hm; exact hm.2
    obtain ⟨k0, k1, k2⟩ := n5 _ hA hm1
    have hB : ofs (fun k => decide (mL σ 50 k = mL σ 43 10)) N 0 < N := by
      refine Nat.lt_of_not_le (fun q => ?_)
      have := b4 k0 (by omega) (by omega)
      rw [decide_eq_false_iff_not, hit k0 k1, k2] at this
      exact this hm
    have hb := of_decide_eq_true (b1 (by omega))
    obtain ⟨q1, q2, q3, q4, q5⟩ := n4 _ hB
    have hz := (hit _ hB).mp hb
    have hz2 : zSv (mI τ 85) (e (ofs (fun k => decide (mL σ 50 k = mL σ 43 10)) N 0)) = zwv (fun k => zch f L (t.2.1 + k)) (t.2.2 - t.2.1) := by
      unfold zmt at hz; rw [Bool.and_eq_true, decide_eq_true_eq, decide_eq_true_eq] at hz; exact hz.2
    have he := n6 _ _ hA q1 hm1 (hm2.trans hz2.symm)
    refine ⟨_, _, hA, by omega, hm, if_pos hA, if_pos hB, ?_, ?_⟩
    · rw [q4, he]
    · rw [q5, he]
  · right
    have hall : ∀ s, s < 20 → zmt (mI τ 85) (zch f L) t s = false := fun s hs => a4 s (by omega) (by omega)
    have hB : ¬ ofs (fun k => decide (mL σ 50 k = mL σ 43 10)) N 0 < N := by
      intro q
      have hb := of_decide_eq_true (b1 (by omega))
      have := (hit _ q).mp hb
      rw [hall _ (n4 _ q).1] at this; cases this
    exact ⟨hall, if_neg hA, if_neg hB⟩
end
