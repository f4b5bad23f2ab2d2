/-! the reading's start -/
theorem zfill {α : Type} (F : Nat → Int32 → OM → α) (G : OM → α) (a N : Nat) (v : Int32) (hstop : ∀ n σ, F (n + 1) (oi N) σ = G σ) (hstep : ∀ n k σ, k < N → F (n + 1) (oi k) σ = F n (oi (k + 1)) (sI σ a k v)) : ∀ d k n (σ : OM), k + d = N → d < n → ∃ σ', F n (oi k) σ = G σ' ∧ (∀ j, k ≤ j → j < N → mI σ' a j = v) ∧ (∀ b j, ¬ (b = a ∧ k ≤ j ∧ j < N) → mI σ' b j = mI σ b j) ∧ (∀ b j, mL σ' b j = mL σ b j) ∧ mR σ' = mR σ := by
  intro d
  induction d with
  | zero =>
    intro k n σ h1 h2
    obtain ⟨n, rfl⟩ : ∃ m, n = m + 1 := ⟨n - 1, by omega⟩
    have : k = N := by omega
    subst this
    exact ⟨σ, hstop n σ, fun j p q => by omega, fun _ _ _ => rfl, fun _ _ => rfl, rfl⟩
  | succ d ih =>
    intro k n σ h1 h2
    obtain ⟨n, rfl⟩ : ∃ m, n = m + 1 := ⟨n - 1, by omega⟩
    obtain ⟨σ', e1, e2, e3, e4, e5⟩ := ih (k + 1) n (sI σ a k v) (by omega) (by omega)
    refine ⟨σ', by rw [hstep n k σ (by omega)]; exact e1, fun j p q => ?_, fun b j p => ?_, fun b j => (e4 b j).trans rfl, e5.trans (mR_sI σ a k v)⟩
    · by_cases e : j = k
      · rw [e, e3 a k (by omega), mI_at]
      · exact e2 j (by omega) q
    · rw [e3 b j (fun q => p ⟨q.1, by omega, q.2.2⟩), mI_sI, if_neg (fun q => p ⟨q.1, by omega, by omega⟩)]
theorem zfillL {α : Type} (F : Nat → Int32 → OM → α) (G : OM → α) (a c N : Nat) (g : Int64 → Int64) (hac : c ≠ a) (hstop : ∀ n σ, F (n + 1) (oi N) σ = G σ) (hstep : ∀ n k σ, k < N → F (n + 1) (oi k) σ = F n (oi (k + 1)) (sL σ a k (g (mL σ c k)))) : ∀ d k n (σ : OM), k + d = N → d < n → ∃ σ', F n (oi k) σ = G σ' ∧ (∀ j, k ≤ j → j < N → mL σ' a j = g (mL σ c j)) ∧ (∀ b j, ¬ (b = a ∧ k ≤ j ∧ j < N) → mL σ' b j = mL σ b j) ∧ (∀ b j, mI σ' b j = mI σ b j) ∧ mR σ' = mR σ := by
  intro d
  induction d with
  | zero =>
    intro k n σ h1 h2
    obtain ⟨n, rfl⟩ : ∃ m, n = m + 1 := ⟨n - 1, by omega⟩
    have : k = N := by omega
    subst this
    exact ⟨σ, hstop n σ, fun j p q => by omega, fun _ _ _ => rfl, fun _ _ => rfl, rfl⟩
  | succ d ih =>
    intro k n σ h1 h2
    obtain ⟨n, rfl⟩ : ∃ m, n = m + 1 := ⟨n - 1, by omega⟩
    obtain ⟨σ', e1, e2, e3, e4, e5⟩ := ih (k + 1) n (sL σ a k (g (mL σ c k))) (by omega) (by omega)
    refine ⟨σ', by rw [hstep n k σ (by omega)]; exact e1, fun j p q => ?_, fun b j p => ?_, fun b j => (e4 b j).trans rfl, e5.trans (mR_sL σ a k _)⟩
    · by_cases e : j = k
      · rw [e, e3 a k (by omega), mL_sL, if_pos ⟨rfl, rfl⟩]
      · rw [e2 j (by omega) q, mL_sL, if_neg (fun q => hac q.1)]
    · rw [e3 b j (fun q => p ⟨q.1, by omega, q.2.2⟩), mL_sL, if_neg (fun q => p ⟨q.1, by omega, by omega⟩)]
section
variable {w : Nat}
theorem nle {k N : Nat} (h : k < N) (hN : N < 2147483648) : ¬ oi N ≤ oi k := fun q => absurd ((oi_le (by omega) (by omega)).mp q) (by omega)
theorem c7_eq (t : Nat) (σ : OM) : ∃ σ', fX7_clear t σ = some σ' ∧ (mI σ' t 0 = 0 ∧ mI σ' t 5 = 0 ∧ mI σ' t 6 = 0 ∧ ∀ j, j < 6 → mI σ' (t + 4) j = 0) ∧ (∀ b j, b ≠ t → b ≠ t + 4 → mI σ' b j = mI σ b j) ∧ (∀ b j, mL σ' b j = mL σ b j) ∧ mR σ' = mR σ := by
  obtain ⟨σ', e1, e2, e3, e4, e5⟩ := zfill (fun n x σ => fX7_clear_b17 n t x σ) some (t + 4) 6 0 (fun n σ => by show fX7_clear_b17 (n + 1) t (oi 6) σ = _; rw [fX7_clear_b17, if_pos (show (6 : Int32) ≤ oi 6 by decide)]) (fun n k σ hk => by show fX7_clear_b17 (n + 1) t (oi k) σ = _; rw [fX7_clear_b17, if_neg (show ¬ (6 : Int32) ≤ oi k from nle hk (by decide)), ogi hk (by omega), oi_nat (by omega), oi_succ]) 6 0 oF (sI (sI (sI σ t 0 0) t 5 0) t 6 0) rfl (by decide)
  refine ⟨σ', e1, ⟨?_, ?_, ?_, fun j hj => e2 j (by omega) hj⟩, fun b j p q => ?_, fun b j => e4 b j, e5⟩
  · rw [e3 _ _ (by omega), mI_sI, if_neg (by omega), mI_sI, if_neg (by omega), mI_at]
  · rw [e3 _ _ (by omega), mI_sI, if_neg (by omega), mI_at]
  · rw [e3 _ _ (by omega), mI_at]
  · rw [e3 _ _ (fun g => q g.1), mI_sI, if_neg (fun g => p g.1), mI_sI, if_neg (fun g => p g.1), mI_sI, if_neg (fun g => p g.1)]
theorem c1_eq (u : Nat) (σ : OM) : ∃ σ', fX1_clear u σ = some σ' ∧ mI σ' u 3 = 0 ∧ mI σ' u 4 = -1 ∧ (∀ b j, b ≠ u → mI σ' b j = mI σ b j) ∧ (∀ b j, mL σ' b j = mL σ b j) ∧ mR σ' = mR σ := by
  refine ⟨_, rfl, ?_, mI_at, fun b j p => ?_, fun b j => rfl, rfl⟩
  · rw [mI_sI, if_neg (by omega), mI_at]
  · rw [mI_sI, if_neg (fun g => p g.1), mI_sI, if_neg (fun g => p g.1), mI_sI, if_neg (fun g => p g.1), mI_sI, if_neg (fun g => p g.1), mI_sI, if_neg (fun g => p g.1)]
theorem c8_loop (w : Nat) : ∀ d k n (σ : OM), k + d = 6 → d < n → ∃ σ', fX8_clear_b26 n w (oi k) σ = some σ' ∧ (∀ h, k ≤ h → h < 6 → mI σ' (w + 14 + h) 3 = 0 ∧ mI σ' (w + 14 + h) 4 = -1) ∧ (∀ b j, ¬ (w + 14 + k ≤ b ∧ b < w + 20) → mI σ' b j = mI σ b j) ∧ (∀ b j, mL σ' b j = mL σ b j) ∧ mR σ' = mR σ := by
  intro d
  induction d with
  | zero =>
    intro k n σ h1 h2
    obtain ⟨n, rfl⟩ : ∃ m, n = m + 1 := ⟨n - 1, by omega⟩
    have : k = 6 := by omega
    subst this
    exact ⟨σ, by rw [fX8_clear_b26, if_pos (show (6 : Int32) ≤ oi 6 by decide)], fun j p q => by omega, fun _ _ _ => rfl, fun _ _ => rfl, rfl⟩
  | succ d ih =>
    intro k n σ h1 h2
    obtain ⟨n, rfl⟩ : ∃ m, n = m + 1 := ⟨n - 1, by omega⟩
    obtain ⟨σ1, a1, a2, a3, a4, a5, a6⟩ := c1_eq (w + 14 + k) σ
    obtain ⟨σ', e1, e2, e3, e4, e5⟩ := ih (k + 1) n σ1 (by omega) (by omega)
    refine ⟨σ', ?_, fun h p q => ?_, fun b j p => ?_, fun b j => (e4 b j).trans (a5 b j), e5.trans a6⟩
    · rw [fX8_clear_b26, if_neg (show ¬ (6 : Int32) ≤ oi k from nle (N := 6) (by omega) (by decide)), ogi (by omega) (by omega), oi_nat (by omega), a1, obv_s, oi_succ]; exact e1
    · by_cases e : h = k
      · rw [e, e3 _ _ (by omega), e3 _ _ (by omega)]; exact ⟨a2, a3⟩
      · exact e2 h (by omega) q
    · rw [e3 b j (by omega), a4 b j (by omega)]
def zEm (σ : OM) (w : Nat) : Prop := (mI σ (w + 1) 0 = 0 ∧ mI σ (w + 1) 2 = 0 ∧ mL σ (w + 1) 3 = -1 ∧ mI σ (w + 1) 4 = 0 ∧ mI σ (w + 1) 5 = 0 ∧ mI σ (w + 1) 6 = 0 ∧ mI σ (w + 1) 8 = 0 ∧ mI σ (w + 1) 9 = 0) ∧ (mI σ w 4 = 0 ∧ mI σ w 5 = 0) ∧ (∀ h, h < 6 → mI σ (w + 14 + h) 3 = 0 ∧ mI σ (w + 14 + h) 4 = -1) ∧ mI σ (w + 5) 0 = 0 ∧ mI σ (w + 5) 5 = 0 ∧ mI σ (w + 5) 6 = 0 ∧ ∀ j, j < 6 → mI σ (w + 9) j = 0
theorem c8_eq (w : Nat) (σ : OM) : ∃ σ', fX8_clear w σ = some σ' ∧ zEm σ' w ∧ (∀ b j, ¬ (w ≤ b ∧ b ≤ w + 20) → mI σ' b j = mI σ b j) ∧ (∀ b j, b ≠ w + 1 → mL σ' b j = mL σ b j) ∧ mR σ' = mR σ := by
  have h2 : ∃ σ1, fX2_clear w σ = some σ1 ∧ (mI σ1 (w + 1) 0 = 0 ∧ mI σ1 (w + 1) 2 = 0 ∧ mL σ1 (w + 1) 3 = -1 ∧ mI σ1 (w + 1) 4 = 0 ∧ mI σ1 (w + 1) 5 = 0 ∧ mI σ1 (w + 1) 6 = 0 ∧ mI σ1 (w + 1) 8 = 0 ∧ mI σ1 (w + 1) 9 = 0) ∧ (∀ b j, b ≠ w + 1 → mI σ1 b j = mI σ b j) ∧ (∀ b j, b ≠ w + 1 → mL σ1 b j = mL σ b j) ∧ mR σ1 = mR σ := by
    refine ⟨_, rfl, ⟨?_, ?_, ?_, ?_, ?_, ?_, ?_, mI_at⟩, fun b j p => ?_, fun b j p => ?_, rfl⟩
    · rw [mI_sI, if_neg (by omega), mI_sI, if_neg (by omega), mI_sI, if_neg (by omega), mI_sI, if_neg (by omega), mI_sI, if_neg (by omega), mI_sL, mI_sI, if_neg (by omega), mI_at]
    · rw [mI_sI, if_neg (by omega), mI_sI, if_neg (by omega), mI_sI, if_neg (by omega), mI_sI, if_neg (by omega), mI_sI, if_neg (by omega), mI_sL, mI_at]
    · rw [mL_sI, mL_sI, mL_sI, mL_sI, mL_sI, mL_sL, if_pos ⟨rfl, rfl⟩]
    · rw [mI_sI, if_neg (by omega), mI_sI, if_neg (by omega), mI_sI, if_neg (by omega), mI_sI, if_neg (by omega), mI_at]
    · rw [mI_sI, if_neg (by omega), mI_sI, if_neg (by omega), mI_sI, if_neg (by omega), mI_at]
    · rw [mI_sI, if_neg (by omega), mI_sI, if_neg (by omega), mI_at]
    · rw [mI_sI, if_neg (by omega), mI_at]
    · rw [mI_sI, if_neg (fun g => p g.1), mI_sI, if_neg (fun g => p g.1), mI_sI, if_neg (fun g => p g.1), mI_sI, if_neg (fun g => p g.1), mI_sI, if_neg (fun g => p g.1), mI_sL, mI_sI, if_neg (fun g => p g.1), mI_sI, if_neg (fun g => p g.1)]
    · rw [mL_sI, mL_sI, mL_sI, mL_sI, mL_sI, mL_sL, if_neg (fun g => p g.1)]; rfl
  obtain ⟨σ1, a1, ⟨a2, a3, a4, a5, a6, a7, a8, a9⟩, b1, b2', b3⟩ := h2
  obtain ⟨σ2, c1, ⟨c2, c3, c4, c5⟩, c6, c7, c8⟩ := c7_eq (w + 5) σ1
  obtain ⟨σ3, d1, d2, d3, d4, d5⟩ := c8_loop w 6 0 oF (sI (sI σ2 w 4 0) w 5 0) rfl (by decide)
  unfold fX8_clear
  rw [a1, obv_s, c1, obv_s]
  have h3 : ∀ b j, ¬ (w + 14 ≤ b ∧ b < w + 20) → b ≠ w → mI σ3 b j = mI σ2 b j := fun b j p q => by
    rw [d3 b j (by omega), mI_sI, if_neg (fun g => q g.1), mI_sI, if_neg (fun g => q g.1)]
  have h31 : ∀ j, mI σ3 (w + 1) j = mI σ1 (w + 1) j := fun j => by rw [h3 _ _ (by omega) (by omega), c6 _ _ (by omega) (by omega)]
  refine ⟨σ3, d1, ⟨⟨by rw [h31]; exact a2, by rw [h31]; exact a3, ?_, by rw [h31]; exact a5, by rw [h31]; exact a6, by rw [h31]; exact a7, by rw [h31]; exact a8, by rw [h31]; exact a9⟩, ⟨?_, ?_⟩, fun h hh => d2 h (by omega) hh, ?_, ?_, ?_, fun j hj => ?_⟩, fun b j p => ?_, fun b j p => ?_, ?_⟩
  · rw [d4, mL_sI, mL_sI, c7]; exact a4
  · rw [d3 _ _ (by omega), mI_sI, if_neg (by omega), mI_at]
  · rw [d3 _ _ (by omega), mI_at]
  · rw [h3 _ _ (by omega) (by omega)]; exact c2
  · rw [h3 _ _ (by omega) (by omega)]; exact c3
  · rw [h3 _ _ (by omega) (by omega)]; exact c4
  · rw [h3 _ _ (by omega) (by omega)]; exact c5 j hj
  · rw [h3 _ _ (by omega) (by omega), c6 _ _ (by omega) (by omega), b1 _ _ (by omega)]
  · rw [d4, mL_sI, mL_sI, c7, b2' _ _ p]
  · rw [d5]; show mR σ2 = mR σ; rw [c8, b3]
/-- nothing read yet -/
theorem zdd_em {σ : OM} {R : Nat → Int32} {Z : Nat → Int64} (h : zEm σ w) (h8 : mI σ 48 8 = 0) (hR : ∀ j, j < 279 → R j = 0) (hZ : ∀ q, q < 9 → Z q = -1) : zDD σ w R Z := by
  obtain ⟨⟨a1, a2, a3, a4, a5, a6, a7, a8⟩, ⟨b1, b2'⟩, c, d1, d2, d3, d4⟩ := h
  have n0 : nn (0 : Int32) = 0 := rfl
  have hn : ∀ j, j < 279 → nn (R j) = 0 := fun j hj => by rw [hR j hj]; rfl
  have bd0 : ∀ b, bd (0 : Int32) b := fun b => ⟨rfl, Nat.zero_le _⟩
  have hm : ∀ s, s < 20 → zSm R s = 0 := fun s hs => by unfold zSm; exact hn _ (by omega)
  have hs : ∀ j, j < 68 → zsv R j = 0 := fun j hj => by
    unfold zsv
    by_cases e0 : j = 0
    · rw [if_pos e0]; exact hR _ (by omega)
    · rw [if_neg e0]
      by_cases e1 : j = 1
      · rw [if_pos e1]; exact hR _ (by omega)
      · rw [if_neg e1]
        by_cases e2 : j < 62
        · rw [if_pos e2]; exact hR _ (by omega)
        · rw [if_neg e2]; exact hR _ (by omega)
  have hw0 : sWd (zsv R) = 0 := by
    rw [sWd_ext (s := fun _ => 0) (fun i hi => hs (62 + i) (by omega))]; decide +kernel
  refine ⟨⟨⟨⟨?_, ?_, ?_, ?_⟩, ?_, ?_, ?_, ?_⟩, ⟨?_, fun s hs h1 => ?_⟩⟩, ⟨?_, fun k hk => ?_⟩, ⟨⟨?_, ?_, ?_, ?_⟩, ?_, ?_, ?_, fun h => ?_⟩, ⟨?_, fun k hk => ?_⟩, ⟨?_, fun k hk => ?_, fun k hk => ?_⟩, ⟨⟨?_, ?_⟩, fun k hk => ?_, fun k hk => ?_, fun k hk => ?_⟩, ⟨⟨?_, ?_, fun k hk => ?_, fun i hi j hj => ?_, fun i hi j hj => ?_⟩, ⟨?_, ?_, fun k hk => ?_, fun i hi => ?_, ?_⟩, ?_⟩⟩
  · rw [hR 1 (by omega)]; exact bd0 _
  · rw [hR 2 (by omega)]; exact bd0 _
  · rw [hR 3 (by omega)]; exact bd0 _
  · rw [hR 4 (by omega)]; exact bd0 _
  · rw [hR 5 (by omega)]; exact bd0 _
  · rw [hR 6 (by omega)]; exact bd0 _
  · rw [hR 7 (by omega)]; exact bd0 _
  · rw [hR 8 (by omega)]; exact bd0 _
  · rw [hn 1 (by omega), hn 3 (by omega), hn 5 (by omega)]
    refine ⟨by omega, h8, fun s hs => ?_, fun _ => 0, fun k hk => by omega, fun s hs h1 => ?_, fun s s' hs hs' h1 => ?_⟩
    · rw [hm s hs, hR _ (by omega)]; exact ⟨rfl, by omega, fun k hk => by omega⟩
    · rw [hm s hs] at h1; omega
    · rw [hm s hs] at h1; omega
  · rw [hm s hs] at h1; omega
  · rw [a1, hR 1 (by omega)]
  · rw [hn 1 (by omega)] at hk; omega
  · rw [a2, hR 2 (by omega)]
  · rw [a3, hZ 8 (by omega)]
  · rw [hZ 8 (by omega), hn 1 (by omega)]
    intro i hi
    rw [tb_m1 i hi, tb_m1 _ (by rw [show 2 ^ 0 = 1 from rfl]; omega)]
  · rw [hZ 8 (by omega)]; decide
  · rw [a4, hn 10 (by omega)]; rfl
  · rw [a5, hn 10 (by omega)]; rfl
  · rw [hR 10 (by omega)]; exact bd0 _
  · rw [hn 10 (by omega)] at h; omega
  · rw [a6, hR 5 (by omega)]
  · rw [hn 5 (by omega)] at hk; omega
  · rw [a7, hR 7 (by omega)]
  · rw [hn 7 (by omega)] at hk; omega
  · rw [a8]; exact tw_0 k
  · rw [b1, hR 3 (by omega)]
  · rw [b2', hR 4 (by omega)]
  · rw [hn 3 (by omega)] at hk; omega
  · rw [(c k hk).2, hR _ (by omega), (c k hk).1]
    refine ⟨by decide, bd0 _, fun g hg => ?_⟩
    rw [tw_0]
    unfold sTw
    rw [hn 4 (by omega)]; rfl
  · rw [hn 4 (by omega)] at hk; omega
  · rw [hs 0 (by omega)]; exact bd0 _
  · rw [hs 1 (by omega)]; exact bd0 _
  · rw [hs 1 (by omega), n0] at hk; omega
  · rw [hs _ (by omega), tw_0] at hj; exact absurd hj (by decide)
  · rw [hs _ (by omega), hs _ (by omega), tw_0, tw_0]
  · rw [d1, hs 1 (by omega)]
  · rw [d3, hs 0 (by omega)]
  · rw [hs 1 (by omega), n0] at hk; omega
  · rw [hs _ (by omega)]; exact d4 i hi
  · rw [d2, hw0]; rfl
  · rw [hw0, hR 8 (by omega)]; rfl
end
