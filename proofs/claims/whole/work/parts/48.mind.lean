/-! who lies: the two ways to find it come to one -/
theorem pc_same : ∀ k, k < 64 → pcw (oi k) = pc (ol k) := by decide +kernel
theorem pc_six : ∀ k, k < 64 → pc (ol k) ≤ 6 := by decide +kernel
theorem anyN_no {p : Nat → Bool} {n : Nat} (h : ∀ k, k < n → p k = false) : anyN p n = false := by
  cases e : anyN p n
  · rfl
  · obtain ⟨k, h1, h2⟩ := anyN_iff.mp e
    rw [h k h1] at h2; cases h2
theorem allN_yes {p : Nat → Bool} {n : Nat} (h : ∀ k, k < n → p k = true) : allN p n = true := allN_iff.mpr h
/-- a set of liars with as few as m has -/
def sFew (Z : Nat → Int64) (s : Nat → Int32) (m k : Nat) : Bool := sCan Z s k && decide (pc (ol k) = pc (ol m))
def miP (Z : Nat → Int64) (s : Nat → Int32) (n : Nat) (b : Option Nat) (a : Nat × Nat × Nat × Int32 × Int32) : Prop :=
  a.2.2.1 = cnt (sCan Z s) n ∧
  (b = none → a.1 = 7 ∧ a.2.1 = 0 ∧ a.2.2.2.1 = 0 ∧ a.2.2.2.2 = 0 ∧ ∀ k, k < n → sCan Z s k = false) ∧
  (∀ m, b = some m → a.1 = pc (ol m) ∧ a.2.1 = m ∧ sCan Z s m = true ∧ m < n ∧ (∀ k, k < n → sCan Z s k = true → pc (ol m) ≤ pc (ol k)) ∧
    (∀ h, h < 32 → tw a.2.2.2.1 h = anyN (fun k => sFew Z s m k && k.testBit h) n) ∧ (∀ h, h < 32 → tw a.2.2.2.2 h = allN (fun k => !(sFew Z s m k) || k.testBit h) n))
theorem mi_step {Z : Nat → Int64} {s : Nat → Int32} {n : Nat} (hn : n < 64) {b : Option Nat} {a : Nat × Nat × Nat × Int32 × Int32} (h : miP Z s n b a) : miP Z s (n + 1) (sBest Z s n b) (sMs Z s n a) := by
  obtain ⟨h1, h2, h3⟩ := h
  have hp := pc_same n hn
  have h6 := pc_six n hn
  have hc : cnt (sCan Z s) (n + 1) = cnt (sCan Z s) n + if sCan Z s n then 1 else 0 := rfl
  cases hs : sCan Z s n
  · -- it can't
    have e1 : sMs Z s n a = a := by unfold sMs; rw [hs]; rfl
    have e2 : sBest Z s n b = b := by
      unfold sBest
      cases b with
      | none => show (if sCan Z s n then some n else none) = none; rw [hs]; rfl
      | some m => show (if pc (ol n) < pc (ol m) ∧ sCan Z s n = true then some n else some m) = some m; rw [if_neg]; rw [hs]; rintro ⟨_, h⟩; cases h
    have hf : ∀ m, sFew Z s m n = false := fun m => by unfold sFew; rw [hs]; rfl
    rw [e1, e2]
    refine ⟨by rw [hc, hs, h1]; rfl, fun e => ?_, fun m e => ?_⟩
    · obtain ⟨a1, a2, a3, a4, a5⟩ := h2 e
      refine ⟨a1, a2, a3, a4, fun k hk => ?_⟩
      by_cases hkn : k = n
      · rw [hkn]; exact hs
      · exact a5 k (by omega)
    · obtain ⟨a1, a2, a3, a4, a5, a6, a7⟩ := h3 m e
      refine ⟨a1, a2, a3, by omega, fun k hk hk2 => ?_, fun h hh => ?_, fun h hh => ?_⟩
      · by_cases hkn : k = n
        · rw [hkn, hs] at hk2; cases hk2
        · exact a5 k (by omega) hk2
      · show _ = (anyN (fun k => sFew Z s m k && k.testBit h) n || (sFew Z s m n && n.testBit h))
        rw [a6 h hh, hf]; simp
      · show _ = (allN (fun k => !(sFew Z s m k) || k.testBit h) n && (!(sFew Z s m n) || n.testBit h))
        rw [a7 h hh, hf]; simp
  · -- a new fewest one
    have fresh : (∀ k, k < n → sCan Z s k = true → pc (ol n) < pc (ol k)) → pcw (oi n) < a.1 → sBest Z s n b = some n → miP Z s (n + 1) (sBest Z s n b) (sMs Z s n a) := by
      intro g1 g2 g3
      have e1 : sMs Z s n a = (pcw (oi n), n, a.2.2.1 + 1, oi n, oi n) := by
        unfold sMs; rw [hs, if_pos rfl, if_pos g2]
      rw [e1, g3]
      have hf : ∀ k, k < n → sFew Z s n k = false := by
        intro k hk
        unfold sFew
        cases hk2 : sCan Z s k
        · rfl
        · have := g1 k hk hk2
          rw [decide_eq_false (by omega)]; rfl
      have hfn : sFew Z s n n = true := by unfold sFew; rw [hs, decide_eq_true rfl]; rfl
      refine ⟨by rw [hc, hs]; show a.2.2.1 + 1 = _; rw [h1]; rfl, fun e => by (cases e), fun m e => ?_⟩
      cases e
      refine ⟨hp, rfl, hs, by omega, fun k hk hk2 => ?_, fun h hh => ?_, fun h hh => ?_⟩
      · by_cases hkn : k = n
        · rw [hkn]; exact Nat.le_refl _
        · exact Nat.le_of_lt (g1 k (by omega) hk2)
      · show tw (oi n) h = (anyN (fun k => sFew Z s n k && k.testBit h) n || (sFew Z s n n && n.testBit h))
        rw [anyN_no (fun k hk => by rw [hf k hk]; rfl), hfn, tw_oi _ _ (by omega)]; simp
      · show tw (oi n) h = (allN (fun k => !(sFew Z s n k) || k.testBit h) n && (!(sFew Z s n n) || n.testBit h))
        rw [allN_yes (fun k hk => by rw [hf k hk]; rfl), hfn, tw_oi _ _ (by omega)]; simp
    cases b with
    | none =>
      obtain ⟨a1, a2, a3, a4, a5⟩ := h2 rfl
      refine fresh (fun k hk hk2 => by rw [a5 k hk] at hk2; cases hk2) (by rw [hp, a1]; omega) ?_
      show (if sCan Z s n then some n else none) = some n
      rw [hs]; rfl
    | some m =>
      obtain ⟨a1, a2, a3, a4, a5, a6, a7⟩ := h3 m rfl
      have e2 : sBest Z s n (some m) = if pc (ol n) < pc (ol m) ∧ sCan Z s n = true then some n else some m := rfl
      by_cases hl : pc (ol n) < pc (ol m)
      · exact fresh (fun k hk hk2 => Nat.lt_of_lt_of_le hl (a5 k hk hk2)) (by rw [hp, a1]; exact hl) (by rw [e2, if_pos ⟨hl, hs⟩])
      · rw [e2, if_neg (fun e => hl e.1)]
        have hmin : ∀ k, k < n + 1 → sCan Z s k = true → pc (ol m) ≤ pc (ol k) := by
          intro k hk hk2
          by_cases hkn : k = n
          · rw [hkn]; omega
          · exact a5 k (by omega) hk2
        by_cases he : pc (ol n) = pc (ol m)
        · have e1 : sMs Z s n a = (a.1, a.2.1, a.2.2.1 + 1, a.2.2.2.1 ||| oi n, a.2.2.2.2 &&& oi n) := by
            unfold sMs; rw [hs, if_pos rfl, if_neg (by rw [hp, a1]; exact hl), if_pos (by rw [hp, a1]; exact he)]
          have hfn : sFew Z s m n = true := by unfold sFew; rw [hs, decide_eq_true he]; rfl
          rw [e1]
          refine ⟨by rw [hc, hs]; show a.2.2.1 + 1 = _; rw [h1]; rfl, fun e => by (cases e), fun m' e => ?_⟩
          cases e
          refine ⟨a1, a2, a3, by omega, hmin, fun h hh => ?_, fun h hh => ?_⟩
          · show tw (a.2.2.2.1 ||| oi n) h = (anyN (fun k => sFew Z s m k && k.testBit h) n || (sFew Z s m n && n.testBit h))
            rw [tw_or, a6 h hh, hfn, tw_oi _ _ (by omega), Bool.true_and]
          · show tw (a.2.2.2.2 &&& oi n) h = (allN (fun k => !(sFew Z s m k) || k.testBit h) n && (!(sFew Z s m n) || n.testBit h))
            rw [tw_and, a7 h hh, hfn, tw_oi _ _ (by omega)]; simp
        · have e1 : sMs Z s n a = (a.1, a.2.1, a.2.2.1 + 1, a.2.2.2.1, a.2.2.2.2) := by
            unfold sMs; rw [hs, if_pos rfl, if_neg (by rw [hp, a1]; exact hl), if_neg (by rw [hp, a1]; exact he)]
          have hfn : sFew Z s m n = false := by unfold sFew; rw [hs, decide_eq_false he]; rfl
          rw [e1]
          refine ⟨by rw [hc, hs]; show a.2.2.1 + 1 = _; rw [h1]; rfl, fun e => by (cases e), fun m' e => ?_⟩
          cases e
          refine ⟨a1, a2, a3, by omega, hmin, fun h hh => ?_, fun h hh => ?_⟩
          · show tw a.2.2.2.1 h = (anyN (fun k => sFew Z s m k && k.testBit h) n || (sFew Z s m n && n.testBit h))
            rw [a6 h hh, hfn]; simp
          · show tw a.2.2.2.2 h = (allN (fun k => !(sFew Z s m k) || k.testBit h) n && (!(sFew Z s m n) || n.testBit h))
            rw [a7 h hh, hfn]; simp
theorem mi_all (Z : Nat → Int64) (s : Nat → Int32) {H : Nat} (hH : H ≤ 6) : miP Z s (2 ^ H) (sLi Z s H) (sMi Z s H) := by
  have h : ∀ n, n ≤ 64 → miP Z s n (ofd (sBest Z s) none n) (ofd (sMs Z s) (7, 0, 0, 0, 0) n) := by
    intro n
    induction n with
    | zero => intro _; exact ⟨rfl, fun _ => ⟨rfl, rfl, rfl, rfl, fun k hk => absurd hk (by omega)⟩, fun m e => by cases e⟩
    | succ n ih => intro hn; exact mi_step (by omega) (ih (by omega))
  exact h _ (p2_le hH)
theorem mi_tu (Z : Nat → Int64) (s : Nat → Int32) {H : Nat} (hH : H ≤ 6) : (sMi Z s H).2.1 = sTu Z s H := by
  obtain ⟨-, h2, h3⟩ := mi_all Z s hH
  unfold sTu
  cases h : sLi Z s H with
  | none => exact (h2 h).2.1
  | some m => exact (h3 m h).2.1
section
variable {σ : OM} {w : Nat} {R : Nat → Int32} {Z : Nat → Int64} {s : Nat → Int32}
theorem w_li (h : CW σ w R Z s) : mI σ (w + 10) 4 = oi (sTu Z s (nn (R 3))) := by
  rw [h.2.1, mi_tu Z s (x_Hb h.1)]
theorem w_KW (h : CX σ w R Z s) {a : Nat} (ha : a < nn (R 3)) : KW s (nn (R 3)) a := by
  have hH := x_Hb h
  refine ⟨fun i hi j hj => ?_, by omega⟩
  obtain ⟨g1, g2, -⟩ := h.1.2.2.2.2.1 i hi j hj
  exact ⟨g1, by omega⟩
theorem ofK_eq (h : CW σ w R Z s) {a : Nat} (ha : a < nn (R 3)) : fX3_worldsOf w (oi a) σ = some (sKn R Z s (sKin s a), σ) := by
  unfold fX3_worldsOf
  rw [kinOf_c (s := s) (fun i hi => x_w h.1 hi), obi_s, show ((-1) : Int32) = oLo none from rfl, without_eq h.1 (w_li h) none (fun m e => by cases e), obi_s, lx_none]; rfl
theorem all_eq (h : CW σ w R Z s) : fX3_worldsOfAll w σ = some (sKn R Z s 63, σ) := ofAll_eq h.1 (w_li h)
theorem kby_eq (h : CW σ w R Z s) (hs : Int32) : fX3_worldsBy w hs σ = some (sKn R Z s hs, σ) := by_eq h.1 (w_li h) hs
theorem sLeft_sub (Z : Nat → Int64) (s : Nat → Int32) (hs ls : Int32) (m : Nat) : sLeft Z s hs ls m &&& Z 8 = sLeft Z s hs ls m :=
  ofd_ind (s := sLs Z s hs ls) (a := Z 8) (n := m) (P := fun _ x => x &&& Z 8 = x) Int64.and_self (fun k x _ hx => by
    unfold sLs
    split
    · exact sub_and hx
    · exact hx)
theorem sub_tb {x z : Int64} (h : x &&& z = x) {i : Nat} (hi : tb x i = true) : tb z i = true := by
  rw [← h, tb_and] at hi
  exact (Bool.and_eq_true_iff.mp hi).2
theorem verdict_eq (x so : Int64) (σ : OM) : fX9_verdict x so σ = some (sBy x so, σ) := by
  unfold fX9_verdict sBy
  simp only [cmp_eq]
  split
  · rfl
  · split
    · rfl
    · split <;> rfl
theorem sBy_congr {x a b : Int64} (h : ∀ i, i < 64 → tb x i = true → tb a i = tb b i) : sBy x a = sBy x b := by
  unfold sBy
  rw [z_and h, z_and (a := a ^^^ (-1)) (b := b ^^^ (-1)) (fun i hi hx => by rw [tb_not _ hi, tb_not _ hi, h i hi hx])]
theorem verd_q (h : CX σ w R Z s) {x : Int64} (hx : x &&& Z 8 = x) {q : Nat} (hq : q < nn (R 5)) : sBy x (mL σ (w + 3) q) = sBy x (Z q) :=
  sBy_congr (fun i hi hb => x_so h hq i hi (sub_tb hx hb))
theorem settled_eq (h : CX σ w R Z s) {x : Int64} (hx : x &&& Z 8 = x) : fX2_settled w x σ = some (ofd (sKo Z x) 0 (nn (R 5)), σ) := by
  have hQ := x_Qb h
  unfold fX2_settled
  refine lup0 (g := fun f b k => fX2_settled_b5 f w x b (oi k) σ) (step := sKo Z x) (fin := fun b => some (b, σ)) (n := nn (R 5)) ?_ ?_ oF (by unfold oF; omega)
  · intro f b k hk
    show fX2_settled_b5 (f + 1) w x b (oi k) σ = fX2_settled_b5 f w x _ (oi (k + 1)) σ
    rw [fX2_settled_b5, x_Q h, if_neg (by rw [oi_le (by omega) (by omega)]; omega), soWorlds_eq (by omega), obi_s, verdict_eq, obi_s, verd_q h hx hk]
    unfold sKo
    by_cases e : sBy x (Z k) = -2
    · rw [if_pos e, if_pos e, Int32.or_zero, oi_succ]
    · rw [if_neg e, if_neg e, oi_succ]
  · intro f b
    show fX2_settled_b5 (f + 1) w x b (oi _) σ = _
    rw [fX2_settled_b5, x_Q h, if_pos ((oi_le (by omega) (by omega)).mpr (Nat.le_refl _))]
theorem sub_an {x z : Int64} (a : Int64) (h : x &&& z = x) : (x &&& a) &&& z = x &&& a := sub_and h
theorem sKn_sub (R : Nat → Int32) (Z : Nat → Int64) (s : Nat → Int32) (hs : Int32) : sKn R Z s hs &&& Z 8 = sKn R Z s hs := sLeft_sub _ _ _ _ _
end
