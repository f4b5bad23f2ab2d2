/-! kin: the least set that weddings close -/
def wSub (x y : Int32) : Prop := ∀ j, j < 32 → tw x j = true → tw y j = true
theorem wSub_rfl (x : Int32) : wSub x x := fun _ _ h => h
theorem wSub_tr {x y z : Int32} (h1 : wSub x y) (h2 : wSub y z) : wSub x z := fun j hj h => h2 j hj (h1 j hj h)
theorem wSub_eq {x y : Int32} (h1 : wSub x y) (h2 : wSub y x) : x = y := tw_ext fun i hi => by
  have p := h1 i hi
  have q := h2 i hi
  cases hx : tw x i <;> cases hy : tw y i <;> simp_all
theorem tw_lt {x : Int32} {j : Nat} (h : tw x j = true) : j < 32 := by
  apply Classical.byContradiction
  intro h2
  rw [tw_big (by omega)] at h; cases h
def kCl (s : Nat → Int32) (x : Int32) : Prop := ∀ i, i < 6 → tw x i = true → ∀ j, tw (s (62 + i)) j = true → tw x j = true
def kMin (s : Nat → Int32) (a : Nat) (x : Int32) : Prop := ∀ y, tw y a = true → kCl s y → wSub x y
def kOk (s : Nat → Int32) (a : Nat) (x : Int32) : Prop := tw x a = true ∧ kCl s x ∧ kMin s a x
theorem kOk_uniq {s : Nat → Int32} {a : Nat} {x y : Int32} (h1 : kOk s a x) (h2 : kOk s a y) : x = y :=
  wSub_eq (h1.2.2 y h2.1 h2.2.1) (h2.2.2 x h1.1 h1.2.1)
def KW (s : Nat → Int32) (H a : Nat) : Prop := (∀ i, i < 6 → ∀ j, tw (s (62 + i)) j = true → i < H ∧ j < 6) ∧ a < 6
theorem k63 {s : Nat → Int32} {H a : Nat} (h : KW s H a) : kCl s 63 := fun i hi _ j hj => (by decide +kernel : ∀ j, j < 6 → tw 63 j = true) j (h.1 i hi j hj).2
theorem kMin6 {s : Nat → Int32} {H a : Nat} (h : KW s H a) {x : Int32} (hm : kMin s a x) {j : Nat} (hj : tw x j = true) : j < 6 := by
  have h1 := hm 63 ((by decide +kernel : ∀ j, j < 6 → tw 63 j = true) a h.2) (k63 h) j (tw_lt hj) hj
  have h2 : ∀ j, j < 32 → tw 63 j = true → j < 6 := by decide +kernel
  exact h2 j (tw_lt hj) h1
theorem cnt_full {p : Nat → Bool} {n : Nat} (h : n ≤ cnt p n) : ∀ k, k < n → p k = true := by
  have e : ∀ m, cnt (fun _ => true) m = m := by
    intro m
    induction m with
    | zero => rfl
    | succ m ih => show cnt (fun _ => true) m + 1 = m + 1; rw [ih]
  intro k hk
  have := cnt_le p n
  exact cnt_same (q := fun _ => true) (fun _ _ _ => rfl) (by rw [e]; omega) k hk
theorem cnt_grow {s : Nat → Int32} {H a : Nat} (h : KW s H a) {x y : Int32} (hx : kMin s a x) (hy : kMin s a y) (hs : wSub x y) (hne : y ≠ x) : cnt (tw x) 6 < cnt (tw y) 6 := by
  have h1 : cnt (tw x) 6 ≤ cnt (tw y) 6 := cnt_sub (fun k hk hp => hs k (by omega) hp)
  apply Classical.byContradiction
  intro h2
  have h3 := cnt_same (p := tw x) (q := tw y) (n := 6) (fun k hk hp => hs k (by omega) hp) (by omega)
  refine hne (tw_ext (fun i hi => ?_))
  by_cases h6 : i < 6
  · exact (h3 i h6).symm
  · cases h4 : tw x i
    · cases h5 : tw y i
      · rfl
      · exact absurd (kMin6 h hy h5) h6
    · exact absurd (kMin6 h hx h4) h6
theorem cnt_one {x : Int32} {a : Nat} (ha : a < 6) (h : tw x a = true) : 1 ≤ cnt (tw x) 6 := by
  apply Classical.byContradiction
  intro h2
  have h3 := cnt_zero.mp (show cnt (tw x) 6 = 0 by omega) a ha
  rw [h] at h3; cases h3
theorem tw_orl {x y : Int32} {j : Nat} (h : tw x j = true) : tw (x ||| y) j = true := by rw [tw_or, h]; rfl
theorem tw_orr {x y : Int32} {j : Nat} (h : tw y j = true) : tw (x ||| y) j = true := by rw [tw_or, h, Bool.or_true]
theorem tw_or_iff {x y : Int32} {j : Nat} (h : tw (x ||| y) j = true) : tw x j = true ∨ tw y j = true := by
  rw [tw_or] at h; exact Bool.or_eq_true_iff.mp h
/-- a step whose bits come from where the test x says -/
def kS (s : Nat → Int32) (x : Option Int32) (i : Nat) (v : Int32) : Int32 := if tw (x.getD v) i then v ||| s (62 + i) else v
theorem kS_up (s : Nat → Int32) (x : Option Int32) (v : Int32) : ∀ m n, m ≤ n → wSub (ofd (kS s x) v m) (ofd (kS s x) v n) := by
  intro m n h
  induction n with
  | zero => have : m = 0 := by omega
            subst this; exact wSub_rfl _
  | succ n ih =>
    by_cases e : m = n + 1
    · subst e; exact wSub_rfl _
    · refine wSub_tr (ih (by omega)) ?_
      show wSub _ (kS s x n (ofd (kS s x) v n))
      unfold kS
      split
      · exact fun j _ hj => tw_orl hj
      · exact wSub_rfl _
theorem kS_in {s : Nat → Int32} {x : Option Int32} {v y : Int32} (hy : kCl s y) (hv : wSub v y) (hx : ∀ z, x = some z → wSub z y) : ∀ n, n ≤ 6 → wSub (ofd (kS s x) v n) y := by
  intro n
  induction n with
  | zero => intro _; exact hv
  | succ n ih =>
    intro hn
    have h1 := ih (by omega)
    show wSub (kS s x n (ofd (kS s x) v n)) y
    unfold kS
    split
    · rename_i ht
      intro j hj hb
      rcases tw_or_iff hb with h2 | h2
      · exact h1 j hj h2
      · refine hy n (by omega) ?_ j h2
        cases x with
        | none => exact h1 n (by omega) ht
        | some z => exact hx z rfl n (by omega) ht
    · exact h1
theorem kS_fix {s : Nat → Int32} {x : Option Int32} {v : Int32} {n : Nat} (hn : n ≤ 6) (hx : ∀ z, x = some z → z = v) (he : ofd (kS s x) v n = v) : ∀ i, i < n → tw v i = true → ∀ j, tw (s (62 + i)) j = true → tw v j = true := by
  intro i hi hv j hj
  have h1 : ofd (kS s x) v i = v := wSub_eq (by have h := kS_up s x v i n (by omega); rw [he] at h; exact h) (kS_up s x v 0 i (by omega))
  have h2 := kS_up s x v (i + 1) n (by omega)
  rw [he] at h2
  have h3 : ofd (kS s x) v (i + 1) = v ||| s (62 + i) := by
    show kS s x i (ofd (kS s x) v i) = _
    rw [h1]
    unfold kS
    cases x with
    | none => exact if_pos hv
    | some z => rw [hx z rfl]; exact if_pos hv
  rw [h3] at h2
  exact h2 j (tw_lt hj) (tw_orr hj)
def kSw (s : Nat → Int32) (v : Int32) : Int32 := ofd (kS s none) v 6
def sKin (s : Nat → Int32) (a : Nat) : Int32 := ofd (fun _ v => kSw s v) ((1 : Int32) <<< (oi a &&& 31)) 5
theorem k_beg {s : Nat → Int32} {H a : Nat} (h : KW s H a) : tw ((1 : Int32) <<< (oi a &&& 31)) a = true ∧ kMin s a ((1 : Int32) <<< (oi a &&& 31)) := by
  have h2 := h.2
  refine ⟨by rw [tw_shl a (by omega) a (by omega)]; exact decide_eq_true rfl, fun y hy _ j hj hb => ?_⟩
  rw [tw_shl a (by omega) j hj] at hb
  rw [of_decide_eq_true hb]; exact hy
theorem sKin_ok {s : Nat → Int32} {H a : Nat} (h : KW s H a) : kOk s a (sKin s a) := by
  have h0 := k_beg h
  have hP : ∀ n, n ≤ 5 → tw (ofd (fun _ v => kSw s v) ((1 : Int32) <<< (oi a &&& 31)) n) a = true ∧ kMin s a (ofd (fun _ v => kSw s v) ((1 : Int32) <<< (oi a &&& 31)) n) ∧ (kCl s (ofd (fun _ v => kSw s v) ((1 : Int32) <<< (oi a &&& 31)) n) ∨ n + 1 ≤ cnt (tw (ofd (fun _ v => kSw s v) ((1 : Int32) <<< (oi a &&& 31)) n)) 6) := by
    intro n
    induction n with
    | zero => intro _; exact ⟨h0.1, h0.2, Or.inr (cnt_one h.2 h0.1)⟩
    | succ n ih =>
      intro hn
      obtain ⟨i1, i2, i3⟩ := ih (by omega)
      show tw (kSw s (ofd (fun _ v => kSw s v) _ n)) a = true ∧ kMin s a (kSw s (ofd (fun _ v => kSw s v) _ n)) ∧ (kCl s (kSw s (ofd (fun _ v => kSw s v) _ n)) ∨ _ ≤ cnt (tw (kSw s (ofd (fun _ v => kSw s v) _ n))) 6)
      generalize ofd (fun _ v => kSw s v) ((1 : Int32) <<< (oi a &&& 31)) n = v at i1 i2 i3 ⊢
      have u : wSub v (kSw s v) := kS_up s none v 0 6 (by omega)
      have m : kMin s a (kSw s v) := fun y hy hc => kS_in hc (i2 y hy hc) (fun z e => by cases e) 6 (Nat.le_refl _)
      refine ⟨u a (by have := h.2; omega) i1, m, ?_⟩
      by_cases e : kSw s v = v
      · rw [e]; exact Or.inl (kS_fix (x := none) (Nat.le_refl _) (fun z e => by cases e) e)
      · rcases i3 with c | c
        · refine absurd (wSub_eq ?_ u) e
          exact kS_in c (wSub_rfl v) (fun z e => by cases e) 6 (Nat.le_refl _)
        · have := cnt_grow h i2 m u e
          exact Or.inr (by omega)
  obtain ⟨p1, p2, p3⟩ := hP 5 (Nat.le_refl _)
  refine ⟨p1, ?_, p2⟩
  rcases p3 with c | c
  · exact c
  · have hf := cnt_full c
    intro i hi _ j hj
    exact hf j (h.1 i hi j hj).2
theorem kinOf_c {σ : OM} {t : Nat} {s : Nat → Int32} (hw : ∀ i, i < 6 → mI σ (t + 4) i = s (62 + i)) (a : Nat) : fX7_kinOf t (oi a) σ = some (sKin s a, σ) := by
  have hin : ∀ (rc : Nat → Int32 → Int32 → OM → Option (Int32 × OM)) (l3 v : Int32), fX7_kinOf_b15 rc oF t v l3 (oi 0) σ = rc t (kSw s v) (l3 + 1) σ := by
    intro rc l3 v
    refine lup0 (g := fun f x k => fX7_kinOf_b15 rc f t x l3 (oi k) σ) (step := kS s none) (fin := fun x => rc t x (l3 + 1) σ) (n := 6) ?_ ?_ oF (by unfold oF; omega)
    · intro f x k hk
      show fX7_kinOf_b15 rc (f + 1) t x l3 (oi k) σ = fX7_kinOf_b15 rc f t _ l3 (oi (k + 1)) σ
      rw [fX7_kinOf_b15, lt6, if_neg (by rw [oi_le (by omega) (by omega)]; omega), bitOfW_eq _ (by omega), obi_s]
      unfold kS
      show _ = fX7_kinOf_b15 rc f t (if tw x k then x ||| s (62 + k) else x) l3 (oi (k + 1)) σ
      cases hb : tw x k
      · rw [if_neg (by decide), if_neg (by decide), oi_succ]
      · rw [if_pos (by decide), if_pos rfl, ogi (by omega) (by omega), oi_nat (by omega), hw k hk, oi_succ]
    · intro f x
      show fX7_kinOf_b15 rc (f + 1) t x l3 (oi 6) σ = _
      rw [fX7_kinOf_b15, if_pos (by decide)]
  unfold fX7_kinOf sKin
  refine lup0 (g := fun f x k => fX7_kinOf_b6 f t x (oi (k + 1)) σ) (step := fun _ v => kSw s v) (fin := fun x => some (x, σ)) (n := 5) ?_ ?_ oF (by unfold oF; omega)
  · intro f x k hk
    show fX7_kinOf_b6 (f + 1) t x (oi (k + 1)) σ = fX7_kinOf_b6 f t (kSw s x) (oi (k + 1 + 1)) σ
    rw [fX7_kinOf_b6, lt6, if_neg (by rw [oi_le (by omega) (by omega)]; omega)]
    exact (hin _ _ _).trans (by rw [oi_succ])
  · intro f x
    show fX7_kinOf_b6 (f + 1) t x (oi 6) σ = _
    rw [fX7_kinOf_b6, if_pos (by decide)]
theorem kinOf_r {σ : OM} (hH : bd (mI σ 84 3) 6) {a : Nat} (h : KW (mI σ 88) (nn (mI σ 84 3)) a) : fX10_kinOf (oi a) σ = some (sKin (mI σ 88) a, σ) := by
  have hHb := hH.2
  have hin : ∀ (rc : Int32 → Int32 → OM → Option (Int32 × OM)) (x : Int32), fX10_kinOf_b16 rc oF x x (oi 0) σ = rc (ofd (kS (mI σ 88) (some x)) x (nn (mI σ 84 3))) x σ := by
    intro rc x
    refine lup0 (g := fun f v k => fX10_kinOf_b16 rc f v x (oi k) σ) (step := kS (mI σ 88) (some x)) (fin := fun v => rc v x σ) (n := nn (mI σ 84 3)) ?_ ?_ oF (by unfold oF; omega)
    · intro f v k hk
      show fX10_kinOf_b16 rc (f + 1) v x (oi k) σ = fX10_kinOf_b16 rc f _ x (oi (k + 1)) σ
      rw [fX10_kinOf_b16, hH.1, if_neg (by rw [oi_le (by omega) (by omega)]; omega), hasBit_eq _ (by omega), obi_s]
      unfold kS
      show _ = fX10_kinOf_b16 rc f (if tw x k then v ||| mI σ 88 (62 + k) else v) x (oi (k + 1)) σ
      cases hb : tw x k
      · rw [if_pos (by decide), if_neg (by decide), oi_succ]
      · rw [if_neg (by decide), if_pos rfl, show (62 : Int32) + oi k = oi (62 + k) from oi_add 62 k, ogi (by omega) (by omega), oi_nat (by omega), oi_succ]
    · intro f v
      show fX10_kinOf_b16 rc (f + 1) v x (oi _) σ = _
      rw [fX10_kinOf_b16, hH.1, nn_oi (nn_lt _), if_pos ((oi_le (by omega) (by omega)).mpr (Nat.le_refl _))]
  have hgo : ∀ d x y f, 6 - cnt (tw x) 6 ≤ d → d + 3 ≤ f → tw x a = true → kMin (mI σ 88) a x → (y = x → kCl (mI σ 88) x) → ∃ z, fX10_kinOf_b6 f x y σ = some (z, σ) ∧ kOk (mI σ 88) a z := by
    intro d
    induction d with
    | zero =>
      intro x y f hd hf hx hm hy
      obtain ⟨f, rfl⟩ : ∃ f', f = f' + 1 := ⟨f - 1, by omega⟩
      have hf6 := cnt_full (p := tw x) (n := 6) (by omega)
      have hc : kCl (mI σ 88) x := fun i hi _ j hj => hf6 j (h.1 i hi j hj).2
      rw [fX10_kinOf_b6]
      by_cases e : y = x
      · rw [if_pos e]; exact ⟨x, rfl, hx, hc, hm⟩
      · rw [if_neg e]
        have e1 : ofd (kS (mI σ 88) (some x)) x (nn (mI σ 84 3)) = x := wSub_eq (kS_in hc (wSub_rfl x) (fun z e => by cases e; exact wSub_rfl x) _ hHb) (kS_up _ _ x 0 _ (by omega))
        obtain ⟨f, rfl⟩ : ∃ f', f = f' + 1 := ⟨f - 1, by omega⟩
        refine ⟨x, (hin _ x).trans ?_, hx, hc, hm⟩
        rw [e1, fX10_kinOf_b6, if_pos rfl]
    | succ d ih =>
      intro x y f hd hf hx hm hy
      obtain ⟨f, rfl⟩ : ∃ f', f = f' + 1 := ⟨f - 1, by omega⟩
      rw [fX10_kinOf_b6]
      by_cases e : y = x
      · rw [if_pos e]; exact ⟨x, rfl, hx, hy e, hm⟩
      · rw [if_neg e]
        have u : wSub x (ofd (kS (mI σ 88) (some x)) x (nn (mI σ 84 3))) := kS_up _ _ x 0 _ (by omega)
        have m : kMin (mI σ 88) a (ofd (kS (mI σ 88) (some x)) x (nn (mI σ 84 3))) := fun y hy hc => kS_in hc (hm y hy hc) (fun z e => by cases e; exact hm y hy hc) _ hHb
        have hfix : ofd (kS (mI σ 88) (some x)) x (nn (mI σ 84 3)) = x → kCl (mI σ 88) x := by
          intro e1 i hi hv j hj
          exact kS_fix (x := some x) hHb (fun z e => by cases e; rfl) e1 i (h.1 i hi j hj).1 hv j hj
        by_cases e1 : ofd (kS (mI σ 88) (some x)) x (nn (mI σ 84 3)) = x
        · obtain ⟨f, rfl⟩ : ∃ f', f = f' + 1 := ⟨f - 1, by omega⟩
          refine ⟨x, (hin _ x).trans ?_, hx, hfix e1, hm⟩
          rw [e1, fX10_kinOf_b6, if_pos rfl]
        · have g := cnt_grow h hm m u e1
          obtain ⟨z, z1, z2⟩ := ih (ofd (kS (mI σ 88) (some x)) x (nn (mI σ 84 3))) x f (by omega) (by omega) (u a (by have := h.2; omega) hx) m (fun e2 => absurd e2.symm e1)
          exact ⟨z, (hin _ x).trans z1, z2⟩
  have h0 := k_beg h
  obtain ⟨z, z1, z2⟩ := hgo 6 ((1 : Int32) <<< (oi a &&& 31)) 0 oF (by omega) (by unfold oF; omega) h0.1 h0.2 (fun e => by rw [← e, tw_0] at h0; cases h0.1)
  unfold fX10_kinOf
  rw [z1, kOk_uniq z2 (sKin_ok h)]
