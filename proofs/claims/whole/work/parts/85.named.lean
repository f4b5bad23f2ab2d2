/-! names taken and new names -/
section
variable {σ τ : OM} {f : Nat → Nat} {L i : Nat} {t : Tk} {r : List Tk}
theorem zin (x lo hi : Nat) (hx : x < 1000) (hl : lo < 1000) (hh : hi < 1000) (τ : OM) : fX10_in (oi x) (oi lo) (oi hi) τ = some (b2 (decide (lo ≤ x ∧ x ≤ hi)), τ) := by
  unfold fX10_in
  by_cases e1 : x < lo
  · rw [if_pos ((oi_lt (by omega) (by omega)).mpr e1), decide_eq_false (by omega)]; rfl
  · rw [if_neg (by rw [oi_lt (by omega) (by omega)]; exact e1)]
    by_cases e2 : hi < x
    · rw [if_pos ((oi_lt (by omega) (by omega)).mpr e2), decide_eq_false (by omega)]; rfl
    · rw [if_neg (by rw [oi_lt (by omega) (by omega)]; exact e2), decide_eq_true (by omega)]; rfl
/-- a name of one kind: type y, places lo to hi -/
theorem znamed {N : Nat} (h : zLv σ τ f L t r i) (hN : zNM σ (mI τ 85) N) {y lo hi : Nat} (hy : (y = 1 ∧ lo = 0 ∧ hi = 5) ∨ (y = 4 ∧ lo = 6 ∧ hi = 11) ∨ (y = 7 ∧ lo = 12 ∧ hi = 19)) : (∃ s, lo ≤ s ∧ s ≤ hi ∧ 1 ≤ zSm (mI τ 85) s ∧ t.1 = 2 ∧ fX10_named (oi lo) (oi hi) τ = some (oi (s - lo), τ) ∧ ∀ σ', fX6_advance σ = some σ' → (∀ j, mI σ' 52 j = mI σ 52 j) → fX5_takeName (oi y) σ = some (oi (s - lo), σ')) ∨ ∃ c, c ≠ 0 ∧ fX10_named (oi lo) (oi hi) τ = some (0, zwr τ c (oi t.2.1)) ∧ fX5_takeName (oi y) σ = some (-1, zfl σ c (oi t.2.1)) := by
  have ho := zlv_ok h
  have hr := h.1.2.2.1
  have hc := h.1.2.1
  cases en : znm (zch f L) t with
  | false =>
    refine Or.inr ⟨1, by decide, ?_, ?_⟩
    · unfold fX10_named
      rw [if_pos h.2.2, zmustName h, en, if_neg Bool.false_ne_true, obv_s, zwr_13, if_neg (by decide)]
    · unfold fX5_takeName
      rw [hc.1.2.1, if_neg (by rw [zck_name ho, en]; exact Bool.false_ne_true), hc.1.2.2.1, zfail h.2.1, obi_s]
  | true =>
    have h2 : t.1 = 2 := by unfold znm at en; rw [Bool.and_eq_true, decide_eq_true_eq] at en; exact en.1
    rcases zfind h h2 hN with ⟨s, k, s1, k1, s2, s3, s4, s5, s6⟩ | ⟨a1, a2, a3⟩
    · have hz7 : zty s ≤ 7 := by unfold zty; split <;> (try split) <;> omega
      by_cases e : lo ≤ s ∧ s ≤ hi
      · have hz : zty s = y ∧ zix s = s - lo := by unfold zty zix; split <;> (try split) <;> omega
        refine Or.inl ⟨s, e.1, e.2, ?_, h2, ?_, fun σ' g1 g2 => ?_⟩
        · unfold zmt at s2; rw [Bool.and_eq_true, decide_eq_true_eq] at s2; exact s2.1
        · unfold fX10_named
          rw [if_pos h.2.2, zmustName h, en, if_pos rfl, obv_s, if_pos h.2.2, s3, obi_s, zin s lo hi (by omega) (by omega) (by omega), obi_s, decide_eq_true e, if_neg (by decide), if_pos h.2.2, oi_sub e.1]
        · unfold fX5_takeName
          rw [hc.1.2.1, if_pos ((zck_name ho).mpr en), s4, obi_s, if_neg (oi_nneg (by omega)), show (20 : Int32) = oi 20 from rfl, if_neg (by rw [oi_le (by omega) (by omega)]; omega), ogi (by omega) (by omega), oi_nat (by omega), s5, if_pos (by rw [hz.1]), g1, obv_s, ogi (by omega) (by omega), g2, s6, hz.2]
      · have hz : zty s ≠ y := by unfold zty; split <;> (try split) <;> omega
        refine Or.inr ⟨2, by decide, ?_, ?_⟩
        · unfold fX10_named
          rw [if_pos h.2.2, zmustName h, en, if_pos rfl, obv_s, if_pos h.2.2, s3, obi_s, zin s lo hi (by omega) (by omega) (by omega), obi_s, decide_eq_false e, if_pos (by rfl), hr.1.1, zwrong h.2.2, obv_s, zwr_13, if_neg (by decide)]
        · unfold fX5_takeName
          rw [hc.1.2.1, if_pos ((zck_name ho).mpr en), s4, obi_s, if_neg (oi_nneg (by omega)), show (20 : Int32) = oi 20 from rfl, if_neg (by rw [oi_le (by omega) (by omega)]; omega), ogi (by omega) (by omega), oi_nat (by omega), s5, if_neg (by rw [oi_inj (by omega) (by omega)]; exact hz), hc.1.2.2.1, zfail h.2.1, obi_s]
    · have hin : fX10_in (-1) (oi lo) (oi hi) τ = some (0, τ) := by
        unfold fX10_in
        rw [if_pos]
        rcases hy with ⟨_, b, _⟩ | ⟨_, b, _⟩ | ⟨_, b, _⟩ <;> rw [b] <;> decide
      refine Or.inr ⟨2, by decide, ?_, ?_⟩
      · unfold fX10_named
        rw [if_pos h.2.2, zmustName h, en, if_pos rfl, obv_s, if_pos h.2.2, a2, obi_s, hin, obi_s, if_pos rfl, hr.1.1, zwrong h.2.2, obv_s, zwr_13, if_neg (by decide)]
      · unfold fX5_takeName
        rw [hc.1.2.1, if_pos ((zck_name ho).mpr en), a3, obi_s, if_pos (by decide), hc.1.2.2.1, zfail h.2.1, obi_s]
/-- both take the name and step on -/
theorem ztakeName {N : Nat} (h : zLv σ τ f L t r i) (hN : zNM σ (mI τ 85) N) {y lo hi : Nat} (hy : (y = 1 ∧ lo = 0 ∧ hi = 5) ∨ (y = 4 ∧ lo = 6 ∧ hi = 11) ∨ (y = 7 ∧ lo = 12 ∧ hi = 19)) : (∃ s σ' τ', lo ≤ s ∧ s ≤ hi ∧ 1 ≤ zSm (mI τ 85) s ∧ fX10_named (oi lo) (oi hi) τ = some (oi (s - lo), τ) ∧ fX10_pass τ = some τ' ∧ fX5_takeName (oi y) σ = some (oi (s - lo), σ') ∧ (∃ t' r', zLv σ' τ' f L t' r' (i + 1)) ∧ Fr zkP zkQ σ σ' ∧ Fr zrP noL τ τ') ∨ ∃ σ' τ', fX10_named (oi lo) (oi hi) τ = some (0, τ') ∧ fX5_takeName (oi y) σ = some (-1, σ') ∧ zDead σ' τ' ∧ Fr zkP zkQ σ σ' ∧ Fr zrP noL τ τ' := by
  rcases znamed h hN hy with ⟨s, a1, a2, a3, a4, a5, a6⟩ | ⟨c, c1, c2, c3⟩
  · obtain ⟨t', r', σ', τ', g1, g2, g3, _, g4, g5⟩ := zboth h (by omega)
    exact Or.inl ⟨s, σ', τ', a1, a2, a3, a5, g2, a6 σ' g1 (fun j => g4.1 52 j (by unfold zP2; omega)), ⟨t', r', g3⟩, zP2k g4, zP3r g5⟩
  · exact Or.inr ⟨_, _, c2, c3, zdead_mk _ _ c1 _, zfl_fr _ _ _, zwr_fr _ _ _⟩
theorem znamed_d (h : mI τ 81 13 = 1) (x y : Int32) : fX10_named x y τ = some (0, τ) := by unfold fX10_named; rw [h, if_neg (by decide)]
/-- a name that is new: place s0 of the table -/
def zcP : Nat → Nat → Prop := fun a j => zkP a j ∨ (a = 48 ∧ j = 8) ∨ a = 51 ∨ a = 52
def zcQ : Nat → Prop := fun a => a = 43 ∨ a = 50
def zrN (s0 : Nat) : Nat → Nat → Prop := fun a j => zrP a j ∨ (a = 85 ∧ (j = 99 + s0 ∨ (119 + 8 * s0 ≤ j ∧ j < 127 + 8 * s0)))
theorem znewName {N s0 : Nat} (h : zLv σ τ f L t r i) (hN : zNM σ (mI τ 85) N) (hN2 : N < 20) (hs0 : s0 < 20) (hu : zSm (mI τ 85) s0 = 0) : ∃ σ' τ', (Fr zcP zcQ σ σ' ∧ Fr (zrN s0) noL τ τ') ∧ fX10_newName (oi s0) τ = some τ' ∧ ((fX5_takeNewName (oi (zty s0)) (oi (zix s0)) σ = some (1, σ') ∧ zGo σ' τ' f L (i + 1) ∧ zNM σ' (mI τ' 85) (N + 1) ∧ 1 ≤ zSm (mI τ' 85) s0) ∨ (fX5_takeNewName (oi (zty s0)) (oi (zix s0)) σ = some (0, σ') ∧ zDead σ' τ')) := by
  have ho := zlv_ok h
  have hr := h.1.2.2.1
  have hc := h.1.2.1
  have dead : ∀ c, c ≠ 0 → (Fr zcP zcQ σ (zfl σ c (oi t.2.1)) ∧ Fr (zrN s0) noL τ (zwr τ c (oi t.2.1))) ∧ zDead (zfl σ c (oi t.2.1)) (zwr τ c (oi t.2.1)) := fun c hc => ⟨⟨fr_mono (fun a j q => Or.inl q) (fun a q => Or.inl q) (zfl_fr _ _ _), fr_mono (fun a j q => Or.inl q) (fun a q => q) (zwr_fr _ _ _)⟩, zdead_mk _ _ hc _⟩
  cases en : znm (zch f L) t with
  | false =>
    refine ⟨_, _, (dead 1 (by decide)).1, ?_, Or.inr ⟨?_, (dead 1 (by decide)).2⟩⟩
    · unfold fX10_newName
      rw [if_pos h.2.2, zmustName h, en, if_neg Bool.false_ne_true, obv_s, zwr_13, if_neg (by decide), if_neg (by decide)]
    · unfold fX5_takeNewName
      rw [hc.1.2.1, if_neg (by rw [zck_name ho, en]; exact Bool.false_ne_true), hc.1.2.2.1, zfail h.2.1]; rfl
  | true =>
    have h2 : t.1 = 2 := by unfold znm at en; rw [Bool.and_eq_true, decide_eq_true_eq] at en; exact en.1
    rcases zfind h h2 hN with ⟨s, k, s1, k1, s2, s3, s4, s5, s6⟩ | ⟨a1, a2, a3⟩
    · have hne : ¬ oi k = -1 := by
        intro q
        have := oi_nneg (a := k) (by omega)
        rw [q] at this; exact this (by decide)
      refine ⟨_, _, (dead 3 (by decide)).1, ?_, Or.inr ⟨?_, (dead 3 (by decide)).2⟩⟩
      · unfold fX10_newName
        rw [if_pos h.2.2, zmustName h, en, if_pos rfl, obv_s, if_pos h.2.2, s3, obi_s, if_neg (oi_nneg (by omega)), hr.1.1, zwrong h.2.2, obv_s, zwr_13, if_neg (by decide)]
      · unfold fX5_takeNewName
        rw [hc.1.2.1, if_pos ((zck_name ho).mpr en), s4, obi_s, if_neg hne, hc.1.2.2.1, zfail h.2.1]; rfl
    · obtain ⟨n1, n2, n3, e, n4, n5, n6⟩ := hN
      obtain ⟨k1, k2, k3⟩ := ho.2.2.2.1 h2
      obtain ⟨r1, r2⟩ := hr.2.1 h2
      have e1 : mI (sL σ 50 N (mL σ 43 10)) 48 8 = oi N := n2
      have e2 : mI (sI (sL σ 50 N (mL σ 43 10)) 51 N (oi (zty s0))) 48 8 = oi N := by rw [mI_sI, if_neg (by omega)]; exact n2
      have e3 : mI (sI (sI (sL σ 50 N (mL σ 43 10)) 51 N (oi (zty s0))) 52 N (oi (zix s0))) 48 8 = oi N := by rw [mI_sI, if_neg (by omega), e2]
      have hCl : fX5_takeNewName (oi (zty s0)) (oi (zix s0)) σ = obv (fX6_advance (sI (sI (sI (sL σ 50 N (mL σ 43 10)) 51 N (oi (zty s0))) 52 N (oi (zix s0))) 48 8 (oi (N + 1)))) (fun σ8 => some (1, σ8)) := by
        unfold fX5_takeNewName
        rw [hc.1.2.1, if_pos ((zck_name ho).mpr en), a3, obi_s, if_pos rfl, n2, show (20 : Int32) = oi 20 from rfl, if_pos ((oi_lt (by omega) (by omega)).mpr hN2), ogi (by omega) (by omega), oi_nat (by omega), e1, ogi (by omega) (by omega), oi_nat (by omega), e2, ogi (by omega) (by omega), oi_nat (by omega), e3, oi_succ]
      have hRl : fX10_newName (oi s0) τ = fX10_newName_b45 oF (oi s0) (oi 0) τ := by
        unfold fX10_newName
        rw [if_pos h.2.2, zmustName h, en, if_pos rfl, obv_s, if_pos h.2.2, a2, obi_s, if_pos (by decide), if_pos h.2.2]; rfl
      rw [hCl, hRl]
      -- the reference's letters
      have wr : ∀ d k n (τ1 : OM), k + d = t.2.2 - t.2.1 → d < n → Fr (fun a j => a = 85 ∧ 119 + 8 * s0 ≤ j ∧ j < 119 + 8 * s0 + k) noL τ τ1 → (∀ j, j < k → mI τ1 85 (119 + 8 * s0 + j) = oi (zch f L (t.2.1 + j))) → ∃ τ2, fX10_newName_b45 n (oi s0) (oi k) τ1 = fX10_newName_b79 (oi s0) τ2 ∧ Fr (fun a j => a = 85 ∧ 119 + 8 * s0 ≤ j ∧ j < 127 + 8 * s0) noL τ τ2 ∧ ∀ j, j < t.2.2 - t.2.1 → mI τ2 85 (119 + 8 * s0 + j) = oi (zch f L (t.2.1 + j)) := by
        intro d
        induction d with
        | zero =>
          intro k n τ1 hk hn hf hj
          obtain ⟨n, rfl⟩ : ∃ n', n = n' + 1 := ⟨n - 1, by omega⟩
          rw [fX10_newName_b45, hf.1 81 8 (by omega), r1, if_pos (by rw [oi_le (by omega) (by omega)]; omega)]
          exact ⟨τ1, rfl, fr_mono (fun a j q => ⟨q.1, by omega, by omega⟩) (fun _ q => q) hf, fun j hj2 => hj j (by omega)⟩
        | succ d ih =>
          intro k n τ1 hk hn hf hj
          obtain ⟨n, rfl⟩ : ∃ n', n = n' + 1 := ⟨n - 1, by omega⟩
          have ea : ((119 : Int32) + (8 : Int32) * oi s0) + oi k = oi (119 + 8 * s0 + k) := by
            rw [show (119 : Int32) = oi 119 from rfl, show (8 : Int32) = oi 8 from rfl, oi_mul, oi_add, oi_add]
          rw [fX10_newName_b45, hf.1 81 8 (by omega), r1, if_neg (by rw [oi_le (by omega) (by omega)]; omega), ogi (by omega) (by omega), ea, ogi (by omega) (by omega), oi_nat (by omega), oi_nat (by omega), hf.1 83 k (by omega), r2 k (by omega), oi_succ]
          refine ih (k + 1) n _ (by omega) (by omega) (fr_I (fr_mono (fun a j q => ⟨q.1, q.2.1, by omega⟩) (fun _ q => q) hf) ⟨rfl, by omega, by omega⟩) (fun j hj2 => ?_)
          rw [mI_sI]
          by_cases ej : j = k
          · rw [if_pos ⟨rfl, by omega⟩, ej]
          · rw [if_neg (fun q => ej (by omega))]; exact hj j (by omega)
      obtain ⟨τ2, w1, w2, w3⟩ := wr (t.2.2 - t.2.1) 0 oF τ (by omega) (by unfold oF; omega) (fr_rfl _ _ _) (fun j hj => absurd hj (by omega))
      rw [w1]
      unfold fX10_newName_b79
      rw [show (99 : Int32) + oi s0 = oi (99 + s0) from oi_add 99 s0, ogi (by omega) (by omega), oi_nat (by omega), w2.1 81 8 (by omega), r1]
      -- both step on
      have hfc : Fr (fun a j => (a = 48 ∧ j = 8) ∨ a = 51 ∨ a = 52) (fun a => a = 50) σ (sI (sI (sI (sL σ 50 N (mL σ 43 10)) 51 N (oi (zty s0))) 52 N (oi (zix s0))) 48 8 (oi (N + 1))) := fr_I (fr_I (fr_I (fr_L (fr_rfl _ _ _) rfl) (Or.inr (Or.inl rfl))) (Or.inr (Or.inr rfl))) (Or.inl ⟨rfl, rfl⟩)
      have hfr : Fr (fun a j => a = 85 ∧ (j = 99 + s0 ∨ (119 + 8 * s0 ≤ j ∧ j < 127 + 8 * s0))) noL τ (sI τ2 85 (99 + s0) (oi (t.2.2 - t.2.1))) := fr_I (fr_mono (fun a j q => ⟨q.1, Or.inr q.2⟩) (fun _ q => q) w2) ⟨rfl, Or.inl rfl⟩
      have g50 : ∀ j, mL (sI (sI (sI (sL σ 50 N (mL σ 43 10)) 51 N (oi (zty s0))) 52 N (oi (zix s0))) 48 8 (oi (N + 1))) 50 j = if j = N then mL σ 43 10 else mL σ 50 j := by
        intro j
        show mL (sL σ 50 N (mL σ 43 10)) 50 j = _
        rw [mL_sL]
        by_cases ej : j = N
        · rw [if_pos ⟨rfl, ej⟩, if_pos ej]
        · rw [if_neg (fun q => ej q.2), if_neg ej]
      have g51 : ∀ j, mI (sI (sI (sI (sL σ 50 N (mL σ 43 10)) 51 N (oi (zty s0))) 52 N (oi (zix s0))) 48 8 (oi (N + 1))) 51 j = if j = N then oi (zty s0) else mI σ 51 j := by
        intro j
        rw [mI_sI, if_neg (by omega), mI_sI, if_neg (by omega), mI_sI]
        by_cases ej : j = N
        · rw [if_pos ⟨rfl, ej⟩, if_pos ej]
        · rw [if_neg (fun q => ej q.2), if_neg ej]; rfl
      have g52 : ∀ j, mI (sI (sI (sI (sL σ 50 N (mL σ 43 10)) 51 N (oi (zty s0))) 52 N (oi (zix s0))) 48 8 (oi (N + 1))) 52 j = if j = N then oi (zix s0) else mI σ 52 j := by
        intro j
        rw [mI_sI, if_neg (by omega), mI_sI]
        by_cases ej : j = N
        · rw [if_pos ⟨rfl, ej⟩, if_pos ej]
        · rw [if_neg (fun q => ej q.2), if_neg ej, mI_sI, if_neg (by omega)]; rfl
      have g8 : mI (sI (sI (sI (sL σ 50 N (mL σ 43 10)) 51 N (oi (zty s0))) 52 N (oi (zix s0))) 48 8 (oi (N + 1))) 48 8 = oi (N + 1) := mI_at
      have g99 : mI (sI τ2 85 (99 + s0) (oi (t.2.2 - t.2.1))) 85 (99 + s0) = oi (t.2.2 - t.2.1) := mI_at
      have g119 : ∀ j, j < t.2.2 - t.2.1 → mI (sI τ2 85 (99 + s0) (oi (t.2.2 - t.2.1))) 85 (119 + 8 * s0 + j) = oi (zch f L (t.2.1 + j)) := fun j hj => by
        rw [mI_sI, if_neg (by omega)]; exact w3 j hj
      generalize (sI (sI (sI (sL σ 50 N (mL σ 43 10)) 51 N (oi (zty s0))) 52 N (oi (zix s0))) 48 8 (oi (N + 1))) = σ3 at hfc g50 g51 g52 g8 ⊢
      generalize (sI τ2 85 (99 + s0) (oi (t.2.2 - t.2.1))) = τ3 at hfr g99 g119 ⊢
      have hl3 : zLv σ3 τ3 f L t r i := zlv_fr h (fun a j p q => hfc.1 a j (by omega)) (fun a j p q => hfc.2.1 a j (by omega)) (hfc.1 48 2 (by omega)) (fun j p q => hfr.1 81 j (by omega)) (fun j => hfr.1 82 j (by omega)) (fun j => hfr.1 83 j (by omega)) (hfr.1 81 13 (by omega))
      obtain ⟨t', r', σ4, τ4, p1, p2, p3, _, p4, p5⟩ := zboth hl3 (by omega)
      rw [p1, obv_s, p2, obv_s]
      refine ⟨σ4, τ4, ⟨fr_tr (fr_mono (fun a j q => by unfold zcP; omega) (fun a q => Or.inr q) hfc) (fr_mono (fun a j q => Or.inl (Or.inl q)) (fun a q => Or.inl q) p4), fr_tr (fr_mono (fun a j q => Or.inr q) (fun a q => q) hfr) (fr_mono (fun a j q => Or.inl (by unfold zP3 at q; unfold zrP; omega)) (fun a q => q) p5)⟩, rfl, Or.inl ⟨rfl, ⟨t', r', i + 1, Nat.le_refl _, p3⟩, ?_, ?_⟩⟩
      · have hrow : mI τ4 85 = mI τ3 85 := funext (fun j => p5.1 85 j (by unfold zP3; omega))
        rw [hrow]
        refine znm_fr (σ := σ3) (p4.1 48 8 (by unfold zP2; omega)) (fun j => p4.2.1 50 j (by unfold zQ2; omega)) (fun j => p4.1 51 j (by unfold zP2; omega)) (fun j => p4.1 52 j (by unfold zP2; omega)) ?_
        have m0 : zSm (mI τ3 85) s0 = t.2.2 - t.2.1 := by unfold zSm; rw [g99, nn_oi (by omega)]
        have mo : ∀ s, s < 20 → s ≠ s0 → zSm (mI τ3 85) s = zSm (mI τ 85) s ∧ ∀ k, k < 8 → mI τ3 85 (119 + 8 * s + k) = mI τ 85 (119 + 8 * s + k) := fun s hs hne => ⟨by unfold zSm; rw [hfr.1 85 (99 + s) (by omega)], fun k hk => hfr.1 85 _ (by omega)⟩
        have u0 : ∀ k, k < t.2.2 - t.2.1 → zSu (mI τ3 85) s0 k = zch f L (t.2.1 + k) := fun k hk => by
          have := k3 k hk
          unfold zSu; rw [g119 k hk, nn_oi (by omega)]
        have v0 : zSv (mI τ3 85) s0 = zwv (fun k => zch f L (t.2.1 + k)) (t.2.2 - t.2.1) := by
          unfold zSv
          rw [m0]
          exact (zwv_inj _ _ (fun k hk => by have := k3 k hk; rw [u0 k hk]; omega) (fun k hk => by have := k3 k hk; omega)).mpr ⟨rfl, u0⟩
        have vo : ∀ s, s < 20 → s ≠ s0 → zSv (mI τ3 85) s = zSv (mI τ 85) s := fun s hs hne => by
          obtain ⟨q1, q2⟩ := mo s hs hne
          obtain ⟨c1, c2, c3⟩ := n3 s hs
          unfold zSv
          rw [q1]
          have hu : ∀ k, k < zSm (mI τ 85) s → zSu (mI τ3 85) s k = zSu (mI τ 85) s k := fun k hk => by unfold zSu; rw [q2 k (by omega)]
          exact (zwv_inj _ _ (fun k hk => by have := c3 k hk; rw [hu k hk]; omega) (fun k hk => by have := c3 k hk; omega)).mpr ⟨rfl, hu⟩
        have dif : ∀ s, s < 20 → s ≠ s0 → 1 ≤ zSm (mI τ 85) s → zSv (mI τ 85) s ≠ zwv (fun k => zch f L (t.2.1 + k)) (t.2.2 - t.2.1) := fun s hs hne h1 q => by
          have := a1 s hs
          unfold zmt at this
          rw [decide_eq_true h1, decide_eq_true q] at this; cases this
        refine ⟨by omega, g8, fun s hs => ?_, fun k => if k = N then s0 else e k, fun k hk => ?_, fun s hs h1 => ?_, fun s s' hs hs' h1 hv => ?_⟩
        · by_cases es : s = s0
          · subst es
            rw [m0, g99]
            exact ⟨rfl, k2, fun k hk => by
              have := k3 k hk
              rw [u0 k hk]; exact ⟨g119 k hk, this⟩⟩
          · obtain ⟨q1, q2⟩ := mo s hs es
            obtain ⟨c1, c2, c3⟩ := n3 s hs
            rw [q1, hfr.1 85 (99 + s) (by omega)]
            refine ⟨c1, c2, fun k hk => ?_⟩
            have hu : zSu (mI τ3 85) s k = zSu (mI τ 85) s k := by unfold zSu; rw [q2 k (by omega)]
            rw [hu, q2 k (by omega)]
            exact c3 k hk
        · show (if k = N then s0 else e k) < 20 ∧ 1 ≤ zSm (mI τ3 85) (if k = N then s0 else e k) ∧ mL σ3 50 k = ol (zSv (mI τ3 85) (if k = N then s0 else e k)) ∧ mI σ3 51 k = oi (zty (if k = N then s0 else e k)) ∧ mI σ3 52 k = oi (zix (if k = N then s0 else e k))
          rw [g50, g51, g52]
          by_cases ek : k = N
          · simp only [if_pos ek]
            exact ⟨hs0, by omega, by rw [v0]; exact hc.1.2.2.2.1 h2, trivial, trivial⟩
          · simp only [if_neg ek]
            obtain ⟨q1, q2, q3, q4, q5⟩ := n4 k (by omega)
            have hne : e k ≠ s0 := fun q => by rw [q] at q2; omega
            exact ⟨q1, by rw [(mo _ q1 hne).1]; exact q2, by rw [vo _ q1 hne]; exact q3, q4, q5⟩
        · by_cases es : s = s0
          · exact ⟨N, by omega, (if_pos rfl).trans es.symm⟩
          · rw [(mo s hs es).1] at h1
            obtain ⟨k, q1, q2⟩ := n5 s hs h1
            exact ⟨k, by omega, (if_neg (by omega)).trans q2⟩
        · by_cases es : s = s0
          · by_cases es' : s' = s0
            · rw [es, es']
            · rw [es, v0, vo s' hs' es'] at hv
              by_cases h1' : 1 ≤ zSm (mI τ 85) s'
              · exact absurd hv.symm (dif s' hs' es' h1')
              · have hz : zSm (mI τ 85) s' = 0 := by omega
                unfold zSv at hv
                rw [hz] at hv
                have := (zwv_inj _ _ (fun k hk => by have := k3 k hk; omega) (fun k hk => absurd hk (by omega))).mp hv
                omega
          · rw [(mo s hs es).1] at h1
            by_cases es' : s' = s0
            · rw [es', v0, vo s hs es] at hv
              exact absurd hv (dif s hs es h1)
            · rw [vo s hs es, vo s' hs' es'] at hv
              exact n6 s s' hs hs' h1 hv
      · rw [show mI τ4 85 = mI τ3 85 from funext (fun j => p5.1 85 j (by unfold zP3; omega))]
        unfold zSm
        rw [g99, nn_oi (by omega)]; omega
end
