/-! the class's list of tokens -/
def zadd (σ : OM) (i : Nat) (k x : Int32) (v : Int64) : OM := sI (sL (sI (sI σ 45 i k) 46 i x) 47 i v) 43 6 (oi (i + 1))
theorem zadd_eq {σ : OM} {i : Nat} (hi : i ≤ 900) (h : mI σ 43 6 = oi i) (k x : Int32) (v : Int64) : fX6_addToken k x v σ = some (if k = 3 then 0 else 1, zadd σ i k x v) := by
  unfold fX6_addToken
  have e1 : mI (sI σ 45 i k) 43 6 = oi i := by rw [mI_sI, if_neg (by omega), h]
  have e2 : mI (sI (sI σ 45 i k) 46 i x) 43 6 = oi i := by rw [mI_sI, if_neg (by omega), e1]
  have e3 : mI (sL (sI (sI σ 45 i k) 46 i x) 47 i v) 43 6 = oi i := e2
  rw [h, if_neg (oi_nneg (by omega)), show (900 : Int32) = oi 900 from rfl, if_neg (by rw [oi_lt (by omega) (by omega)]; omega), ogi (by omega) (by omega), oi_nat (by omega), e1, ogi (by omega) (by omega), oi_nat (by omega), e2, ogi (by omega) (by omega), oi_nat (by omega), e3, oi_succ]
  unfold zadd
  by_cases e : k = 3
  · rw [if_pos e, if_pos e]
  · rw [if_neg e, if_neg e]
def zArr (σ : OM) (g : Nat → Nat) : List Tk → Nat → Prop
  | [], _ => True
  | t :: r, i => (mI σ 45 i = zck g t ∧ mI σ 46 i = oi t.2.1 ∧ zcv g t (mL σ 47 i)) ∧ zArr σ g r (i + 1)
theorem zarr_ext {σ σ' : OM} {g : Nat → Nat} (h45 : ∀ j, mI σ' 45 j = mI σ 45 j) (h46 : ∀ j, mI σ' 46 j = mI σ 46 j) (h47 : ∀ j, mL σ' 47 j = mL σ 47 j) : ∀ (ts : List Tk) (i : Nat), zArr σ g ts i → zArr σ' g ts i
  | [], _, _ => trivial
  | t :: r, i, h => ⟨by rw [h45, h46, h47]; exact h.1, zarr_ext h45 h46 h47 r (i + 1) h.2⟩
def zChain (g : Nat → Nat) (L : Nat) : List Tk → Nat → Prop
  | [], _ => False
  | t :: r, p => zTok g L p t ∧ ((t.1 = 0 ∨ t.1 = 1) → r = []) ∧ (¬ (t.1 = 0 ∨ t.1 = 1) → zChain g L r t.2.2)
def zP1 (i : Nat) : Nat → Nat → Prop := fun a j => (a = 43 ∧ j = 6) ∨ (a = 45 ∧ i ≤ j) ∨ (a = 46 ∧ i ≤ j)
def zQ1 : Nat → Prop := fun a => a = 47
theorem ztc_fr {σ σ' : OM} {f : Nat → Nat} {L : Nat} (h2 : mI σ' 43 2 = mI σ 43 2) (h44 : ∀ j, mI σ' 44 j = mI σ 44 j) (h : zTC σ f L) : zTC σ' f L := ⟨h.1, h2.trans h.2.1, fun j hj => ⟨(h.2.2 j hj).1, (h44 j).trans (h.2.2 j hj).2⟩⟩
theorem zadd_fr (σ : OM) (i : Nat) (k x : Int32) (v : Int64) : Fr (zP1 i) zQ1 σ (zadd σ i k x v) := fr_I (fr_L (fr_I (fr_I (fr_rfl _ _ _) (Or.inr (Or.inl ⟨rfl, Nat.le_refl _⟩))) (Or.inr (Or.inr ⟨rfl, Nat.le_refl _⟩))) rfl) (Or.inl ⟨rfl, rfl⟩)
theorem zadd_at (σ : OM) (i : Nat) (k x : Int32) (v : Int64) : mI (zadd σ i k x v) 45 i = k ∧ mI (zadd σ i k x v) 46 i = x ∧ mL (zadd σ i k x v) 47 i = v ∧ mI (zadd σ i k x v) 43 6 = oi (i + 1) ∧ ∀ j, j ≠ i → mL (zadd σ i k x v) 47 j = mL σ 47 j := by
  unfold zadd
  refine ⟨?_, ?_, ?_, mI_at, fun j hj => ?_⟩
  · rw [mI_sI, if_neg (by omega), mI_sL, mI_sI, if_neg (by omega), mI_at]
  · rw [mI_sI, if_neg (by omega), mI_sL, mI_at]
  · rw [mL_sI, mL_at]
  · rw [mL_sI, mL_sL, if_neg (by omega)]; rfl
theorem zbeg81 {σ : OM} {f : Nat → Nat} {L i : Nat} (h : zTC σ f L) (hi : i ≤ 900) (h6 : mI σ 43 6 = oi i) : fX6_begin_b81 1 σ = fX6_advance (sI (zadd σ i 0 (oi L) 0) 43 7 (-1)) := by
  unfold fX6_begin_b81
  rw [if_neg (by decide), h.2.1, zadd_eq hi h6, obi_s]
  cases fX6_advance (sI (zadd σ i 0 (oi L) 0) 43 7 (-1)) <;> rfl
theorem zbegin {f : Nat → Nat} {L : Nat} : ∀ d p i n (σ : OM), p + d = L → i ≤ p → d < n → zTC σ f L → mI σ 43 6 = oi i → ∃ σ1 ts, fX6_begin_b21 n 1 (oi p) σ = fX6_advance (sI σ1 43 7 (-1)) ∧ zChain (zch f L) L ts p ∧ zArr σ1 (zch f L) ts i ∧ mI σ1 43 6 = oi (i + ts.length) ∧ i + ts.length ≤ L + 1 ∧ Fr (zP1 i) zQ1 σ σ1 ∧ ∀ j, j < i → mL σ1 47 j = mL σ 47 j := by
  intro d
  induction d using Nat.strongRecOn with
  | ind d ih =>
    intro p i n σ hd hip hn h h6
    have hL := h.1
    obtain ⟨n, rfl⟩ : ∃ n', n = n' + 1 := ⟨n - 1, by omega⟩
    rw [fX6_begin_b21, h.2.1]
    by_cases e0 : d = 0
    · have hp : p = L := by omega
      rw [if_pos (by rw [oi_le (by omega) (by omega)]; omega), zbeg81 h (by omega) h6]
      obtain ⟨a1, a2, a3, a4, a5⟩ := zadd_at σ i 0 (oi L) 0
      refine ⟨_, [(0, L, L)], rfl, ⟨⟨by show p ≤ L; omega, Nat.le_refl _, fun k h1 h2 => absurd h2 (by show ¬ k < L; omega), Or.inl ⟨rfl, rfl, rfl⟩⟩, fun _ => rfl, fun q => absurd (Or.inl rfl) q⟩, ⟨⟨a1, a2, by rw [a3]; exact ⟨fun q => absurd (show (0 : Nat) = 2 from q) (by decide), fun q => absurd (show (0 : Nat) = 3 from q) (by decide)⟩⟩, trivial⟩, a4, by show i + 1 ≤ L + 1; omega, zadd_fr _ _ _ _ _, fun j hj => a5 j (by omega)⟩
    · rw [if_neg (by rw [oi_le (by omega) (by omega)]; omega), if_neg (by decide), zbyte h (by omega), obi_s]
      have hx := zch_le h p
      by_cases e32 : zch f L p = 32
      · rw [if_pos ((zlc0 _ hx).2.2.2.2.1.mp e32), oi_succ]
        obtain ⟨σ1, ts, g1, g2, g3, g4, g5, g6, g7⟩ := ih (d - 1) (by omega) (p + 1) i n σ (by omega) (by omega) (by omega) h h6
        refine ⟨σ1, ts, g1, ?_, g3, g4, g5, g6, g7⟩
        cases ts with
        | nil => exact g2
        | cons t r =>
          obtain ⟨⟨q1, q2, q3, q4⟩, q5, q6⟩ := g2
          refine ⟨⟨by omega, q2, fun k k1 k2 => ?_, q4⟩, q5, q6⟩
          by_cases ek : k = p
          · rw [ek]; exact e32
          · exact q3 k (by omega) k2
      · rw [if_neg (fun q => e32 ((zlc0 _ hx).2.2.2.2.1.mpr q))]
        obtain ⟨t, t1, t0, t2, len, v, l1, l2, l3, l4, l5, l6, l7, l8⟩ := ztok_c h (show p < L by omega) e32
        rw [l3, obi_s, l4, obi_s, l5, obi_s, zadd_eq (by omega) h6, obi_s, oi_add]
        obtain ⟨a1, a2, a3, a4, a5⟩ := zadd_at σ i (zck (zch f L) t) (oi p) v
        have hfr := zadd_fr σ i (zck (zch f L) t) (oi p) v
        have hT : zTC (zadd σ i (zck (zch f L) t) (oi p) v) f L := ztc_fr (hfr.1 43 2 (by unfold zP1; omega)) (fun j => hfr.1 44 j (by unfold zP1; omega)) h
        by_cases ec : t.1 = 1
        · rw [if_pos (l8.mpr ec)]
          obtain ⟨n, rfl⟩ : ∃ n', n = n' + 1 := ⟨n - 1, by omega⟩
          have hb : fX6_begin_b21 (n + 1) 0 (oi (p + len)) (zadd σ i (zck (zch f L) t) (oi p) v) = fX6_advance (sI (zadd σ i (zck (zch f L) t) (oi p) v) 43 7 (-1)) := by
            rw [fX6_begin_b21]
            have hb1 : ∀ τ : OM, fX6_begin_b81 0 τ = fX6_advance (sI τ 43 7 (-1)) := by
              intro τ; unfold fX6_begin_b81
              rw [if_pos rfl]
              cases fX6_advance (sI τ 43 7 (-1)) <;> rfl
            split
            · exact hb1 _
            · rw [if_pos rfl]; exact hb1 _
          refine ⟨_, [t], hb, ⟨t2, fun _ => rfl, fun q => absurd (Or.inr ec) q⟩, ⟨⟨a1, by rw [a2, t1], by rw [a3]; exact l6⟩, trivial⟩, a4, by show i + 1 ≤ L + 1; omega, hfr, fun j hj => a5 j (by omega)⟩
        · rw [if_neg (fun q => ec (l8.mp q))]
          obtain ⟨σ1, ts, g1, g2, g3, g4, g5, g6, g7⟩ := ih (d - len) (by omega) (p + len) (i + 1) n _ (by omega) (by omega) (by omega) hT a4
          have hfm : Fr (zP1 i) zQ1 (zadd σ i (zck (zch f L) t) (oi p) v) σ1 := fr_mono (fun a j q => by unfold zP1 at *; omega) (fun _ q => q) g6
          refine ⟨σ1, t :: ts, g1, ⟨t2, fun q => ?_, fun _ => by rw [← l7 ec]; exact g2⟩, ⟨⟨?_, ?_, ?_⟩, g3⟩, by rw [g4, List.length_cons]; congr 1; omega, by rw [List.length_cons]; omega, fr_tr hfr hfm, fun j hj => by rw [g7 j (by omega)]; exact a5 j (by omega)⟩
          · rcases q with q | q
            · exact absurd q t0
            · exact absurd q ec
          · rw [g6.1 45 i (by unfold zP1; omega)]; exact a1
          · rw [g6.1 46 i (by unfold zP1; omega), a2, t1]
          · rw [g7 i (by omega), a3]; exact l6
/-- the class steps to token j -/
def zadv (σ : OM) (j : Nat) : OM := sL (sI (sI (sI σ 43 7 (oi j)) 43 8 (mI σ 45 j)) 43 9 (mI σ 46 j)) 43 10 (mL σ 47 j)
theorem zm1 {c j : Nat} (hj : j < c) (hc : c ≤ 901) : ¬ (oi c - 1 ≤ oi j - 1) ∧ ¬ (900 ≤ oi j - 1) ∧ oi j - 1 + 1 = oi j := by
  have h1 : oi c - 1 = oi (c - 1) := oi_sub (b := 1) (by omega)
  cases j with
  | zero =>
    rw [h1]
    refine ⟨?_, by decide, by decide⟩
    rw [show oi 0 - 1 = (-1 : Int32) from by decide, Int32.le_iff_toInt_le, oi_int (by omega), show ((-1 : Int32)).toInt = -1 from by decide]
    omega
  | succ j =>
    have h2 : oi (j + 1) - 1 = oi j := oi_sub (a := j + 1) (b := 1) (by omega)
    rw [h1, h2, oi_le (by omega) (by omega), show (900 : Int32) = oi 900 from rfl, oi_le (by omega) (by omega)]
    exact ⟨by omega, by omega, oi_succ j⟩
theorem zadv_eq {σ : OM} {c j : Nat} (hj : j < c) (hc : c ≤ 901) (h6 : mI σ 43 6 = oi c) (h7 : mI σ 43 7 = oi j - 1) : fX6_advance σ = some (zadv σ j) := by
  obtain ⟨a, b, d⟩ := zm1 hj hc
  unfold fX6_advance
  rw [h6, h7, if_neg a, if_neg b, d]
  have e1 : mI (sI σ 43 7 (oi j)) 43 7 = oi j := mI_at
  have e2 : mI (sI σ 43 7 (oi j)) 45 j = mI σ 45 j := by rw [mI_sI, if_neg (by omega)]
  rw [e1, oi_nat (by omega), e2, ogi (by omega) (by omega)]
  have e3 : mI (sI (sI σ 43 7 (oi j)) 43 8 (mI σ 45 j)) 43 7 = oi j := by rw [mI_sI, if_neg (by omega), e1]
  have e4 : mI (sI (sI σ 43 7 (oi j)) 43 8 (mI σ 45 j)) 46 j = mI σ 46 j := by rw [mI_sI, if_neg (by omega), mI_sI, if_neg (by omega)]
  rw [e3, oi_nat (by omega), e4, ogi (by omega) (by omega)]
  have e5 : mI (sI (sI (sI σ 43 7 (oi j)) 43 8 (mI σ 45 j)) 43 9 (mI σ 46 j)) 43 7 = oi j := by rw [mI_sI, if_neg (by omega), e3]
  rw [e5, ogi (by omega) (by omega), oi_nat (by omega)]
  rfl
/-- where the class stands: token t, the rest r, at place i of its list -/
def zCur (σ : OM) (g : Nat → Nat) (L : Nat) (t : Tk) (r : List Tk) (i : Nat) : Prop :=
  (mI σ 43 7 = oi i ∧ mI σ 43 8 = zck g t ∧ mI σ 43 9 = oi t.2.1 ∧ zcv g t (mL σ 43 10)) ∧ (zArr σ g r (i + 1) ∧ mI σ 43 6 = oi (i + 1 + r.length) ∧ i + 1 + r.length ≤ 901) ∧ ((t.1 = 0 ∨ t.1 = 1) → r = []) ∧ (¬ (t.1 = 0 ∨ t.1 = 1) → zChain g L r t.2.2)
def zP2 : Nat → Nat → Prop := fun a j => a = 43 ∧ (j = 7 ∨ j = 8 ∨ j = 9)
def zQ2 : Nat → Prop := fun a => a = 43
theorem zadv_fr (σ : OM) (j : Nat) : Fr zP2 zQ2 σ (zadv σ j) := fr_L (fr_I (fr_I (fr_I (fr_rfl _ _ _) ⟨rfl, Or.inl rfl⟩) ⟨rfl, Or.inr (Or.inl rfl)⟩) ⟨rfl, Or.inr (Or.inr rfl)⟩) rfl
theorem zadv_cur {σ : OM} {g : Nat → Nat} {L : Nat} {t : Tk} {r : List Tk} {j p : Nat} (hA : zArr σ g (t :: r) j) (hC : zChain g L (t :: r) p) (h6 : mI σ 43 6 = oi (j + 1 + r.length)) (hl : j + 1 + r.length ≤ 901) : zCur (zadv σ j) g L t r j := by
  obtain ⟨⟨a1, a2, a3⟩, a4⟩ := hA
  obtain ⟨c1, c2, c3⟩ := hC
  have hf := zadv_fr σ j
  refine ⟨⟨?_, ?_, ?_, ?_⟩, ⟨zarr_ext (fun k => hf.1 45 k (by unfold zP2; omega)) (fun k => hf.1 46 k (by unfold zP2; omega)) (fun k => hf.2.1 47 k (by unfold zQ2; omega)) r (j + 1) a4, by rw [hf.1 43 6 (by unfold zP2; omega)]; exact h6, hl⟩, c2, c3⟩
  · unfold zadv; rw [mI_sL, mI_sI, if_neg (by omega), mI_sI, if_neg (by omega), mI_at]
  · unfold zadv; rw [mI_sL, mI_sI, if_neg (by omega), mI_at]; exact a1
  · unfold zadv; rw [mI_sL, mI_at]; exact a2
  · unfold zadv; rw [mL_at]; exact a3
/-- the class steps on -/
theorem zstep {σ : OM} {g : Nat → Nat} {L : Nat} {t : Tk} {r : List Tk} {i : Nat} (h : zCur σ g L t r i) (ht : ¬ (t.1 = 0 ∨ t.1 = 1)) : ∃ t' r', r = t' :: r' ∧ zTok g L t.2.2 t' ∧ fX6_advance σ = some (zadv σ (i + 1)) ∧ zCur (zadv σ (i + 1)) g L t' r' (i + 1) := by
  obtain ⟨⟨a1, a2, a3, a4⟩, ⟨b1, b2', b3⟩, c1, c2⟩ := h
  have hc := c2 ht
  cases r with
  | nil => exact hc.elim
  | cons t' r' =>
    rw [List.length_cons] at b2' b3
    refine ⟨t', r', rfl, hc.1, zadv_eq (c := i + 1 + (r'.length + 1)) (by omega) b3 b2' (by rw [a1, ← oi_succ]; exact (by rw [Int32.add_sub_cancel])), zadv_cur b1 hc (by rw [b2']; congr 1; omega) (by omega)⟩
