/-! formulas: the class's stack -/
theorem zlevel {σ : OM} {d : Nat} (h : mI σ 48 9 = oi d) (hd : d ≤ 8) : fX5_isLevel σ = some (1, σ) := by
  unfold fX5_isLevel
  rw [h, if_neg (oi_nneg (by omega)), show (8 : Int32) = oi 8 from rfl, if_neg (by rw [oi_lt (by omega) (by omega)]; omega)]
def zbl (σ : OM) (d : Nat) : OM := sI (sL (sL σ 53 d 0) 54 d (-1)) 55 d 0
theorem zbegl {σ : OM} {d : Nat} (h : mI σ 48 9 = oi d) (hd : d ≤ 8) : fX5_beginLevel σ = some (zbl σ d) := by
  unfold fX5_beginLevel
  have e1 : mI (sL σ 53 d 0) 48 9 = oi d := h
  have e2 : mI (sL (sL σ 53 d 0) 54 d (-1)) 48 9 = oi d := h
  rw [zlevel h hd, obi_s, if_neg (by decide), h, ogi (by omega) (by omega), oi_nat (by omega), e1, ogi (by omega) (by omega), oi_nat (by omega), e2, ogi (by omega) (by omega), oi_nat (by omega)]
  rfl
theorem zturn {σ : OM} {d : Nat} {B : Bool} (h : mI σ 48 9 = oi d) (hd : d ≤ 8) (hB : mI σ 55 d = b2 B) : fX5_turnNextFactor σ = some (sI σ 55 d (b2 (!B))) := by
  unfold fX5_turnNextFactor
  rw [zlevel h hd, obi_s, if_neg (by decide), h, ogi (by omega) (by omega), oi_nat (by omega), hB]
  cases B with
  | false => rw [if_pos (by rfl), ogi (by omega) (by omega)]; rfl
  | true => rw [if_neg (by decide), ogi (by omega) (by omega)]; rfl
def zng (B : Bool) (v : Int64) : Int64 := if B then v ^^^ (-1) else v
def zjf (σ : OM) (d : Nat) (v : Int64) : OM := sI (sL σ 54 d v) 55 d 0
theorem zjoin {σ : OM} {d : Nat} {B : Bool} (h : mI σ 48 9 = oi d) (hd : d ≤ 8) (hB : mI σ 55 d = b2 B) (v : Int64) : fX5_joinFactor v σ = some (zjf σ d (mL σ 54 d &&& zng B v)) := by
  unfold fX5_joinFactor
  have e1 : ∀ x, mI (sL σ 54 d x) 48 9 = oi d := fun x => h
  rw [zlevel h hd, obi_s, if_neg (by decide), h, ogi (by omega) (by omega), ogi (by omega) (by omega), oi_nat (by omega), hB]
  cases B with
  | false => rw [if_pos (by rfl), ogi (by omega) (by omega), e1, ogi (by omega) (by omega), oi_nat (by omega)]; rfl
  | true => rw [if_neg (by decide), ogi (by omega) (by omega), e1, ogi (by omega) (by omega), oi_nat (by omega)]; rfl
theorem zso {σ : OM} {d : Nat} (h : mI σ 48 9 = oi d) (hd : d ≤ 8) : fX5_soAtLevel σ = some (mL σ 53 d ||| mL σ 54 d, σ) := by
  unfold fX5_soAtLevel
  rw [zlevel h hd, obi_s, if_neg (by decide), h, ogi (by omega) (by omega), ogi (by omega) (by omega), oi_nat (by omega)]
def zbt (σ : OM) (d : Nat) : OM := sL (sL σ 53 d (mL σ 53 d ||| mL σ 54 d)) 54 d (-1)
theorem zbegt {σ : OM} {d : Nat} (h : mI σ 48 9 = oi d) (hd : d ≤ 8) : fX5_beginTerm σ = some (zbt σ d) := by
  unfold fX5_beginTerm
  have e1 : ∀ x, mI (sL σ 53 d x) 48 9 = oi d := fun x => h
  rw [zlevel h hd, obi_s, if_neg (by decide), h, ogi (by omega) (by omega), ogi (by omega) (by omega), ogi (by omega) (by omega), oi_nat (by omega), e1, ogi (by omega) (by omega), oi_nat (by omega)]
  rfl
/-- the class goes on before a factor -/
def zCO (N n : Nat) (a b : Nat) (σ : OM) : Option (Int64 × OM) := obi (fX5_readOpening_b2 n (oi b) σ) (fun r7 σ8 => if r7 = 0 then fX5_formula_b18 N 0 (oi (a + 1)) σ8 else obi (fX5_readFactInFormula σ8) (fun r10 σ11 => if r10 = 0 then fX5_formula_b18 N 0 (oi (a + 1)) σ11 else obi (fX5_readClosing σ11) (fun r13 σ14 => if r13 = 0 then fX5_formula_b18 N 0 (oi (a + 1)) σ14 else fX5_formula_b18 N 1 (oi (a + 1)) σ14)))
/-- and behind one -/
def zCC (N n : Nat) (a b : Nat) (σ : OM) : Option (Int64 × OM) := obi (fX5_readClosing_b2 n (oi b) σ) (fun r13 σ14 => if r13 = 0 then fX5_formula_b18 N 0 (oi (a + 1)) σ14 else fX5_formula_b18 N 1 (oi (a + 1)) σ14)
theorem zb0 {σ : OM} {N a d : Nat} (hN : 1 ≤ N) (ha : a ≤ 100) (h : mI σ 48 9 = oi d) (hd : d ≤ 8) : fX5_formula_b18 N 0 (oi a) σ = some (mL σ 53 d ||| mL σ 54 d, σ) := by
  obtain ⟨N, rfl⟩ : ∃ n', N = n' + 1 := ⟨N - 1, by omega⟩
  rw [fX5_formula_b18, show (900 : Int32) = oi 900 from rfl, if_neg (by rw [oi_lt (by omega) (by omega)]; omega), if_pos rfl, zso h hd, obi_s]
theorem zb1 {σ : OM} {N a : Nat} (ha : a ≤ 100) : fX5_formula_b18 (N + 1) 1 (oi a) σ = zCO N oF a 0 σ := by
  rw [fX5_formula_b18, show (900 : Int32) = oi 900 from rfl, if_neg (by rw [oi_lt (by omega) (by omega)]; omega), if_neg (by decide), oi_succ]
  rfl
section
variable {σ τ : OM} {f : Nat → Nat} {L i : Nat} {t : Tk} {r : List Tk}
theorem zk_not (h : zLv σ τ f L t r i) : mI σ 43 8 = 268 ↔ zis (zch f L) t 13 = true := by
  rw [h.1.2.1.1.2.1]; exact zck_key (zlv_ok h) (j := 12) (by decide)
theorem zk_and (h : zLv σ τ f L t r i) : mI σ 43 8 = 269 ↔ zis (zch f L) t 14 = true := by
  rw [h.1.2.1.1.2.1]; exact zck_key (zlv_ok h) (j := 13) (by decide)
theorem zk_or (h : zLv σ τ f L t r i) : mI σ 43 8 = 270 ↔ zis (zch f L) t 15 = true := by
  rw [h.1.2.1.1.2.1]; exact zck_key (zlv_ok h) (j := 14) (by decide)
theorem zk_40 (h : zLv σ τ f L t r i) : mI σ 43 8 = 40 ↔ t.1 = 40 := by
  rw [h.1.2.1.1.2.1]; exact zck_sign (zlv_ok h) (x := 40) (by decide)
theorem zk_41 (h : zLv σ τ f L t r i) : mI σ 43 8 = 41 ↔ t.1 = 41 := by
  rw [h.1.2.1.1.2.1]; exact zck_sign (zlv_ok h) (x := 41) (by decide)
theorem zis_2 {g : Nat → Nat} {s : Nat} (h : zis g t s = true) : t.1 = 2 := by
  unfold zis at h; rw [Bool.and_eq_true, decide_eq_true_eq] at h; exact h.1
theorem zis_ne {g : Nat → Nat} {s s' : Nat} (hs : zwv (zsN s) (zsL s) ≠ zwv (zsN s') (zsL s')) (h : zis g t s = true) : zis g t s' = false := by
  unfold zis at h ⊢
  rw [Bool.and_eq_true, decide_eq_true_eq, decide_eq_true_eq] at h
  rw [h.2, decide_eq_false hs, Bool.and_false]
/-- opening, at 'not' -/
theorem zco_not (h : zLv σ τ f L t r i) (hn : zis (zch f L) t 13 = true) {N n a b d : Nat} {B : Bool} (hb : b ≤ 900) (hd : mI σ 48 9 = oi d) (hd8 : d ≤ 8) (hB : mI σ 55 d = b2 B) {σ' : OM} (hadv : fX6_advance (sI σ 55 d (b2 (!B))) = some σ') : zCO N (n + 1) a b σ = zCO N n a (b + 1) σ' := by
  have e : fX5_readOpening_b2 (n + 1) (oi b) σ = fX5_readOpening_b2 n (oi (b + 1)) σ' := by
    have h268 := (zk_not h).mpr hn
    rw [fX5_readOpening_b2, show (900 : Int32) = oi 900 from rfl, if_neg (by rw [oi_lt (by omega) (by omega)]; omega), h268, if_neg (by decide), if_pos rfl]
    unfold fX5_readOpening_b34
    rw [if_pos h268, zturn hd hd8 hB, obv_s, hadv, obv_s, oi_succ]
  unfold zCO; rw [e]
/-- opening, at '(' -/
theorem zco_par (h : zLv σ τ f L t r i) (hn : t.1 = 40) {N n a b d : Nat} (hb : b ≤ 900) (hd : mI σ 48 9 = oi d) (hd8 : d < 8) {σ' : OM} (hadv : fX6_advance (zbl (sI σ 48 9 (oi (d + 1))) (d + 1)) = some σ') : zCO N (n + 1) a b σ = zCO N n a (b + 1) σ' := by
  have e : fX5_readOpening_b2 (n + 1) (oi b) σ = fX5_readOpening_b2 n (oi (b + 1)) σ' := by
    have h40 := (zk_40 h).mpr hn
    rw [fX5_readOpening_b2, show (900 : Int32) = oi 900 from rfl, if_neg (by rw [oi_lt (by omega) (by omega)]; omega), if_pos h40]
    unfold fX5_readOpening_b34
    rw [h40, if_neg (by decide), hd, show (8 : Int32) = oi 8 from rfl, if_pos ((oi_lt (by omega) (by omega)).mpr hd8), oi_succ, zbegl mI_at (by omega), obv_s, hadv, obv_s, oi_succ]
  unfold zCO; rw [e]
theorem zco_deep (h : zLv σ τ f L t r i) (hn : t.1 = 40) {N n a b : Nat} (hN : 1 ≤ N) (ha : a ≤ 50) (hb : b ≤ 900) (hd : mI σ 48 9 = oi 8) : ∃ x, zCO N (n + 1) a b σ = some (x, zfl σ 5 (oi t.2.1)) := by
  have e : fX5_readOpening_b2 (n + 1) (oi b) σ = some (0, zfl σ 5 (oi t.2.1)) := by
    have h40 := (zk_40 h).mpr hn
    rw [fX5_readOpening_b2, show (900 : Int32) = oi 900 from rfl, if_neg (by rw [oi_lt (by omega) (by omega)]; omega), if_pos h40]
    unfold fX5_readOpening_b34 fX5_readOpening_b63
    rw [h40, if_neg (by decide), hd, if_neg (by decide), h.1.2.1.1.2.2.1, zfail h.2.1]; rfl
  unfold zCO; rw [e, obi_s, if_pos rfl, zb0 hN (by omega) (d := 8) (by unfold zfl; rw [mI_sI, if_neg (by omega), mI_sI, if_neg (by omega)]; exact hd) (by omega)]
  exact ⟨_, rfl⟩
/-- opening, at something else: the fact comes -/
theorem zco_fact (h : zLv σ τ f L t r i) (h1 : zis (zch f L) t 13 = false) (h2 : t.1 ≠ 40) {N n a b : Nat} (hb : b ≤ 900) : zCO N (n + 1) a b σ = obi (fX5_readFactInFormula σ) (fun r10 σ11 => if r10 = 0 then fX5_formula_b18 N 0 (oi (a + 1)) σ11 else zCC N oF a 0 σ11) := by
  have e : fX5_readOpening_b2 (n + 1) (oi b) σ = some (1, σ) := by
    rw [fX5_readOpening_b2, show (900 : Int32) = oi 900 from rfl, if_neg (by rw [oi_lt (by omega) (by omega)]; omega), if_neg (fun q => h2 ((zk_40 h).mp q)), if_neg (fun q => by have := (zk_not h).mp q; rw [h1] at this; cases this)]
  unfold zCO; rw [e, obi_s, if_neg (by decide)]; rfl
/-- closing, at 'and' -/
theorem zcc_and (h : zLv σ τ f L t r i) (hn : zis (zch f L) t 14 = true) {N n a b d : Nat} (ha : a ≤ 50) (hb : b + d ≤ 8) (hd : mI σ 48 9 = oi d) {σ' : OM} (hadv : fX6_advance σ = some σ') : zCC (N + 1) (n + 1) a b σ = zCO N oF (a + 1) 0 σ' := by
  have h269 := (zk_and h).mpr hn
  have e : fX5_readClosing_b2 (n + 1) (oi b) σ = some (1, σ') := by
    have e60 : fX5_readClosing_b60 σ = some (1, σ') := by
      unfold fX5_readClosing_b60
      rw [h269, if_neg (by decide), if_pos rfl, hadv, obv_s]
    rw [fX5_readClosing_b2, e60, h269, if_neg (show ¬ (269 : Int32) = 41 by decide)]
    split
    · rfl
    · split <;> rfl
  unfold zCC; rw [e, obi_s, if_neg (by decide), zb1 (by omega)]
/-- closing, at 'or' -/
theorem zcc_or (h : zLv σ τ f L t r i) (hn : zis (zch f L) t 15 = true) {N n a b d : Nat} (ha : a ≤ 50) (hb : b + d ≤ 8) (hd : mI σ 48 9 = oi d) {σ' : OM} (hadv : fX6_advance (zbt σ d) = some σ') : zCC (N + 1) (n + 1) a b σ = zCO N oF (a + 1) 0 σ' := by
  have h270 := (zk_or h).mpr hn
  have e : fX5_readClosing_b2 (n + 1) (oi b) σ = some (1, σ') := by
    have e60 : fX5_readClosing_b60 σ = some (1, σ') := by
      unfold fX5_readClosing_b60
      rw [h270, if_pos rfl, zbegt hd (by omega), obv_s, hadv, obv_s]
    rw [fX5_readClosing_b2, e60, h270, if_neg (show ¬ (270 : Int32) = 41 by decide)]
    split
    · rfl
    · split <;> rfl
  unfold zCC; rw [e, obi_s, if_neg (by decide), zb1 (by omega)]
/-- closing, at ')' -/
theorem zcc_par (h : zLv σ τ f L t r i) (hn : t.1 = 41) {N n a b d : Nat} {B : Bool} (hb : b + (d + 1) ≤ 8) (hd : mI σ 48 9 = oi (d + 1)) (hB : mI σ 55 d = b2 B) {σ' : OM} (hadv : fX6_advance (zjf (sI σ 48 9 (oi d)) d (mL σ 54 d &&& zng B (mL σ 53 (d + 1) ||| mL σ 54 (d + 1)))) = some σ') : zCC N (n + 1) a b σ = zCC N n a (b + 1) σ' := by
  have e : fX5_readClosing_b2 (n + 1) (oi b) σ = fX5_readClosing_b2 n (oi (b + 1)) σ' := by
    rw [fX5_readClosing_b2, show (8 : Int32) = oi 8 from rfl, if_neg (by rw [oi_le (by omega) (by omega)]; omega), hd, if_neg (by rw [show (0 : Int32) = oi 0 from rfl, oi_le (by omega) (by omega)]; omega), if_pos ((zk_41 h).mpr hn), zso hd (by omega), obi_s, hd, show oi (d + 1) - 1 = oi d from oi_sub (a := d + 1) (b := 1) (by omega), zjoin (B := B) mI_at (by omega) (by rw [mI_sI, if_neg (by omega)]; exact hB), obv_s, mL_sI, hadv, obv_s, oi_succ]
  unfold zCC; rw [e]
/-- closing at the top, nothing to join -/
theorem zcc_end (h : zLv σ τ f L t r i) (h1 : zis (zch f L) t 14 = false) (h2 : zis (zch f L) t 15 = false) {N n a b : Nat} (hN : 1 ≤ N) (ha : a ≤ 50) (hd : mI σ 48 9 = oi 0) : zCC N (n + 1) a b σ = some (mL σ 53 0 ||| mL σ 54 0, σ) := by
  have e60 : fX5_readClosing_b60 σ = some (0, σ) := by
    unfold fX5_readClosing_b60
    rw [if_neg (fun q => by have := (zk_or h).mp q; rw [h2] at this; cases this), if_neg (fun q => by have := (zk_and h).mp q; rw [h1] at this; cases this), hd, if_pos (by decide)]
  have e : fX5_readClosing_b2 (n + 1) (oi b) σ = some (0, σ) := by
    rw [fX5_readClosing_b2, e60, hd]
    split
    · rfl
    · rw [if_pos (by decide)]
  unfold zCC; rw [e, obi_s, if_pos rfl, zb0 hN (by omega) hd (by omega)]
/-- closing within brackets, no bracket there -/
theorem zcc_bad (h : zLv σ τ f L t r i) (h1 : zis (zch f L) t 14 = false) (h2 : zis (zch f L) t 15 = false) (h3 : t.1 ≠ 41) {N n a b d : Nat} (hN : 1 ≤ N) (ha : a ≤ 50) (hd8 : d < 8) (hd : mI σ 48 9 = oi (d + 1)) : ∃ x, zCC N (n + 1) a b σ = some (x, zfl σ 1 (oi t.2.1)) := by
  have e60 : fX5_readClosing_b60 σ = some (0, zfl σ 1 (oi t.2.1)) := by
    unfold fX5_readClosing_b60
    rw [if_neg (fun q => by have := (zk_or h).mp q; rw [h2] at this; cases this), if_neg (fun q => by have := (zk_and h).mp q; rw [h1] at this; cases this), hd, if_neg (by rw [show (0 : Int32) = oi 0 from rfl, oi_le (by omega) (by omega)]; omega), h.1.2.1.1.2.2.1, zfail h.2.1, obi_s, if_pos rfl]
  have e : fX5_readClosing_b2 (n + 1) (oi b) σ = some (0, zfl σ 1 (oi t.2.1)) := by
    rw [fX5_readClosing_b2, e60, if_neg (fun q => h3 ((zk_41 h).mp q))]
    split
    · rfl
    · split <;> rfl
  unfold zCC; rw [e, obi_s, if_pos rfl, zb0 hN (by omega) (d := d + 1) (by unfold zfl; rw [mI_sI, if_neg (by omega), mI_sI, if_neg (by omega)]; exact hd) (by omega)]
  exact ⟨_, rfl⟩
end
/-- which worlds a fact is so in -/
theorem zworlds {s : Nat} (hs : s < 6) (τ : OM) : fX10_worldsOf (oi s) τ = some (oho s, τ) := by
  have h := lup0 (g := fun m x k => fX10_worldsOf_b4 m (oi s) x (oi k) τ) (n := 64) (step := fun k x => x ||| (if ((oi k >>> (oi s &&& 31)) &&& (1 : Int32)) = 1 then (1 : Int64) <<< ((oi k).toInt64 &&& 63) else 0)) (fin := fun x => some (x, τ)) (a := 0)
    (fun m x k hk => by
      show fX10_worldsOf_b4 (m + 1) (oi s) x (oi k) τ = _
      rw [fX10_worldsOf_b4, show (64 : Int32) = oi 64 from rfl, if_neg (by rw [oi_le (by omega) (by omega)]; omega), oi_succ]
      by_cases e : ((oi k >>> (oi s &&& 31)) &&& (1 : Int32)) = 1
      · rw [if_pos e, if_pos e]
      · rw [if_neg e, if_neg e])
    (fun m x => by
      show fX10_worldsOf_b4 (m + 1) (oi s) x (oi 64) τ = _
      rw [fX10_worldsOf_b4, if_pos (by decide)])
    oF (by unfold oF; omega)
  refine (show fX10_worldsOf (oi s) τ = _ from h).trans ?_
  have hv : ∀ s, s < 6 → ofd (fun k x => x ||| (if ((oi k >>> (oi s &&& 31)) &&& (1 : Int32)) = 1 then (1 : Int64) <<< ((oi k).toInt64 &&& 63) else 0)) 0 64 = oho s := by decide +kernel
  rw [hv s hs]
/-- only the first F facts matter -/
def zLo (F : Nat) (v : Int64) : Prop := ∀ i, i < 64 → tb v i = tb v (i % 2 ^ F)
theorem zlo_oho : ∀ F, F ≤ 6 → ∀ s, s < F → ∀ i, i < 64 → tb (oho s) i = tb (oho s) (i % 2 ^ F) := by decide +kernel
theorem zmod64 {F i : Nat} (hi : i < 64) : i % 2 ^ F < 64 := Nat.lt_of_le_of_lt (Nat.mod_le _ _) hi
theorem zlo_and {F : Nat} {x y : Int64} (hx : zLo F x) (hy : zLo F y) : zLo F (x &&& y) := fun i hi => by rw [tb_and, tb_and, hx i hi, hy i hi]
theorem zlo_or {F : Nat} {x y : Int64} (hx : zLo F x) (hy : zLo F y) : zLo F (x ||| y) := fun i hi => by rw [tb_or, tb_or, hx i hi, hy i hi]
theorem zlo_not {F : Nat} {x : Int64} (hx : zLo F x) : zLo F (x ^^^ (-1)) := fun i hi => by rw [tb_not _ hi, tb_not _ (zmod64 hi), hx i hi]
theorem zlo_m1 (F : Nat) : zLo F (-1) := fun i hi => by rw [tb_m1 i hi, tb_m1 _ (zmod64 hi)]
theorem zlo_up {F G : Nat} (h : F ≤ G) {x : Int64} (hx : zLo F x) : zLo G x := fun i hi => by
  rw [hx i hi, hx (i % 2 ^ G) (zmod64 hi), Nat.mod_mod_of_dvd _ (Nat.pow_dvd_pow 2 h)]
