/-! whose turn it is -/
def Ch (c : Nat) (σ σ1 : OM) : Prop := (∀ a j, a ≠ c → mI σ1 a j = mI σ a j) ∧ mL σ1 = mL σ ∧ mR σ1 = mR σ
theorem ch_rfl (c : Nat) (σ : OM) : Ch c σ σ := ⟨fun _ _ _ => rfl, rfl, rfl⟩
theorem ch_tr {c : Nat} {σ σ1 σ2 : OM} (h : Ch c σ σ1) (g : Ch c σ1 σ2) : Ch c σ σ2 := ⟨fun a j q => (g.1 a j q).trans (h.1 a j q), g.2.1.trans h.2.1, g.2.2.trans h.2.2⟩
theorem ch_I (c : Nat) (σ : OM) (j : Nat) (v : Int32) : Ch c σ (sI σ c j v) := ⟨fun a k q => by rw [mI_sI, if_neg]; rintro ⟨rfl, -⟩; exact q rfl, rfl, rfl⟩
theorem CX_ch {σ σ1 : OM} {w : Nat} {R : Nat → Int32} {Z : Nat → Int64} {s : Nat → Int32} (hc : Ch (w + 20) σ σ1) (h : CX σ w R Z s) : CX σ1 w R Z s :=
  ⟨h.1, CS_congr (fun a j q => hc.1 a j (by omega)) (fun a j q => by rw [hc.2.1]) (x_Hb h) h.2.1, CT_congr (fun a j q => hc.1 a j (by omega)) h.2.2⟩
theorem RB_ch {σ σ1 : OM} (hc : Ch 93 σ σ1) (h : RB σ) : RB σ1 := by
  unfold RB
  rw [hc.1 81 14 (by omega), show mI σ1 84 = mI σ 84 from funext fun j => hc.1 84 j (by omega), show mI σ1 88 = mI σ 88 from funext fun j => hc.1 88 j (by omega), hc.2.1]
  exact h
def yv (R : Nat → Int32) (G : Nat → Nat) (e : Nat) : Nat := nn (R (17 + 4 * e)) + nn (R (18 + 4 * e)) * G e
def sEs (R : Nat → Int32) (G : Nat → Nat) (h : Nat) (b : Option Nat) : Option Nat := match sYr R h (G h) with
  | none => b
  | some y => match b with
    | none => some h
    | some e => if y < yv R G e then some h else some e
def oW (b : Option Nat) : Int32 := match b with
  | none => -1
  | some m => oi m
def oU (R : Nat → Int32) (G : Nat → Nat) (b : Option Nat) : Int32 := match b with
  | none => 0
  | some m => oi (yv R G m)
def gU (G : Nat → Nat) (e : Nat) : Nat → Nat := fun j => if j = e then G j + 1 else G j
def sTf (R : Nat → Int32) (H : Nat) : Nat → (Nat → Nat) → Nat → Option Nat
  | 0, _, _ => none
  | n + 1, G, a => match ofd (sEs R G) none H with
    | none => none
    | some e => if a < sAi R e (G e) then some e else sTf R H n (gU G e) (a - sAi R e (G e))
theorem sEs_ok (R : Nat → Int32) (G : Nat → Nat) {k : Nat} {b : Option Nat} (h : ∀ m, b = some m → m < k ∧ sYr R m (G m) = some (yv R G m)) : ∀ m, sEs R G k b = some m → m < k + 1 ∧ sYr R m (G m) = some (yv R G m) := by
  intro m e
  unfold sEs at e
  cases hy : sYr R k (G k) with
  | none =>
    rw [hy] at e
    obtain ⟨h1, h2⟩ := h m e
    exact ⟨by omega, h2⟩
  | some y =>
    rw [hy] at e
    have ey := sYr_some hy
    cases b with
    | none => cases e; exact ⟨by omega, by rw [hy, ey]; rfl⟩
    | some a =>
      obtain ⟨h1, h2⟩ := h a rfl
      have e' : (if y < yv R G a then some k else some a) = some m := e
      split at e' <;> cases e'
      · exact ⟨by omega, by rw [hy, ey]; rfl⟩
      · exact ⟨by omega, h2⟩
theorem sEs_all (R : Nat → Int32) (G : Nat → Nat) (H : Nat) : ∀ m, ofd (sEs R G) none H = some m → m < H ∧ sYr R m (G m) = some (yv R G m) :=
  ofd_ind (s := sEs R G) (a := none) (n := H) (P := fun n b => ∀ m, b = some m → m < n ∧ sYr R m (G m) = some (yv R G m)) (fun m e => by cases e) (fun k b _ hb => sEs_ok R G hb)
theorem yv_le {R : Nat → Int32} {Z : Nat → Int64} (h : MB R Z) {G : Nat → Nat} {e : Nat} (he : e < nn (R 3)) (hG : G e ≤ 100000) : yv R G e ≤ 9900999 := by
  obtain ⟨b1, b2', -, -, -⟩ := HB h he
  have := mul_bd b2'.2 hG
  have := b1.2
  unfold yv
  omega
section
variable {σ : OM} {w : Nat} {R : Nat → Int32} {Z : Nat → Int64} {s : Nat → Int32}
theorem earliest_eq (h : CX σ w R Z s) {G : Nat → Nat} (hG : ∀ j, j < 6 → mI σ (w + 20) j = oi (G j)) (hG2 : ∀ j, G j ≤ 1000) : fX8_earliestHouse w σ = some (oW (ofd (sEs R G) none (nn (R 3))), σ) := by
  have hH := x_Hb h
  unfold fX8_earliestHouse
  refine lup (g := fun f (b : Option Nat) k => fX8_earliestHouse_b6 f w (oW b) (oU R G b) (oi k) σ) (a := none) (step := sEs R G) (fin := fun b => some (oW b, σ)) (n := nn (R 3)) (I := fun n b => ∀ m, b = some m → m < n ∧ sYr R m (G m) = some (yv R G m)) (fun m e => by cases e) (fun k b _ hb => sEs_ok R G hb) ?_ ?_ oF (by unfold oF; omega)
  · intro f b k hk hI
    have hGk := hG2 k
    show fX8_earliestHouse_b6 (f + 1) w (oW b) (oU R G b) (oi k) σ = fX8_earliestHouse_b6 f w (oW (sEs R G k b)) (oU R G (sEs R G k b)) (oi (k + 1)) σ
    rw [fX8_earliestHouse_b6, x_H h, if_neg (by rw [oi_le (by omega) (by omega)]; omega), lt6, if_neg (by rw [oi_le (by omega) (by omega)]; omega), ogi (by omega) (by omega), ogi (by omega) (by omega), oi_nat (by omega), hG k (by omega), yearOf_c h hk (by omega), obi_s, oi_succ]
    unfold sEs
    cases hy : sYr R k (G k) with
    | none => rw [if_pos (show oY none = -2 from rfl)]
    | some y =>
      have ey : y = yv R G k := sYr_some hy
      have ly := yv_le h.1.1 hk (show G k ≤ 100000 by omega)
      rw [if_neg (show ¬ oY (some y) = -2 from oi_m2 (by omega))]
      cases b with
      | none => rw [if_pos (show oW none = -1 from rfl), ey]; rfl
      | some e =>
        obtain ⟨i1, i2⟩ := hI e rfl
        have le := yv_le h.1.1 (show e < nn (R 3) by omega) (show G e ≤ 100000 by have := hG2 e; omega)
        rw [if_neg (show ¬ oW (some e) = -1 from oi_m1 (by omega))]
        show (if oi (yv R G e) ≤ oi y then _ else _) = fX8_earliestHouse_b6 f w (oW (if y < yv R G e then some k else some e)) (oU R G (if y < yv R G e then some k else some e)) _ σ
        rw [ite_iff (oi_le (by omega) (by omega))]
        by_cases c : y < yv R G e
        · rw [if_neg (by omega), if_pos c, ey]; rfl
        · rw [if_pos (by omega), if_neg c]
  · intro f b hI
    show fX8_earliestHouse_b6 (f + 1) w (oW b) (oU R G b) (oi _) σ = _
    rw [fX8_earliestHouse_b6, x_H h, if_pos ((oi_le (by omega) (by omega)).mpr (Nat.le_refl _))]
end
theorem turn_go_c {w : Nat} {R : Nat → Int32} {Z : Nat → Int64} {s : Nat → Int32} {i : Nat} (hi : i ≤ 99) : ∀ n a st m (σ : OM) (G : Nat → Nat), CX σ w R Z s → (∀ j, j < 6 → mI σ (w + 20) j = oi (G j)) → (∀ j, G j ≤ st) → a < n → st + a ≤ i → n ≤ m → ∃ σ1, fX8_houseAtTurn_b25 m w (oi i) (oi a) (oi st) σ = some (oE (sTf R (nn (R 3)) n G a), σ1) ∧ Ch (w + 20) σ σ1 := by
  intro n
  induction n with
  | zero => intro a st m σ G _ _ _ h1; omega
  | succ n ih =>
    intro a st m σ G h hG hG2 h1 h2 h3
    obtain ⟨m, rfl⟩ : ∃ m', m = m' + 1 := ⟨m - 1, by omega⟩
    have hH := x_Hb h
    rw [fX8_houseAtTurn_b25, if_neg (by rw [oi_lt (by omega) (by omega)]; omega), earliest_eq h hG (fun j => by have := hG2 j; omega), obi_s]
    unfold sTf
    have hall := sEs_all R G (nn (R 3))
    cases e : ofd (sEs R G) none (nn (R 3)) with
    | none =>
      rw [if_pos (show oW none < 0 by decide)]
      exact ⟨σ, rfl, ch_rfl _ _⟩
    | some k =>
      obtain ⟨k1, -⟩ := hall k e
      have hGk := hG2 k
      have l := sAi_le R k (G k)
      rw [show oW (some k) = oi k from rfl, if_neg (oi_nneg (by omega)), lt6, if_pos ((oi_lt (by omega) (by omega)).mpr (by omega)), ogi (by omega) (by omega), ogi (by omega) (by omega), oi_nat (by omega), hG k (by omega), askOf_eq h k1 (by omega), obi_s, ite_iff (sub_nn (by omega) (by omega))]
      show ∃ σ1, _ = some (oE (if a < sAi R k (G k) then some k else sTf R (nn (R 3)) n (gU G k) (a - sAi R k (G k))), σ1) ∧ _
      by_cases c : a < sAi R k (G k)
      · rw [if_neg (by omega), if_pos c]
        exact ⟨σ, rfl, ch_rfl _ _⟩
      · rw [if_pos (by omega), if_neg c, ogi (by omega) (by omega), ogi (by omega) (by omega), hG k (by omega), oi_succ, oi_sub (by omega), oi_succ]
        have hc := ch_I (w + 20) σ k (oi (G k + 1))
        obtain ⟨σ1, e1, e2⟩ := ih (a - sAi R k (G k)) (st + 1) m (sI σ (w + 20) k (oi (G k + 1))) (gU G k) (CX_ch hc h) (fun j hj => by
          rw [mI_sI]
          unfold gU
          by_cases ej : j = k
          · rw [if_pos ⟨rfl, ej⟩, if_pos ej, ej]
          · rw [if_neg (fun q => ej q.2), if_neg ej, hG j hj]) (fun j => by have := hG2 j; unfold gU; split <;> omega) (by omega) (by omega) (by omega)
        exact ⟨σ1, e1, ch_tr hc e2⟩
theorem turn_c {σ : OM} {w : Nat} {R : Nat → Int32} {Z : Nat → Int64} {s : Nat → Int32} (h : CX σ w R Z s) {i : Nat} (hi : i ≤ 99) : ∃ σ1, fX8_houseAtTurn w (oi i) σ = some (oE (sTf R (nn (R 3)) 100 (fun _ => 0) i), σ1) ∧ Ch (w + 20) σ σ1 := by
  have go : ∀ d k m (τ : OM), k + d = 6 → d < m → Ch (w + 20) σ τ → (∀ j, j < k → mI τ (w + 20) j = oi 0) → ∃ σ1, fX8_houseAtTurn_b2 m w (oi i) (oi k) τ = some (oE (sTf R (nn (R 3)) 100 (fun _ => 0) i), σ1) ∧ Ch (w + 20) σ σ1 := by
    intro d
    induction d with
    | zero =>
      intro k m τ h1 h2 h3 h4
      obtain ⟨m, rfl⟩ : ∃ m', m = m' + 1 := ⟨m - 1, by omega⟩
      have hk : k = 6 := by omega
      subst hk
      rw [fX8_houseAtTurn_b2, if_pos (by decide)]
      obtain ⟨σ1, e1, e2⟩ := turn_go_c (R := R) (Z := Z) (s := s) hi 100 i 0 oF τ (fun _ => 0) (CX_ch h3 h) (fun j hj => h4 j hj) (fun _ => Nat.le_refl _) (by omega) (by omega) (by unfold oF; omega)
      exact ⟨σ1, e1, ch_tr h3 e2⟩
    | succ d ih =>
      intro k m τ h1 h2 h3 h4
      obtain ⟨m, rfl⟩ : ∃ m', m = m' + 1 := ⟨m - 1, by omega⟩
      rw [fX8_houseAtTurn_b2, lt6, if_neg (by rw [oi_le (by omega) (by omega)]; omega), ogi (by omega) (by omega), oi_nat (by omega), oi_succ]
      refine ih (k + 1) m _ (by omega) (by omega) (ch_tr h3 (ch_I _ _ _ _)) (fun j hj => ?_)
      rw [mI_sI]
      by_cases ej : j = k
      · rw [if_pos ⟨rfl, ej⟩]; rfl
      · rw [if_neg (fun q => ej q.2)]; exact h4 j (by omega)
  exact go 6 0 oF σ rfl (by unfold oF; omega) (ch_rfl _ _) (fun j hj => absurd hj (by omega))
theorem turn_in_r {τ : OM} (h : RB τ) {G : Nat → Nat} (hG : ∀ j, j < 6 → mI τ 93 j = oi (G j)) (hG2 : ∀ j, G j ≤ 1000) (rc : Int32 → OM → Option (Int32 × OM)) (a : Nat) : fX10_turnOf_b61 rc oF (oi a) (-1) (oi 0) τ = fX10_turnOf_b130 rc (oi a) (oW (ofd (sEs (mI τ 84) G) none (nn (mI τ 84 3)))) τ := by
  have hH := h.2.1.1.2.2.1
  have hHb := hH.2
  refine lup (g := fun f (b : Option Nat) k => fX10_turnOf_b61 rc f (oi a) (oW b) (oi k) τ) (a := none) (step := sEs (mI τ 84) G) (fin := fun b => fX10_turnOf_b130 rc (oi a) (oW b) τ) (n := nn (mI τ 84 3)) (I := fun n b => ∀ m, b = some m → m < n ∧ sYr (mI τ 84) m (G m) = some (yv (mI τ 84) G m)) (fun m e => by cases e) (fun k b _ hb => sEs_ok _ G hb) ?_ ?_ oF (by unfold oF; omega)
  · intro f b k hk hI
    have hGk := hG2 k
    show fX10_turnOf_b61 rc (f + 1) (oi a) (oW b) (oi k) τ = fX10_turnOf_b61 rc f (oi a) (oW (sEs (mI τ 84) G k b)) (oi (k + 1)) τ
    rw [fX10_turnOf_b61, hH.1, if_neg (by rw [oi_le (by omega) (by omega)]; omega), ogi (by omega) (by omega), oi_nat (by omega), hG k (by omega), yearOf_r h hk (by omega), obi_s, oi_succ]
    unfold sEs
    cases hy : sYr (mI τ 84) k (G k) with
    | none => rw [if_pos (show oY none = -2 from rfl)]
    | some y =>
      have ey : y = yv (mI τ 84) G k := sYr_some hy
      have ly := yv_le h.2.1 hk (show G k ≤ 100000 by omega)
      rw [if_neg (show ¬ oY (some y) = -2 from oi_m2 (by omega))]
      cases b with
      | none => rw [if_pos (show oW none < 0 by decide)]; rfl
      | some e =>
        obtain ⟨i1, i2⟩ := hI e rfl
        have hGe := hG2 e
        have le := yv_le h.2.1 (show e < nn (mI τ 84 3) by omega) (show G e ≤ 100000 by omega)
        rw [show oW (some e) = oi e from rfl, if_neg (oi_nneg (by omega)), ogi (by omega) (by omega), hG k (by omega), yearOf_r h hk (by omega), obi_s, ogi (by omega) (by omega), oi_nat (by omega), hG e (by omega), yearOf_r h (by omega) (by omega), obi_s, i2, hy]
        show (if oi (yv (mI τ 84) G e) ≤ oi y then _ else _) = fX10_turnOf_b61 rc f (oi a) (oW (if y < yv (mI τ 84) G e then some k else some e)) _ τ
        rw [ite_iff (oi_le (by omega) (by omega))]
        by_cases c : y < yv (mI τ 84) G e
        · rw [if_neg (by omega), if_pos c]; rfl
        · rw [if_pos (by omega), if_neg c]; rfl
  · intro f b hI
    show fX10_turnOf_b61 rc (f + 1) (oi a) (oW b) (oi _) τ = _
    rw [fX10_turnOf_b61, hH.1, nn_oi (nn_lt _), if_pos ((oi_le (by omega) (by omega)).mpr (Nat.le_refl _))]
theorem turn_go_r : ∀ n a st m (τ : OM) (G : Nat → Nat), RB τ → (∀ j, j < 6 → mI τ 93 j = oi (G j)) → (∀ j, G j ≤ st) → a < n → st + a ≤ 99 → n ≤ m → ∃ σ1, fX10_turnOf_b56 m (oi a) τ = some (oE (sTf (mI τ 84) (nn (mI τ 84 3)) n G a), σ1) ∧ Ch 93 τ σ1 := by
  intro n
  induction n with
  | zero => intro a st m σ G _ _ _ h1; omega
  | succ n ih =>
    intro a st m τ G h hG hG2 h1 h2 h3
    obtain ⟨m, rfl⟩ : ∃ m', m = m' + 1 := ⟨m - 1, by omega⟩
    have hH := h.2.1.1.2.2.1.2
    rw [fX10_turnOf_b56, show (0 : Int32) = oi 0 from rfl, turn_in_r h hG (fun j => by have := hG2 j; omega)]
    unfold sTf fX10_turnOf_b130
    have hall := sEs_all (mI τ 84) G (nn (mI τ 84 3))
    cases e : ofd (sEs (mI τ 84) G) none (nn (mI τ 84 3)) with
    | none =>
      rw [if_neg (show ¬ 0 ≤ oW none by decide)]
      exact ⟨τ, rfl, ch_rfl _ _⟩
    | some k =>
      obtain ⟨k1, -⟩ := hall k e
      have hGk := hG2 k
      have l := sAi_le (mI τ 84) k (G k)
      rw [show oW (some k) = oi k from rfl, if_pos (show (0 : Int32) ≤ oi k by rw [show (0 : Int32) = oi 0 from rfl, oi_le (by omega) (by omega)]; omega), ogi (by omega) (by omega), oi_nat (by omega), hG k (by omega), askIn_eq h (by omega) (by omega), obi_s, ite_iff (sub_nn (by omega) (by omega))]
      show ∃ σ1, _ = some (oE (if a < sAi (mI τ 84) k (G k) then some k else sTf (mI τ 84) (nn (mI τ 84 3)) n (gU G k) (a - sAi (mI τ 84) k (G k))), σ1) ∧ _
      by_cases c : a < sAi (mI τ 84) k (G k)
      · rw [if_neg (by omega), if_pos c]
        exact ⟨τ, rfl, ch_rfl _ _⟩
      · rw [if_pos (by omega), if_neg c, ogi (by omega) (by omega), ogi (by omega) (by omega), hG k (by omega), oi_succ, oi_sub (by omega)]
        have hc := ch_I 93 τ k (oi (G k + 1))
        have e84 : mI (sI τ 93 k (oi (G k + 1))) 84 = mI τ 84 := funext fun j => hc.1 84 j (by omega)
        obtain ⟨σ1, e1, e2⟩ := ih (a - sAi (mI τ 84) k (G k)) (st + 1) m (sI τ 93 k (oi (G k + 1))) (gU G k) (RB_ch hc h) (fun j hj => by
          rw [mI_sI]
          unfold gU
          by_cases ej : j = k
          · rw [if_pos ⟨rfl, ej⟩, if_pos ej, ej]
          · rw [if_neg (fun q => ej q.2), if_neg ej, hG j hj]) (fun j => by have := hG2 j; unfold gU; split <;> omega) (by omega) (by omega) (by omega)
        rw [e84] at e1
        exact ⟨σ1, e1, ch_tr hc e2⟩
theorem turn_r {τ : OM} (h : RB τ) {i : Nat} (hi : i ≤ 99) : ∃ σ1, fX10_turnOf_b35 oF (oi i) (oi 0) τ = some (oE (sTf (mI τ 84) (nn (mI τ 84 3)) 100 (fun _ => 0) i), σ1) ∧ Ch 93 τ σ1 := by
  have go : ∀ d k m (υ : OM), k + d = 6 → d < m → Ch 93 τ υ → (∀ j, j < k → mI υ 93 j = oi 0) → ∃ σ1, fX10_turnOf_b35 m (oi i) (oi k) υ = some (oE (sTf (mI τ 84) (nn (mI τ 84 3)) 100 (fun _ => 0) i), σ1) ∧ Ch 93 τ σ1 := by
    intro d
    induction d with
    | zero =>
      intro k m υ h1 h2 h3 h4
      obtain ⟨m, rfl⟩ : ∃ m', m = m' + 1 := ⟨m - 1, by omega⟩
      have hk : k = 6 := by omega
      subst hk
      rw [fX10_turnOf_b35, if_pos (by decide)]
      have e84 : mI υ 84 = mI τ 84 := funext fun j => h3.1 84 j (by omega)
      obtain ⟨σ1, e1, e2⟩ := turn_go_r 100 i 0 oF υ (fun _ => 0) (RB_ch h3 h) (fun j hj => h4 j hj) (fun _ => Nat.le_refl _) (by omega) (by omega) (by unfold oF; omega)
      rw [e84] at e1
      exact ⟨σ1, e1, ch_tr h3 e2⟩
    | succ d ih =>
      intro k m υ h1 h2 h3 h4
      obtain ⟨m, rfl⟩ : ∃ m', m = m' + 1 := ⟨m - 1, by omega⟩
      rw [fX10_turnOf_b35, lt6, if_neg (by rw [oi_le (by omega) (by omega)]; omega), ogi (by omega) (by omega), oi_nat (by omega), oi_succ]
      refine ih (k + 1) m _ (by omega) (by omega) (ch_tr h3 (ch_I _ _ _ _)) (fun j hj => ?_)
      rw [mI_sI]
      by_cases ej : j = k
      · rw [if_pos ⟨rfl, ej⟩]; rfl
      · rw [if_neg (fun q => ej q.2)]; exact h4 j (by omega)
  exact go 6 0 oF τ rfl (by unfold oF; omega) (ch_rfl _ _) (fun j hj => absurd hj (by omega))
theorem ch_eqv {c : Nat} {σ σ1 : OM} (hc : c = 21 ∨ c = 42 ∨ c = 93) (h : Ch c σ σ1) : Eqv σ σ1 := by
  refine ⟨fun a j q => h.1 a j ?_, fun a j _ => by rw [h.2.1], fun a j _ => by rw [h.2.2]⟩
  intro e
  apply q
  unfold scr
  omega
theorem PL_ch {c n : Nat} {σ σ1 : OM} (hc : c = 21 ∨ c = 42) (h : Ch c σ σ1) (hp : PL n σ) : PL (n + 1) σ1 := by
  obtain ⟨p, p1, p2, p3⟩ := hp
  exact ⟨p, by omega, by rw [h.1 _ _ (by omega)]; exact p2, fun j hj => by rw [h.1 _ _ (by omega)]; exact p3 j hj⟩
theorem m_turnOf (n : Nat) (x : Int32) : okC n (fX9_turnOf x) (fX10_turnOf x) := by
  refine look ?_ ?_
  · intro σ w hw h0 hk h
    obtain ⟨h7, h14, hC, -, -⟩ := h
    unfold fX9_turnOf
    rw [if_neg (by rw [h7]; decide)]
    have ref : ∀ b : Bool, oin x 100 = b → ∀ σ', Eqv σ σ' → WI σ' w → b = false → ∃ σ2, fX10_turnOf x σ' = some (-1, σ2) ∧ Eqv σ' σ2 ∧ (∀ j, mI σ2 60 j = mI σ' 60 j) ∧ mI σ2 56 9 = mI σ' 56 9 ∧ mI σ2 0 9 = mI σ' 0 9 ∧ mI σ2 81 11 = 2 := by
      intro b hb σ' he h' hf
      subst hf
      unfold fX10_turnOf
      rw [good_eq, obv_s, if_neg (by rw [gd_14, h'.2.1]; decide), show fX10_in x 0 99 (gd σ') = fX10_in x 0 (oi 100 - 1) (gd σ') from rfl, in_r x (N := 100) (by decide), obi_s, hb, if_pos (by decide)]
      exact ⟨ft 2 (gd σ'), rfl, ft_eqv _ _, fun j => ft_o _ _ (by decide), ft_o _ _ (by decide), ft_o _ _ (by decide), ft_11 _ _⟩
    cases hb : oin x 100
    · refine ⟨-1, 2, sI σ 0 9 2, ?_, eqv_I (eqv_rfl σ) (by unfold scr; omega) _, fun n hp => PL_9 _ hp, mI_at, by decide, fun σ' he h' => ref _ hb σ' he h' rfl⟩
      rcases oi_cases x with hx | ⟨b, hb2, rfl⟩
      · rw [if_pos hx]; rfl
      · rw [oin_oi hb2] at hb
        have := of_decide_eq_false hb
        rw [if_neg (oi_nneg hb2), show (99 : Int32) = oi 99 from rfl, if_neg (by rw [oi_le hb2 (by omega)]; omega)]; rfl
    · obtain ⟨b, hb1, hb2, rfl⟩ := oin_iff hb
      rw [if_neg (oi_nneg hb2), show (99 : Int32) = oi 99 from rfl, if_pos (by rw [oi_le hb2 (by omega)]; omega), h0, ogd_d hk]
      obtain ⟨σ1, e1, e2⟩ := turn_c hC.1 (show b ≤ 99 by omega)
      rw [e1, obi_s]
      refine ⟨_, 0, sI σ1 0 9 0, rfl, eqv_I (ch_eqv (by omega) e2) (by unfold scr; omega) _, fun n hp => ?_, mI_at, by decide, fun σ' he h' => ?_⟩
      · obtain ⟨p, p1, p2, p3⟩ := PL_ch (by omega) e2 hp
        exact ⟨p, p1, by rw [mI_sI, if_neg (by omega)]; exact p2, fun j hj => by rw [mI_sI, if_neg (by omega)]; exact p3 j hj⟩
      · unfold fX10_turnOf
        rw [good_eq, obv_s, if_neg (by rw [gd_14, h'.2.1]; decide), show fX10_in (oi b) 0 (99 : Int32) (gd σ') = fX10_in (oi b) 0 (oi 100 - 1) (gd σ') from rfl, in_r _ (N := 100) (by decide), obi_s, hb, if_neg (by decide)]
        obtain ⟨σ2, g1, g2⟩ := turn_r (RB_gd (RB_of h')) (show b ≤ 99 by omega)
        obtain ⟨r1, r2, r3⟩ := eqv_row he
        rw [gd_84, r1] at g1
        refine ⟨σ2, g1, eqv_tr (ft_eqv 0 σ') (ch_eqv (by omega) g2), fun j => ?_, ?_, ?_, ?_⟩
        · rw [g2.1 _ _ (by omega)]; exact ft_o 0 σ' (by decide)
        · rw [g2.1 _ _ (by omega)]; exact ft_o 0 σ' (by decide)
        · rw [g2.1 _ _ (by omega)]; exact ft_o 0 σ' (by decide)
        · rw [g2.1 _ _ (by omega)]; exact ft_11 0 σ'
  · intro σ w hw h0 hk h
    refine ⟨-1, 1, sI σ 0 9 1, ?_, eqv_I (eqv_rfl σ) (by unfold scr; omega) _, fun n hp => PL_9 _ hp, mI_at, by decide, fun σ' he h' => ?_⟩
    · unfold fX9_turnOf
      rw [if_pos h.1.1]; rfl
    · unfold fX10_turnOf
      rw [good_eq, obv_s, if_pos (by rw [gd_14]; exact h'.1.2.1)]
      exact ⟨ft 1 (gd σ'), rfl, ft_eqv _ _, fun j => ft_o _ _ (by decide), ft_o _ _ (by decide), ft_o _ _ (by decide), ft_11 _ _⟩
