def oin (i : Int32) (n : Nat) : Bool := !(decide (i < 0)) && decide (i.toNatClampNeg < n)
theorem oin_vp {i : Int32} {n : Nat} (h : oin i n = true) : vp_in i n := by
  unfold oin at h
  rw [Bool.and_eq_true] at h
  intro h1
  rcases h1 with h1 | h1
  · have h2 := h.1
    simp [h1] at h2
  · have h2 := of_decide_eq_true h.2
    omega
theorem oct_obj {g : OG} {σ : OM} {a ci : Nat} (h : okd a = ci) (hc : ci < 20) : oct g σ a = .inr (ci, (List.range (onf ci)).map (ofv g σ a ci)) := by
  subst h
  unfold oct
  rw [if_neg (by omega), if_neg (by omega), if_neg (by omega), if_neg (by omega), if_neg (by omega), if_neg (by omega)]
theorem oct_20 {g : OG} {σ : OM} {a : Nat} (h : okd a = 20) : oct g σ a = .inl (g.2.2.2.1 0, oln a, .inl (fun j => mI σ a j)) := by
  unfold oct
  rw [if_pos h]
theorem oct_21 {g : OG} {σ : OM} {a : Nat} (h : okd a = 21) : oct g σ a = .inl (g.2.2.2.1 1, oln a, .inr (.inl (fun j => mL σ a j))) := by
  unfold oct
  rw [if_neg (by omega), if_pos h]
theorem oct_22 {g : OG} {σ : OM} {a : Nat} (h : okd a = 22) : oct g σ a = .inl (g.2.2.2.1 2, oln a, .inl (fun j => mI σ a j)) := by
  unfold oct
  rw [if_neg (by omega), if_neg (by omega), if_pos h]
theorem oct_23 {g : OG} {σ : OM} {a : Nat} (h : okd a = 23) : oct g σ a = .inl (g.2.2.2.1 3, oln a, .inl (fun j => mI σ a j)) := by
  unfold oct
  rw [if_neg (by omega), if_neg (by omega), if_neg (by omega), if_pos h]
theorem oct_24 {g : OG} {σ : OM} {a : Nat} (h : okd a = 24) : oct g σ a = .inl (g.2.2.2.1 4, oln a, .inr (.inr (.inr (.inr (fun j => some (g.1 (ocr a j))))))) := by
  unfold oct
  rw [if_neg (by omega), if_neg (by omega), if_neg (by omega), if_neg (by omega), if_pos h]
theorem oct_25 {g : OG} {σ : OM} {a : Nat} (h : okd a = 25) : oct g σ a = .inl (g.2.2.2.1 5, oln a, .inr (.inr (.inr (.inr (fun j => some (g.1 (ocr a j))))))) := by
  unfold oct
  rw [if_neg (by omega), if_neg (by omega), if_neg (by omega), if_neg (by omega), if_neg (by omega), if_pos h]
theorem sI_ne {σ : OM} {a j b : Nat} {v : Int32} (h : b ≠ a) (k : Nat) : mI (sI σ a j v) b k = mI σ b k := by
  show (if b = a ∧ k = j then v else _) = _
  rw [if_neg (fun e => h e.1)]
  rfl
theorem sI_nj {σ : OM} {a j b k : Nat} {v : Int32} (h : k ≠ j) : mI (sI σ a j v) b k = mI σ b k := by
  show (if b = a ∧ k = j then v else _) = _
  rw [if_neg (fun e => h e.2)]
  rfl
theorem sI_at {σ : OM} {a j : Nat} {v : Int32} : mI (sI σ a j v) a j = v := by
  show (if a = a ∧ j = j then v else _) = _
  rw [if_pos ⟨rfl, rfl⟩]
theorem oct_sI_ne {g : OG} {σ : OM} {a j b : Nat} {v : Int32} (h : b ≠ a) : oct g (sI σ a j v) b = oct g σ b := by
  have h1 : ∀ k, mI (sI σ a j v) b k = mI σ b k := fun k => sI_ne h k
  have h4 : ofv g (sI σ a j v) b (okd b) = ofv g σ b (okd b) := funext (fun k => by unfold ofv; rw [h1]; rfl)
  unfold oct
  simp only [h1, h4]
  rfl
theorem sL_ne {σ : OM} {a j b : Nat} {v : Int64} (h : b ≠ a) (k : Nat) : mL (sL σ a j v) b k = mL σ b k := by
  show (if b = a ∧ k = j then v else _) = _
  rw [if_neg (fun e => h e.1)]
  rfl
theorem sL_nj {σ : OM} {a j b k : Nat} {v : Int64} (h : k ≠ j) : mL (sL σ a j v) b k = mL σ b k := by
  show (if b = a ∧ k = j then v else _) = _
  rw [if_neg (fun e => h e.2)]
  rfl
theorem sL_at {σ : OM} {a j : Nat} {v : Int64} : mL (sL σ a j v) a j = v := by
  show (if a = a ∧ j = j then v else _) = _
  rw [if_pos ⟨rfl, rfl⟩]
theorem oct_sL_ne {g : OG} {σ : OM} {a j b : Nat} {v : Int64} (h : b ≠ a) : oct g (sL σ a j v) b = oct g σ b := by
  have h1 : ∀ k, mL (sL σ a j v) b k = mL σ b k := fun k => sL_ne h k
  have h4 : ofv g (sL σ a j v) b (okd b) = ofv g σ b (okd b) := funext (fun k => by unfold ofv; rw [h1]; rfl)
  unfold oct
  simp only [h1, h4]
  rfl
theorem sR_ne {σ : OM} {a j b : Nat} {v : Nat} (h : b ≠ a) (k : Nat) : mR (sR σ a j v) b k = mR σ b k := by
  show (if b = a ∧ k = j then v else _) = _
  rw [if_neg (fun e => h e.1)]
  rfl
theorem sR_nj {σ : OM} {a j b k : Nat} {v : Nat} (h : k ≠ j) : mR (sR σ a j v) b k = mR σ b k := by
  show (if b = a ∧ k = j then v else _) = _
  rw [if_neg (fun e => h e.2)]
  rfl
theorem sR_at {σ : OM} {a j : Nat} {v : Nat} : mR (sR σ a j v) a j = v := by
  show (if a = a ∧ j = j then v else _) = _
  rw [if_pos ⟨rfl, rfl⟩]
theorem oct_sR_ne {g : OG} {σ : OM} {a j b : Nat} {v : Nat} (h : b ≠ a) : oct g (sR σ a j v) b = oct g σ b := by
  have h1 : ∀ k, mR (sR σ a j v) b k = mR σ b k := fun k => sR_ne h k
  have h4 : ofv g (sR σ a j v) b (okd b) = ofv g σ b (okd b) := funext (fun k => by unfold ofv; rw [h1]; rfl)
  unfold oct
  simp only [h1, h4]
  rfl
theorem ofl_sI {g : OG} {σ : OM} {a ci j : Nat} {v : Int32} (ht : oft ci j = 0) : ((List.range (onf ci)).map (ofv g σ a ci)).set j (.int v) = (List.range (onf ci)).map (ofv g (sI σ a j v) a ci) := by
  apply List.ext_getElem?
  intro i
  rw [List.getElem?_set, List.getElem?_map, List.getElem?_map]
  by_cases h : j = i
  · subst h
    rw [if_pos rfl]
    by_cases h2 : j < onf ci
    · rw [List.getElem?_range h2]
      simp only [List.length_map, List.length_range, h2, if_true, Option.map_some]
      unfold ofv
      simp [ht, sI_at]
    · have h3 : (List.range (onf ci))[j]? = none := by simp; omega
      rw [h3]
      simp [h2]
  · rw [if_neg h]
    have h5 : ∀ k, k = i → ofv g (sI σ a j v) a ci k = ofv g σ a ci k := fun k hk => by
      unfold ofv
      rw [sI_nj (fun e => h (e.symm.trans hk))]
      rfl
    cases hr : (List.range (onf ci))[i]? with
    | none => rfl
    | some k =>
      have hk : k = i := by
        have := List.getElem?_eq_some_iff.mp hr
        obtain ⟨h6, h7⟩ := this
        simpa using h7.symm
      show some _ = some _
      rw [h5 k hk]
theorem ofl_sL {g : OG} {σ : OM} {a ci j : Nat} {v : Int64} (ht : oft ci j = 1) : ((List.range (onf ci)).map (ofv g σ a ci)).set j (.long v) = (List.range (onf ci)).map (ofv g (sL σ a j v) a ci) := by
  apply List.ext_getElem?
  intro i
  rw [List.getElem?_set, List.getElem?_map, List.getElem?_map]
  by_cases h : j = i
  · subst h
    rw [if_pos rfl]
    by_cases h2 : j < onf ci
    · rw [List.getElem?_range h2]
      simp only [List.length_map, List.length_range, h2, if_true, Option.map_some]
      unfold ofv
      simp [ht, sL_at]
    · have h3 : (List.range (onf ci))[j]? = none := by simp; omega
      rw [h3]
      simp [h2]
  · rw [if_neg h]
    have h5 : ∀ k, k = i → ofv g (sL σ a j v) a ci k = ofv g σ a ci k := fun k hk => by
      unfold ofv
      rw [sL_nj (fun e => h (e.symm.trans hk))]
      rfl
    cases hr : (List.range (onf ci))[i]? with
    | none => rfl
    | some k =>
      have hk : k = i := by
        have := List.getElem?_eq_some_iff.mp hr
        obtain ⟨h6, h7⟩ := this
        simpa using h7.symm
      show some _ = some _
      rw [h5 k hk]
theorem ofl_sR {g : OG} {σ : OM} {a ci j : Nat} {v : Nat} (ht : oft ci j = 2) : ((List.range (onf ci)).map (ofv g σ a ci)).set j (.ref (g.1 v)) = (List.range (onf ci)).map (ofv g (sR σ a j v) a ci) := by
  apply List.ext_getElem?
  intro i
  rw [List.getElem?_set, List.getElem?_map, List.getElem?_map]
  by_cases h : j = i
  · subst h
    rw [if_pos rfl]
    by_cases h2 : j < onf ci
    · rw [List.getElem?_range h2]
      simp only [List.length_map, List.length_range, h2, if_true, Option.map_some]
      unfold ofv
      simp [ht, sR_at]
    · have h3 : (List.range (onf ci))[j]? = none := by simp; omega
      rw [h3]
      simp [h2]
  · rw [if_neg h]
    have h5 : ∀ k, k = i → ofv g (sR σ a j v) a ci k = ofv g σ a ci k := fun k hk => by
      unfold ofv
      rw [sR_nj (fun e => h (e.symm.trans hk))]
      rfl
    cases hr : (List.range (onf ci))[i]? with
    | none => rfl
    | some k =>
      have hk : k = i := by
        have := List.getElem?_eq_some_iff.mp hr
        obtain ⟨h6, h7⟩ := this
        simpa using h7.symm
      show some _ = some _
      rw [h5 k hk]
def oFL (own : String) (idx ci j t : Nat) : Prop := ∃ (C : String) (T : u_T), vwCl[ci]? = some (C, T, onf ci) ∧ (∀ w ∈ u_ws C T (onf ci), w ∈ otb) ∧ j < onf ci ∧ oft ci j = t ∧ ci < 20 ∧ Cond.fieldLink own idx (T j).1 (T j).2.1 (T j).2.2.1 ∈ otb
def oFP (own : String) (idx ci j t : Nat) (ty : FieldType) : Prop := ∃ (C : String) (T : u_T) (ty0 : Nat → FieldType), vwCl[ci]? = some (C, T, onf ci) ∧ (∀ w ∈ u_ws C T (onf ci), w ∈ otb) ∧ j < onf ci ∧ oft ci j = t ∧ ci < 20 ∧ Cond.fieldLink own idx (T j).1 (T j).2.1 (T j).2.2.1 ∈ otb ∧ (∀ k, k < onf ci → parseFieldDescriptor (T k).2.2.1 = some (ty0 k)) ∧ (∀ a, a < onf ci → ∀ b, b < onf ci → a ≠ b → (T a).2.1 ≠ (T b).2.1) ∧ (T j).2.2.2 = false ∧ parseFieldDescriptor (T j).2.2.1 = some ty
section
variable {K : OK} {cc : ByteArray} {pc : Nat} {lv st : List Value} {σ : OM} {own : String} {idx ci j : Nat} {a b : Nat}
theorem go_getI (hc : kcc K = cc) (ho : kow K = own) (L : oFL own idx ci j 0) (d : decode cc pc = .ok (.getfield idx, 3)) (ha : okd a = ci) (k : Go K (pc + 3) lv (.int (mI σ a j) :: st) σ) : Go K pc lv (.ref a :: st) σ := fun ok hk1 hk2 H locs ls hW hS hl => by
  obtain ⟨C, T, h1, h2, h3, h4, h5, h6⟩ := L
  have hlt := okd_lt ha (by omega)
  have he : (owl (kg K) σ)[a]? = some ((kg K).1 a, .inr (ci, (List.range (onf ci)).map (ofv (kg K) σ a ci))) := by rw [owl_at _ _ hlt, oct_obj ha h5]
  refine va_get (D := oDD (kg K)) (cl := vwCl) (tys := oty (kg K)) (C := C) (T := T) (N := onf ci) (v := .int (mI σ a j)) ok.1 (ok.2.1.trans hc) ok.2.2.2.2.1 h2 (ho ▸ ok.2.2.2.1) ok.2.2.2.2.2.2.1.1 hW a he h1 j h3 (ok.2.2.2.2.1 _ h6) (fun _ h9 => h9) ?_ d (k ok hk1 hk2 H locs ls hW hS hl)
  rw [List.getElem?_map, List.getElem?_range h3]
  show some (ofv (kg K) σ a ci j) = _
  unfold ofv
  rw [h4]
  rfl
theorem go_getL (hc : kcc K = cc) (ho : kow K = own) (L : oFL own idx ci j 1) (d : decode cc pc = .ok (.getfield idx, 3)) (ha : okd a = ci) (k : Go K (pc + 3) lv (.long (mL σ a j) :: st) σ) : Go K pc lv (.ref a :: st) σ := fun ok hk1 hk2 H locs ls hW hS hl => by
  obtain ⟨C, T, h1, h2, h3, h4, h5, h6⟩ := L
  have hlt := okd_lt ha (by omega)
  have he : (owl (kg K) σ)[a]? = some ((kg K).1 a, .inr (ci, (List.range (onf ci)).map (ofv (kg K) σ a ci))) := by rw [owl_at _ _ hlt, oct_obj ha h5]
  refine va_get (D := oDD (kg K)) (cl := vwCl) (tys := oty (kg K)) (C := C) (T := T) (N := onf ci) (v := .long (mL σ a j)) ok.1 (ok.2.1.trans hc) ok.2.2.2.2.1 h2 (ho ▸ ok.2.2.2.1) ok.2.2.2.2.2.2.1.1 hW a he h1 j h3 (ok.2.2.2.2.1 _ h6) (fun _ h9 => h9) ?_ d (k ok hk1 hk2 H locs ls hW hS hl)
  rw [List.getElem?_map, List.getElem?_range h3]
  show some (ofv (kg K) σ a ci j) = _
  unfold ofv
  rw [h4]
  rfl
theorem go_getR (hc : kcc K = cc) (ho : kow K = own) (L : oFL own idx ci j 2) (d : decode cc pc = .ok (.getfield idx, 3)) (ha : okd a = ci) (k : Go K (pc + 3) lv (.ref (mR σ a j) :: st) σ) : Go K pc lv (.ref a :: st) σ := fun ok hk1 hk2 H locs ls hW hS hl => by
  obtain ⟨C, T, h1, h2, h3, h4, h5, h6⟩ := L
  have hlt := okd_lt ha (by omega)
  have he : (owl (kg K) σ)[a]? = some ((kg K).1 a, .inr (ci, (List.range (onf ci)).map (ofv (kg K) σ a ci))) := by rw [owl_at _ _ hlt, oct_obj ha h5]
  refine va_get (D := oDD (kg K)) (cl := vwCl) (tys := oty (kg K)) (C := C) (T := T) (N := onf ci) (v := .ref ((kg K).1 (mR σ a j))) ok.1 (ok.2.1.trans hc) ok.2.2.2.2.1 h2 (ho ▸ ok.2.2.2.1) ok.2.2.2.2.2.2.1.1 hW a he h1 j h3 (ok.2.2.2.2.1 _ h6) (fun _ h9 => h9) ?_ d (k ok hk1 hk2 H locs ls hW hS hl)
  rw [List.getElem?_map, List.getElem?_range h3]
  show some (ofv (kg K) σ a ci j) = _
  unfold ofv
  rw [h4]
  rfl
theorem go_getC {b : Nat} (e : ocr a j = b) (hc : kcc K = cc) (ho : kow K = own) (L : oFL own idx ci j 3) (d : decode cc pc = .ok (.getfield idx, 3)) (ha : okd a = ci) (k : Go K (pc + 3) lv (.ref b :: st) σ) : Go K pc lv (.ref a :: st) σ := fun ok hk1 hk2 H locs ls hW hS hl => by
  obtain ⟨C, T, h1, h2, h3, h4, h5, h6⟩ := L
  have hlt := okd_lt ha (by omega)
  have he : (owl (kg K) σ)[a]? = some ((kg K).1 a, .inr (ci, (List.range (onf ci)).map (ofv (kg K) σ a ci))) := by rw [owl_at _ _ hlt, oct_obj ha h5]
  refine va_get (D := oDD (kg K)) (cl := vwCl) (tys := oty (kg K)) (C := C) (T := T) (N := onf ci) (v := .ref ((kg K).1 b)) ok.1 (ok.2.1.trans hc) ok.2.2.2.2.1 h2 (ho ▸ ok.2.2.2.1) ok.2.2.2.2.2.2.1.1 hW a he h1 j h3 (ok.2.2.2.2.1 _ h6) (fun _ h9 => h9) ?_ d (k ok hk1 hk2 H locs ls hW hS hl)
  rw [List.getElem?_map, List.getElem?_range h3]
  show some (ofv (kg K) σ a ci j) = _
  unfold ofv
  rw [h4, e]
  rfl
theorem go_putI (hc : kcc K = cc) (ho : kow K = own) {ty : FieldType} (L : oFP own idx ci j 0 ty) (d : decode cc pc = .ok (.putfield idx, 3)) (ha : okd a = ci) {x : Int32} (hn : ∀ g : OG, narrow ty (otr g (.int x)) = otr g (.int x)) (hf : ∀ g : OG, fits ty (otr g (.int x)) = true) (k : Go K (pc + 3) lv st (sI σ a j x)) : Go K pc lv (.int x :: .ref a :: st) σ := fun ok hk1 hk2 H locs ls hW hS hl => by
  obtain ⟨C, T, ty0, h1, h2, h3, h4, h5, h6, h7, h8, h9, h10⟩ := L
  have hlt := okd_lt ha (by omega)
  have he : (owl (kg K) σ)[a]? = some ((kg K).1 a, .inr (ci, (List.range (onf ci)).map (ofv (kg K) σ a ci))) := by rw [owl_at _ _ hlt, oct_obj ha h5]
  have hset : (owl (kg K) σ).set a ((kg K).1 a, .inr (ci, ((List.range (onf ci)).map (ofv (kg K) σ a ci)).set j (.int x))) = owl (kg K) (sI σ a j x) :=
    owl_set (by rw [ofl_sI h4, oct_obj ha h5]) (fun b hb => oct_sI_ne hb)
  refine va_put (D := oDD (kg K)) (cl := vwCl) (tys := oty (kg K)) (C := C) (T := T) (N := onf ci) (v := .int x) (ty := ty) ok.1 (ok.2.1.trans hc) ok.2.2.2.2.1 h2 ty0 h7 h8 (ho ▸ ok.2.2.2.1) ok.2.2.2.2.2.2.1.1 hW (oG_D ok.2.2.2.2.2.1 σ) hS a he h1 j h3 (ok.2.2.2.2.1 _ h6) (fun _ h => h) h9 h10 (hn (kg K)) (hf (kg K)) (by simp [h3]) d (fun H1 locs1 hP1 _ hS1 => k ok hk1 hk2 H1 locs1 ls ?_ hS1 hl)
  rw [hset] at hP1
  exact hP1
theorem go_putL (hc : kcc K = cc) (ho : kow K = own) {ty : FieldType} (L : oFP own idx ci j 1 ty) (d : decode cc pc = .ok (.putfield idx, 3)) (ha : okd a = ci) {x : Int64} (hn : ∀ g : OG, narrow ty (otr g (.long x)) = otr g (.long x)) (hf : ∀ g : OG, fits ty (otr g (.long x)) = true) (k : Go K (pc + 3) lv st (sL σ a j x)) : Go K pc lv (.long x :: .ref a :: st) σ := fun ok hk1 hk2 H locs ls hW hS hl => by
  obtain ⟨C, T, ty0, h1, h2, h3, h4, h5, h6, h7, h8, h9, h10⟩ := L
  have hlt := okd_lt ha (by omega)
  have he : (owl (kg K) σ)[a]? = some ((kg K).1 a, .inr (ci, (List.range (onf ci)).map (ofv (kg K) σ a ci))) := by rw [owl_at _ _ hlt, oct_obj ha h5]
  have hset : (owl (kg K) σ).set a ((kg K).1 a, .inr (ci, ((List.range (onf ci)).map (ofv (kg K) σ a ci)).set j (.long x))) = owl (kg K) (sL σ a j x) :=
    owl_set (by rw [ofl_sL h4, oct_obj ha h5]) (fun b hb => oct_sL_ne hb)
  refine va_put (D := oDD (kg K)) (cl := vwCl) (tys := oty (kg K)) (C := C) (T := T) (N := onf ci) (v := .long x) (ty := ty) ok.1 (ok.2.1.trans hc) ok.2.2.2.2.1 h2 ty0 h7 h8 (ho ▸ ok.2.2.2.1) ok.2.2.2.2.2.2.1.1 hW (oG_D ok.2.2.2.2.2.1 σ) hS a he h1 j h3 (ok.2.2.2.2.1 _ h6) (fun _ h => h) h9 h10 (hn (kg K)) (hf (kg K)) (by simp [h3]) d (fun H1 locs1 hP1 _ hS1 => k ok hk1 hk2 H1 locs1 ls ?_ hS1 hl)
  rw [hset] at hP1
  exact hP1
theorem go_putR (hc : kcc K = cc) (ho : kow K = own) {ty : FieldType} (L : oFP own idx ci j 2 ty) (d : decode cc pc = .ok (.putfield idx, 3)) (ha : okd a = ci) {x : Nat} (hn : ∀ g : OG, narrow ty (otr g (.ref x)) = otr g (.ref x)) (hf : ∀ g : OG, fits ty (otr g (.ref x)) = true) (k : Go K (pc + 3) lv st (sR σ a j x)) : Go K pc lv (.ref x :: .ref a :: st) σ := fun ok hk1 hk2 H locs ls hW hS hl => by
  obtain ⟨C, T, ty0, h1, h2, h3, h4, h5, h6, h7, h8, h9, h10⟩ := L
  have hlt := okd_lt ha (by omega)
  have he : (owl (kg K) σ)[a]? = some ((kg K).1 a, .inr (ci, (List.range (onf ci)).map (ofv (kg K) σ a ci))) := by rw [owl_at _ _ hlt, oct_obj ha h5]
  have hset : (owl (kg K) σ).set a ((kg K).1 a, .inr (ci, ((List.range (onf ci)).map (ofv (kg K) σ a ci)).set j (.ref ((kg K).1 x)))) = owl (kg K) (sR σ a j x) :=
    owl_set (by rw [ofl_sR h4, oct_obj ha h5]) (fun b hb => oct_sR_ne hb)
  have e0 : mR (sR σ a j x) 96 0 = mR σ 96 0 := sR_ne (by omega) 0
  have e1 : kk1 K (sR σ a j x) = kk1 K σ := by unfold kk1; rw [e0]
  have e2 : kk2 K (sR σ a j x) = kk2 K σ := by unfold kk2; rw [e0]
  refine va_put (D := oDD (kg K)) (cl := vwCl) (tys := oty (kg K)) (C := C) (T := T) (N := onf ci) (v := .ref ((kg K).1 x)) (ty := ty) ok.1 (ok.2.1.trans hc) ok.2.2.2.2.1 h2 ty0 h7 h8 (ho ▸ ok.2.2.2.1) ok.2.2.2.2.2.2.1.1 hW (oG_D ok.2.2.2.2.2.1 σ) hS a he h1 j h3 (ok.2.2.2.2.1 _ h6) (fun _ h => h) h9 h10 (hn (kg K)) (hf (kg K)) (by simp [h3]) d (fun H1 locs1 hP1 _ hS1 => e1 ▸ e2 ▸ k ok (e1.symm ▸ hk1) (e2.symm ▸ hk2) H1 locs1 ls ?_ hS1 hl)
  rw [hset] at hP1
  exact hP1
theorem go_iald (hc : kcc K = cc) (d : decode cc pc = .ok (.iaload, 1)) (ha : okd a = 20) {n q : Nat} (hn : oln a = n) {i : Int32} (hin : oin i n = true) (hi : i.toNatClampNeg = q) (k : Go K (pc + 1) lv (.int (mI σ a q) :: st) σ) : Go K pc lv (.int i :: .ref a :: st) σ := fun ok hk1 hk2 H locs ls hW hS hl => by
  subst hn; subst hi
  have he : (owl (kg K) σ)[a]? = some ((kg K).1 a, .inl ((kg K).2.2.2.1 0, oln a, .inl (fun j => mI σ a j))) := by rw [owl_at _ _ (okd_lt ha (by omega)), oct_20 ha]
  exact va_iald (D := oDD (kg K)) (cl := vwCl) (tys := oty (kg K)) ok.1 (ok.2.1.trans hc) ok.2.2.2.2.2.2.1.1 hW a 0 he rfl (oin_vp hin) d (k ok hk1 hk2 H locs ls hW hS hl)
theorem go_lald (hc : kcc K = cc) (d : decode cc pc = .ok (.laload, 1)) (ha : okd a = 21) {n q : Nat} (hn : oln a = n) {i : Int32} (hin : oin i n = true) (hi : i.toNatClampNeg = q) (k : Go K (pc + 1) lv (.long (mL σ a q) :: st) σ) : Go K pc lv (.int i :: .ref a :: st) σ := fun ok hk1 hk2 H locs ls hW hS hl => by
  subst hn; subst hi
  have he : (owl (kg K) σ)[a]? = some ((kg K).1 a, .inl ((kg K).2.2.2.1 1, oln a, .inr (.inl (fun j => mL σ a j)))) := by rw [owl_at _ _ (okd_lt ha (by omega)), oct_21 ha]
  exact va_lald (D := oDD (kg K)) (cl := vwCl) (tys := oty (kg K)) ok.1 (ok.2.1.trans hc) ok.2.2.2.2.2.2.1.1 hW a 1 he rfl (oin_vp hin) d (k ok hk1 hk2 H locs ls hW hS hl)
theorem go_bald (hc : kcc K = cc) (d : decode cc pc = .ok (.baload, 1)) (ha : okd a = 22) {n q : Nat} (hn : oln a = n) {i : Int32} (hin : oin i n = true) (hi : i.toNatClampNeg = q) (k : Go K (pc + 1) lv (.int (mI σ a q) :: st) σ) : Go K pc lv (.int i :: .ref a :: st) σ := fun ok hk1 hk2 H locs ls hW hS hl => by
  subst hn; subst hi
  have he : (owl (kg K) σ)[a]? = some ((kg K).1 a, .inl ((kg K).2.2.2.1 2, oln a, .inl (fun j => mI σ a j))) := by rw [owl_at _ _ (okd_lt ha (by omega)), oct_22 ha]
  exact va_bald (D := oDD (kg K)) (cl := vwCl) (tys := oty (kg K)) ok.1 (ok.2.1.trans hc) ok.2.2.2.2.2.2.1.1 hW a 2 he rfl (oin_vp hin) d (k ok hk1 hk2 H locs ls hW hS hl)
theorem go_zald (hc : kcc K = cc) (d : decode cc pc = .ok (.baload, 1)) (ha : okd a = 23) {n q : Nat} (hn : oln a = n) {i : Int32} (hin : oin i n = true) (hi : i.toNatClampNeg = q) (k : Go K (pc + 1) lv (.int (mI σ a q) :: st) σ) : Go K pc lv (.int i :: .ref a :: st) σ := fun ok hk1 hk2 H locs ls hW hS hl => by
  subst hn; subst hi
  have he : (owl (kg K) σ)[a]? = some ((kg K).1 a, .inl ((kg K).2.2.2.1 3, oln a, .inl (fun j => mI σ a j))) := by rw [owl_at _ _ (okd_lt ha (by omega)), oct_23 ha]
  exact va_zald (D := oDD (kg K)) (cl := vwCl) (tys := oty (kg K)) ok.1 (ok.2.1.trans hc) ok.2.2.2.2.2.2.1.1 hW a 3 he rfl (oin_vp hin) d (k ok hk1 hk2 H locs ls hW hS hl)
theorem go_ald4 (hc : kcc K = cc) (d : decode cc pc = .ok (.aaload, 1)) (ha : okd a = 24) {n q : Nat} (hn : oln a = n) {i : Int32} (hin : oin i n = true) (hi : i.toNatClampNeg = q) (e : ocr a q = b) (k : Go K (pc + 1) lv (.ref b :: st) σ) : Go K pc lv (.int i :: .ref a :: st) σ := fun ok hk1 hk2 H locs ls hW hS hl => by
  subst hn; subst hi; subst e
  have he : (owl (kg K) σ)[a]? = some ((kg K).1 a, .inl ((kg K).2.2.2.1 4, oln a, .inr (.inr (.inr (.inr (fun j => some ((kg K).1 (ocr a j)))))))) := by rw [owl_at _ _ (okd_lt ha (by omega)), oct_24 ha]
  exact va_aldq (D := oDD (kg K)) (cl := vwCl) (tys := oty (kg K)) ok.1 (ok.2.1.trans hc) ok.2.2.2.2.2.2.1.1 hW a 4 he rfl (oin_vp hin) d (k ok hk1 hk2 H locs ls hW hS hl)
theorem go_ald5 (hc : kcc K = cc) (d : decode cc pc = .ok (.aaload, 1)) (ha : okd a = 25) {n q : Nat} (hn : oln a = n) {i : Int32} (hin : oin i n = true) (hi : i.toNatClampNeg = q) (e : ocr a q = b) (k : Go K (pc + 1) lv (.ref b :: st) σ) : Go K pc lv (.int i :: .ref a :: st) σ := fun ok hk1 hk2 H locs ls hW hS hl => by
  subst hn; subst hi; subst e
  have he : (owl (kg K) σ)[a]? = some ((kg K).1 a, .inl ((kg K).2.2.2.1 5, oln a, .inr (.inr (.inr (.inr (fun j => some ((kg K).1 (ocr a j)))))))) := by rw [owl_at _ _ (okd_lt ha (by omega)), oct_25 ha]
  exact va_aldq (D := oDD (kg K)) (cl := vwCl) (tys := oty (kg K)) ok.1 (ok.2.1.trans hc) ok.2.2.2.2.2.2.1.1 hW a 5 he rfl (oin_vp hin) d (k ok hk1 hk2 H locs ls hW hS hl)
theorem go_iast (hc : kcc K = cc) (d : decode cc pc = .ok (.iastore, 1)) (ha : okd a = 20) {n q : Nat} (hn : oln a = n) {i : Int32} {x : Int32} (hin : oin i n = true) (hi : i.toNatClampNeg = q) (k : Go K (pc + 1) lv st (sI σ a q (x))) : Go K pc lv (.int x :: .int i :: .ref a :: st) σ := fun ok hk1 hk2 H locs ls hW hS hl => by
  subst hn; subst hi
  have he : (owl (kg K) σ)[a]? = some ((kg K).1 a, .inl ((kg K).2.2.2.1 0, oln a, .inl (fun j => mI σ a j))) := by rw [owl_at _ _ (okd_lt ha (by omega)), oct_20 ha]
  have hset : (owl (kg K) σ).set a ((kg K).1 a, .inl ((kg K).2.2.2.1 0, oln a, .inl (upd (fun j => mI σ a j) i.toNatClampNeg (x)))) = owl (kg K) (sI σ a i.toNatClampNeg (x)) := by
    refine owl_set ?_ (fun b hb => oct_sI_ne hb)
    rw [oct_20 ha]
    congr 4
    funext q
    by_cases hq : q = i.toNatClampNeg
    · subst hq
      rw [sI_at]
      simp [upd, vp_updL]
    · rw [sI_nj hq]
      simp [upd, vp_updL, hq]
  refine va_iast (D := oDD (kg K)) (cl := vwCl) (tys := oty (kg K)) ok.1 (ok.2.1.trans hc) ok.2.2.2.2.2.2.1.1 hW (oG_D ok.2.2.2.2.2.1 σ) hS a 0 he rfl (oin_vp hin) d (fun H1 locs1 hP1 _ hS1 => k ok hk1 hk2 H1 locs1 ls ?_ hS1 hl)
  rw [hset] at hP1
  exact hP1
theorem go_last (hc : kcc K = cc) (d : decode cc pc = .ok (.lastore, 1)) (ha : okd a = 21) {n q : Nat} (hn : oln a = n) {i : Int32} {x : Int64} (hin : oin i n = true) (hi : i.toNatClampNeg = q) (k : Go K (pc + 1) lv st (sL σ a q (x))) : Go K pc lv (.long x :: .int i :: .ref a :: st) σ := fun ok hk1 hk2 H locs ls hW hS hl => by
  subst hn; subst hi
  have he : (owl (kg K) σ)[a]? = some ((kg K).1 a, .inl ((kg K).2.2.2.1 1, oln a, .inr (.inl (fun j => mL σ a j)))) := by rw [owl_at _ _ (okd_lt ha (by omega)), oct_21 ha]
  have hset : (owl (kg K) σ).set a ((kg K).1 a, .inl ((kg K).2.2.2.1 1, oln a, .inr (.inl (vp_updL (fun j => mL σ a j) i.toNatClampNeg x)))) = owl (kg K) (sL σ a i.toNatClampNeg (x)) := by
    refine owl_set ?_ (fun b hb => oct_sL_ne hb)
    rw [oct_21 ha]
    congr 5
    funext q
    by_cases hq : q = i.toNatClampNeg
    · subst hq
      rw [sL_at]
      simp [upd, vp_updL]
    · rw [sL_nj hq]
      simp [upd, vp_updL, hq]
  refine va_last (D := oDD (kg K)) (cl := vwCl) (tys := oty (kg K)) ok.1 (ok.2.1.trans hc) ok.2.2.2.2.2.2.1.1 hW (oG_D ok.2.2.2.2.2.1 σ) hS a 1 he rfl (oin_vp hin) d (fun H1 locs1 hP1 _ hS1 => k ok hk1 hk2 H1 locs1 ls ?_ hS1 hl)
  rw [hset] at hP1
  exact hP1
theorem go_bast (hc : kcc K = cc) (d : decode cc pc = .ok (.bastore, 1)) (ha : okd a = 22) {n q : Nat} (hn : oln a = n) {i : Int32} {x : Int32} (hin : oin i n = true) (hi : i.toNatClampNeg = q) (k : Go K (pc + 1) lv st (sI σ a q (vp_nar .byte x))) : Go K pc lv (.int x :: .int i :: .ref a :: st) σ := fun ok hk1 hk2 H locs ls hW hS hl => by
  subst hn; subst hi
  have he : (owl (kg K) σ)[a]? = some ((kg K).1 a, .inl ((kg K).2.2.2.1 2, oln a, .inl (fun j => mI σ a j))) := by rw [owl_at _ _ (okd_lt ha (by omega)), oct_22 ha]
  have hset : (owl (kg K) σ).set a ((kg K).1 a, .inl ((kg K).2.2.2.1 2, oln a, .inl (upd (fun j => mI σ a j) i.toNatClampNeg (vp_nar .byte x)))) = owl (kg K) (sI σ a i.toNatClampNeg (vp_nar .byte x)) := by
    refine owl_set ?_ (fun b hb => oct_sI_ne hb)
    rw [oct_22 ha]
    congr 4
    funext q
    by_cases hq : q = i.toNatClampNeg
    · subst hq
      rw [sI_at]
      simp [upd, vp_updL]
    · rw [sI_nj hq]
      simp [upd, vp_updL, hq]
  refine va_bast (D := oDD (kg K)) (cl := vwCl) (tys := oty (kg K)) ok.1 (ok.2.1.trans hc) ok.2.2.2.2.2.2.1.1 hW (oG_D ok.2.2.2.2.2.1 σ) hS a 2 he rfl (oin_vp hin) d (fun H1 locs1 hP1 _ hS1 => k ok hk1 hk2 H1 locs1 ls ?_ hS1 hl)
  rw [hset] at hP1
  exact hP1
theorem go_zast (hc : kcc K = cc) (d : decode cc pc = .ok (.bastore, 1)) (ha : okd a = 23) {n q : Nat} (hn : oln a = n) {i : Int32} {x : Int32} (hin : oin i n = true) (hi : i.toNatClampNeg = q) (k : Go K (pc + 1) lv st (sI σ a q (vp_nar .boolean x))) : Go K pc lv (.int x :: .int i :: .ref a :: st) σ := fun ok hk1 hk2 H locs ls hW hS hl => by
  subst hn; subst hi
  have he : (owl (kg K) σ)[a]? = some ((kg K).1 a, .inl ((kg K).2.2.2.1 3, oln a, .inl (fun j => mI σ a j))) := by rw [owl_at _ _ (okd_lt ha (by omega)), oct_23 ha]
  have hset : (owl (kg K) σ).set a ((kg K).1 a, .inl ((kg K).2.2.2.1 3, oln a, .inl (upd (fun j => mI σ a j) i.toNatClampNeg (vp_nar .boolean x)))) = owl (kg K) (sI σ a i.toNatClampNeg (vp_nar .boolean x)) := by
    refine owl_set ?_ (fun b hb => oct_sI_ne hb)
    rw [oct_23 ha]
    congr 4
    funext q
    by_cases hq : q = i.toNatClampNeg
    · subst hq
      rw [sI_at]
      simp [upd, vp_updL]
    · rw [sI_nj hq]
      simp [upd, vp_updL, hq]
  refine va_zast (D := oDD (kg K)) (cl := vwCl) (tys := oty (kg K)) ok.1 (ok.2.1.trans hc) ok.2.2.2.2.2.2.1.1 hW (oG_D ok.2.2.2.2.2.1 σ) hS a 3 he rfl (oin_vp hin) d (fun H1 locs1 hP1 _ hS1 => k ok hk1 hk2 H1 locs1 ls ?_ hS1 hl)
  rw [hset] at hP1
  exact hP1
theorem ol_ldcw {p : Program} {l : Launch} {e : Env} {R : Room} {s : State} {m : MethodId} {args : Array Value} {below : List Frame} {meth : Method} {c : Code} {T : State} {locs : List Loc} {cells slots : Nat}
    (X : Stand p l e R s m args below meth c T locs cells slots) (hexec : p.tables.exec = Jvm.exec) {own text : String} {index : Nat} {a : Addr} (hown : s.vm.findClass own = some m.cls)
    (hconst : (Cond.stringRef own index text).before args s = true) (hev : (Term.string own index).eval args s none [] s = some (.ref a)) {g : JFrame} (hg : g.method = m) (hdg : decode c.code g.pc = .ok (.ldc_w index, 3)) :
    ∀ target, Steps p.tables e below (T.setTop { g with pc := g.pc + 3, stack := .ref a :: g.stack }) target → Steps p.tables e below (T.setTop g) target := by
  obtain ⟨k, cf, i, a1, hk, hcf, hcp, -, hr, hev1⟩ := Cond.stringRef_spec hown hconst
  cases hev.symm.trans hev1
  obtain ⟨k1, hk1, he⟩ := X.warmed.alike.2.2 _ _ hk
  have hr1 : k1.resolved[index]? = some (some (.string a)) := by
    rcases X.warmed.entry hk hk1 index with h | ⟨h, -⟩
    · rw [h]; exact hr
    · rw [hr] at h; cases h
  intro target hrest
  subst hg
  jvm_step X.here [hexec, hdg, ldc_w.wp_string (e := e) (s := T) (f := g) X.here.top hk1 (by rw [he]; exact hcf) hcp hr1]
  exact hrest
/-- static rows -/
theorem go_kw (hc : kcc K = cc) (ho : kow K = "OneAnswer$Tape") (hw : Cond.fieldLink "OneAnswer$Tape" idx "OneAnswer$Tape" "KEPT_WORDS" "[J" ∈ otb) (d : decode cc pc = .ok (.getstatic idx, 3)) (k : Go K (pc + 3) lv (.ref 101 :: st) σ) : Go K pc lv st σ := fun ok hk1 hk2 H locs ls hW hS hl =>
  va_gets ok.1 (ok.2.1.trans hc) ok.2.2.2.2.2.2.1.2.2.1.1 hS (ho ▸ ok.2.2.2.1) (ok.2.2.2.2.1 _ hw) (fun _ h => h) d (k ok hk1 hk2 H locs ls hW hS hl)
theorem go_ho (hc : kcc K = cc) (ho : kow K = own) (hw : Cond.fieldLink own idx "OneAnswer$Land" "HOLDS" "[J" ∈ otb) (d : decode cc pc = .ok (.getstatic idx, 3)) (k : Go K (pc + 3) lv (.ref 102 :: st) σ) : Go K pc lv st σ := fun ok hk1 hk2 H locs ls hW hS hl =>
  va_gets ok.1 (ok.2.1.trans hc) ok.2.2.2.2.2.2.1.2.2.2.1.1 hS (ho ▸ ok.2.2.2.1) (ok.2.2.2.2.1 _ hw) (fun _ h => h) d (k ok hk1 hk2 H locs ls hW hS hl)
theorem go_lr (hc : kcc K = cc) (ho : kow K = "OneAnswer$Reader") (hw : Cond.fieldLink "OneAnswer$Reader" idx "OneAnswer$Reader" "LINE_ROOM" "[I" ∈ otb) (d : decode cc pc = .ok (.getstatic idx, 3)) (k : Go K (pc + 3) lv (.ref 103 :: st) σ) : Go K pc lv st σ := fun ok hk1 hk2 H locs ls hW hS hl =>
  va_gets ok.1 (ok.2.1.trans hc) ok.2.2.2.2.2.2.1.2.2.2.2.1.1 hS (ho ▸ ok.2.2.2.1) (ok.2.2.2.2.1 _ hw) (fun _ h => h) d (k ok hk1 hk2 H locs ls hW hS hl)
theorem go_compact (hc : kcc K = cc) (ho : kow K = "java/lang/String") (hw : Cond.fieldLink "java/lang/String" idx "java/lang/String" "COMPACT_STRINGS" "Z" ∈ otb) (d : decode cc pc = .ok (.getstatic idx, 3)) (k : Go K (pc + 3) lv (.int 1 :: st) σ) : Go K pc lv st σ := fun ok hk1 hk2 H locs ls hW hS hl =>
  va_gets ok.1 (ok.2.1.trans hc) ok.2.2.2.2.2.2.1.2.2.2.2.2.1 hS (ho ▸ ok.2.2.2.1) (ok.2.2.2.2.1 _ hw) (fun _ h => h) d (k ok hk1 hk2 H locs ls hW hS hl)
theorem go_kwa (hc : kcc K = cc) (d : decode cc pc = .ok (.laload, 1)) {i : Int32} (hin : oin i 15 = true) (k : Go K (pc + 1) lv (.long (okw i.toNatClampNeg) :: st) σ) : Go K pc lv (.int i :: .ref 101 :: st) σ := fun ok hk1 hk2 H locs ls hW hS hl =>
  va_tl ok.1 (ok.2.1.trans hc) ok.2.2.2.2.2.2.1.2.2.1.2 hS (oin_vp hin) rfl d (k ok hk1 hk2 H locs ls hW hS hl)
theorem go_hoa (hc : kcc K = cc) (d : decode cc pc = .ok (.laload, 1)) {i : Int32} (hin : oin i 6 = true) (k : Go K (pc + 1) lv (.long (oho i.toNatClampNeg) :: st) σ) : Go K pc lv (.int i :: .ref 102 :: st) σ := fun ok hk1 hk2 H locs ls hW hS hl =>
  va_tl ok.1 (ok.2.1.trans hc) ok.2.2.2.2.2.2.1.2.2.2.1.2 hS (oin_vp hin) rfl d (k ok hk1 hk2 H locs ls hW hS hl)
theorem go_lra (hc : kcc K = cc) (d : decode cc pc = .ok (.iaload, 1)) {i : Int32} (hin : oin i 11 = true) (k : Go K (pc + 1) lv (.int (olr i.toNatClampNeg) :: st) σ) : Go K pc lv (.int i :: .ref 103 :: st) σ := fun ok hk1 hk2 H locs ls hW hS hl =>
  va_ti ok.1 (ok.2.1.trans hc) ok.2.2.2.2.2.2.1.2.2.2.2.1.2 hS (oin_vp hin) rfl d (k ok hk1 hk2 H locs ls hW hS hl)
theorem go_kwl (hc : kcc K = cc) (d : decode cc pc = .ok (.arraylength, 1)) (k : Go K (pc + 1) lv (.int 15 :: st) σ) : Go K pc lv (.ref 101 :: st) σ := fun ok hk1 hk2 H locs ls hW hS hl =>
  va_tlen ok.1 (ok.2.1.trans hc) ok.2.2.2.2.2.2.1.2.2.1.2 hS rfl d (k ok hk1 hk2 H locs ls hW hS hl)
/-- a text of the class's own -/
theorem go_str (hc : kcc K = cc) (ho : kow K = own) {i : Nat} {tx : String} (hi : ostL[i]? = some (own, idx, tx)) (d : decode cc pc = .ok (.ldc idx, 2)) (k : Go K (pc + 2) lv (.ref (200 + i) :: st) σ) : Go K pc lv st σ := fun ok hk1 hk2 H locs ls hW hS hl =>
  va_ldcS ok.1 (ok.2.1.trans hc) (ho ▸ ok.2.2.2.1) (ok.2.2.2.2.2.2.1.2.2.2.2.2.2.2.1 i _ hi) d (k ok hk1 hk2 H locs ls hW hS hl)
theorem go_strW (hc : kcc K = cc) (ho : kow K = own) {i : Nat} {tx : String} (hi : ostL[i]? = some (own, idx, tx)) (d : decode cc pc = .ok (.ldc_w idx, 3)) (k : Go K (pc + 3) lv (.ref (200 + i) :: st) σ) : Go K pc lv st σ := fun ok hk1 hk2 H locs ls hW hS hl => by
  have hZ := ok.2.2.2.2.2.2.1.2.2.2.2.2.2.2.1 i _ hi
  intro T hT X
  obtain ⟨t, a1, b1⟩ := k ok hk1 hk2 H locs ls hW hS hl T hT X
  exact ⟨t, ol_ldcw X ok.1 (ho ▸ ok.2.2.2.1) (text := tx) (a := (kg K).1 (200 + i)) hZ.1 hZ.2 (g := F0 (km K) pc ls (st.map (otr (kg K)))) rfl (by rw [ok.2.1.trans hc]; exact d) t a1, b1⟩
theorem go_siob (hc : kcc K = cc) (ho : kow K = "java/lang/String") (hw : Cond.fieldLink "java/lang/String" idx "jdk/internal/util/Preconditions" "SIOOBE_FORMATTER" "Ljava/util/function/BiFunction;" ∈ otb) (d : decode cc pc = .ok (.getstatic idx, 3)) (k1 : Go K (pc + 3) lv (.null :: st) σ) (k2 : Go K (pc + 3) lv (.ref 104 :: st) σ) : Go K pc lv st σ := fun ok hk1 hk2 H locs ls hW hS hl => by
  rcases ok.2.2.2.2.2.2.1.2.2.2.2.2.2.2.2.1 with hZ | hZ
  · exact va_gets ok.1 (ok.2.1.trans hc) hZ hS (ho ▸ ok.2.2.2.1) (ok.2.2.2.2.1 _ hw) (fun _ h => h) d (k1 ok hk1 hk2 H locs ls hW hS hl)
  · exact va_gets ok.1 (ok.2.1.trans hc) hZ hS (ho ▸ ok.2.2.2.1) (ok.2.2.2.2.1 _ hw) (fun _ h => h) d (k2 ok hk1 hk2 H locs ls hW hS hl)
theorem go_strV (hc : kcc K = cc) (ho : kow K = "java/lang/String") {i : Nat} (hi : i < 23) (hw : Cond.fieldLink "java/lang/String" idx "java/lang/String" "value" "[B" ∈ otb) (d : decode cc pc = .ok (.getfield idx, 3)) (k : Go K (pc + 3) lv (.ref (300 + i) :: st) σ) : Go K pc lv (.ref (200 + i) :: st) σ := fun ok hk1 hk2 H locs ls hW hS hl =>
  vk_getf ok.1 (ok.2.1.trans hc) (ok.2.2.2.2.2.2.1.2.2.2.2.2.2.1.1 i hi).2.2.1 hS (ho ▸ ok.2.2.2.1) (ok.2.2.2.2.1 _ hw) (fun _ h => h) d (k ok hk1 hk2 H locs ls hW hS hl)
theorem go_strC (hc : kcc K = cc) (ho : kow K = "java/lang/String") {i : Nat} (hi : i < 23) (hw : Cond.fieldLink "java/lang/String" idx "java/lang/String" "coder" "B" ∈ otb) (d : decode cc pc = .ok (.getfield idx, 3)) (k : Go K (pc + 3) lv (.int 0 :: st) σ) : Go K pc lv (.ref (200 + i) :: st) σ := fun ok hk1 hk2 H locs ls hW hS hl =>
  vk_getf ok.1 (ok.2.1.trans hc) (ok.2.2.2.2.2.2.1.2.2.2.2.2.2.1.1 i hi).2.1 hS (ho ▸ ok.2.2.2.1) (ok.2.2.2.2.1 _ hw) (fun _ h => h) d (k ok hk1 hk2 H locs ls hW hS hl)
theorem go_strL (hc : kcc K = cc) {i : Nat} (hi : i < 23) (d : decode cc pc = .ok (.arraylength, 1)) (k : Go K (pc + 1) lv (.int (Int32.ofNat (oslL.getD i 0)) :: st) σ) : Go K pc lv (.ref (300 + i) :: st) σ := fun ok hk1 hk2 H locs ls hW hS hl =>
  va_tlen ok.1 (ok.2.1.trans hc) (ok.2.2.2.2.2.2.1.2.2.2.2.2.2.1.1 i hi).2.2.2 hS rfl d (k ok hk1 hk2 H locs ls hW hS hl)
theorem go_strB (hc : kcc K = cc) {i : Nat} (hi : i < 23) (d : decode cc pc = .ok (.baload, 1)) {q : Int32} (hin : oin q (oslL.getD i 0) = true) (k : Go K (pc + 1) lv (.int ((osbL.getD i []).getD q.toNatClampNeg 0) :: st) σ) : Go K pc lv (.int q :: .ref (300 + i) :: st) σ := fun ok hk1 hk2 H locs ls hW hS hl =>
  va_tb ok.1 (ok.2.1.trans hc) (ok.2.2.2.2.2.2.1.2.2.2.2.2.2.1.1 i hi).2.2.2 hS (oin_vp hin) rfl d (k ok hk1 hk2 H locs ls hW hS hl)
end
/-- what a call's words say -/
def oCM (M : OMd) (n : Nat) : Prop := Cond.code M.1 M.2.1 M.2.2.1 M.2.2.2 ∈ otb ∧ Cond.initialized M.1.cls ∈ otb ∧ (M.1.cls ≠ "java/lang/invoke/MethodHandle" ∧ M.1.cls ≠ "java/lang/invoke/VarHandle") ∧ (parseMethodDescriptor M.1.desc).map (fun d => d.parameters.length) = some n ∧ M.2.2.1 ≤ 45
def oCV (ci : Nat) (M : OMd) (n : Nat) : Prop := oCM M n ∧ (∃ T : u_T, vwCl[ci]? = some (M.1.cls, T, onf ci)) ∧ ci < 20 ∧ Cond.instanceMethod M.1 ∈ otb ∧ Cond.selects M.1.cls M.1 M.1 ∈ otb
def oCS (M : OMd) (n : Nat) : Prop := oCM M n ∧ Cond.static M.1 ∈ otb
def oCT (M : OMd) (n : Nat) : Prop := oCM M n ∧ Cond.instanceMethod M.1 ∈ otb ∧ Cond.selects M.1.cls M.1 M.1 ∈ otb ∧ M.1.cls = "java/lang/String"
section
variable {K : OK} {cc : ByteArray} {pc : Nat} {lv : List Value} {σ : OM} {own : String} {idx ci : Nat} {a : Nat}
theorem go_after {H : Heap} {locs : List Loc} {ls : Array Slot} {st0 rest : List Value} {av : Array Value} {o : Option Value} {σ1 : OM}
    (hr : va_Run (kp K) (kl K) (ke K) (kR K) (ks K) (km K) (kar K) (kbe K) (kme K) (kc K) H locs (kk1 K σ) (kk2 K σ) 0 0 (F0 (km K) pc ls st0) rest (oQ (kg K) o σ1 av) (oA (kg K))) (hS : va_S (oA (kg K)) (ks K).heap H locs)
    (kk : ∀ (H1 : Heap) (locs1 : List Loc), va_P (oDD (kg K)) vwCl (owl (kg K) σ1) H1 → va_S (oA (kg K)) (ks K).heap H1 locs1 → W (kp K) (kl K) (ke K) (kR K) (ks K) (km K) (kar K) (kbe K) (kme K) (kc K) H1 locs1 (kk1 K σ) (kk2 K σ) (kQ K) (F0 (km K) (pc + 3) ls (o.toList ++ rest))) :
    W (kp K) (kl K) (ke K) (kR K) (ks K) (km K) (kar K) (kbe K) (kme K) (kc K) H locs (kk1 K σ) (kk2 K σ) (kQ K) (F0 (km K) pc ls st0) := by
  intro T hT X
  obtain ⟨v, st₀, t, T', L, h0, X', hL, e1, e2, ⟨hv, hp, hz, hk⟩, st⟩ := hr T hT X
  cases hv
  rw [h0] at hz hk
  obtain ⟨t2, a1, b1⟩ := kk T'.heap (locs ++ L) (by rw [e1]; exact hp)
    ⟨Nat.le_trans hS.1 (by rw [e1]; exact hz), fun q h1 h2 => by rw [e1, hk q (Nat.lt_of_lt_of_le h1 hS.1) h2]; exact hS.2.1 q h1 h2, fun q hq => by
      rcases List.mem_append.mp hq with h | h
      · exact hS.2.2 q h
      · exact hL q h⟩ T' rfl X'
  exact ⟨t2, st t2 a1, b1⟩
theorem go_kk (ok : oOk K) {σ1 : OM} (hz : kz K = 0 ∨ mR σ1 96 0 = mR σ 96 0) : kk1 K σ1 = kk1 K σ ∧ kk2 K σ1 = kk2 K σ := by
  unfold kk1 kk2
  rcases hz with h | h
  · rw [ok.2.2.2.2.2.2.2.2.2.2 h, h]; simp
  · rw [h]; exact ⟨rfl, rfl⟩
theorem go_pay (ok : oOk K) {M : OMd} {n : Nat} (hM : oCM M n) : ∀ w ∈ ows M, ∀ (a' : Array Value) (U : State), (ks K).WarmedH U.vm → w.before a' U = true := by
  have hG : GoodIn otb (ows M) := fun w hw => by
    rcases List.mem_cons.mp hw with h | h
    · rw [h]; exact otb_good _ hM.1
    · exact otb_good _ h
  exact pay_in ok.2.2.2.2.1 hG
theorem go_len {M : OMd} {n : Nat} (hM : oCM M n) : ∀ sig, parseMethodDescriptor M.1.desc = some sig → n = sig.parameters.length := fun sig h => by
  have h1 := hM.2.2.2.1
  rw [h] at h1
  exact (Option.some.inj h1).symm
theorem go_callB (ok : oOk K) (ho : kow K = own) {M : OMd} {n N0 : Nat} (hM : oCM M n) (hw : Cond.methodLink own idx M.1 ∈ otb) (hN : N0 + 1 ≤ kN K) : CallB (kR K) (ks K) (kar K) (kow K) idx M.1 M.2.1 M.2.2.1 M.2.2.2 (ows M) (orm N0) 0 0 n := by
  refine ⟨rfl, rfl, Nat.le_trans hN ok.2.2.2.2.2.2.2.2.1, ?_, go_pay ok hM, List.mem_cons_self, ok.2.2.2.2.1 _ hM.1, ok.2.2.2.2.1 _ hM.2.1, hM.2.2.1, go_len hM, ?_⟩
  · show 8 + (M.2.2.1 + 11) + 64 * N0 ≤ (kR K).locals
    have := hM.2.2.2.2
    have := ok.2.2.2.2.2.2.2.2.2.1
    omega
  · rw [ho]; exact ok.2.2.2.2.1 _ hw
theorem go_preU (ok : oOk K) {H : Heap} {locs : List Loc} (hW : va_P (oDD (kg K)) vwCl (owl (kg K) σ) H) (hS : va_S (oA (kg K)) (ks K).heap H locs) (av : List Value) : ∀ U : State, U.heap = H → (ks K).WarmedH U.vm → va_Pc av (oPc (kg K) σ) av.toArray U := fun U hU hw =>
  ⟨rfl, ok.2.2.2.2.2.1, oKn_move ok.2.2.2.2.2.2.1 hw (fun q h1 h2 => by rw [hU]; exact hS.2.1 q h1 h2), by rw [hU]; exact hW⟩
theorem otr_o {g : OG} {o : Option Value} (h : ∀ v, o = some v → (∃ x, v = .int x) ∨ ∃ x, v = .long x) (rest : List Value) : (o.toList ++ rest).map (otr g) = o.toList ++ rest.map (otr g) := by
  cases o with
  | none => rfl
  | some v => rcases h v rfl with ⟨x, rfl⟩ | ⟨x, rfl⟩ <;> rfl
theorem otr_sum (g : OG) (rest : List Value) : ((rest.map (otr g)).map fun v => v.category).sum = (rest.map fun v => v.category).sum := by
  congr 1
  rw [List.map_map]
  exact List.map_congr_left (fun v _ => otr_cat g v)
theorem go_callV (hc : kcc K = cc) (ho : kow K = own) {M : OMd} {n N0 : Nat} (L : oCV ci M n) (hw : Cond.methodLink own idx M.1 ∈ otb) (d : decode cc pc = .ok (.invokevirtual idx, 3)) (ha : okd a = ci) {As rest st : List Value} {o : Option Value} {σ1 : OM} (ev : oEv N0 M (.ref a :: As) σ o σ1) (hst : st = As.reverse ++ .ref a :: rest) (hN : N0 + 1 ≤ kN K) (hn : As.length = n) (hcat : (rest.map fun v => v.category).sum ≤ 8) (hov : ∀ v, o = some v → (∃ x, v = .int x) ∨ ∃ x, v = .long x) (hz : kz K = 0 ∨ mR σ1 96 0 = mR σ 96 0) (k : Go K (pc + 3) lv (o.toList ++ rest) σ1) : Go K pc lv st σ := fun ok hk1 hk2 H locs ls hW hS hl => by
  obtain ⟨hM, ⟨T, hT⟩, hci, hin, hse⟩ := L
  have he : (owl (kg K) σ)[a]? = some ((kg K).1 a, .inr (ci, (List.range (onf ci)).map (ofv (kg K) σ a ci))) := by rw [owl_at _ _ (okd_lt ha (by omega)), oct_obj ha hci]
  refine go_after (va_runV (nL := knL K) (As := As.map (otr (kg K))) (rest := rest.map (otr (kg K))) (b := (kg K).1 a) (Ts := otb) ⟨ok.1, ok.2.1.trans hc, ok.2.2.1, ok.2.2.2.1, ok.2.2.2.2.1⟩ (ev (kl K) (kg K)) ⟨go_callB ok ho hM hw hN, ok.2.2.2.2.1 _ hin, ok.2.2.2.2.1 _ hse⟩ ⟨oPc_blind _ _ _, va_recv ok.2.2.2.2.2.2.1.1 hW hT he, go_preU ok hW hS _⟩ rfl (by rw [List.length_map]; exact hn) hl.1 ?_ ?_ d ⟨hk1, hk2⟩) hS ?_
  · rw [hst]
    simp [List.map_append, List.map_reverse, otr]
  · rw [otr_sum]
    simpa [JFrame.monitorRoom] using hcat
  · intro H1 locs1 hP1 hS1
    obtain ⟨e1, e2⟩ := go_kk ok hz
    have := k ok (e1.symm ▸ hk1) (e2.symm ▸ hk2) H1 locs1 ls hP1 hS1 hl
    rw [otr_o hov, e1, e2] at this
    exact this
theorem go_callT (hc : kcc K = cc) (ho : kow K = own) {M : OMd} {n N0 : Nat} (L : oCT M n) (hw : Cond.methodLink own idx M.1 ∈ otb) (d : decode cc pc = .ok (.invokevirtual idx, 3)) {i : Nat} (hi : i < 23) {As rest st : List Value} {o : Option Value} {σ1 : OM} (ev : oEv N0 M (.ref (200 + i) :: As) σ o σ1) (hst : st = As.reverse ++ .ref (200 + i) :: rest) (hN : N0 + 1 ≤ kN K) (hn : As.length = n) (hcat : (rest.map fun v => v.category).sum ≤ 8) (hov : ∀ v, o = some v → (∃ x, v = .int x) ∨ ∃ x, v = .long x) (hz : kz K = 0 ∨ mR σ1 96 0 = mR σ 96 0) (k : Go K (pc + 3) lv (o.toList ++ rest) σ1) : Go K pc lv st σ := fun ok hk1 hk2 H locs ls hW hS hl => by
  obtain ⟨hM, hin, hse, hcl⟩ := L
  refine go_after (va_runV (nL := knL K) (As := As.map (otr (kg K))) (rest := rest.map (otr (kg K))) (b := (kg K).1 (200 + i)) (Ts := otb) ⟨ok.1, ok.2.1.trans hc, ok.2.2.1, ok.2.2.2.1, ok.2.2.2.2.1⟩ (ev (kl K) (kg K)) ⟨go_callB ok ho hM hw hN, ok.2.2.2.2.1 _ hin, ok.2.2.2.2.1 _ hse⟩ ⟨oPc_blind _ _ _, by rw [hcl]; exact vk_recv (i := i) (adK := fun i => (kg K).1 (200 + i)) ok.2.2.2.2.2.2.1.2.2.2.2.2.2.1 hi hS, go_preU ok hW hS _⟩ rfl (by rw [List.length_map]; exact hn) hl.1 ?_ ?_ d ⟨hk1, hk2⟩) hS ?_
  · rw [hst]
    simp [List.map_append, List.map_reverse, otr]
  · rw [otr_sum]
    simpa [JFrame.monitorRoom] using hcat
  · intro H1 locs1 hP1 hS1
    obtain ⟨e1, e2⟩ := go_kk ok hz
    have := k ok (e1.symm ▸ hk1) (e2.symm ▸ hk2) H1 locs1 ls hP1 hS1 hl
    rw [otr_o hov, e1, e2] at this
    exact this
theorem go_callS (hc : kcc K = cc) (ho : kow K = own) {M : OMd} {n N0 : Nat} (L : oCS M n) (hw : Cond.methodLink own idx M.1 ∈ otb) (d : decode cc pc = .ok (.invokestatic idx, 3)) {As rest st : List Value} {o : Option Value} {σ1 : OM} (ev : oEv N0 M As σ o σ1) (hst : st = As.reverse ++ rest) (hN : N0 + 1 ≤ kN K) (hn : As.length = n) (hcat : (rest.map fun v => v.category).sum ≤ 8) (hov : ∀ v, o = some v → (∃ x, v = .int x) ∨ ∃ x, v = .long x) (hz : kz K = 0 ∨ mR σ1 96 0 = mR σ 96 0) (k : Go K (pc + 3) lv (o.toList ++ rest) σ1) : Go K pc lv st σ := fun ok hk1 hk2 H locs ls hW hS hl => by
  obtain ⟨hM, hs⟩ := L
  refine go_after (va_runS (nL := knL K) (As := As.map (otr (kg K))) (rest := rest.map (otr (kg K))) (Ts := otb) ⟨ok.1, ok.2.1.trans hc, ok.2.2.1, ok.2.2.2.1, ok.2.2.2.2.1⟩ (ev (kl K) (kg K)) ⟨go_callB ok ho hM hw hN, ok.2.2.2.2.1 _ hs⟩ ⟨oPc_blind _ _ _, go_preU ok hW hS _⟩ rfl (by rw [List.length_map]; exact hn) hl.1 ?_ ?_ d ⟨hk1, hk2⟩) hS ?_
  · rw [hst]
    simp [List.map_append, List.map_reverse]
  · rw [otr_sum]
    simpa [JFrame.monitorRoom] using hcat
  · intro H1 locs1 hP1 hS1
    obtain ⟨e1, e2⟩ := go_kk ok hz
    have := k ok (e1.symm ▸ hk1) (e2.symm ▸ hk2) H1 locs1 ls hP1 hS1 hl
    rw [otr_o hov, e1, e2] at this
    exact this
theorem go_callSN (hc : kcc K = cc) (ho : kow K = own) {M : OMd} {n N0 : Nat} {host : String} (L : oCS M n) (hw : Cond.methodLinkNest own idx M.1 host ∈ onest) (d : decode cc pc = .ok (.invokestatic idx, 3)) {As rest st : List Value} {o : Option Value} {σ1 : OM} (ev : oEv N0 M As σ o σ1) (hst : st = As.reverse ++ rest) (hN : N0 + 1 ≤ kN K) (hn : As.length = n) (hcat : (rest.map fun v => v.category).sum ≤ 8) (hov : ∀ v, o = some v → (∃ x, v = .int x) ∨ ∃ x, v = .long x) (hz : kz K = 0 ∨ mR σ1 96 0 = mR σ 96 0) (k : Go K (pc + 3) lv (o.toList ++ rest) σ1) : Go K pc lv st σ := fun ok hk1 hk2 H locs ls hW hS hl => by
  obtain ⟨hM, hs⟩ := L
  have hcn : va_CN (kR K) (ks K) (kar K) (kow K) idx M.1 host M.2.1 M.2.2.1 M.2.2.2 (ows M) (orm N0) 0 0 n := by
    refine ⟨⟨rfl, rfl, Nat.le_trans hN ok.2.2.2.2.2.2.2.2.1, ?_, go_pay ok hM, List.mem_cons_self⟩, ok.2.2.2.2.1 _ hM.1, ok.2.2.2.2.1 _ hM.2.1, hM.2.2.1, go_len hM, ?_⟩
    · show 8 + (M.2.2.1 + 11) + 64 * N0 ≤ (kR K).locals
      have := hM.2.2.2.2
      have := ok.2.2.2.2.2.2.2.2.2.1
      omega
    · rw [ho]; exact va_Nw.use rfl (ok.2.2.2.2.2.2.1.2.1 _ hw)
  refine go_after (va_runSN (nL := knL K) (As := As.map (otr (kg K))) (rest := rest.map (otr (kg K))) (Ts := otb) ⟨ok.1, ok.2.1.trans hc, ok.2.2.1, ok.2.2.2.1, ok.2.2.2.2.1⟩ (ev (kl K) (kg K)) ⟨hcn, ok.2.2.2.2.1 _ hs, trivial⟩ ⟨oPc_blind _ _ _, go_preU ok hW hS _⟩ rfl (by rw [List.length_map]; exact hn) hl.1 ?_ ?_ d ⟨hk1, hk2⟩) hS ?_
  · rw [hst]
    simp [List.map_append, List.map_reverse]
  · rw [otr_sum]
    simpa [JFrame.monitorRoom] using hcat
  · intro H1 locs1 hP1 hS1
    obtain ⟨e1, e2⟩ := go_kk ok hz
    have := k ok (e1.symm ▸ hk1) (e2.symm ▸ hk2) H1 locs1 ls hP1 hS1 hl
    rw [otr_o hov, e1, e2] at this
    exact this
end
theorem Met_ofWF {l : Launch} {y : MethodName} {ws ws' : List Cond} {rm : Room} {Pc : Array Value → State → Prop} {Qc : Array Value → State → Outcome → State → Prop} {mc ms : Nat} {free : Addr → Prop} {cc : ByteArray} {maxL : Nat} {ret : Option FieldType}
    (hy : plainFor y = true) (hw : ws = Cond.code y cc maxL ret :: ws')
    (body : ∀ p e s m args below meth c s₁, BodyLoose p l y (headSpec ws rm) cc maxL ret e s m args below meth c s₁ → c.maxLocals = maxL → Pc args s →
      W p l e (headSpec ws rm).room s m args below meth c s.heap [] 0 0 (MQ below Qc args s mc ms free) (entryFrame m args maxL)) : Met l y ws rm Pc Qc mc ms free := by
  refine MetFree.of_bodySF (code := cc) (maxLocals := maxL) (ret := ret) hy ?_ ?_
  · intro args s m h hn
    obtain ⟨meth, c, h1, h2, h3, h4, h5, h6, -, -⟩ := Cond.code_spec hn (atoms_spec (ws := ws) h _ (by rw [hw]; exact List.mem_cons_self))
    exact ⟨meth, c, h1, h2, h3, h4, h5, h6⟩
  · intro p e s m args below meth c s₁ B hml hP _
    have hh0 : s₁.heap = s.heap := by rw [B.state]; rfl
    obtain ⟨t, a1, o, b1, b2, b3⟩ := body p e s m args below meth c s₁ B hml hP s₁ hh0 (Stand.of_body B)
    exact ⟨t, o, a1, b1, b2, ⟨b3.1, b3.2⟩⟩
/-- a method's run out of a walk of its body -/
theorem oEv_of {n : Nat} {M : OMd} {av lv : List Value} {σ σ' : OM} {o : Option Value} (hp : plainFor M.1 = true) (hl : ∀ g : OG, ∀ q ∈ olv g 0 lv, q ∈ lv_args 0 (av.map (otr g))) (hs : ∀ g : OG, (lg_sl (av.map (otr g))).length ≤ M.2.2.1)
    (h : ∀ K : OK, kcc K = M.2.1 → kow K = M.1.cls → knL K = M.2.2.1 → kN K = n → (kme K).sig.returnType = M.2.2.2 → oEnd K o σ' → kz K = 0 → Go K 0 lv [] σ) : oEv n M av σ o σ' := by
  intro l g
  refine Met_ofWF (cc := M.2.1) (maxL := M.2.2.1) (ret := M.2.2.2) hp rfl ?_
  intro p e s m args below meth c s₁ B hml hv
  obtain ⟨rfl, hG, hK, hP⟩ := hv
  have hts := atoms_spec (ws := ows M) B.pre
  have hown : s.vm.findClass M.1.cls = some m.cls := findClass_of_methodNamed B.named
  have hE := lv_entry (av.map (otr g)) (n := M.2.2.1) (hs g)
  rw [lg_entry_eq]
  have z1 : ∀ σ9 : OM, 0 + 0 * mR σ9 96 0 = 0 := fun σ9 => by rw [Nat.zero_mul]
  have key := h (p, l, e, n, s, m, (av.map (otr g)).toArray, below, meth, c, g, M.2.1, M.1.cls, M.2.2.1, MQ below (oQ g o σ') (av.map (otr g)).toArray s 0 0 (oA g), orm n, 0, 0, 0, 0) rfl rfl rfl rfl B.returns
    (by show MQ below (oQ g o σ') (av.map (otr g)).toArray s 0 0 (oA g) = MQ below (oQ g o σ') (av.map (otr g)).toArray s (0 + 0 * mR σ' 96 0) (0 + 0 * mR σ' 96 0) (oA g); rw [z1 σ']) rfl
    ⟨B.exec, B.bytes, hml, hown, fun w hw => hts w (List.mem_cons_of_mem _ hw), hG, hK, B.notSynchronized, Nat.le_refl _, Nat.le_refl _, fun _ => rfl⟩
    (by show 0 + 0 * mR σ 96 0 ≤ 0; rw [z1 σ]; exact Nat.le_refl 0) (by show 0 + 0 * mR σ 96 0 ≤ 0; rw [z1 σ]; exact Nat.le_refl 0) s.heap [] _ hP va_S.rf (lv_mono hE (hl g))
  have key2 : W p l e (orm n) s m (av.map (otr g)).toArray below meth c s.heap [] (0 + 0 * mR σ 96 0) (0 + 0 * mR σ 96 0) (MQ below (oQ g o σ') (av.map (otr g)).toArray s 0 0 (oA g)) (F0 m 0 _ []) := key
  rw [z1 σ] at key2
  exact key2
