section
variable {K : OK} {cc : ByteArray} {pc : Nat} {lv st : List Value} {σ : OM}
theorem go_loc (ok : oOk K) {ls : Array Slot} (hl : lv_has ls (knL K) (olv (kg K) 0 lv)) {i : Nat} {v : Value} (h : lv[i]? = some v) (hn : v ≠ .null) : ls[i]? = some (.val (otr (kg K) v)) := by
  have h1 : (i, otr (kg K) v) ∈ olv (kg K) 0 lv := (olv_mem (kg K) lv 0 _).mpr ⟨i, v, h, hn, by rw [Nat.zero_add]⟩
  exact hl.2.2 _ h1
theorem go_sto {g : OG} {i : Nat} {v : Value} {ls : Array Slot} {nL : Nat} (hv : v.category = 1) (hp : ∀ w, i ≠ 0 → lv[i - 1]? = some w → w.category = 1) (hl : lv_has ls nL ((i, otr g v) :: (olv g 0 lv).filter (fun q => !(q.1 == i) && !(q.1 + 1 == i && q.2.category == 2)))) : lv_has ls nL (olv g 0 (lv.set i v)) := by
  refine lv_mono hl (fun q hq => ?_)
  obtain ⟨j, w, h1, h2, h3⟩ := (olv_mem g _ 0 q).mp hq
  rw [Nat.zero_add] at h3
  rw [List.getElem?_set] at h1
  by_cases hij : i = j
  · rw [if_pos hij] at h1
    split at h1
    · rw [Option.some.inj h1, h3, hij]; exact List.mem_cons_self
    · cases h1
  · rw [if_neg hij] at h1
    refine List.mem_cons_of_mem _ (List.mem_filter.mpr ⟨(olv_mem g lv 0 q).mpr ⟨j, w, h1, h2, by rw [h3, Nat.zero_add]⟩, ?_⟩)
    rw [h3]
    have e1 : (j == i) = false := by simpa using fun e : j = i => hij e.symm
    by_cases hji : j + 1 = i
    · have hw := hp w (by omega) (by rw [← hji]; exact h1)
      have hc : (otr g w).category = 1 := by cases w <;> first | exact hw | rfl
      simp [e1, hc]
    · have e2 : (j + 1 == i) = false := by simpa using hji
      simp [e1, e2]
theorem go_stl {g : OG} {i : Nat} {x : Int64} {ls : Array Slot} {nL : Nat} (hp : ∀ w, i ≠ 0 → lv[i - 1]? = some w → w.category = 1) (hl : lv_has ls nL ((i, Value.long x) :: (olv g 0 lv).filter (fun q => !(q.1 == i) && (!(q.1 == i + 1) && !(q.1 + 1 == i && q.2.category == 2))))) : lv_has ls nL (olv g 0 ((lv.set i (.long x)).set (i + 1) .null)) := by
  refine lv_mono hl (fun q hq => ?_)
  obtain ⟨j, w, h1, h2, h3⟩ := (olv_mem g _ 0 q).mp hq
  rw [Nat.zero_add] at h3
  rw [List.getElem?_set] at h1
  by_cases hij1 : i + 1 = j
  · rw [if_pos hij1] at h1
    split at h1
    · exact absurd (Option.some.inj h1).symm h2
    · cases h1
  rw [if_neg hij1, List.getElem?_set] at h1
  by_cases hij : i = j
  · rw [if_pos hij] at h1
    split at h1
    · rw [h3, ← Option.some.inj h1, hij]; exact List.mem_cons_self
    · cases h1
  · rw [if_neg hij] at h1
    refine List.mem_cons_of_mem _ (List.mem_filter.mpr ⟨(olv_mem g lv 0 q).mpr ⟨j, w, h1, h2, by rw [h3, Nat.zero_add]⟩, ?_⟩)
    rw [h3]
    have e1 : (j == i) = false := by simpa using fun e : j = i => hij e.symm
    have e3 : (j == i + 1) = false := by simpa using fun e : j = i + 1 => hij1 e.symm
    by_cases hji : j + 1 = i
    · have hw := hp w (by omega) (by rw [← hji]; exact h1)
      have hc : (otr g w).category = 1 := by cases w <;> first | exact hw | rfl
      simp [e1, e3, hc]
    · have e2 : (j + 1 == i) = false := by simpa using hji
      simp [e1, e2, e3]
/-- a place of which nothing is asked any more -/
theorem go_drop {lv' : List Value} (h : ∀ (j : Nat) (v : Value), lv'[j]? = some v → v = .null ∨ lv[j]? = some v) (k : Go K pc lv' st σ) : Go K pc lv st σ := fun ok hk1 hk2 H locs ls hW hS hl => k ok hk1 hk2 H locs ls hW hS (lv_mono hl (fun q hq => by
  obtain ⟨j, w, h1, h2, h3⟩ := (olv_mem (kg K) _ 0 q).mp hq
  rcases h j w h1 with h4 | h4
  · exact absurd h4 h2
  · exact (olv_mem (kg K) _ 0 q).mpr ⟨j, w, h4, h2, h3⟩))

theorem go_iconst (hc : kcc K = cc) {n : Int} {v : Int32} (d : decode cc pc = .ok (.iconst n, 1)) (hv : Int32.ofInt n = v) (k : Go K (pc + 1) lv (.int v :: st) σ) : Go K pc lv st σ := fun ok hk1 hk2 H locs ls hW hS hl => lv_iconst ok.1 (ok.2.1.trans hc) d hv (k ok hk1 hk2 H locs ls hW hS hl)
theorem go_bipush (hc : kcc K = cc) {n : Int} {v : Int32} (d : decode cc pc = .ok (.bipush n, 2)) (hv : (Int8.ofInt n).toInt32 = v) (k : Go K (pc + 2) lv (.int v :: st) σ) : Go K pc lv st σ := fun ok hk1 hk2 H locs ls hW hS hl => lv_bipush ok.1 (ok.2.1.trans hc) d hv (k ok hk1 hk2 H locs ls hW hS hl)
theorem go_sipush (hc : kcc K = cc) {n : Int} {v : Int32} (d : decode cc pc = .ok (.sipush n, 3)) (hv : (Int16.ofInt n).toInt32 = v) (k : Go K (pc + 3) lv (.int v :: st) σ) : Go K pc lv st σ := fun ok hk1 hk2 H locs ls hW hS hl => lv_sipush ok.1 (ok.2.1.trans hc) d hv (k ok hk1 hk2 H locs ls hW hS hl)
theorem go_lconst (hc : kcc K = cc) {n : Fin 2} {v : Int64} (d : decode cc pc = .ok (.lconst n, 1)) (hv : Int64.ofNat (n : Nat) = v) (k : Go K (pc + 1) lv (.long v :: st) σ) : Go K pc lv st σ := fun ok hk1 hk2 H locs ls hW hS hl => lv_lconst ok.1 (ok.2.1.trans hc) d hv (k ok hk1 hk2 H locs ls hW hS hl)
theorem go_ldc (hc : kcc K = cc) {own : String} (ho : kow K = own) {index : Nat} {v : Int32} (hw : Cond.constant own index v ∈ otb) (d : decode cc pc = .ok (.ldc index, 2)) (k : Go K (pc + 2) lv (.int v :: st) σ) : Go K pc lv st σ := fun ok hk1 hk2 H locs ls hW hS hl => lv_ldc ok.1 (ok.2.1.trans hc) (ho ▸ ok.2.2.2.1) (ok.2.2.2.2.1 _ hw) d (k ok hk1 hk2 H locs ls hW hS hl)
theorem go_ldcw (hc : kcc K = cc) {own : String} (ho : kow K = own) {index : Nat} {v : Int32} (hw : Cond.constant own index v ∈ otb) (d : decode cc pc = .ok (.ldc_w index, 3)) (k : Go K (pc + 3) lv (.int v :: st) σ) : Go K pc lv st σ := fun ok hk1 hk2 H locs ls hW hS hl => lv_ldcw ok.1 (ok.2.1.trans hc) (ho ▸ ok.2.2.2.1) (ok.2.2.2.2.1 _ hw) d (k ok hk1 hk2 H locs ls hW hS hl)
theorem go_ldc2 (hc : kcc K = cc) {own : String} (ho : kow K = own) {index : Nat} {v : Int64} (hw : Cond.constantLong own index v ∈ otb) (d : decode cc pc = .ok (.ldc2_w index, 3)) (k : Go K (pc + 3) lv (.long v :: st) σ) : Go K pc lv st σ := fun ok hk1 hk2 H locs ls hW hS hl => lv_ldc2 ok.1 (ok.2.1.trans hc) (ho ▸ ok.2.2.2.1) (ok.2.2.2.2.1 _ hw) d (k ok hk1 hk2 H locs ls hW hS hl)
theorem go_iload_n (hc : kcc K = cc) {k0 : Fin 4} {i : Nat} {x : Int32} (d : decode cc pc = .ok (.iload_n k0, 1)) (hi : (k0 : Nat) = i) (hl0 : lv[i]? = some (.int x)) (k : Go K (pc + 1) lv (.int x :: st) σ) : Go K pc lv st σ := fun ok hk1 hk2 H locs ls hW hS hl => lv_iload_n ok.1 (ok.2.1.trans hc) d hi (go_loc ok hl hl0 (fun e => by cases e)) (k ok hk1 hk2 H locs ls hW hS hl)
theorem go_iload (hc : kcc K = cc) {i : Nat} {x : Int32} (d : decode cc pc = .ok (.iload i, 2)) (hl0 : lv[i]? = some (.int x)) (k : Go K (pc + 2) lv (.int x :: st) σ) : Go K pc lv st σ := fun ok hk1 hk2 H locs ls hW hS hl => lv_iload ok.1 (ok.2.1.trans hc) d (go_loc ok hl hl0 (fun e => by cases e)) (k ok hk1 hk2 H locs ls hW hS hl)
theorem go_istore_n (hc : kcc K = cc) {k0 : Fin 4} {i : Nat} {x : Int32} {lv1 : List Value} (d : decode cc pc = .ok (.istore_n k0, 1)) (hi : (k0 : Nat) = i) {n9 : Nat} (hL : knL K = n9) (hn : i < n9) (hp : ∀ w, i ≠ 0 → lv[i - 1]? = some w → w.category = 1) (he : lv.set i (.int x) = lv1) (k : Go K (pc + 1) lv1 st σ) : Go K pc lv (.int x :: st) σ := fun ok hk1 hk2 H locs ls hW hS hl => lv_istore_n ok.1 (ok.2.1.trans hc) d hi hl (hL ▸ hn) rfl (fun ls1 hl1 => k ok hk1 hk2 H locs ls1 hW hS (he ▸ go_sto (v := .int x) rfl hp hl1))
theorem go_istore (hc : kcc K = cc) {i : Nat} {x : Int32} {lv1 : List Value} (d : decode cc pc = .ok (.istore i, 2)) {n9 : Nat} (hL : knL K = n9) (hn : i < n9) (hp : ∀ w, i ≠ 0 → lv[i - 1]? = some w → w.category = 1) (he : lv.set i (.int x) = lv1) (k : Go K (pc + 2) lv1 st σ) : Go K pc lv (.int x :: st) σ := fun ok hk1 hk2 H locs ls hW hS hl => lv_istore ok.1 (ok.2.1.trans hc) d hl (hL ▸ hn) rfl (fun ls1 hl1 => k ok hk1 hk2 H locs ls1 hW hS (he ▸ go_sto (v := .int x) rfl hp hl1))
theorem go_lload_n (hc : kcc K = cc) {k0 : Fin 4} {i : Nat} {x : Int64} (d : decode cc pc = .ok (.lload_n k0, 1)) (hi : (k0 : Nat) = i) (hl0 : lv[i]? = some (.long x)) (k : Go K (pc + 1) lv (.long x :: st) σ) : Go K pc lv st σ := fun ok hk1 hk2 H locs ls hW hS hl => lv_lload_n ok.1 (ok.2.1.trans hc) d hi (go_loc ok hl hl0 (fun e => by cases e)) (k ok hk1 hk2 H locs ls hW hS hl)
theorem go_lload (hc : kcc K = cc) {i : Nat} {x : Int64} (d : decode cc pc = .ok (.lload i, 2)) (hl0 : lv[i]? = some (.long x)) (k : Go K (pc + 2) lv (.long x :: st) σ) : Go K pc lv st σ := fun ok hk1 hk2 H locs ls hW hS hl => lv_lload ok.1 (ok.2.1.trans hc) d (go_loc ok hl hl0 (fun e => by cases e)) (k ok hk1 hk2 H locs ls hW hS hl)
theorem go_lstore_n (hc : kcc K = cc) {k0 : Fin 4} {i : Nat} {x : Int64} {lv1 : List Value} (d : decode cc pc = .ok (.lstore_n k0, 1)) (hi : (k0 : Nat) = i) {n9 : Nat} (hL : knL K = n9) (hn : i + 1 < n9) (hp : ∀ w, i ≠ 0 → lv[i - 1]? = some w → w.category = 1) (he : (lv.set i (.long x)).set (i + 1) .null = lv1) (k : Go K (pc + 1) lv1 st σ) : Go K pc lv (.long x :: st) σ := fun ok hk1 hk2 H locs ls hW hS hl => lv_lstore_n ok.1 (ok.2.1.trans hc) d hi hl (hL ▸ hn) rfl (fun ls1 hl1 => k ok hk1 hk2 H locs ls1 hW hS (he ▸ go_stl hp hl1))
theorem go_lstore (hc : kcc K = cc) {i : Nat} {x : Int64} {lv1 : List Value} (d : decode cc pc = .ok (.lstore i, 2)) {n9 : Nat} (hL : knL K = n9) (hn : i + 1 < n9) (hp : ∀ w, i ≠ 0 → lv[i - 1]? = some w → w.category = 1) (he : (lv.set i (.long x)).set (i + 1) .null = lv1) (k : Go K (pc + 2) lv1 st σ) : Go K pc lv (.long x :: st) σ := fun ok hk1 hk2 H locs ls hW hS hl => lv_lstore ok.1 (ok.2.1.trans hc) d hl (hL ▸ hn) rfl (fun ls1 hl1 => k ok hk1 hk2 H locs ls1 hW hS (he ▸ go_stl hp hl1))
theorem go_aload_n (hc : kcc K = cc) {k0 : Fin 4} {i : Nat} {x : Nat} (d : decode cc pc = .ok (.aload_n k0, 1)) (hi : (k0 : Nat) = i) (hl0 : lv[i]? = some (.ref x)) (k : Go K (pc + 1) lv (.ref x :: st) σ) : Go K pc lv st σ := fun ok hk1 hk2 H locs ls hW hS hl => lv_aload_n ok.1 (ok.2.1.trans hc) d hi (go_loc ok hl hl0 (fun e => by cases e)) (k ok hk1 hk2 H locs ls hW hS hl)
theorem go_aload (hc : kcc K = cc) {i : Nat} {x : Nat} (d : decode cc pc = .ok (.aload i, 2)) (hl0 : lv[i]? = some (.ref x)) (k : Go K (pc + 2) lv (.ref x :: st) σ) : Go K pc lv st σ := fun ok hk1 hk2 H locs ls hW hS hl => lv_aload ok.1 (ok.2.1.trans hc) d (go_loc ok hl hl0 (fun e => by cases e)) (k ok hk1 hk2 H locs ls hW hS hl)
theorem go_astore_n (hc : kcc K = cc) {k0 : Fin 4} {i : Nat} {x : Nat} {lv1 : List Value} (d : decode cc pc = .ok (.astore_n k0, 1)) (hi : (k0 : Nat) = i) {n9 : Nat} (hL : knL K = n9) (hn : i < n9) (hp : ∀ w, i ≠ 0 → lv[i - 1]? = some w → w.category = 1) (he : lv.set i (.ref x) = lv1) (k : Go K (pc + 1) lv1 st σ) : Go K pc lv (.ref x :: st) σ := fun ok hk1 hk2 H locs ls hW hS hl => lv_astore_n ok.1 (ok.2.1.trans hc) d hi hl (hL ▸ hn) rfl (fun ls1 hl1 => k ok hk1 hk2 H locs ls1 hW hS (he ▸ go_sto (v := .ref x) rfl hp hl1))
theorem go_astore (hc : kcc K = cc) {i : Nat} {x : Nat} {lv1 : List Value} (d : decode cc pc = .ok (.astore i, 2)) {n9 : Nat} (hL : knL K = n9) (hn : i < n9) (hp : ∀ w, i ≠ 0 → lv[i - 1]? = some w → w.category = 1) (he : lv.set i (.ref x) = lv1) (k : Go K (pc + 2) lv1 st σ) : Go K pc lv (.ref x :: st) σ := fun ok hk1 hk2 H locs ls hW hS hl => lv_astore ok.1 (ok.2.1.trans hc) d hl (hL ▸ hn) rfl (fun ls1 hl1 => k ok hk1 hk2 H locs ls1 hW hS (he ▸ go_sto (v := .ref x) rfl hp hl1))
def omask : List Bool → List Value → List Value
  | _, [] => []
  | [], _ :: t => .null :: omask [] t
  | true :: m, v :: t => v :: omask m t
  | false :: m, _ :: t => .null :: omask m t
theorem omask_at : ∀ (lv : List Value) (m : List Bool) (j : Nat) (v : Value), (omask m lv)[j]? = some v → v = .null ∨ lv[j]? = some v := by
  intro lv
  induction lv with
  | nil => intro m j v h; cases m <;> simp [omask] at h
  | cons a t ih =>
    intro m j v h
    cases m with
    | nil =>
      cases j with
      | zero => simp [omask] at h; exact Or.inl h.symm
      | succ j => simp only [omask, List.getElem?_cons_succ] at h ⊢; exact ih _ _ _ h
    | cons b m =>
      cases b
      · cases j with
        | zero => simp [omask] at h; exact Or.inl h.symm
        | succ j => simp only [omask, List.getElem?_cons_succ] at h ⊢; exact ih _ _ _ h
      · cases j with
        | zero => simp [omask] at h; exact Or.inr (by simp [h])
        | succ j => simp only [omask, List.getElem?_cons_succ] at h ⊢; exact ih _ _ _ h
theorem go_mask (m : List Bool) {lv1 : List Value} (he : omask m lv = lv1) (k : Go K pc lv1 st σ) : Go K pc lv st σ := go_drop (lv' := lv1) (fun j v h => by rw [← he] at h; exact omask_at _ _ _ _ h) k
theorem go_iinc (hc : kcc K = cc) {i : Nat} {n : Int} {x c : Int32} {lv1 : List Value} (d : decode cc pc = .ok (.iinc i n, 3)) (hl0 : lv[i]? = some (.int x)) (hv : Int32.ofInt n = c) {n9 : Nat} (hL : knL K = n9) (hn : i < n9) (hp : ∀ w, i ≠ 0 → lv[i - 1]? = some w → w.category = 1) (he : lv.set i (.int (x + c)) = lv1) (k : Go K (pc + 3) lv1 st σ) : Go K pc lv st σ := fun ok hk1 hk2 H locs ls hW hS hl => by
  have h1 : (i, Value.int x) ∈ olv (kg K) 0 lv := (olv_mem (kg K) lv 0 _).mpr ⟨i, .int x, hl0, (fun e => by cases e), by rw [Nat.zero_add]; rfl⟩
  obtain ⟨k0, hk0⟩ := List.mem_iff_getElem?.mp h1
  exact lv_iinc ok.1 (ok.2.1.trans hc) d hl hk0 (by rw [hv]) (hL ▸ hn) rfl (fun ls1 hl1 => k ok hk1 hk2 H locs ls1 hW hS (he ▸ go_sto (v := .int (x + c)) rfl hp hl1))
theorem go_iadd (hc : kcc K = cc) {x y : Int32} (d : decode cc pc = .ok (.iadd, 1)) (k : Go K (pc + 1) lv (.int (x + y) :: st) σ) : Go K pc lv (.int y :: .int x :: st) σ := fun ok hk1 hk2 H locs ls hW hS hl => lv_iadd ok.1 (ok.2.1.trans hc) d (k ok hk1 hk2 H locs ls hW hS hl)
theorem go_isub (hc : kcc K = cc) {x y : Int32} (d : decode cc pc = .ok (.isub, 1)) (k : Go K (pc + 1) lv (.int (x - y) :: st) σ) : Go K pc lv (.int y :: .int x :: st) σ := fun ok hk1 hk2 H locs ls hW hS hl => lv_isub ok.1 (ok.2.1.trans hc) d (k ok hk1 hk2 H locs ls hW hS hl)
theorem go_imul (hc : kcc K = cc) {x y : Int32} (d : decode cc pc = .ok (.imul, 1)) (k : Go K (pc + 1) lv (.int (x * y) :: st) σ) : Go K pc lv (.int y :: .int x :: st) σ := fun ok hk1 hk2 H locs ls hW hS hl => lv_imul ok.1 (ok.2.1.trans hc) d (k ok hk1 hk2 H locs ls hW hS hl)
theorem go_iand (hc : kcc K = cc) {x y : Int32} (d : decode cc pc = .ok (.iand, 1)) (k : Go K (pc + 1) lv (.int (x &&& y) :: st) σ) : Go K pc lv (.int y :: .int x :: st) σ := fun ok hk1 hk2 H locs ls hW hS hl => lv_iand ok.1 (ok.2.1.trans hc) d (k ok hk1 hk2 H locs ls hW hS hl)
theorem go_ior (hc : kcc K = cc) {x y : Int32} (d : decode cc pc = .ok (.ior, 1)) (k : Go K (pc + 1) lv (.int (x ||| y) :: st) σ) : Go K pc lv (.int y :: .int x :: st) σ := fun ok hk1 hk2 H locs ls hW hS hl => lv_ior ok.1 (ok.2.1.trans hc) d (k ok hk1 hk2 H locs ls hW hS hl)
theorem go_ixor (hc : kcc K = cc) {x y : Int32} (d : decode cc pc = .ok (.ixor, 1)) (k : Go K (pc + 1) lv (.int (x ^^^ y) :: st) σ) : Go K pc lv (.int y :: .int x :: st) σ := fun ok hk1 hk2 H locs ls hW hS hl => lv_ixor ok.1 (ok.2.1.trans hc) d (k ok hk1 hk2 H locs ls hW hS hl)
theorem go_idiv (hc : kcc K = cc) {x y : Int32} (d : decode cc pc = .ok (.idiv, 1)) (hne : ¬ y = 0) (k : Go K (pc + 1) lv (.int (x / y) :: st) σ) : Go K pc lv (.int y :: .int x :: st) σ := fun ok hk1 hk2 H locs ls hW hS hl => lv_idiv ok.1 (ok.2.1.trans hc) d hne (k ok hk1 hk2 H locs ls hW hS hl)
theorem go_irem (hc : kcc K = cc) {x y : Int32} (d : decode cc pc = .ok (.irem, 1)) (hne : ¬ y = 0) (k : Go K (pc + 1) lv (.int (x - x / y * y) :: st) σ) : Go K pc lv (.int y :: .int x :: st) σ := fun ok hk1 hk2 H locs ls hW hS hl => lv_irem ok.1 (ok.2.1.trans hc) d hne (k ok hk1 hk2 H locs ls hW hS hl)
theorem go_ladd (hc : kcc K = cc) {x y : Int64} (d : decode cc pc = .ok (.ladd, 1)) (k : Go K (pc + 1) lv (.long (x + y) :: st) σ) : Go K pc lv (.long y :: .long x :: st) σ := fun ok hk1 hk2 H locs ls hW hS hl => lv_ladd ok.1 (ok.2.1.trans hc) d (k ok hk1 hk2 H locs ls hW hS hl)
theorem go_lsub (hc : kcc K = cc) {x y : Int64} (d : decode cc pc = .ok (.lsub, 1)) (k : Go K (pc + 1) lv (.long (x - y) :: st) σ) : Go K pc lv (.long y :: .long x :: st) σ := fun ok hk1 hk2 H locs ls hW hS hl => lv_lsub ok.1 (ok.2.1.trans hc) d (k ok hk1 hk2 H locs ls hW hS hl)
theorem go_lmul (hc : kcc K = cc) {x y : Int64} (d : decode cc pc = .ok (.lmul, 1)) (k : Go K (pc + 1) lv (.long (x * y) :: st) σ) : Go K pc lv (.long y :: .long x :: st) σ := fun ok hk1 hk2 H locs ls hW hS hl => lv_lmul ok.1 (ok.2.1.trans hc) d (k ok hk1 hk2 H locs ls hW hS hl)
theorem go_land (hc : kcc K = cc) {x y : Int64} (d : decode cc pc = .ok (.land, 1)) (k : Go K (pc + 1) lv (.long (x &&& y) :: st) σ) : Go K pc lv (.long y :: .long x :: st) σ := fun ok hk1 hk2 H locs ls hW hS hl => lv_land ok.1 (ok.2.1.trans hc) d (k ok hk1 hk2 H locs ls hW hS hl)
theorem go_lor (hc : kcc K = cc) {x y : Int64} (d : decode cc pc = .ok (.lor, 1)) (k : Go K (pc + 1) lv (.long (x ||| y) :: st) σ) : Go K pc lv (.long y :: .long x :: st) σ := fun ok hk1 hk2 H locs ls hW hS hl => lv_lor ok.1 (ok.2.1.trans hc) d (k ok hk1 hk2 H locs ls hW hS hl)
theorem go_lxor (hc : kcc K = cc) {x y : Int64} (d : decode cc pc = .ok (.lxor, 1)) (k : Go K (pc + 1) lv (.long (x ^^^ y) :: st) σ) : Go K pc lv (.long y :: .long x :: st) σ := fun ok hk1 hk2 H locs ls hW hS hl => lv_lxor ok.1 (ok.2.1.trans hc) d (k ok hk1 hk2 H locs ls hW hS hl)
theorem go_ldiv (hc : kcc K = cc) {x y : Int64} (d : decode cc pc = .ok (.ldiv, 1)) (hne : ¬ y = 0) (k : Go K (pc + 1) lv (.long (x / y) :: st) σ) : Go K pc lv (.long y :: .long x :: st) σ := fun ok hk1 hk2 H locs ls hW hS hl => lv_ldiv ok.1 (ok.2.1.trans hc) d hne (k ok hk1 hk2 H locs ls hW hS hl)
theorem go_lrem (hc : kcc K = cc) {x y : Int64} (d : decode cc pc = .ok (.lrem, 1)) (hne : ¬ y = 0) (k : Go K (pc + 1) lv (.long (x - x / y * y) :: st) σ) : Go K pc lv (.long y :: .long x :: st) σ := fun ok hk1 hk2 H locs ls hW hS hl => lv_lrem ok.1 (ok.2.1.trans hc) d hne (k ok hk1 hk2 H locs ls hW hS hl)
theorem go_ishl (hc : kcc K = cc) {x y : Int32} (d : decode cc pc = .ok (.ishl, 1)) (k : Go K (pc + 1) lv (.int (x <<< (y &&& 31)) :: st) σ) : Go K pc lv (.int y :: .int x :: st) σ := fun ok hk1 hk2 H locs ls hW hS hl => lv_ishl ok.1 (ok.2.1.trans hc) d (k ok hk1 hk2 H locs ls hW hS hl)
theorem go_ishr (hc : kcc K = cc) {x y : Int32} (d : decode cc pc = .ok (.ishr, 1)) (k : Go K (pc + 1) lv (.int (x >>> (y &&& 31)) :: st) σ) : Go K pc lv (.int y :: .int x :: st) σ := fun ok hk1 hk2 H locs ls hW hS hl => lv_ishr ok.1 (ok.2.1.trans hc) d (k ok hk1 hk2 H locs ls hW hS hl)
theorem go_i2l (hc : kcc K = cc) {x : Int32} (d : decode cc pc = .ok (.i2l, 1)) (k : Go K (pc + 1) lv (.long (x.toInt64) :: st) σ) : Go K pc lv (.int x :: st) σ := fun ok hk1 hk2 H locs ls hW hS hl => lv_i2l ok.1 (ok.2.1.trans hc) d rfl (k ok hk1 hk2 H locs ls hW hS hl)
theorem go_l2i (hc : kcc K = cc) {x : Int64} (d : decode cc pc = .ok (.l2i, 1)) (k : Go K (pc + 1) lv (.int (x.toInt32) :: st) σ) : Go K pc lv (.long x :: st) σ := fun ok hk1 hk2 H locs ls hW hS hl => lv_l2i ok.1 (ok.2.1.trans hc) d rfl (k ok hk1 hk2 H locs ls hW hS hl)
theorem go_i2b (hc : kcc K = cc) {x : Int32} (d : decode cc pc = .ok (.i2b, 1)) (k : Go K (pc + 1) lv (.int (x.toInt8.toInt32) :: st) σ) : Go K pc lv (.int x :: st) σ := fun ok hk1 hk2 H locs ls hW hS hl => lv_i2b ok.1 (ok.2.1.trans hc) d rfl (k ok hk1 hk2 H locs ls hW hS hl)
theorem go_i2c (hc : kcc K = cc) {x : Int32} (d : decode cc pc = .ok (.i2c, 1)) (k : Go K (pc + 1) lv (.int ((x.toUInt32 % 65536).toInt32) :: st) σ) : Go K pc lv (.int x :: st) σ := fun ok hk1 hk2 H locs ls hW hS hl => lv_i2c ok.1 (ok.2.1.trans hc) d rfl (k ok hk1 hk2 H locs ls hW hS hl)
theorem go_ineg (hc : kcc K = cc) {x : Int32} (d : decode cc pc = .ok (.ineg, 1)) (k : Go K (pc + 1) lv (.int (-x) :: st) σ) : Go K pc lv (.int x :: st) σ := fun ok hk1 hk2 H locs ls hW hS hl => lv_ineg ok.1 (ok.2.1.trans hc) d (k ok hk1 hk2 H locs ls hW hS hl)
theorem go_lneg (hc : kcc K = cc) {x : Int64} (d : decode cc pc = .ok (.lneg, 1)) (k : Go K (pc + 1) lv (.long (-x) :: st) σ) : Go K pc lv (.long x :: st) σ := fun ok hk1 hk2 H locs ls hW hS hl => lv_lneg ok.1 (ok.2.1.trans hc) d (k ok hk1 hk2 H locs ls hW hS hl)
theorem go_iushr (hc : kcc K = cc) {x y : Int32} (d : decode cc pc = .ok (.iushr, 1)) (k : Go K (pc + 1) lv (.int ((x.toUInt32 >>> (y.toUInt32 &&& Int32.toUInt32 31)).toInt32) :: st) σ) : Go K pc lv (.int y :: .int x :: st) σ := fun ok hk1 hk2 H locs ls hW hS hl => lv_iushr ok.1 (ok.2.1.trans hc) d rfl (k ok hk1 hk2 H locs ls hW hS hl)
theorem go_lushr (hc : kcc K = cc) {x : Int64} {y : Int32} (d : decode cc pc = .ok (.lushr, 1)) (k : Go K (pc + 1) lv (.long ((x.toUInt64 >>> (y.toInt64.toUInt64 &&& Int64.toUInt64 63)).toInt64) :: st) σ) : Go K pc lv (.int y :: .long x :: st) σ := fun ok hk1 hk2 H locs ls hW hS hl => lv_lushr ok.1 (ok.2.1.trans hc) d rfl (k ok hk1 hk2 H locs ls hW hS hl)
theorem go_lshl (hc : kcc K = cc) {x : Int64} {y : Int32} (d : decode cc pc = .ok (.lshl, 1)) (k : Go K (pc + 1) lv (.long (x <<< (y.toInt64 &&& 63)) :: st) σ) : Go K pc lv (.int y :: .long x :: st) σ := fun ok hk1 hk2 H locs ls hW hS hl => lv_lshl ok.1 (ok.2.1.trans hc) d rfl (k ok hk1 hk2 H locs ls hW hS hl)
theorem go_lshr (hc : kcc K = cc) {x : Int64} {y : Int32} (d : decode cc pc = .ok (.lshr, 1)) (k : Go K (pc + 1) lv (.long (x >>> (y.toInt64 &&& 63)) :: st) σ) : Go K pc lv (.int y :: .long x :: st) σ := fun ok hk1 hk2 H locs ls hW hS hl => lv_lshr ok.1 (ok.2.1.trans hc) d rfl (k ok hk1 hk2 H locs ls hW hS hl)
theorem go_lcmp (hc : kcc K = cc) {x y : Int64} (d : decode cc pc = .ok (.lcmp, 1)) (k : Go K (pc + 1) lv (.int (lg_cmp x y) :: st) σ) : Go K pc lv (.long y :: .long x :: st) σ := fun ok hk1 hk2 H locs ls hW hS hl => W.lcmp ok.1 (ok.2.1.trans hc) d (k ok hk1 hk2 H locs ls hW hS hl)
theorem otr_cat (g : OG) (v : Value) : (otr g v).category = v.category := by cases v <;> rfl
theorem go_dup (hc : kcc K = cc) {v : Value} (d : decode cc pc = .ok (.dup, 1)) (hv : v.category = 1) (k : Go K (pc + 1) lv (v :: v :: st) σ) : Go K pc lv (v :: st) σ := fun ok hk1 hk2 H locs ls hW hS hl => lv_dup ok.1 (ok.2.1.trans hc) d ((otr_cat _ v).trans hv) (k ok hk1 hk2 H locs ls hW hS hl)
theorem go_pop (hc : kcc K = cc) {v : Value} (d : decode cc pc = .ok (.pop, 1)) (hv : v.category = 1) (k : Go K (pc + 1) lv st σ) : Go K pc lv (v :: st) σ := fun ok hk1 hk2 H locs ls hW hS hl => lv_pop ok.1 (ok.2.1.trans hc) d ((otr_cat _ v).trans hv) (k ok hk1 hk2 H locs ls hW hS hl)
theorem go_dup2_11 (hc : kcc K = cc) {v w : Value} (d : decode cc pc = .ok (.dup2, 1)) (hv : v.category = 1) (hw : w.category = 1) (k : Go K (pc + 1) lv (v :: w :: v :: w :: st) σ) : Go K pc lv (v :: w :: st) σ := fun ok hk1 hk2 H locs ls hW hS hl => lv_dup2_11 ok.1 (ok.2.1.trans hc) d ((otr_cat _ v).trans hv) ((otr_cat _ w).trans hw) (k ok hk1 hk2 H locs ls hW hS hl)
theorem go_dup2_2 (hc : kcc K = cc) {v : Value} (d : decode cc pc = .ok (.dup2, 1)) (hv : v.category = 2) (k : Go K (pc + 1) lv (v :: v :: st) σ) : Go K pc lv (v :: st) σ := fun ok hk1 hk2 H locs ls hW hS hl => lv_dup2_2 ok.1 (ok.2.1.trans hc) d ((otr_cat _ v).trans hv) (k ok hk1 hk2 H locs ls hW hS hl)
theorem go_goto (hc : kcc K = cc) {off : Int} {tgt : Nat} (d : decode cc pc = .ok (.goto off, 3)) (ht : (pc : Int) + off = (tgt : Int)) (k : Go K tgt lv st σ) : Go K pc lv st σ := fun ok hk1 hk2 H locs ls hW hS hl => lv_goto ok.1 (ok.2.1.trans hc) d ht (k ok hk1 hk2 H locs ls hW hS hl)
theorem go_if_eq (hc : kcc K = cc) {x : Int32} {off : Int} {tgt : Nat} (d : decode cc pc = .ok (.ifCond .eq off, 3)) (ht : (pc : Int) + off = (tgt : Int)) (kt : x = 0 → Go K tgt lv st σ) (kf : ¬ x = 0 → Go K (pc + 3) lv st σ) : Go K pc lv (.int x :: st) σ := fun ok hk1 hk2 H locs ls hW hS hl => lv_if_eq ok.1 (ok.2.1.trans hc) d ht (fun h => kt h ok hk1 hk2 H locs ls hW hS hl) (fun h => kf h ok hk1 hk2 H locs ls hW hS hl)
theorem go_icmp_eq (hc : kcc K = cc) {x y : Int32} {off : Int} {tgt : Nat} (d : decode cc pc = .ok (.if_icmp .eq off, 3)) (ht : (pc : Int) + off = (tgt : Int)) (kt : x = y → Go K tgt lv st σ) (kf : ¬ x = y → Go K (pc + 3) lv st σ) : Go K pc lv (.int y :: .int x :: st) σ := fun ok hk1 hk2 H locs ls hW hS hl => lv_icmp_eq ok.1 (ok.2.1.trans hc) d ht (fun h => kt h ok hk1 hk2 H locs ls hW hS hl) (fun h => kf h ok hk1 hk2 H locs ls hW hS hl)
theorem go_if_ne (hc : kcc K = cc) {x : Int32} {off : Int} {tgt : Nat} (d : decode cc pc = .ok (.ifCond .ne off, 3)) (ht : (pc : Int) + off = (tgt : Int)) (kt : ¬ x = 0 → Go K tgt lv st σ) (kf : x = 0 → Go K (pc + 3) lv st σ) : Go K pc lv (.int x :: st) σ := fun ok hk1 hk2 H locs ls hW hS hl => lv_if_ne ok.1 (ok.2.1.trans hc) d ht (fun h => kt h ok hk1 hk2 H locs ls hW hS hl) (fun h => kf h ok hk1 hk2 H locs ls hW hS hl)
theorem go_icmp_ne (hc : kcc K = cc) {x y : Int32} {off : Int} {tgt : Nat} (d : decode cc pc = .ok (.if_icmp .ne off, 3)) (ht : (pc : Int) + off = (tgt : Int)) (kt : ¬ x = y → Go K tgt lv st σ) (kf : x = y → Go K (pc + 3) lv st σ) : Go K pc lv (.int y :: .int x :: st) σ := fun ok hk1 hk2 H locs ls hW hS hl => lv_icmp_ne ok.1 (ok.2.1.trans hc) d ht (fun h => kt h ok hk1 hk2 H locs ls hW hS hl) (fun h => kf h ok hk1 hk2 H locs ls hW hS hl)
theorem go_if_lt (hc : kcc K = cc) {x : Int32} {off : Int} {tgt : Nat} (d : decode cc pc = .ok (.ifCond .lt off, 3)) (ht : (pc : Int) + off = (tgt : Int)) (kt : x < 0 → Go K tgt lv st σ) (kf : ¬ x < 0 → Go K (pc + 3) lv st σ) : Go K pc lv (.int x :: st) σ := fun ok hk1 hk2 H locs ls hW hS hl => lv_if_lt ok.1 (ok.2.1.trans hc) d ht (fun h => kt h ok hk1 hk2 H locs ls hW hS hl) (fun h => kf h ok hk1 hk2 H locs ls hW hS hl)
theorem go_icmp_lt (hc : kcc K = cc) {x y : Int32} {off : Int} {tgt : Nat} (d : decode cc pc = .ok (.if_icmp .lt off, 3)) (ht : (pc : Int) + off = (tgt : Int)) (kt : x < y → Go K tgt lv st σ) (kf : ¬ x < y → Go K (pc + 3) lv st σ) : Go K pc lv (.int y :: .int x :: st) σ := fun ok hk1 hk2 H locs ls hW hS hl => lv_icmp_lt ok.1 (ok.2.1.trans hc) d ht (fun h => kt h ok hk1 hk2 H locs ls hW hS hl) (fun h => kf h ok hk1 hk2 H locs ls hW hS hl)
theorem go_if_ge (hc : kcc K = cc) {x : Int32} {off : Int} {tgt : Nat} (d : decode cc pc = .ok (.ifCond .ge off, 3)) (ht : (pc : Int) + off = (tgt : Int)) (kt : 0 ≤ x → Go K tgt lv st σ) (kf : ¬ 0 ≤ x → Go K (pc + 3) lv st σ) : Go K pc lv (.int x :: st) σ := fun ok hk1 hk2 H locs ls hW hS hl => lv_if_ge ok.1 (ok.2.1.trans hc) d ht (fun h => kt h ok hk1 hk2 H locs ls hW hS hl) (fun h => kf h ok hk1 hk2 H locs ls hW hS hl)
theorem go_icmp_ge (hc : kcc K = cc) {x y : Int32} {off : Int} {tgt : Nat} (d : decode cc pc = .ok (.if_icmp .ge off, 3)) (ht : (pc : Int) + off = (tgt : Int)) (kt : y ≤ x → Go K tgt lv st σ) (kf : ¬ y ≤ x → Go K (pc + 3) lv st σ) : Go K pc lv (.int y :: .int x :: st) σ := fun ok hk1 hk2 H locs ls hW hS hl => lv_icmp_ge ok.1 (ok.2.1.trans hc) d ht (fun h => kt h ok hk1 hk2 H locs ls hW hS hl) (fun h => kf h ok hk1 hk2 H locs ls hW hS hl)
theorem go_if_gt (hc : kcc K = cc) {x : Int32} {off : Int} {tgt : Nat} (d : decode cc pc = .ok (.ifCond .gt off, 3)) (ht : (pc : Int) + off = (tgt : Int)) (kt : 0 < x → Go K tgt lv st σ) (kf : ¬ 0 < x → Go K (pc + 3) lv st σ) : Go K pc lv (.int x :: st) σ := fun ok hk1 hk2 H locs ls hW hS hl => lv_if_gt ok.1 (ok.2.1.trans hc) d ht (fun h => kt h ok hk1 hk2 H locs ls hW hS hl) (fun h => kf h ok hk1 hk2 H locs ls hW hS hl)
theorem go_icmp_gt (hc : kcc K = cc) {x y : Int32} {off : Int} {tgt : Nat} (d : decode cc pc = .ok (.if_icmp .gt off, 3)) (ht : (pc : Int) + off = (tgt : Int)) (kt : y < x → Go K tgt lv st σ) (kf : ¬ y < x → Go K (pc + 3) lv st σ) : Go K pc lv (.int y :: .int x :: st) σ := fun ok hk1 hk2 H locs ls hW hS hl => lv_icmp_gt ok.1 (ok.2.1.trans hc) d ht (fun h => kt h ok hk1 hk2 H locs ls hW hS hl) (fun h => kf h ok hk1 hk2 H locs ls hW hS hl)
theorem go_if_le (hc : kcc K = cc) {x : Int32} {off : Int} {tgt : Nat} (d : decode cc pc = .ok (.ifCond .le off, 3)) (ht : (pc : Int) + off = (tgt : Int)) (kt : x ≤ 0 → Go K tgt lv st σ) (kf : ¬ x ≤ 0 → Go K (pc + 3) lv st σ) : Go K pc lv (.int x :: st) σ := fun ok hk1 hk2 H locs ls hW hS hl => lv_if_le ok.1 (ok.2.1.trans hc) d ht (fun h => kt h ok hk1 hk2 H locs ls hW hS hl) (fun h => kf h ok hk1 hk2 H locs ls hW hS hl)
theorem go_icmp_le (hc : kcc K = cc) {x y : Int32} {off : Int} {tgt : Nat} (d : decode cc pc = .ok (.if_icmp .le off, 3)) (ht : (pc : Int) + off = (tgt : Int)) (kt : x ≤ y → Go K tgt lv st σ) (kf : ¬ x ≤ y → Go K (pc + 3) lv st σ) : Go K pc lv (.int y :: .int x :: st) σ := fun ok hk1 hk2 H locs ls hW hS hl => lv_icmp_le ok.1 (ok.2.1.trans hc) d ht (fun h => kt h ok hk1 hk2 H locs ls hW hS hl) (fun h => kf h ok hk1 hk2 H locs ls hW hS hl)
theorem go_tabIn (hc : kcc K = cc) {dflt lo hi : Int} {offs : Array Int} {len : Nat} {x : Int32} {off : Int} {tgt : Nat} (d : decode cc pc = .ok (.tableswitch dflt lo hi offs, len)) (h1 : ¬ x.toInt < lo) (h2 : ¬ hi < x.toInt) (hof : offs[(x.toInt - lo).toNat]? = some off) (ht : (pc : Int) + off = (tgt : Int)) (k : Go K tgt lv st σ) : Go K pc lv (.int x :: st) σ := fun ok hk1 hk2 H locs ls hW hS hl => lv_tableIn ok.1 (ok.2.1.trans hc) d h1 h2 hof ht (k ok hk1 hk2 H locs ls hW hS hl)
theorem go_tabOut (hc : kcc K = cc) {dflt lo hi : Int} {offs : Array Int} {len : Nat} {x : Int32} {tgt : Nat} (d : decode cc pc = .ok (.tableswitch dflt lo hi offs, len)) (h : x.toInt < lo ∨ hi < x.toInt) (ht : (pc : Int) + dflt = (tgt : Int)) (k : Go K tgt lv st σ) : Go K pc lv (.int x :: st) σ := fun ok hk1 hk2 H locs ls hW hS hl => lv_tableOut ok.1 (ok.2.1.trans hc) d h ht (k ok hk1 hk2 H locs ls hW hS hl)
theorem go_iret {r : Int32} (hc : kcc K = cc) (hE : oEnd K (some (.int r)) σ) (hr : (kme K).sig.returnType = some .int) (d : decode cc pc = .ok (.ireturn, 1)) : Go K pc lv [.int r] σ := fun ok hk1 hk2 H locs ls hW hS hl => by
  rw [hE]
  exact W.iret ok.1 (ok.2.1.trans hc) hr (fun t ht _ => ⟨rfl, by rw [ht]; exact hW, hS.F ht⟩) hS.2.2 d ok.2.2.2.2.2.2.2.1
theorem go_zret {r : Int32} {ty : FieldType} (hc : kcc K = cc) (hE : oEnd K (some (.int r)) σ) (hr : (kme K).sig.returnType = some ty) (hn : narrow ty (.int r) = .int r) (d : decode cc pc = .ok (.ireturn, 1)) : Go K pc lv [.int r] σ := fun ok hk1 hk2 H locs ls hW hS hl => by
  rw [hE]
  exact W.zret ok.1 (ok.2.1.trans hc) hr hn (fun t ht _ => ⟨rfl, by rw [ht]; exact hW, hS.F ht⟩) hS.2.2 d ok.2.2.2.2.2.2.2.1
theorem go_lret {r : Int64} (hc : kcc K = cc) (hE : oEnd K (some (.long r)) σ) (hr : (kme K).sig.returnType = some .long) (d : decode cc pc = .ok (.lreturn, 1)) : Go K pc lv [.long r] σ := fun ok hk1 hk2 H locs ls hW hS hl => by
  rw [hE]
  exact W.lret ok.1 (ok.2.1.trans hc) hr (fun t ht _ => ⟨rfl, by rw [ht]; exact hW, hS.F ht⟩) hS.2.2 d ok.2.2.2.2.2.2.2.1
theorem go_vret (hc : kcc K = cc) (hE : oEnd K none σ) (hr : (kme K).sig.returnType = none) (d : decode cc pc = .ok (.return_, 1)) : Go K pc lv [] σ := fun ok hk1 hk2 H locs ls hW hS hl => by
  rw [hE]
  exact W.vret ok.1 (ok.2.1.trans hc) hr (fun t ht _ => ⟨rfl, by rw [ht]; exact hW, hS.F ht⟩) hS.2.2 d ok.2.2.2.2.2.2.2.1
end
