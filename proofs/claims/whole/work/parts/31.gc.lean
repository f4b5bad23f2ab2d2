abbrev CK : Type := Program × Launch × Env × Room × State × MethodId × Array Value × List Frame × Method × Code × OG × (Nat → Prop) × ByteArray × String × Nat × (State → Prop) × Array Slot × List Value
abbrev cp (K : CK) : Program := K.1
abbrev cl (K : CK) : Launch := K.2.1
abbrev ce (K : CK) : Env := K.2.2.1
abbrev cR (K : CK) : Room := K.2.2.2.1
abbrev cs (K : CK) : State := K.2.2.2.2.1
abbrev cm (K : CK) : MethodId := K.2.2.2.2.2.1
abbrev car (K : CK) : Array Value := K.2.2.2.2.2.2.1
abbrev cbe (K : CK) : List Frame := K.2.2.2.2.2.2.2.1
abbrev cme (K : CK) : Method := K.2.2.2.2.2.2.2.2.1
abbrev cco (K : CK) : Code := K.2.2.2.2.2.2.2.2.2.1
abbrev cg (K : CK) : OG := K.2.2.2.2.2.2.2.2.2.2.1
abbrev cA (K : CK) : Nat → Prop := K.2.2.2.2.2.2.2.2.2.2.2.1
abbrev ccc (K : CK) : ByteArray := K.2.2.2.2.2.2.2.2.2.2.2.2.1
abbrev cow (K : CK) : String := K.2.2.2.2.2.2.2.2.2.2.2.2.2.1
abbrev cnL (K : CK) : Nat := K.2.2.2.2.2.2.2.2.2.2.2.2.2.2.1
abbrev cQ (K : CK) : State → Prop := K.2.2.2.2.2.2.2.2.2.2.2.2.2.2.2.1
abbrev cls (K : CK) : Array Slot := K.2.2.2.2.2.2.2.2.2.2.2.2.2.2.2.2.1
abbrev cav (K : CK) : List Value := K.2.2.2.2.2.2.2.2.2.2.2.2.2.2.2.2.2
/-- what the tables say, as far as constructors need it -/
def oKc (g : OG) (U : State) : Prop := va_K (oDD g) vwCl (oty g) U ∧ (∀ w ∈ onest, va_Nw w U) ∧ va_AO RX1 U ∧ va_AO RX7 U
theorem oKc_warm {g : OG} {s U : State} (h : oKc g s) (hW : s.WarmedH U.vm) : oKc g U := ⟨va_K.moved hW.alike h.1, fun w hw => onest_warm hw hW (h.2.1 w hw), h.2.2.1.moved hW.alike, h.2.2.2.moved hW.alike⟩
theorem oKc_same {g : OG} {s U : State} (h : oKc g s) (hv : s.vm = U.vm) : oKc g U := ⟨va_K.moved (hv ▸ Vm.Alike.refl s.vm) h.1, fun w hw => onest_same hw hv (h.2.1 w hw), h.2.2.1.moved (hv ▸ Vm.Alike.refl s.vm), h.2.2.2.moved (hv ▸ Vm.Alike.refl s.vm)⟩
def cOk (K : CK) : Prop := (cp K).tables.exec = Jvm.exec ∧ (cco K).code = ccc K ∧ (cco K).maxLocals = cnL K ∧ (cs K).vm.findClass (cow K) = some (cm K).cls ∧ (∀ w ∈ otb, w.before (car K) (cs K) = true) ∧ oKc (cg K) (cs K) ∧ (∀ q, (cs K).heap.size ≤ q → cA K q) ∧ (cme K).locks = false ∧ (cow K = "OneAnswerLaw" ∨ (cme K).name = "<init>") ∧ lv_has (cls K) (cnL K) (lv_args 0 (cav K)) ∧ 1 ≤ (cR K).frames ∧ 64 ≤ (cR K).locals
def Gc (K : CK) (pc : Nat) (st : List Value) (ws : va_W) (k n : Nat) : Prop :=
  cOk K → ∀ (H : Heap) (locs : List Loc), va_P (oDD (cg K)) vwCl ws H → va_D (cA K) ws → va_S (cA K) (cs K).heap H locs →
    W (cp K) (cl K) (ce K) (cR K) (cs K) (cm K) (car K) (cbe K) (cme K) (cco K) H locs k n (cQ K) (F0 (cm K) pc (cls K) st)
section
variable {K : CK} {cc : ByteArray} {pc : Nat} {st : List Value} {ws : va_W} {k n : Nat} {own : String} {idx ci j : Nat} {a : Nat}
theorem gc_aload_n (hc : ccc K = cc) {k0 : Fin 4} {i q x : Nat} (d : decode cc pc = .ok (.aload_n k0, 1)) (hi : (k0 : Nat) = i) (hl0 : (lv_args 0 (cav K))[q]? = some (i, .ref x)) (kk : Gc K (pc + 1) (.ref x :: st) ws k n) : Gc K pc st ws k n := fun ok H locs hP hD hS => lv_aload_n ok.1 (ok.2.1.trans hc) d hi (lv_at ok.2.2.2.2.2.2.2.2.2.1 q hl0) (kk ok H locs hP hD hS)
theorem gc_iconst (hc : ccc K = cc) {z : Int} {v : Int32} (d : decode cc pc = .ok (.iconst z, 1)) (hv : Int32.ofInt z = v) (kk : Gc K (pc + 1) (.int v :: st) ws k n) : Gc K pc st ws k n := fun ok H locs hP hD hS => lv_iconst ok.1 (ok.2.1.trans hc) d hv (kk ok H locs hP hD hS)
theorem gc_bipush (hc : ccc K = cc) {z : Int} {v : Int32} (d : decode cc pc = .ok (.bipush z, 2)) (hv : (Int8.ofInt z).toInt32 = v) (kk : Gc K (pc + 2) (.int v :: st) ws k n) : Gc K pc st ws k n := fun ok H locs hP hD hS => lv_bipush ok.1 (ok.2.1.trans hc) d hv (kk ok H locs hP hD hS)
theorem gc_sipush (hc : ccc K = cc) {z : Int} {v : Int32} (d : decode cc pc = .ok (.sipush z, 3)) (hv : (Int16.ofInt z).toInt32 = v) (kk : Gc K (pc + 3) (.int v :: st) ws k n) : Gc K pc st ws k n := fun ok H locs hP hD hS => lv_sipush ok.1 (ok.2.1.trans hc) d hv (kk ok H locs hP hD hS)
theorem gc_dup (hc : ccc K = cc) {v : Value} (d : decode cc pc = .ok (.dup, 1)) (hv : v.category = 1) (kk : Gc K (pc + 1) (v :: v :: st) ws k n) : Gc K pc (v :: st) ws k n := fun ok H locs hP hD hS => lv_dup ok.1 (ok.2.1.trans hc) d hv (kk ok H locs hP hD hS)
theorem gc_obj (hc : ccc K = cc) (ho : cow K = own) (hw : Cond.methodLink own idx objectInit ∈ otb) (hi : Cond.instanceMethod objectInit ∈ otb) (hb : Cond.code objectInit ⟨#[0xb1]⟩ 1 none ∈ otb) (d : decode cc pc = .ok (.invokespecial idx, 3)) (kk : Gc K (pc + 3) [] ws k n) : Gc K pc [.ref a] ws k n := fun ok H locs hP hD hS =>
  W.objInit ok.1 (ok.2.1.trans hc) (ho ▸ ok.2.2.2.1) (ok.2.2.2.2.1 _ hw) (ok.2.2.2.2.1 _ hi) (ok.2.2.2.2.1 _ hb) rfl (by rw [ok.2.2.1]; exact ok.2.2.2.2.2.2.2.2.2.1.1) rfl d ok.2.2.2.2.2.2.2.2.2.2.1 (by show 2 * 0 + 0 + 12 ≤ _; have := ok.2.2.2.2.2.2.2.2.2.2.2; omega) (kk ok H locs hP hD hS)
theorem gc_ref (hc : ccc K = cc) {own : String} {x y : ClassId} {s : State} {c : String} (hx : s.vm.findClass c = some x) (hy : s.vm.findClass c = some y) : x = y := Option.some.inj (hx.symm.trans hy)

theorem gc_newi (hc : ccc K = cc) (ha : Cond.arrayClass .int ∈ otb) {v : Int32} {N1 : Nat} (d : decode cc pc = .ok (.newarray .int, 2)) (hn : ¬ v < 0) (hN : v.toNatClampNeg = N1) (hb : N1 * componentBytes .int ≤ 536870912) (h1 : k + 1 ≤ (cR K).cells) (h2 : n + N1 ≤ (cR K).slots) (kk : ∀ q : Nat, Gc K (pc + 2) (.ref q :: st) (ws ++ [(q, .inl ((cg K).2.2.2.1 0, N1, .inl (fun _ => 0)))]) (k + 1) (n + N1)) : Gc K pc (.int v :: st) ws k n := fun ok H locs hP hD hS => by
  refine va_newa (atype := .int) (D := oDD (cg K)) (cl := vwCl) (tys := oty (cg K)) (ty := .int) (a0 := (N1, .inl (fun _ => 0))) (N' := N1) ok.1 (ok.2.1.trans hc) (ok.2.2.2.2.1 _ ha) rfl ok.2.2.2.2.2.1.1 hP hD hS ok.2.2.2.2.2.2.1 (fun _ => rfl) hn hN hb h1 h2 d (fun q cA1 H1 hK1 hP1 hD1 hS1 => ?_)
  have e1 : (cs K).vm.findClass ("[" ++ (.int : FieldType).toString) = some cA1 := (hK1.2 6 (cA1, .int) rfl).2
  have e2 : (cs K).vm.findClass ("[" ++ (.int : FieldType).toString) = some ((cg K).2.2.2.1 0) := (ok.2.2.2.2.2.1.1.2 0 _ rfl).2
  have e3 : cA1 = (cg K).2.2.2.1 0 := Option.some.inj (e1.symm.trans e2)
  subst e3
  exact kk q ok H1 locs hP1 hD1 hS1
theorem gc_newl (hc : ccc K = cc) (ha : Cond.arrayClass .long ∈ otb) {v : Int32} {N1 : Nat} (d : decode cc pc = .ok (.newarray .long, 2)) (hn : ¬ v < 0) (hN : v.toNatClampNeg = N1) (hb : N1 * componentBytes .long ≤ 536870912) (h1 : k + 1 ≤ (cR K).cells) (h2 : n + N1 ≤ (cR K).slots) (kk : ∀ q : Nat, Gc K (pc + 2) (.ref q :: st) (ws ++ [(q, .inl ((cg K).2.2.2.1 1, N1, .inr (.inl (fun _ => 0))))]) (k + 1) (n + N1)) : Gc K pc (.int v :: st) ws k n := fun ok H locs hP hD hS => by
  refine va_newa (atype := .long) (D := oDD (cg K)) (cl := vwCl) (tys := oty (cg K)) (ty := .long) (a0 := (N1, .inr (.inl (fun _ => 0)))) (N' := N1) ok.1 (ok.2.1.trans hc) (ok.2.2.2.2.1 _ ha) rfl ok.2.2.2.2.2.1.1 hP hD hS ok.2.2.2.2.2.2.1 (fun _ => rfl) hn hN hb h1 h2 d (fun q cA1 H1 hK1 hP1 hD1 hS1 => ?_)
  have e1 : (cs K).vm.findClass ("[" ++ (.long : FieldType).toString) = some cA1 := (hK1.2 6 (cA1, .long) rfl).2
  have e2 : (cs K).vm.findClass ("[" ++ (.long : FieldType).toString) = some ((cg K).2.2.2.1 1) := (ok.2.2.2.2.2.1.1.2 1 _ rfl).2
  have e3 : cA1 = (cg K).2.2.2.1 1 := Option.some.inj (e1.symm.trans e2)
  subst e3
  exact kk q ok H1 locs hP1 hD1 hS1
theorem gc_newb (hc : ccc K = cc) (ha : Cond.arrayClass .byte ∈ otb) {v : Int32} {N1 : Nat} (d : decode cc pc = .ok (.newarray .byte, 2)) (hn : ¬ v < 0) (hN : v.toNatClampNeg = N1) (hb : N1 * componentBytes .byte ≤ 536870912) (h1 : k + 1 ≤ (cR K).cells) (h2 : n + N1 ≤ (cR K).slots) (kk : ∀ q : Nat, Gc K (pc + 2) (.ref q :: st) (ws ++ [(q, .inl ((cg K).2.2.2.1 2, N1, .inl (fun _ => 0)))]) (k + 1) (n + N1)) : Gc K pc (.int v :: st) ws k n := fun ok H locs hP hD hS => by
  refine va_newa (atype := .byte) (D := oDD (cg K)) (cl := vwCl) (tys := oty (cg K)) (ty := .byte) (a0 := (N1, .inl (fun _ => 0))) (N' := N1) ok.1 (ok.2.1.trans hc) (ok.2.2.2.2.1 _ ha) rfl ok.2.2.2.2.2.1.1 hP hD hS ok.2.2.2.2.2.2.1 (fun _ => rfl) hn hN hb h1 h2 d (fun q cA1 H1 hK1 hP1 hD1 hS1 => ?_)
  have e1 : (cs K).vm.findClass ("[" ++ (.byte : FieldType).toString) = some cA1 := (hK1.2 6 (cA1, .byte) rfl).2
  have e2 : (cs K).vm.findClass ("[" ++ (.byte : FieldType).toString) = some ((cg K).2.2.2.1 2) := (ok.2.2.2.2.2.1.1.2 2 _ rfl).2
  have e3 : cA1 = (cg K).2.2.2.1 2 := Option.some.inj (e1.symm.trans e2)
  subst e3
  exact kk q ok H1 locs hP1 hD1 hS1
theorem gc_newz (hc : ccc K = cc) (ha : Cond.arrayClass .boolean ∈ otb) {v : Int32} {N1 : Nat} (d : decode cc pc = .ok (.newarray .boolean, 2)) (hn : ¬ v < 0) (hN : v.toNatClampNeg = N1) (hb : N1 * componentBytes .boolean ≤ 536870912) (h1 : k + 1 ≤ (cR K).cells) (h2 : n + N1 ≤ (cR K).slots) (kk : ∀ q : Nat, Gc K (pc + 2) (.ref q :: st) (ws ++ [(q, .inl ((cg K).2.2.2.1 3, N1, .inl (fun _ => 0)))]) (k + 1) (n + N1)) : Gc K pc (.int v :: st) ws k n := fun ok H locs hP hD hS => by
  refine va_newa (atype := .boolean) (D := oDD (cg K)) (cl := vwCl) (tys := oty (cg K)) (ty := .boolean) (a0 := (N1, .inl (fun _ => 0))) (N' := N1) ok.1 (ok.2.1.trans hc) (ok.2.2.2.2.1 _ ha) rfl ok.2.2.2.2.2.1.1 hP hD hS ok.2.2.2.2.2.2.1 (fun _ => rfl) hn hN hb h1 h2 d (fun q cA1 H1 hK1 hP1 hD1 hS1 => ?_)
  have e1 : (cs K).vm.findClass ("[" ++ (.boolean : FieldType).toString) = some cA1 := (hK1.2 6 (cA1, .boolean) rfl).2
  have e2 : (cs K).vm.findClass ("[" ++ (.boolean : FieldType).toString) = some ((cg K).2.2.2.1 3) := (ok.2.2.2.2.2.1.1.2 3 _ rfl).2
  have e3 : cA1 = (cg K).2.2.2.1 3 := Option.some.inj (e1.symm.trans e2)
  subst e3
  exact kk q ok H1 locs hP1 hD1 hS1
theorem gc_anew4 (hc : ccc K = cc) (ho : cow K = own) (hw : Cond.classLink own idx RX1 ∈ otb) {v : Int32} {N1 : Nat} (d : decode cc pc = .ok (.anewarray idx, 3)) (hn : ¬ v < 0) (hN : v.toNatClampNeg = N1) (hb : N1 * 4 ≤ 536870912) (h1 : k + 1 ≤ (cR K).cells) (h2 : n + N1 ≤ (cR K).slots) (kk : ∀ q : Nat, Gc K (pc + 3) (.ref q :: st) (ws ++ [(q, .inl ((cg K).2.2.2.1 4, N1, .inr (.inr (.inr (.inr (fun _ => none))))))]) (k + 1) (n + N1)) : Gc K pc (.int v :: st) ws k n := fun ok H locs hP hD hS => by
  refine va_newq (D := oDD (cg K)) (cl := vwCl) (tys := oty (cg K)) (N' := N1) (C := RX1) ok.1 (ok.2.1.trans hc) (ho ▸ ok.2.2.2.1) (ok.2.2.2.2.1 _ hw) ok.2.2.2.2.2.1.2.2.1 ok.2.2.2.2.2.1.1 hP hD hS ok.2.2.2.2.2.2.1 hn hN hb h1 h2 d (fun q cA1 H1 hK1 hP1 hD1 hS1 => ?_)
  obtain ⟨k1, c1, -, -, -, e1⟩ := (hK1.2 6 (cA1, .object RX1) rfl).2
  obtain ⟨k2, c2, -, -, -, e2⟩ := (ok.2.2.2.2.2.1.1.2 4 _ rfl).2
  have e3 : cA1 = (cg K).2.2.2.1 4 := Option.some.inj (e1.symm.trans e2)
  subst e3
  exact kk q ok H1 locs hP1 hD1 hS1
theorem gc_anew5 (hc : ccc K = cc) (ho : cow K = own) (hw : Cond.classLink own idx RX7 ∈ otb) {v : Int32} {N1 : Nat} (d : decode cc pc = .ok (.anewarray idx, 3)) (hn : ¬ v < 0) (hN : v.toNatClampNeg = N1) (hb : N1 * 4 ≤ 536870912) (h1 : k + 1 ≤ (cR K).cells) (h2 : n + N1 ≤ (cR K).slots) (kk : ∀ q : Nat, Gc K (pc + 3) (.ref q :: st) (ws ++ [(q, .inl ((cg K).2.2.2.1 5, N1, .inr (.inr (.inr (.inr (fun _ => none))))))]) (k + 1) (n + N1)) : Gc K pc (.int v :: st) ws k n := fun ok H locs hP hD hS => by
  refine va_newq (D := oDD (cg K)) (cl := vwCl) (tys := oty (cg K)) (N' := N1) (C := RX7) ok.1 (ok.2.1.trans hc) (ho ▸ ok.2.2.2.1) (ok.2.2.2.2.1 _ hw) ok.2.2.2.2.2.1.2.2.2 ok.2.2.2.2.2.1.1 hP hD hS ok.2.2.2.2.2.2.1 hn hN hb h1 h2 d (fun q cA1 H1 hK1 hP1 hD1 hS1 => ?_)
  obtain ⟨k1, c1, -, -, -, e1⟩ := (hK1.2 6 (cA1, .object RX7) rfl).2
  obtain ⟨k2, c2, -, -, -, e2⟩ := (ok.2.2.2.2.2.1.1.2 5 _ rfl).2
  have e3 : cA1 = (cg K).2.2.2.1 5 := Option.some.inj (e1.symm.trans e2)
  subst e3
  exact kk q ok H1 locs hP1 hD1 hS1
def oFN (own : String) (idx ci : Nat) (C : String) (T : u_T) (ty0 : Nat → FieldType) : Prop := vwCl[ci]? = some (C, T, onf ci) ∧ (∀ w ∈ u_ws C T (onf ci), w ∈ otb) ∧ (∀ k, k < onf ci → parseFieldDescriptor (T k).2.2.1 = some (ty0 k)) ∧ (∀ a, a < onf ci → ∀ b, b < onf ci → a ≠ b → (T a).2.1 ≠ (T b).2.1)
theorem gc_new (hc : ccc K = cc) (ho : cow K = own) {C : String} {T : u_T} {ty0 : Nat → FieldType} (L : oFN own idx ci C T ty0) (h3 : Cond.classLink own idx C ∈ otb) (h4 : Cond.instantiable C (onf ci) ∈ otb) (h5 : Cond.initialized C ∈ otb) {fs : List Value} (hfs : ∀ j, j < onf ci → defaultValue (ty0 j) = vp_V fs j) (d : decode cc pc = .ok (.new idx, 3)) (h1 : k + 1 ≤ (cR K).cells) (h2 : n + onf ci ≤ (cR K).slots) (kk : ∀ q : Nat, Gc K (pc + 3) (.ref q :: st) (ws ++ [(q, .inr (ci, fs))]) (k + 1) (n + onf ci)) : Gc K pc st ws k n := fun ok H locs hP hD hS =>
  va_new (D := oDD (cg K)) (cl := vwCl) (tys := oty (cg K)) (C := C) (T := T) (N := onf ci) ok.1 (ok.2.1.trans hc) ok.2.2.2.2.1 L.2.1 ty0 L.2.2.1 (ho ▸ ok.2.2.2.1) (ok.2.2.2.2.1 _ h3) (ok.2.2.2.2.1 _ h4) (ok.2.2.2.2.1 _ h5) ok.2.2.2.2.2.1.1 hP hD hS ok.2.2.2.2.2.2.1 L.1 hfs h1 h2 d (fun q H1 hP1 hD1 hS1 => kk q ok H1 locs hP1 hD1 hS1)
theorem gc_putF (hc : ccc K = cc) (ho : cow K = own) (hol : own ≠ "OneAnswerLaw") {C : String} {T : u_T} {ty0 : Nat → FieldType} (L : oFN own idx ci C T ty0) (hw : Cond.fieldLink own idx (T j).1 (T j).2.1 (T j).2.2.1 ∈ otb) (hj : j < onf ci) (hf : (T j).2.2.2 = true) (hd : (T j).1 = own) {ty : FieldType} (ht : parseFieldDescriptor (T j).2.2.1 = some ty) (d : decode cc pc = .ok (.putfield idx, 3)) (q0 : Nat) {fs : List Value} {v : Value} (he : ws[q0]? = some (a, .inr (ci, fs))) (hn : narrow ty v = v) (hfit : fits ty v = true) (hl : j < fs.length) {ws1 : va_W} (hs : ws.set q0 (a, .inr (ci, fs.set j v)) = ws1) (kk : Gc K (pc + 3) st ws1 k n) : Gc K pc (v :: .ref a :: st) ws k n := fun ok H locs hP hD hS =>
  va_putF (D := oDD (cg K)) (cl := vwCl) (tys := oty (cg K)) (C := C) (T := T) (N := onf ci) ok.1 (ok.2.1.trans hc) ok.2.2.2.2.1 L.2.1 ty0 L.2.2.1 L.2.2.2 (ho ▸ ok.2.2.2.1) ok.2.2.2.2.2.1.1 hP hD hS q0 he L.1 j hj (ok.2.2.2.2.1 _ hw) (fun _ h => h) hf (ok.2.2.2.2.2.2.2.2.1.resolve_left (fun e => hol (ho.symm.trans e))) hd ht hn hfit hl d (fun H1 locs1 hP1 hD1 hS1 => kk ok H1 locs1 (hs ▸ hP1) (hs ▸ hD1) hS1)
theorem gc_put (hc : ccc K = cc) (ho : cow K = own) {C : String} {T : u_T} {ty0 : Nat → FieldType} (L : oFN own idx ci C T ty0) (hw : Cond.fieldLink own idx (T j).1 (T j).2.1 (T j).2.2.1 ∈ otb) (hj : j < onf ci) (hf : (T j).2.2.2 = false) {ty : FieldType} (ht : parseFieldDescriptor (T j).2.2.1 = some ty) (d : decode cc pc = .ok (.putfield idx, 3)) (q0 : Nat) {fs : List Value} {v : Value} (he : ws[q0]? = some (a, .inr (ci, fs))) (hn : narrow ty v = v) (hfit : fits ty v = true) (hl : j < fs.length) {ws1 : va_W} (hs : ws.set q0 (a, .inr (ci, fs.set j v)) = ws1) (kk : Gc K (pc + 3) st ws1 k n) : Gc K pc (v :: .ref a :: st) ws k n := fun ok H locs hP hD hS =>
  va_put (D := oDD (cg K)) (cl := vwCl) (tys := oty (cg K)) (C := C) (T := T) (N := onf ci) ok.1 (ok.2.1.trans hc) ok.2.2.2.2.1 L.2.1 ty0 L.2.2.1 L.2.2.2 (ho ▸ ok.2.2.2.1) ok.2.2.2.2.2.1.1 hP hD hS q0 he L.1 j hj (ok.2.2.2.2.1 _ hw) (fun _ h => h) hf ht hn hfit hl d (fun H1 locs1 hP1 hD1 hS1 => kk ok H1 locs1 (hs ▸ hP1) (hs ▸ hD1) hS1)
theorem gc_getR (hc : ccc K = cc) (ho : cow K = own) {C : String} {T : u_T} {ty0 : Nat → FieldType} (L : oFN own idx ci C T ty0) (hw : Cond.fieldLink own idx (T j).1 (T j).2.1 (T j).2.2.1 ∈ otb) (hj : j < onf ci) (d : decode cc pc = .ok (.getfield idx, 3)) (q0 : Nat) {fs : List Value} {v : Value} (he : ws[q0]? = some (a, .inr (ci, fs))) (hv : fs[j]? = some v) (kk : Gc K (pc + 3) (v :: st) ws k n) : Gc K pc (.ref a :: st) ws k n := fun ok H locs hP hD hS =>
  va_get (D := oDD (cg K)) (cl := vwCl) (tys := oty (cg K)) (C := C) (T := T) (N := onf ci) (v := v) ok.1 (ok.2.1.trans hc) ok.2.2.2.2.1 L.2.1 (ho ▸ ok.2.2.2.1) ok.2.2.2.2.2.1.1 hP q0 he L.1 j hj (ok.2.2.2.2.1 _ hw) (fun _ h => h) hv d (kk ok H locs hP hD hS)

theorem gc_ast4 (hc : ccc K = cc) (d : decode cc pc = .ok (.aastore, 1)) (q0 qk : Nat) {N1 v : Nat} {vs : List Value} {f : Nat → Option Nat} (ha : ws[q0]? = some (a, .inl ((cg K).2.2.2.1 4, N1, .inr (.inr (.inr (.inr f)))))) (hv : ws[qk]? = some (v, .inr (1, vs))) {i : Int32} {ix : Nat} (hin : vp_in i N1) (hi : i.toNatClampNeg = ix) {ws1 : va_W} (hs : ws.set q0 (a, .inl ((cg K).2.2.2.1 4, N1, .inr (.inr (.inr (.inr (va_up f ix (some v))))))) = ws1) (kk : Gc K (pc + 1) st ws1 k n) : Gc K pc (.ref v :: .int i :: .ref a :: st) ws k n := fun ok H locs hP hD hS => by
  subst hi
  exact va_astq (D := oDD (cg K)) (cl := vwCl) (tys := oty (cg K)) (r := (RX1, TX1, onf 1)) ok.1 (ok.2.1.trans hc) ok.2.2.2.2.2.1.1 hP hD hS q0 4 qk 1 ha rfl hv rfl hin d (fun H1 locs1 hP1 hD1 hS1 => kk ok H1 locs1 (hs ▸ hP1) (hs ▸ hD1) hS1)
theorem gc_ast5 (hc : ccc K = cc) (d : decode cc pc = .ok (.aastore, 1)) (q0 qk : Nat) {N1 v : Nat} {vs : List Value} {f : Nat → Option Nat} (ha : ws[q0]? = some (a, .inl ((cg K).2.2.2.1 5, N1, .inr (.inr (.inr (.inr f)))))) (hv : ws[qk]? = some (v, .inr (7, vs))) {i : Int32} {ix : Nat} (hin : vp_in i N1) (hi : i.toNatClampNeg = ix) {ws1 : va_W} (hs : ws.set q0 (a, .inl ((cg K).2.2.2.1 5, N1, .inr (.inr (.inr (.inr (va_up f ix (some v))))))) = ws1) (kk : Gc K (pc + 1) st ws1 k n) : Gc K pc (.ref v :: .int i :: .ref a :: st) ws k n := fun ok H locs hP hD hS => by
  subst hi
  exact va_astq (D := oDD (cg K)) (cl := vwCl) (tys := oty (cg K)) (r := (RX7, TX7, onf 7)) ok.1 (ok.2.1.trans hc) ok.2.2.2.2.2.1.1 hP hD hS q0 5 qk 7 ha rfl hv rfl hin d (fun H1 locs1 hP1 hD1 hS1 => kk ok H1 locs1 (hs ▸ hP1) (hs ▸ hD1) hS1)
end
def oB (h0 sz : Nat) : Nat → Prop := fun q => q = h0 ∨ sz ≤ q
def oPk (g : OG) (sz h0 ci : Nat) (dfl : List Value) : State → Prop := fun U => U.heap.size = sz ∧ va_P (oDD g) vwCl [(h0, .inr (ci, dfl))] U.heap ∧ oKc g U
def oQk (g : OG) (sz h0 : Nat) (Xw : (Nat → Nat) → va_W) : Array Value → State → Outcome → State → Prop := fun _ st oc t => oc = .returned none ∧ (∃ ad : Nat → Nat, ad 0 = h0 ∧ va_P (oDD g) vwCl (Xw ad) t.heap ∧ va_D (oB h0 sz) (Xw ad)) ∧ va_F (oB h0 sz) st t
def orc (fr mc ms : Nat) : Room := { frames := fr, cells := mc, slots := ms, locals := 64 * fr }
/-- a constructor's run: out of a cell of defaults a block of cells -/
def oCt (M : OMd) (ci : Nat) (dfl : List Value) (args : List Value) (Xw : OG → (Nat → Nat) → va_W) (fr mc ms : Nat) : Prop := ∀ (l : Launch) (g : OG) (h0 sz : Nat), Met l M.1 (ows M) (orc fr mc ms) (va_Pc (.ref h0 :: args) (oPk g sz h0 ci dfl)) (oQk g sz h0 (Xw g)) mc ms (oB h0 sz)
theorem oPk_blind (g : OG) (av : List Value) (sz h0 ci : Nat) (dfl : List Value) : FrameBlind (va_Pc av (oPk g sz h0 ci dfl)) := by
  intro a U g1 mk h
  exact ⟨h.1, h.2.1, h.2.2.1, oKc_same h.2.2.2 rfl⟩
def oCI (M : OMd) (n : Nat) : Prop := oCM M n ∧ Cond.instanceMethod M.1 ∈ otb ∧ M.1.name = "<init>"
section
variable {K : CK} {cc : ByteArray} {pc : Nat} {st : List Value} {ws : va_W} {k n : Nat} {own : String} {idx ci : Nat} {a : Nat}
theorem gc_after {H : Heap} {locs : List Loc} {st0 rest : List Value} {av : Array Value} {sz h0 mc ms : Nat} {dfl : List Value} {Xw : (Nat → Nat) → va_W} (ok : cOk K) (hP : va_P (oDD (cg K)) vwCl (ws ++ [(h0, .inr (ci, dfl))]) H) (hD : va_D (cA K) (ws ++ [(h0, .inr (ci, dfl))])) (hsz : sz = H.size)
    (hr : va_Run (cp K) (cl K) (ce K) (cR K) (cs K) (cm K) (car K) (cbe K) (cme K) (cco K) H locs k n mc ms (F0 (cm K) pc (cls K) st0) rest (oQk (cg K) sz h0 Xw av) (oB h0 sz)) (hS : va_S (cA K) (cs K).heap H locs)
    (kk : ∀ ad : Nat → Nat, ad 0 = h0 → Gc K (pc + 3) rest (ws ++ Xw ad) (k + mc) (n + ms)) :
    W (cp K) (cl K) (ce K) (cR K) (cs K) (cm K) (car K) (cbe K) (cme K) (cco K) H locs k n (cQ K) (F0 (cm K) pc (cls K) st0) := by
  subst hsz
  have hlast : (ws ++ [(h0, Sum.inr (ci, dfl))])[ws.length]? = some (h0, Sum.inr (ci, dfl)) := by simp
  have hin : ∀ (i : Nat) (q : Nat × va_E), ws[i]? = some q → (ws ++ [(h0, Sum.inr (ci, dfl))])[i]? = some q := fun i q hq => by
    rw [List.getElem?_append_left (List.getElem?_eq_some_iff.mp hq).1]; exact hq
  have hAq : ∀ q, oB h0 H.size q → cA K q := fun q hq => by
    rcases hq with e | e
    · rw [e]; exact hD.2 _ _ hlast
    · exact ok.2.2.2.2.2.2.1 q (Nat.le_trans hS.1 e)
  have hne : ∀ (i : Nat) (q : Nat × va_E), ws[i]? = some q → q.1 < H.size ∧ ¬ oB h0 H.size q.1 := fun i q hq => by
    have h1 : q.1 < H.size := (hP i q (hin i q hq)).lt
    refine ⟨h1, fun hb => ?_⟩
    rcases hb with e | e
    · have := hD.1 i ws.length q _ (hin i q hq) hlast e
      have := (List.getElem?_eq_some_iff.mp hq).1
      omega
    · omega
  intro T hT X
  obtain ⟨v, st₀, t, T1, L, h0h, X1, hL, e1, e2, ⟨hv, ⟨ad, had, hPw, hDw⟩, hz, hk⟩, stp⟩ := hr T hT X
  cases hv
  rw [h0h] at hz hk
  have hPo : va_P (oDD (cg K)) vwCl ws T1.heap := by
    refine va_P.kept (H := H) (fun i q hq => hP i q (hin i q hq)) (fun i q hq => ?_)
    rw [e1, hk q.1 (hne i q hq).1 (hne i q hq).2]
  have hDn : va_D (cA K) (ws ++ Xw ad) := by
    refine ⟨fun i j p q hp hq e => ?_, fun i q hq => ?_⟩
    · rw [List.getElem?_append] at hp hq
      split at hp <;> split at hq
      · exact hD.1 i j p q (hin i p hp) (hin j q hq) e
      · exact absurd (hDw.2 _ q hq) (e ▸ (hne i p hp).2)
      · exact absurd (hDw.2 _ p hp) (e ▸ (hne j q hq).2)
      · have := hDw.1 _ _ p q hp hq e
        omega
    · rw [List.getElem?_append] at hq
      split at hq
      · exact hD.2 i q (hin i q hq)
      · exact hAq _ (hDw.2 _ q hq)
  obtain ⟨t2, a1, b1⟩ := kk ad had ok T1.heap (locs ++ L) (hPo.app (by rw [e1]; exact hPw)) hDn
    ⟨Nat.le_trans hS.1 (by rw [e1]; exact hz), fun q h1 h2 => by rw [e1, hk q (Nat.lt_of_lt_of_le h1 hS.1) (fun z => h2 (hAq q z))]; exact hS.2.1 q h1 h2, fun q hq => by
      rcases List.mem_append.mp hq with h | h
      · exact hS.2.2 q h
      · exact hAq _ (hL q h)⟩ T1 rfl X1
  exact ⟨t2, stp t2 a1, b1⟩
theorem gc_pay (ok : cOk K) {M : OMd} {n : Nat} (hM : oCM M n) : ∀ w ∈ ows M, ∀ (a' : Array Value) (U : State), (cs K).WarmedH U.vm → w.before a' U = true := by
  have hG : GoodIn otb (ows M) := fun w hw => by
    rcases List.mem_cons.mp hw with h | h
    · rw [h]; exact otb_good _ hM.1
    · exact otb_good _ h
  exact pay_in ok.2.2.2.2.1 hG
theorem gc_preU (ok : cOk K) {H : Heap} {h0 : Nat} {dfl : List Value} {ws0 : va_W} (hP : va_P (oDD (cg K)) vwCl (ws0 ++ [(h0, .inr (ci, dfl))]) H) (av : List Value) : ∀ U : State, U.heap = H → (cs K).WarmedH U.vm → va_Pc av (oPk (cg K) H.size h0 ci dfl) av.toArray U := fun U hU hw =>
  ⟨rfl, by rw [hU], by
    rw [hU]
    intro i q hq
    cases i with
    | zero => exact hP ws0.length q (by rw [← hq]; simp)
    | succ i => simp at hq, oKc_warm ok.2.2.2.2.2.1 hw⟩
theorem gc_call (hc : ccc K = cc) (ho : cow K = own) {M : OMd} {na fr mc ms : Nat} (L : oCI M na) (hr0 : M.2.2.2 = none) (hw : Cond.methodLink own idx M.1 ∈ otb) (d : decode cc pc = .ok (.invokespecial idx, 3)) {dfl args rest : List Value} {h0 : Nat} {Xw : OG → (Nat → Nat) → va_W} (hct : oCt M ci dfl args Xw fr mc ms) (hst : st = args.reverse ++ .ref h0 :: rest) (hf : fr + 1 ≤ (cR K).frames) (hfl : 64 * (fr + 1) ≤ (cR K).locals) (hn : args.length = na) (hcat : (rest.map fun v => v.category).sum ≤ 8) (h1 : k + mc ≤ (cR K).cells) (h2 : n + ms ≤ (cR K).slots)
    (kk : ∀ ad : Nat → Nat, ad 0 = h0 → Gc K (pc + 3) rest (ws ++ Xw (cg K) ad) (k + mc) (n + ms)) : Gc K pc st (ws ++ [(h0, .inr (ci, dfl))]) k n := fun ok H locs hP hD hS => by
  obtain ⟨hM, hin, hnm⟩ := L
  have hcb : CallB (cR K) (cs K) (car K) (cow K) idx M.1 M.2.1 M.2.2.1 none (ows M) (orc fr mc ms) mc ms na := by
    have hcode := hM.1
    rw [hr0] at hcode
    refine ⟨rfl, rfl, hf, ?_, gc_pay ok hM, by rw [← hr0]; exact List.mem_cons_self, ok.2.2.2.2.1 _ hcode, ok.2.2.2.2.1 _ hM.2.1, hM.2.2.1, go_len hM, ?_⟩
    · show 8 + (M.2.2.1 + 11) + 64 * fr ≤ (cR K).locals
      have := hM.2.2.2.2
      omega
    · rw [ho]; exact ok.2.2.2.2.1 _ hw
  refine gc_after ok hP hD rfl (va_runI (nL := cnL K) (As := args) (rest := rest) (b := h0) (Ts := otb) ⟨ok.1, ok.2.1.trans hc, ok.2.2.1, ok.2.2.2.1, ok.2.2.2.2.1⟩ (hct (cl K) (cg K) h0 H.size) ⟨hcb, hnm, ok.2.2.2.2.1 _ hin⟩ ⟨oPk_blind _ _ _ _ _ _, gc_preU ok hP _⟩ rfl hn ok.2.2.2.2.2.2.2.2.2.1.1 hst (by simpa [JFrame.monitorRoom] using hcat) d ⟨h1, h2⟩) hS kk
theorem gc_callN (hc : ccc K = cc) (ho : cow K = own) {M : OMd} {na fr mc ms : Nat} {host : String} (L : oCI M na) (hr0 : M.2.2.2 = none) (hw : Cond.methodLinkNest own idx M.1 host ∈ onest) (d : decode cc pc = .ok (.invokespecial idx, 3)) {dfl args rest : List Value} {h0 : Nat} {Xw : OG → (Nat → Nat) → va_W} (hct : oCt M ci dfl args Xw fr mc ms) (hst : st = args.reverse ++ .ref h0 :: rest) (hf : fr + 1 ≤ (cR K).frames) (hfl : 64 * (fr + 1) ≤ (cR K).locals) (hn : args.length = na) (hcat : (rest.map fun v => v.category).sum ≤ 8) (h1 : k + mc ≤ (cR K).cells) (h2 : n + ms ≤ (cR K).slots)
    (kk : ∀ ad : Nat → Nat, ad 0 = h0 → Gc K (pc + 3) rest (ws ++ Xw (cg K) ad) (k + mc) (n + ms)) : Gc K pc st (ws ++ [(h0, .inr (ci, dfl))]) k n := fun ok H locs hP hD hS => by
  obtain ⟨hM, hin, hnm⟩ := L
  have hcn : va_CN (cR K) (cs K) (car K) (cow K) idx M.1 host M.2.1 M.2.2.1 none (ows M) (orc fr mc ms) mc ms na := by
    have hcode := hM.1
    rw [hr0] at hcode
    refine ⟨⟨rfl, rfl, hf, ?_, gc_pay ok hM, by rw [← hr0]; exact List.mem_cons_self⟩, ok.2.2.2.2.1 _ hcode, ok.2.2.2.2.1 _ hM.2.1, hM.2.2.1, go_len hM, ?_⟩
    · show 8 + (M.2.2.1 + 11) + 64 * fr ≤ (cR K).locals
      have := hM.2.2.2.2
      omega
    · rw [ho]; exact va_Nw.use rfl (ok.2.2.2.2.2.1.2.1 _ hw)
  refine gc_after ok hP hD rfl (va_runIN (nL := cnL K) (As := args) (rest := rest) (b := h0) (Ts := otb) ⟨ok.1, ok.2.1.trans hc, ok.2.2.1, ok.2.2.2.1, ok.2.2.2.2.1⟩ (hct (cl K) (cg K) h0 H.size) ⟨hcn, hnm, ok.2.2.2.2.1 _ hin⟩ ⟨oPk_blind _ _ _ _ _ _, gc_preU ok hP _⟩ rfl hn ok.2.2.2.2.2.2.2.2.2.1.1 hst (by simpa [JFrame.monitorRoom] using hcat) d ⟨h1, h2⟩) hS kk
end
/-- a constructor's run out of a walk of its body -/
theorem oCt_of {M : OMd} {ci fr mc ms : Nat} {dfl args : List Value} {Xw : OG → (Nat → Nat) → va_W} (hp : plainFor M.1 = true) (hr0 : M.2.2.2 = none) (hnm : M.1.name = "<init>") (hs : ∀ h0 : Nat, (lg_sl (.ref h0 :: args)).length ≤ M.2.2.1) (hfr : 1 ≤ fr)
    (h : ∀ (K : CK) (h0 : Nat), ccc K = M.2.1 → cow K = M.1.cls → cR K = orc fr mc ms → cav K = .ref h0 :: args → (cme K).sig.returnType = none → (∀ (ad : Nat → Nat) (pc : Nat), ad 0 = h0 → decode M.2.1 pc = .ok (.return_, 1) → Gc K pc [] (Xw (cg K) ad) mc ms) → Gc K 0 [] [(h0, .inr (ci, dfl))] 0 0) : oCt M ci dfl args Xw fr mc ms := by
  intro l g h0 sz
  refine Met_ofWF (cc := M.2.1) (maxL := M.2.2.1) (ret := M.2.2.2) hp rfl ?_
  intro p e s m av below meth c s₁ B hml hv
  obtain ⟨rfl, rfl, hP, hK⟩ := hv
  have hts := atoms_spec (ws := ows M) B.pre
  have hown : s.vm.findClass M.1.cls = some m.cls := findClass_of_methodNamed B.named
  have hE := lv_entry (.ref h0 :: args) (n := M.2.2.1) (hs h0)
  have hD : va_D (oB h0 s.heap.size) [(h0, .inr (ci, dfl))] := by
    refine ⟨fun i j p q hp hq _ => ?_, fun i q hq => ?_⟩
    · cases i <;> cases j <;> simp at hp hq ⊢
    · cases i with
      | zero => simp at hq; exact Or.inl (by rw [← hq])
      | succ i => simp at hq
  rw [lg_entry_eq]
  refine h (p, l, e, orc fr mc ms, s, m, (Value.ref h0 :: args).toArray, below, meth, c, g, oB h0 s.heap.size, M.2.1, M.1.cls, M.2.2.1, MQ below (oQk g s.heap.size h0 (Xw g)) (Value.ref h0 :: args).toArray s mc ms (oB h0 s.heap.size), _, .ref h0 :: args) h0 rfl rfl rfl rfl (by rw [B.returns]; exact hr0) ?_
    ⟨B.exec, B.bytes, hml, hown, fun w hw => hts w (List.mem_cons_of_mem _ hw), hK, fun q hq => Or.inr hq, B.notSynchronized, Or.inr (by have := (name_of_methodNamed B.named B.method).1; rw [this]; exact hnm), hE, hfr, by show 64 ≤ 64 * fr; omega⟩ s.heap [] hP hD va_S.rf
  intro ad pc had hd ok H locs hP1 hD1 hS1
  exact W.vret ok.1 ok.2.1 (by rw [B.returns]; exact hr0) (fun t ht _ => ⟨rfl, ⟨ad, had, by rw [ht]; exact hP1, hD1⟩, hS1.F ht⟩) hS1.2.2 hd B.notSynchronized
