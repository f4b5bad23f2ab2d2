def okwL : List Int64 := [2003135596, 1717658484, 7102839, 500136506472, 448546567013, 1953982830, 1701733491, 8175552245109714798, 1953459300, 495874698853, 2003133555, 1852796517, 7237492, 6385252, 28530]
def ohoL : List Int64 := [(-6148914691236517206), (-3689348814741910324), (-1085102592571150096), (-71777214294589696), (-281470681808896), (-4294967296)]
def olrL : List Int32 := [1, 6, 6, 1, 6, 6, 1000, 8, 12, 4, 8]
def okw (j : Nat) : Int64 := okwL.getD j 0
def oho (j : Nat) : Int64 := ohoL.getD j 0
def olr (j : Nat) : Int32 := olrL.getD j 0
def oslL : List Nat := [4, 3, 4, 3, 5, 4, 5, 4, 4, 8, 4, 5, 4, 3, 3, 2, 4, 5, 4, 5, 3, 2, 21]
def osbL : List (List Int32) := [[119, 101, 108, 108], [110, 111, 119], [102, 97, 99, 116], [108, 97, 119], [116, 114, 117, 116, 104], [110, 111, 110, 101], [104, 111, 117, 115, 101], [116, 119, 105, 110], [101, 110, 100, 115], [113, 117, 101, 115, 116, 105, 111, 110], [116, 111, 108, 100], [115, 116, 111, 110, 101], [119, 101, 100, 115], [110, 111, 116], [97, 110, 100], [111, 114], [111, 100, 100, 115], [102, 105, 114, 115, 116], [101, 97, 99, 104], [116, 119, 105, 110, 115], [121, 101, 115], [110, 111], [110, 111, 32, 115, 117, 99, 104, 32, 119, 97, 115, 116, 101, 100, 32, 97, 110, 115, 119, 101, 114]]
def ostL : List (String × Nat × String) := [("OneAnswerModel", 120, "well"), ("OneAnswerModel", 259, "now"), ("OneAnswerModel", 122, "fact"), ("OneAnswerModel", 124, "law"), ("OneAnswerModel", 126, "truth"), ("OneAnswerModel", 128, "none"), ("OneAnswerModel", 130, "house"), ("OneAnswerModel", 132, "twin"), ("OneAnswerModel", 134, "ends"), ("OneAnswerModel", 136, "question"), ("OneAnswerModel", 138, "told"), ("OneAnswerModel", 140, "stone"), ("OneAnswerModel", 142, "weds"), ("OneAnswerModel", 144, "not"), ("OneAnswerModel", 146, "and"), ("OneAnswerModel", 148, "or"), ("OneAnswerModel", 268, "odds"), ("OneAnswerModel", 274, "first"), ("OneAnswerModel", 276, "each"), ("OneAnswerModel", 278, "twins"), ("OneAnswerModel", 283, "yes"), ("OneAnswerModel", 285, "no"), ("OneAnswer", 324, "no such wasted answer")]
def oisN : Cond → Bool
  | .methodLinkNest .. => true
  | .declares _ => true
  | .castable .. => true
  | _ => false
def onest : List Cond := tables_1.filter oisN
def otb : List Cond := lw_tbl.filter goodWord
theorem otb_good : GoodIn otb otb := fun w hw => ⟨hw, good_of_word (List.mem_filter.mp hw).2⟩
theorem otb_at {w : Cond} (i : Nat) (h : tables_1[i]? = some w) (hg : goodWord w = true) : w ∈ otb := List.mem_filter.mpr ⟨List.mem_append_right _ (List.mem_of_getElem? h), hg⟩
theorem otb_sel {w : Cond} (i : Nat) (h : (k2_sels lw_privs)[i]? = some w) (hg : goodWord w = true) : w ∈ otb := List.mem_filter.mpr ⟨List.mem_append_left _ (List.mem_of_getElem? h), hg⟩
theorem otb_1 {w : Cond} (i : Nat) (h : tables_1_1[i]? = some w) (hg : goodWord w = true) : w ∈ otb := List.mem_filter.mpr ⟨List.mem_append_right _ (List.mem_append_left _ (List.mem_of_getElem? h)), hg⟩
theorem otb_2 {w : Cond} (i : Nat) (h : tables_1_2[i]? = some w) (hg : goodWord w = true) : w ∈ otb := List.mem_filter.mpr ⟨List.mem_append_right _ (List.mem_append_right _ (List.mem_append_left _ (List.mem_of_getElem? h))), hg⟩
theorem otb_3 {w : Cond} (i : Nat) (h : tables_1_3[i]? = some w) (hg : goodWord w = true) : w ∈ otb := List.mem_filter.mpr ⟨List.mem_append_right _ (List.mem_append_right _ (List.mem_append_right _ (List.mem_append_left _ (List.mem_of_getElem? h)))), hg⟩
theorem otb_4 {w : Cond} (i : Nat) (h : tables_1_4[i]? = some w) (hg : goodWord w = true) : w ∈ otb := List.mem_filter.mpr ⟨List.mem_append_right _ (List.mem_append_right _ (List.mem_append_right _ (List.mem_append_right _ (List.mem_append_left _ (List.mem_of_getElem? h))))), hg⟩
theorem otb_5 {w : Cond} (i : Nat) (h : tables_1_5[i]? = some w) (hg : goodWord w = true) : w ∈ otb := List.mem_filter.mpr ⟨List.mem_append_right _ (List.mem_append_right _ (List.mem_append_right _ (List.mem_append_right _ (List.mem_append_right _ (List.mem_append_left _ (List.mem_of_getElem? h)))))), hg⟩
theorem otb_6 {w : Cond} (i : Nat) (h : tables_1_6[i]? = some w) (hg : goodWord w = true) : w ∈ otb := List.mem_filter.mpr ⟨List.mem_append_right _ (List.mem_append_right _ (List.mem_append_right _ (List.mem_append_right _ (List.mem_append_right _ (List.mem_append_right _ (List.mem_append_left _ (List.mem_of_getElem? h))))))), hg⟩
theorem otb_7 {w : Cond} (i : Nat) (h : tables_1_7[i]? = some w) (hg : goodWord w = true) : w ∈ otb := List.mem_filter.mpr ⟨List.mem_append_right _ (List.mem_append_right _ (List.mem_append_right _ (List.mem_append_right _ (List.mem_append_right _ (List.mem_append_right _ (List.mem_append_right _ (List.mem_append_left _ (List.mem_of_getElem? h)))))))), hg⟩
theorem otb_8 {w : Cond} (i : Nat) (h : tables_1_8[i]? = some w) (hg : goodWord w = true) : w ∈ otb := List.mem_filter.mpr ⟨List.mem_append_right _ (List.mem_append_right _ (List.mem_append_right _ (List.mem_append_right _ (List.mem_append_right _ (List.mem_append_right _ (List.mem_append_right _ (List.mem_append_right _ (List.mem_append_left _ (List.mem_of_getElem? h))))))))), hg⟩
theorem otb_9 {w : Cond} (i : Nat) (h : tables_1_9[i]? = some w) (hg : goodWord w = true) : w ∈ otb := List.mem_filter.mpr ⟨List.mem_append_right _ (List.mem_append_right _ (List.mem_append_right _ (List.mem_append_right _ (List.mem_append_right _ (List.mem_append_right _ (List.mem_append_right _ (List.mem_append_right _ (List.mem_append_right _ (List.mem_of_getElem? h))))))))), hg⟩
theorem otb_all {ws : List Cond} (ps : List Nat) (h : ps.map (fun i => tables_1[i]?) = ws.map some) (hg : ws.all goodWord = true) : ∀ w ∈ ws, w ∈ otb := by
  intro w hw
  obtain ⟨k, hk⟩ := List.mem_iff_getElem?.mp hw
  have h1 : (ps.map (fun i => tables_1[i]?))[k]? = some (some w) := by rw [h, List.getElem?_map, hk]; rfl
  rw [List.getElem?_map] at h1
  cases hp : ps[k]? with
  | none => rw [hp] at h1; cases h1
  | some i => rw [hp] at h1; exact otb_at i (Option.some.inj h1) (List.all_eq_true.mp hg w hw)
theorem onest_at {w : Cond} (i : Nat) (h : tables_1[i]? = some w) (hg : oisN w = true) : w ∈ onest := List.mem_filter.mpr ⟨List.mem_of_getElem? h, hg⟩
theorem onest_warm {w : Cond} (h : w ∈ onest) {s U : State} (hW : s.WarmedH U.vm) (hZ : va_Nw w s) : va_Nw w U := by
  have h1 := (List.mem_filter.mp h).2
  cases w <;> first | exact va_Nw.warmM hW hZ | exact va_Nw.warmD hW hZ | exact va_Nw.warmC hW hZ | cases h1
theorem onest_same {w : Cond} (h : w ∈ onest) {s U : State} (hv : s.vm = U.vm) (hZ : va_Nw w s) : va_Nw w U := by
  have h1 := (List.mem_filter.mp h).2
  cases w <;> first | exact va_Nw.same rfl hv hZ | cases h1
/-- what lies outside of the fixed cells: static rows, texts -/
def oX (g : OG) (U : State) (H : Heap) : Prop :=
  (va_Z "OneAnswer$Tape" "KEPT_WORDS" "[J" (.ref (g.1 101)) (oA g) U H ∧ va_T .long (g.1 101) 15 (fun j => .long (okw j)) (oA g) U H) ∧
  (va_Z "OneAnswer$Land" "HOLDS" "[J" (.ref (g.1 102)) (oA g) U H ∧ va_T .long (g.1 102) 6 (fun j => .long (oho j)) (oA g) U H) ∧
  (va_Z "OneAnswer$Reader" "LINE_ROOM" "[I" (.ref (g.1 103)) (oA g) U H ∧ va_T .int (g.1 103) 11 (fun j => .int (olr j)) (oA g) U H) ∧
  va_Z "java/lang/String" "COMPACT_STRINGS" "Z" (.int 1) (oA g) U H ∧
  vk_S 23 oslL osbL (fun i => g.1 (200 + i)) (fun i => g.1 (300 + i)) (oA g) U H ∧
  (∀ (i : Nat) (q : String × Nat × String), ostL[i]? = some q → vk_R q.1 q.2.1 q.2.2 (g.1 (200 + i)) U) ∧
  (va_Z "jdk/internal/util/Preconditions" "SIOOBE_FORMATTER" "Ljava/util/function/BiFunction;" .null (oA g) U H ∨ va_Z "jdk/internal/util/Preconditions" "SIOOBE_FORMATTER" "Ljava/util/function/BiFunction;" (.ref (g.1 104)) (oA g) U H) ∧
  vx_Zq Bundle.tN "UNASSIGNED_STACK" Bundle.steD (oA g) U H ∧ vx_Zq Bundle.tN "SUPPRESSED_SENTINEL" Bundle.listD (oA g) U H
theorem oX_move {g : OG} {s U : State} {H0 H : Heap} (h : oX g s H0) (hW : s.WarmedH U.vm) (hq : ∀ a : Nat, a < H0.size → ¬ oA g a → H[a]? = H0[a]?) : oX g U H := by
  obtain ⟨⟨a1, a2⟩, ⟨b1, b2⟩, ⟨c1, c2⟩, d1, e1, f1, s1, u1, u2⟩ := h
  have hv := hW.alike
  exact ⟨⟨(a1.kept hq).moved hv, (a2.kept hq).moved hv⟩, ⟨(b1.kept hq).moved hv, (b2.kept hq).moved hv⟩, ⟨(c1.kept hq).moved hv, (c2.kept hq).moved hv⟩, (d1.kept hq).moved hv, (e1.kept hq).moved hv, fun i q h => (f1 i q h).warm hW, s1.imp (fun z => (z.kept hq).moved hv) (fun z => (z.kept hq).moved hv), (u1.kept hq).moved hv, (u2.kept hq).moved hv⟩
theorem oX_same {g : OG} {s U : State} {H0 : Heap} (h : oX g s H0) (hv : s.vm = U.vm) : oX g U H0 := by
  obtain ⟨⟨a1, a2⟩, ⟨b1, b2⟩, ⟨c1, c2⟩, d1, e1, f1, s1, u1, u2⟩ := h
  have hA : s.vm.Alike U.vm := hv ▸ Vm.Alike.refl s.vm
  exact ⟨⟨a1.moved hA, a2.moved hA⟩, ⟨b1.moved hA, b2.moved hA⟩, ⟨c1.moved hA, c2.moved hA⟩, d1.moved hA, e1.moved hA, fun i q h => (f1 i q h).same hv.symm, s1.imp (fun z => z.moved hA) (fun z => z.moved hA), u1.moved hA, u2.moved hA⟩
def oKn (g : OG) (U : State) (H : Heap) : Prop := va_K (oDD g) vwCl (oty g) U ∧ (∀ w ∈ onest, va_Nw w U) ∧ oX g U H
theorem oKn_move {g : OG} {s U : State} {H0 H : Heap} (h : oKn g s H0) (hW : s.WarmedH U.vm) (hq : ∀ a : Nat, a < H0.size → ¬ oA g a → H[a]? = H0[a]?) : oKn g U H :=
  ⟨va_K.moved hW.alike h.1, fun w hw => onest_warm hw hW (h.2.1 w hw), oX_move h.2.2 hW hq⟩
theorem oKn_same {g : OG} {s U : State} {H0 : Heap} (h : oKn g s H0) (hv : s.vm = U.vm) : oKn g U H0 :=
  ⟨va_K.moved (hv ▸ Vm.Alike.refl s.vm) h.1, fun w hw => onest_same hw hv (h.2.1 w hw), oX_same h.2.2 hv⟩
abbrev OMd : Type := MethodName × ByteArray × Nat × Option FieldType
def ows (M : OMd) : List Cond := Cond.code M.1 M.2.1 M.2.2.1 M.2.2.2 :: otb
def orm (n : Nat) : Room := { frames := n, cells := 0, slots := 0, locals := 64 * n }
def oPc (g : OG) (σ : OM) : State → Prop := fun U => oG g ∧ oKn g U U.heap ∧ va_P (oDD g) vwCl (owl g σ) U.heap
def oQ (g : OG) (o : Option Value) (σ' : OM) : Array Value → State → Outcome → State → Prop := fun _ st oc t => oc = .returned o ∧ va_P (oDD g) vwCl (owl g σ') t.heap ∧ va_F (oA g) st t
/-- a method's run: from arguments and a memory to an answer and a memory, within n frames -/
def oEv (n : Nat) (M : OMd) (av : List Value) (σ : OM) (o : Option Value) (σ' : OM) : Prop := ∀ (l : Launch) (g : OG), Met l M.1 (ows M) (orm n) (va_Pc (av.map (otr g)) (oPc g σ)) (oQ g o σ') 0 0 (oA g)
theorem oPc_blind (g : OG) (av : List Value) (σ : OM) : FrameBlind (va_Pc av (oPc g σ)) := by
  intro a U g' mk h
  exact ⟨h.1, h.2.1, oKn_same h.2.2.1 rfl, h.2.2.2⟩
/-- locals by their places; a null is a place of which nothing is known -/
def olv (g : OG) : Nat → List Value → List (Nat × Value)
  | _, [] => []
  | k, v :: t => if v = .null then olv g (k + 1) t else (k, otr g v) :: olv g (k + 1) t
theorem olv_mem (g : OG) : ∀ (lv : List Value) (k : Nat) (q : Nat × Value), q ∈ olv g k lv ↔ ∃ (j : Nat) (v : Value), lv[j]? = some v ∧ v ≠ .null ∧ q = (k + j, otr g v) := by
  intro lv
  induction lv with
  | nil => intro k q; simp [olv]
  | cons v t ih =>
    intro k q
    unfold olv
    by_cases h : v = .null
    · rw [if_pos h, ih]
      constructor
      · rintro ⟨j, w, h1, h2, h3⟩
        exact ⟨j + 1, w, by simpa using h1, h2, by rw [h3]; congr 1; omega⟩
      · rintro ⟨j, w, h1, h2, h3⟩
        cases j with
        | zero => simp at h1; exact absurd (h1 ▸ h) h2
        | succ j => exact ⟨j, w, by simpa using h1, h2, by rw [h3]; congr 1; omega⟩
    · rw [if_neg h, List.mem_cons, ih]
      constructor
      · rintro (h1 | ⟨j, w, h1, h2, h3⟩)
        · exact ⟨0, v, rfl, h, h1⟩
        · exact ⟨j + 1, w, by simpa using h1, h2, by rw [h3]; congr 1; omega⟩
      · rintro ⟨j, w, h1, h2, h3⟩
        cases j with
        | zero => simp at h1; subst h1; exact Or.inl h3
        | succ j => exact Or.inr ⟨j, w, by simpa using h1, h2, by rw [h3]; congr 1; omega⟩
theorem lv_mono {ls : Array Slot} {nL : Nat} {a b : List (Nat × Value)} (h : lv_has ls nL a) (hs : ∀ q ∈ b, q ∈ a) : lv_has ls nL b := ⟨h.1, h.2.1, fun q hq => h.2.2 q (hs q hq)⟩
abbrev OK : Type := Program × Launch × Env × Nat × State × MethodId × Array Value × List Frame × Method × Code × OG × ByteArray × String × Nat × (State → Prop) × Room × Nat × Nat × Nat × Nat
abbrev kp (K : OK) : Program := K.1
abbrev kl (K : OK) : Launch := K.2.1
abbrev ke (K : OK) : Env := K.2.2.1
abbrev kN (K : OK) : Nat := K.2.2.2.1
abbrev ks (K : OK) : State := K.2.2.2.2.1
abbrev km (K : OK) : MethodId := K.2.2.2.2.2.1
abbrev kar (K : OK) : Array Value := K.2.2.2.2.2.2.1
abbrev kbe (K : OK) : List Frame := K.2.2.2.2.2.2.2.1
abbrev kme (K : OK) : Method := K.2.2.2.2.2.2.2.2.1
abbrev kc (K : OK) : Code := K.2.2.2.2.2.2.2.2.2.1
abbrev kg (K : OK) : OG := K.2.2.2.2.2.2.2.2.2.2.1
abbrev kcc (K : OK) : ByteArray := K.2.2.2.2.2.2.2.2.2.2.2.1
abbrev kow (K : OK) : String := K.2.2.2.2.2.2.2.2.2.2.2.2.1
abbrev knL (K : OK) : Nat := K.2.2.2.2.2.2.2.2.2.2.2.2.2.1
abbrev kQ (K : OK) : State → Prop := K.2.2.2.2.2.2.2.2.2.2.2.2.2.2.1
abbrev kR (K : OK) : Room := K.2.2.2.2.2.2.2.2.2.2.2.2.2.2.2.1
abbrev kce (K : OK) : Nat := K.2.2.2.2.2.2.2.2.2.2.2.2.2.2.2.2.1
abbrev ksl (K : OK) : Nat := K.2.2.2.2.2.2.2.2.2.2.2.2.2.2.2.2.2.1
abbrev kz (K : OK) : Nat := K.2.2.2.2.2.2.2.2.2.2.2.2.2.2.2.2.2.2.1
abbrev ky (K : OK) : Nat := K.2.2.2.2.2.2.2.2.2.2.2.2.2.2.2.2.2.2.2
/-- cells and slots that have come: so many at the beginning, and for each exception thrown (mR 96 0 counts them) -/
def kk1 (K : OK) (σ : OM) : Nat := kce K + kz K * mR σ 96 0
def kk2 (K : OK) (σ : OM) : Nat := ksl K + ky K * mR σ 96 0
def oOk (K : OK) : Prop := (kp K).tables.exec = Jvm.exec ∧ (kc K).code = kcc K ∧ (kc K).maxLocals = knL K ∧ (ks K).vm.findClass (kow K) = some (km K).cls ∧ (∀ w ∈ otb, w.before (kar K) (ks K) = true) ∧ oG (kg K) ∧ oKn (kg K) (ks K) (ks K).heap ∧ (kme K).locks = false ∧ kN K ≤ (kR K).frames ∧ 64 * kN K ≤ (kR K).locals ∧ (kz K = 0 → ky K = 0)
def Go (K : OK) (pc : Nat) (lv st : List Value) (σ : OM) : Prop :=
  oOk K → kk1 K σ ≤ (kR K).cells → kk2 K σ ≤ (kR K).slots → ∀ (H : Heap) (locs : List Loc) (ls : Array Slot), va_P (oDD (kg K)) vwCl (owl (kg K) σ) H → va_S (oA (kg K)) (ks K).heap H locs → lv_has ls (knL K) (olv (kg K) 0 lv) →
    W (kp K) (kl K) (ke K) (kR K) (ks K) (km K) (kar K) (kbe K) (kme K) (kc K) H locs (kk1 K σ) (kk2 K σ) (kQ K) (F0 (km K) pc ls (st.map (otr (kg K))))
/-- where a run ends: its answer and its memory -/
def oEnd (K : OK) (o : Option Value) (σ' : OM) : Prop := kQ K = MQ (kbe K) (oQ (kg K) o σ') (kar K) (ks K) (kk1 K σ') (kk2 K σ') (oA (kg K))
