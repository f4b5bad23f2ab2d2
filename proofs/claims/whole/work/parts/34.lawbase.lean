def R_law : String := "OneAnswerLaw"
def lw_P (b : Addr) (xs : List Int32) (args : Array Value) (s : State) : Prop := args = #[.ref b] ∧ s.IntsAt b xs ∧ xs.length ≤ 3072 ∧ (Jvm.Cond.and given_1 narrow_1).before args s = true
def lw_Q (_ : Array Value) (s : State) (o : Outcome) (t : State) : Prop := o = .returned (some (.int 1)) ∧ Framed s o t [] 601024 7293034
def lw_Z (below : List Frame) (a : Array Value) (s : State) : State → Prop := fun t => ∃ o, t.status = .running ∧ Ended t below o ∧ lw_Q a s o t
/-- the law's own end, with 1 on the stack, nothing written that was there before, its room as the claim has it -/
theorem lw_ret {p : Program} {l : Launch} {e : Env} {s : State} {m : MethodId} {below : List Frame} {meth : Method} {c : Code} {b : Nat} (hx : p.tables.exec = Jvm.exec) (hb : c.code = code) (hr : meth.sig.returnType = ret) (hlocks : meth.locks = false) {pc : Nat} {H : Heap} {ls : Array Slot} (hdg : decode code pc = .ok (.ireturn, 1)) : W p l e room_1 s m #[Value.ref b] below meth c H [] 601024 7293034 (lw_Z below #[Value.ref b] s) (F0 m pc ls [.int 1]) := by
  intro T hT X
  obtain ⟨fs, hret, hrun, hended, hW, hframe⟩ := X.leave (v := some (.int 1)) (hlocks := hlocks) (fun h => by rw [hr] at h; cases h)
  have hmeth' : T.vm.method? m = some meth := X.method'
  refine ⟨T.setFrames fs, ?_, .returned (some (.int 1)), hrun, hended, rfl, ⟨_, rfl⟩, hW, hframe⟩
  jvm_step X.here [X.here.top, hx, hb, hdg, hmeth', hr, ret, narrow_b1]
  (try refine ⟨rfl, ?_⟩); (try refine ⟨rfl, ?_⟩)
  first | (intro acts; rw [hret _ acts rfl rfl rfl]) | rw [hret _ _ rfl rfl rfl]
  exact Steps.refl _
/-- what holds at the law's entry: the machine, the code, the tables' words (any of lw_tbl by 'hts w (by decide +kernel)'), the script of L ints xs at the cell b, what the Statement gives of the start (any of its parts by flat_of_before) -/
def lw_At (p : Program) (s : State) (m : MethodId) (meth : Method) (c : Code) (b L : Nat) (xs : Nat → Int32) : Prop :=
  p.tables.exec = Jvm.exec ∧ c.code = code ∧ meth.sig.returnType = ret ∧ c.maxLocals = 7 ∧ s.vm.findClass R_law = some m.cls ∧ (∀ w ∈ lw_tbl, w.before #[Value.ref b] s = true) ∧ va_X b L xs s s.heap ∧ b < s.heap.size ∧ meth.locks = false ∧ (Jvm.Cond.and given_1 narrow_1).before #[Value.ref b] s = true

def oLx (K : OK) (L : Nat) (xs : Nat → Int32) : Prop := va_X ((kg K).1 100) L xs (ks K) (ks K).heap ∧ (kg K).1 100 < (ks K).heap.size ∧ ¬ oA (kg K) ((kg K).1 100)
/-- the law's own frame -/
def oLz (K : OK) : Prop := kz K = 1 ∧ ky K = 6 ∧ kR K = room_1 ∧ kce K ≤ 1000 ∧ ksl K ≤ 100000 ∧ (kl K).stackTraces = false ∧ (kme K).sig.returnType = ret ∧ (kg K).2.2.2.2 = (ks K).heap.size ∧ ∃ b : Nat, kar K = #[Value.ref b] ∧ kQ K = lw_Z (kbe K) #[Value.ref b] (ks K)
theorem ol01 {σ σ0 : OM} (h : some ((0 : Int32), σ) = some ((1 : Int32), σ0)) : False := by
  have h1 : (0 : Int32) = 1 := congrArg Prod.fst (Option.some.inj h)
  exact absurd h1 (by decide)
section
variable {K : OK} {cc : ByteArray} {pc : Nat} {lv st : List Value} {σ : OM} {L : Nat} {xs : Nat → Int32}
theorem go_scr (hc : kcc K = cc) (hX0 : oLx K L xs) {i : Int32} (hin : oin i L = true) (d : decode cc pc = .ok (.iaload, 1)) (k : Go K (pc + 1) lv (.int (xs i.toNatClampNeg) :: st) σ) : Go K pc lv (.int i :: .ref 100 :: st) σ := fun ok hk1 hk2 H locs ls hW hS hl =>
  va_sld ok.1 (ok.2.1.trans hc) hX0.1 hX0.2.1 hX0.2.2 hS (oin_vp hin) d (k ok hk1 hk2 H locs ls hW hS hl)
theorem go_sle (hc : kcc K = cc) (hX0 : oLx K L xs) (d : decode cc pc = .ok (.arraylength, 1)) (k : Go K (pc + 1) lv (.int (Int32.ofNat L) :: st) σ) : Go K pc lv (.ref 100 :: st) σ := fun ok hk1 hk2 H locs ls hW hS hl =>
  va_slen ok.1 (ok.2.1.trans hc) hX0.1 hX0.2.1 hX0.2.2 hS d (k ok hk1 hk2 H locs ls hW hS hl)
theorem go_lret1 {σ0 : OM} (hc : kcc K = code) (hz : oLz K) (_ : some ((1 : Int32), σ) = some ((1 : Int32), σ0)) (d : decode code pc = .ok (.ireturn, 1)) : Go K pc lv [.int 1] σ := fun ok hk1 hk2 H locs ls hW hS hl => by
  obtain ⟨-, -, hR, -, -, -, hr, hsz, b, hb, hQ⟩ := hz
  rw [hR] at hk1 hk2
  rw [hR, hQ, hb]
  refine W.widen (k := 601024) (n := 7293034) hk1 hk2 ?_
  have hf : ∀ q ∈ locs, (ks K).heap.size ≤ q.base := fun q hq => by
    have := hS.2.2 q hq
    rw [← hsz]; exact this
  have h0 := W.forget (locs := []) (L := locs) hf (lw_ret (H := H) (ls := ls) (pc := pc) (b := b) (l := kl K) (e := ke K) (s := ks K) (m := km K) (below := kbe K) (meth := kme K) (c := kc K) ok.1 (ok.2.1.trans hc) hr ok.2.2.2.2.2.2.2.1 d)
  exact h0
end
def owsL : List Cond := Cond.codeWith yL_led cL_led 4 (some .int) [(0, 9, 12, 13)] :: otb
theorem owl_in : Cond.codeWith yL_led cL_led 4 (some .int) [(0, 9, 12, 13)] ∈ otb := otb_5 212 rfl rfl
theorem owl_link : Cond.methodLink RL 229 yL_led ∈ otb := otb_5 210 rfl rfl
theorem owl_stat : Cond.static yL_led ∈ otb := otb_5 211 rfl rfl
theorem owl_init : Cond.initialized RL ∈ otb := otb_1 0 rfl rfl
theorem owl_cl : Cond.classLink RL 13 oXE ∈ otb := otb_5 213 rfl rfl
theorem owl_cnt (g : OG) (σ : OM) (v : Nat) : owl g (sR σ 96 0 v) = owl g σ := by
  unfold owl
  apply List.map_congr_left
  intro a ha
  have := List.mem_range.mp ha
  rw [oct_sR_ne (by omega)]
/-- the law's led: 0 and the answer in its row, or 1; one exception more is counted -/
def fL_led (x0 : Int32) (σ : OM) : Option (Int32 × OM) := ogd (decide (mR σ 96 0 < 600)) (obi (fX9_led x0 σ) (fun r1 σ1 =>
  if r1 = -1 then some (1, sR σ1 96 0 (mR σ 96 0 + 1)) else some (0, sR (sL σ1 94 0 r1.toInt64) 96 0 (mR σ 96 0 + 1))))
def oRl : Room := { frames := 8, cells := 1, slots := 6, locals := 512 }
set_option maxHeartbeats 4000000 in
set_option maxRecDepth 100000 in
theorem rL_led (l : Launch) (hl : l.stackTraces = false) (g : OG) {x0 : Int32} {σ : OM} {r : Int32} {σ2 : OM} (h : fL_led x0 σ = some (r, σ2)) : Met l yL_led owsL oRl (va_Pc ([.ref 0, .int x0, .ref 94].map (otr g)) (oPc g σ)) (oQ g (some (.int r)) σ2) 1 6 (oA g) := by
  unfold fL_led at h
  obtain ⟨-, h⟩ := ogd_some h
  obtain ⟨r1, σ1, hf, h⟩ := obi_some h
  refine va_MetW (cc := cL_led) (maxL := 4) (ret := some .int) (hh := [(0, 9, 12, 13)]) (by decide +kernel) rfl ?_
  intro p e s m args below meth c s₁ B hml hv
  obtain ⟨rfl, hG, hK, hP⟩ := hv
  have hts := atoms_spec (ws := owsL) B.pre
  have htab := vx_table (x := yL_led) B (hts _ List.mem_cons_self)
  have hown : s.vm.findClass RL = some m.cls := findClass_of_methodNamed B.named
  have hE := lv_entry ([.ref 0, .int x0, .ref 94].map (otr g)) (n := 4) (Nat.le_of_ble_eq_true rfl)
  rw [lg_entry_eq]
  have z1 : ∀ σ9 : OM, 0 + 0 * mR σ9 96 0 = 0 := fun σ9 => by rw [Nat.zero_mul]
  have z2 : ∀ (k : Nat) (σ9 : OM), k + 0 * mR σ9 96 0 = k := fun k σ9 => by rw [Nat.zero_mul]; rfl
  obtain ⟨Kt, hKt⟩ : ∃ F : Nat → Nat → OK, F = fun ce9 sl9 => (p, l, e, 8, s, m, ([.ref 0, .int x0, .ref 94].map (otr g)).toArray, below, meth, c, g, cL_led, RL, 4, MQ below (oQ g (some (.int r)) σ2) ([.ref 0, .int x0, .ref 94].map (otr g)).toArray s 1 6 (oA g), oRl, ce9, sl9, 0, 0) := ⟨_, rfl⟩
  have ok : ∀ ce9 sl9, oOk (Kt ce9 sl9) := fun ce9 sl9 => by
    rw [hKt]
    exact ⟨B.exec, B.bytes, hml, hown, fun w hw => hts w (List.mem_cons_of_mem _ hw), hG, hK, B.notSynchronized, Nat.le_of_ble_eq_true rfl, Nat.le_of_ble_eq_true rfl, fun _ => rfl⟩
  have hc : ∀ ce9 sl9, kcc (Kt ce9 sl9) = cL_led := fun _ _ => by rw [hKt]
  have hL : ∀ ce9 sl9, knL (Kt ce9 sl9) = 4 := fun _ _ => by rw [hKt]
  have hr : ∀ ce9 sl9, (kme (Kt ce9 sl9)).sig.returnType = some .int := fun _ _ => by rw [hKt]; exact B.returns
  have hEnd : ∀ (r9 : Int32) (σ9 : OM), some (r9, sR σ9 96 0 (mR σ 96 0 + 1)) = some (r, σ2) → oEnd (Kt 1 6) (some (.int r9)) σ9 := fun r9 σ9 h9 => by
    cases h9
    rw [hKt]
    show MQ below (oQ g (some (.int r)) (sR σ9 96 0 (mR σ 96 0 + 1))) _ s 1 6 (oA g) = MQ below (oQ g (some (.int r)) σ9) _ s (1 + 0 * mR σ9 96 0) (6 + 0 * mR σ9 96 0) (oA g)
    rw [z2, z2]
    unfold oQ
    rw [owl_cnt]
  -- behind the call
  have kRet : ¬ r1 = -1 → Go (Kt 1 6) 7 [.ref 0, .int x0, .ref 94, .null] [.int r1, .int 0, .ref 94] σ1 := fun hne => by
    rw [if_neg hne] at h
    refine go_i2l (hc _ _) dL_led_7 ?_
    refine go_last (hc _ _) dL_led_8 ok_94 ol_94 (by decide +kernel) cn_0 ?_
    refine go_goto (tgt := 15) (hc _ _) dL_led_9 rfl ?_
    refine go_iconst (hc _ _) dL_led_15 ci_0 ?_
    exact go_iret (hc _ _) (hEnd 0 _ h) (hr _ _) dL_led_16
  have kThr : r1 = -1 → Go (Kt 1 6) 13 [.ref 0, .int x0, .ref 94, .null] [] σ1 := fun he => by
    rw [if_pos he] at h
    refine go_iconst (hc _ _) dL_led_13 ci_1 ?_
    exact go_iret (hc _ _) (hEnd 1 _ h) (hr _ _) dL_led_14
  have kAll : Go (Kt 0 0) 0 [.ref 0, .int x0, .ref 94, .null] [] σ := by
    refine go_aload_n (hc _ _) dL_led_0 rfl rfl ?_
    refine go_iconst (hc _ _) dL_led_1 ci_0 ?_
    refine go_aload_n (hc _ _) dL_led_2 rfl rfl ?_
    refine go_iload_n (hc _ _) dL_led_3 rfl rfl ?_
    rw [hKt] at kRet kThr ⊢
    intro ok0 hk1 hk2 H locs ls hW hS hls
    have ok6 := ok 1 6
    rw [hKt] at ok6
    have he : (owl g σ)[0]? = some (g.1 0, .inr (9, (List.range (onf 9)).map (ofv g σ 0 9))) := by rw [owl_at _ _ (by omega), oct_obj ok_0 (by omega)]
    have hcb : CallB oRl s ([.ref 0, .int x0, .ref 94].map (otr g)).toArray RL 7 MX9_led.1 MX9_led.2.1 MX9_led.2.2.1 MX9_led.2.2.2 (ows MX9_led) oRx 1 6 1 := by
      refine ⟨rfl, rfl, Nat.le_of_ble_eq_true rfl, Nat.le_of_ble_eq_true rfl, go_pay ok0 cmX9_led.1, List.mem_cons_self, ok0.2.2.2.2.1 _ cmX9_led.1.1, ok0.2.2.2.2.1 _ cmX9_led.1.2.1, cmX9_led.1.2.2.1, go_len cmX9_led.1, ok0.2.2.2.2.1 _ mlL_7⟩
    have hr0 := vx_runV (H := H) (locs := locs) (cells := 0) (slots := 0) (below := below) (meth := meth) (e := e) (nL := 4) (As := [.int x0]) (rest := [.int 0, .ref (g.1 94)]) (b := g.1 0) (Ts := otb) (g := F0 m 4 ls [.int x0, .ref (g.1 0), .int 0, .ref (g.1 94)]) ⟨ok0.1, ok0.2.1, ok0.2.2.1, ok0.2.2.2.1, ok0.2.2.2.2.1⟩ (rX9_led l hl g hf) ⟨hcb, ok0.2.2.2.2.1 _ cmX9_led.2.2.2.1, ok0.2.2.2.2.1 _ cmX9_led.2.2.2.2⟩ ⟨oPc_blind _ _ _, va_recv ok0.2.2.2.2.2.2.1.1 hW rfl he, go_preU ok0 hW hS _⟩ rfl rfl hls.1 rfl (Nat.le_of_ble_eq_true rfl) dL_led_4 ⟨Nat.le_of_ble_eq_true rfl, Nat.le_of_ble_eq_true rfl⟩
    show W p l e oRl s m _ below meth c H locs (0 + 0 * mR σ 96 0) (0 + 0 * mR σ 96 0) _ (F0 m 4 ls [.int x0, .ref (g.1 0), .int 0, .ref (g.1 94)])
    rw [z1]
    intro T hT X
    rcases hr0 T hT X with ⟨v, st₀, t, T1, L, h0, X1, hLL, e1, e2, ⟨⟨hv, hp, hz, hk⟩, hne⟩, stp⟩ | ⟨q, st₀, t, T1, L, E, ce9, h0, X1, hLL, e1, e2, ⟨hEE, hne, hp, hz, hk⟩, hce, hcv, hcl, stp⟩
    · cases hv
      rw [h0] at hz hk
      have hS1 : va_S (oA g) s.heap T1.heap (locs ++ L) := ⟨Nat.le_trans hS.1 (by rw [e1]; exact hz), fun q h1 h2 => by rw [e1, hk q (Nat.lt_of_lt_of_le h1 hS.1) h2]; exact hS.2.1 q h1 h2, fun q hq => by
        rcases List.mem_append.mp hq with h | h
        · exact hS.2.2 q h
        · exact hLL q h⟩
      have hk9 := kRet hne ok6 (by show 1 + 0 * mR σ1 96 0 ≤ 1; rw [z2]; omega) (by show 6 + 0 * mR σ1 96 0 ≤ 6; rw [z2]; omega) T1.heap (locs ++ L) ls (by rw [e1]; exact hp) hS1 hls
      have hk8 : W p l e oRl s m ([.ref 0, .int x0, .ref 94].map (otr g)).toArray below meth c T1.heap (locs ++ L) (1 + 0 * mR σ1 96 0) (6 + 0 * mR σ1 96 0) (MQ below (oQ g (some (.int r)) σ2) ([.ref 0, .int x0, .ref 94].map (otr g)).toArray s 1 6 (oA g)) (F0 m 7 ls [.int r1, .int 0, .ref (g.1 94)]) := hk9
      rw [z2, z2] at hk8
      obtain ⟨t2, a1, b1⟩ := hk8 T1 rfl X1
      exact ⟨t2, stp t2 a1, b1⟩
    · rw [h0] at hz hk
      subst hEE
      have hS1 : va_S (oA g) s.heap T1.heap (locs ++ L) := ⟨Nat.le_trans hS.1 (by rw [e1]; exact hz), fun q h1 h2 => by rw [e1, hk q (Nat.lt_of_lt_of_le h1 hS.1) h2]; exact hS.2.1 q h1 h2, fun q hq => by
        rcases List.mem_append.mp hq with h | h
        · exact hS.2.2 q h
        · exact hLL q h⟩
      have hcast : (Cond.castable oXE oXE).before ([.ref 0, .int x0, .ref 94].map (otr g)).toArray s = true := by
        have h3 := ok0.2.2.2.2.2.2.1.2.1 (.castable oXE oXE) (List.mem_filter.mpr ⟨(by decide +kernel : Cond.castable oXE oXE ∈ tables_1), rfl⟩)
        exact va_Nw.use rfl h3
      have hk7 : W p l e oRl s m ([.ref 0, .int x0, .ref 94].map (otr g)).toArray below meth c T1.heap (locs ++ L) 1 6 (MQ below (oQ g (some (.int r)) σ2) ([.ref 0, .int x0, .ref 94].map (otr g)).toArray s 1 6 (oA g)) (F0 m 12 ls [.ref q]) := by
        refine lv_astore_n ok0.1 ok0.2.1 dL_led_12 rfl hls (by show 3 < 4; omega) rfl (fun ls1 hl1 => ?_)
        have hk9 := kThr hne ok6 (by show 1 + 0 * mR σ1 96 0 ≤ 1; rw [z2]; omega) (by show 6 + 0 * mR σ1 96 0 ≤ 6; rw [z2]; omega) T1.heap (locs ++ L) ls1 (by rw [e1]; exact hp) hS1 (lv_mono hl1 (fun q9 hq9 => List.mem_cons_of_mem _ hq9))
        have hk8 : W p l e oRl s m ([.ref 0, .int x0, .ref 94].map (otr g)).toArray below meth c T1.heap (locs ++ L) (1 + 0 * mR σ1 96 0) (6 + 0 * mR σ1 96 0) (MQ below (oQ g (some (.int r)) σ2) ([.ref 0, .int x0, .ref 94].map (otr g)).toArray s 1 6 (oA g)) (F0 m 13 ls1 []) := hk9
        rw [z2, z2] at hk8
        exact hk8
      have hk6 := vx_catch (pc := 4) (ls := ls) (rest := [.int 0, .ref (g.1 94)]) (name := oXE) ok0.2.2.2.1 [] ⟨0, 9, 12, 13⟩ [] (by rw [htab]; rfl) (fun z hz => by cases hz) rfl (by decide) (ok0.2.2.2.2.1 _ owl_cl) hcast (by rw [e1]; exact hce) hcv hcl hk7
      obtain ⟨t2, a1, b1⟩ := hk6 T1 rfl X1
      exact ⟨t2, stp.trans a1, b1⟩
  have key := kAll
  rw [hKt] at key
  have ok0 := ok 0 0
  rw [hKt] at ok0
  have key3 := key ok0 (by show 0 + 0 * mR σ 96 0 ≤ 1; rw [z1]; omega) (by show 0 + 0 * mR σ 96 0 ≤ 6; rw [z1]; omega) s.heap [] _ hP va_S.rf (lv_mono hE (fun q hq => hq))
  have key2 : W p l e oRl s m ([.ref 0, .int x0, .ref 94].map (otr g)).toArray below meth c s.heap [] (0 + 0 * mR σ 96 0) (0 + 0 * mR σ 96 0) (MQ below (oQ g (some (.int r)) σ2) ([.ref 0, .int x0, .ref 94].map (otr g)).toArray s 1 6 (oA g)) (F0 m 0 _ []) := key3
  rw [z1] at key2
  exact key2
/-- the law's call of its led -/
theorem go_lled {K : OK} {pc : Nat} {lv st rest : List Value} {σ σ1 : OM} {x0 r : Int32} (hc : kcc K = code) (ho : kow K = RL) (hz : oLz K) (d : decode code pc = .ok (.invokestatic 229, 3)) (hf : fL_led x0 σ = some (r, σ1)) (hst : st = .ref 94 :: .int x0 :: .ref 0 :: rest) (hcat : (rest.map fun v => v.category).sum ≤ 8) (k : Go K (pc + 3) lv (.int r :: rest) σ1) : Go K pc lv st σ := fun ok hk1 hk2 H locs ls hW hS hl => by
  subst hst
  have hcnt : mR σ1 96 0 = mR σ 96 0 + 1 ∧ mR σ 96 0 < 600 := by
    unfold fL_led at hf
    obtain ⟨hg, hf⟩ := ogd_some hf
    obtain ⟨r1, σ9, -, hf⟩ := obi_some hf
    split at hf <;> (cases hf; exact ⟨sR_at, of_decide_eq_true hg⟩)
  have e1 : kk1 K σ1 = kk1 K σ + 1 := by unfold kk1; rw [hz.1, hcnt.1]; omega
  have e2 : kk2 K σ1 = kk2 K σ + 6 := by unfold kk2; rw [hz.2.1, hcnt.1]; omega
  have b1 : kk1 K σ + 1 ≤ (kR K).cells := by rw [hz.2.2.1]; unfold kk1; rw [hz.1]; have := hz.2.2.2.1; show _ ≤ 601024; omega
  have b2 : kk2 K σ + 6 ≤ (kR K).slots := by rw [hz.2.2.1]; unfold kk2; rw [hz.2.1]; have := hz.2.2.2.2.1; show _ ≤ 7293034; omega
  have hG : GoodIn otb owsL := fun w hw => by
    rcases List.mem_cons.mp hw with h | h
    · rw [h]; exact otb_good _ owl_in
    · exact otb_good _ h
  have hcw : vx_CSW (kR K) (ks K) (kar K) (kow K) 229 yL_led cL_led 4 (some .int) [(0, 9, 12, 13)] owsL oRl 1 6 3 := by
    refine ⟨⟨rfl, rfl, ?_, ?_, pay_in ok.2.2.2.2.1 hG, List.mem_cons_self⟩, ok.2.2.2.2.1 _ owl_in, ok.2.2.2.2.1 _ owl_init, by decide +kernel, ?_, ?_, ok.2.2.2.2.1 _ owl_stat⟩
    · rw [hz.2.2.1]; exact Nat.le_of_ble_eq_true rfl
    · rw [hz.2.2.1]; exact Nat.le_of_ble_eq_true rfl
    · intro sig h
      have h1 : (parseMethodDescriptor yL_led.desc).map (fun d => d.parameters.length) = some 3 := by decide +kernel
      rw [h] at h1
      exact (Option.some.inj h1).symm
    · rw [ho]; exact ok.2.2.2.2.1 _ owl_link
  have hr0 := vx_runSW (H := H) (locs := locs) (cells := kk1 K σ) (slots := kk2 K σ) (below := kbe K) (meth := kme K) (e := ke K) (nL := knL K) (As := [.ref ((kg K).1 0), .int x0, .ref ((kg K).1 94)]) (rest := rest.map (otr (kg K))) (Ts := otb) (g := F0 (km K) pc ls (.ref ((kg K).1 94) :: .int x0 :: .ref ((kg K).1 0) :: rest.map (otr (kg K)))) ⟨ok.1, ok.2.1.trans hc, ok.2.2.1, ok.2.2.2.1, ok.2.2.2.2.1⟩ (rL_led (kl K) hz.2.2.2.2.2.1 (kg K) hf) hcw ⟨oPc_blind _ _ _, go_preU ok hW hS _⟩ rfl rfl hl.1 rfl (by rw [otr_sum]; simpa [JFrame.monitorRoom] using hcat) d ⟨b1, b2⟩
  show W (kp K) (kl K) (ke K) (kR K) (ks K) (km K) (kar K) (kbe K) (kme K) (kc K) H locs (kk1 K σ) (kk2 K σ) (kQ K) (F0 (km K) pc ls (.ref ((kg K).1 94) :: .int x0 :: .ref ((kg K).1 0) :: rest.map (otr (kg K))))
  intro T hT X
  obtain ⟨v, st₀, t, T1, L, h0, X1, hL, q1, q2, ⟨hv, hp, hzz, hk⟩, stp⟩ := hr0 T hT X
  cases hv
  rw [h0] at hzz hk
  have hS1 : va_S (oA (kg K)) (ks K).heap T1.heap (locs ++ L) := ⟨Nat.le_trans hS.1 (by rw [q1]; exact hzz), fun q h1 h2 => by rw [q1, hk q (Nat.lt_of_lt_of_le h1 hS.1) h2]; exact hS.2.1 q h1 h2, fun q hq => by
    rcases List.mem_append.mp hq with h | h
    · exact hS.2.2 q h
    · exact hL q h⟩
  have hkk := k ok (by rw [e1]; exact b1) (by rw [e2]; exact b2) T1.heap (locs ++ L) ls (by rw [q1]; exact hp) hS1 hl
  rw [e1, e2] at hkk
  obtain ⟨t2, a1, bb⟩ := hkk T1 rfl X1
  exact ⟨t2, stp t2 a1, bb⟩
