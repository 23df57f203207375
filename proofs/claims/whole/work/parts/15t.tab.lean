theorem x_catsum (b : Nat) (oa : Nat → Nat) (t : List Value) : ((t.map (x_v b oa)).map fun v => v.category).sum = (t.map fun v => v.category).sum := by
  rw [List.map_map]
  exact congrArg List.sum (List.map_congr_left fun v _ => x_cat b oa v)
theorem x_ret_map (b : Nat) (oa : Nat → Nat) (r : Option Value) (t : List Value) : (r.map (x_v b oa)).toList ++ t.map (x_v b oa) = (r.toList ++ t).map (x_v b oa) := by cases r <;> rfl
theorem x_goodIn {y : Nat} (h : y < 152) : GoodIn x_tbl (x_wds y) := by
  intro w hw
  rcases List.mem_cons.mp hw with e | e
  · subst e
    exact ⟨x_good (x_ychk_ok h).1 rfl, Or.inl rfl⟩
  · exact ⟨e, good_of_word (List.mem_filter.mp e).2⟩
/-! THE LAW'S OWN TABLE: the class's throw, and its catch -/
def tb_N : MethodName := ⟨"StepRows", "table", "(I)I"⟩
def tb_X : String := "java/lang/IndexOutOfBoundsException"
def tb_ws : List Cond := Cond.code tb_N prog_1_method_16_code 2 (some .int) :: x_tbl
def tb_lw : List Cond := Cond.codeWith x_tabName method_3_code 4 (some .int) [(0, 9, 12, 13)] :: x_tbl
theorem tb_atoms : ∀ z ∈ Bundle.ownAtoms "StepRows" 159 tb_X ["java/lang/RuntimeException", "java/lang/Exception"], (z ∈ lw_tbl ∧ goodWord z = true) ∨ z = .laysStatic Bundle.tN "UNASSIGNED_STACK" Bundle.steD ∨ z = .laysStatic Bundle.tN "SUPPRESSED_SENTINEL" Bundle.listD ∨ z = .isRef (.static Bundle.tN "UNASSIGNED_STACK" Bundle.steD) ∨ z = .isRef (.static Bundle.tN "SUPPRESSED_SENTINEL" Bundle.listD) ∨ z = .castable tb_X tb_X ∨ ∃ C ∈ (["java/lang/RuntimeException", "java/lang/Exception", "java/lang/Throwable"] : List String), z = .declares ⟨C, "<init>", "(Ljava/lang/String;)V"⟩ := by decide +kernel
theorem tb_in : Cond.code tb_N prog_1_method_16_code 2 (some .int) ∈ lw_tbl ∧ Cond.codeWith x_tabName method_3_code 4 (some .int) [(0, 9, 12, 13)] ∈ lw_tbl ∧ Cond.classLink "StepRowsLaw" 13 tb_X ∈ lw_tbl ∧ Cond.classLink "StepRows" 155 tb_X ∈ lw_tbl ∧ Cond.instantiable tb_X 6 ∈ lw_tbl ∧ Cond.initialized tb_X ∈ lw_tbl := by decide +kernel
theorem tb_in2 : Cond.castable tb_X tb_X ∈ lw_tbl ∧ Cond.methodLink "StepRowsLaw" 7 tb_N ∈ lw_tbl ∧ Cond.instanceMethod tb_N ∈ lw_tbl ∧ Cond.selects "StepRows" tb_N tb_N ∈ lw_tbl ∧ Cond.initialized "StepRows" ∈ lw_tbl ∧ Cond.initialized "StepRowsLaw" ∈ lw_tbl ∧ Cond.static x_tabName ∈ lw_tbl ∧ Cond.fieldLink "StepRows" 152 "StepRows" "TABLE" "[I" ∈ lw_tbl := by decide +kernel
theorem tb_d0 : decode prog_1_method_16_code 0 = .ok (.iload_n 1, 1) := by decide +kernel
theorem tb_d1 : decode prog_1_method_16_code 1 = .ok (.ifCond .lt 11, 3) := by decide +kernel
theorem tb_d4 : decode prog_1_method_16_code 4 = .ok (.iload_n 1, 1) := by decide +kernel
theorem tb_d5 : decode prog_1_method_16_code 5 = .ok (.getstatic 152, 3) := by decide +kernel
theorem tb_d8 : decode prog_1_method_16_code 8 = .ok (.arraylength, 1) := by decide +kernel
theorem tb_d9 : decode prog_1_method_16_code 9 = .ok (.if_icmp .lt 13, 3) := by decide +kernel
theorem tb_d12 : decode prog_1_method_16_code 12 = .ok (.new 155, 3) := by decide +kernel
theorem tb_d15 : decode prog_1_method_16_code 15 = .ok (.dup, 1) := by decide +kernel
theorem tb_d16 : decode prog_1_method_16_code 16 = .ok (.ldc 157, 2) := by decide +kernel
theorem tb_d18 : decode prog_1_method_16_code 18 = .ok (.invokespecial 159, 3) := by decide +kernel
theorem tb_d21 : decode prog_1_method_16_code 21 = .ok (.athrow, 1) := by decide +kernel
theorem tb_d22 : decode prog_1_method_16_code 22 = .ok (.getstatic 152, 3) := by decide +kernel
theorem tb_d25 : decode prog_1_method_16_code 25 = .ok (.iload_n 1, 1) := by decide +kernel
theorem tb_d26 : decode prog_1_method_16_code 26 = .ok (.iaload, 1) := by decide +kernel
theorem tb_d27 : decode prog_1_method_16_code 27 = .ok (.ireturn, 1) := by decide +kernel
theorem tl_d0 : decode method_3_code 0 = .ok (.aload_n 2, 1) := by decide +kernel
theorem tl_d1 : decode method_3_code 1 = .ok (.iconst 0, 1) := by decide +kernel
theorem tl_d2 : decode method_3_code 2 = .ok (.aload_n 0, 1) := by decide +kernel
theorem tl_d3 : decode method_3_code 3 = .ok (.iload_n 1, 1) := by decide +kernel
theorem tl_d4 : decode method_3_code 4 = .ok (.invokevirtual 7, 3) := by decide +kernel
theorem tl_d7 : decode method_3_code 7 = .ok (.i2l, 1) := by decide +kernel
theorem tl_d8 : decode method_3_code 8 = .ok (.lastore, 1) := by decide +kernel
theorem tl_d9 : decode method_3_code 9 = .ok (.goto 6, 3) := by decide +kernel
theorem tl_d12 : decode method_3_code 12 = .ok (.astore_n 3, 1) := by decide +kernel
theorem tl_d13 : decode method_3_code 13 = .ok (.iconst 1, 1) := by decide +kernel
theorem tl_d14 : decode method_3_code 14 = .ok (.ireturn, 1) := by decide +kernel
theorem tl_d15 : decode method_3_code 15 = .ok (.iconst 0, 1) := by decide +kernel
theorem tl_d16 : decode method_3_code 16 = .ok (.ireturn, 1) := by decide +kernel
theorem tb_goodIn : GoodIn x_tbl tb_ws := by
  intro w hw
  rcases List.mem_cons.mp hw with e | e
  · subst e
    exact ⟨x_good tb_in.1 rfl, Or.inl rfl⟩
  · exact ⟨e, good_of_word (List.mem_filter.mp e).2⟩
theorem tb_goodInL : GoodIn x_tbl tb_lw := by
  intro w hw
  rcases List.mem_cons.mp hw with e | e
  · subst e
    exact ⟨x_good tb_in.2.1 rfl, Or.inl rfl⟩
  · exact ⟨e, good_of_word (List.mem_filter.mp e).2⟩
theorem tb_range {pp : Int32} (h0 : ¬ pp < 0) (h : pp < Int32.ofNat 10) : x_in pp 10 = true := by
  have h1 : pp.toInt < 10 := Int32.lt_iff_toInt_lt.mp h
  have h2 : ¬ pp.toInt < 0 := fun q => h0 (Int32.lt_iff_toInt_lt.mpr q)
  unfold x_in
  refine decide_eq_true (fun q => ?_)
  rcases q with q | q
  · exact h0 q
  · have : pp.toNatClampNeg = pp.toInt.toNat := rfl
    omega
theorem tb_rangeN {pp : Int32} (h : x_in pp 10 = true) : ¬ pp < 0 ∧ pp < Int32.ofNat 10 := by
  unfold x_in at h
  have h1 := of_decide_eq_true h
  refine ⟨fun q => h1 (Or.inl q), Int32.lt_iff_toInt_lt.mpr ?_⟩
  have h2 : ¬ pp.toInt < 0 := fun q => h1 (Or.inl (Int32.lt_iff_toInt_lt.mpr q))
  have h3 : ¬ 10 ≤ pp.toNatClampNeg := fun q => h1 (Or.inr q)
  have h4 : pp.toNatClampNeg = pp.toInt.toNat := rfl
  show pp.toInt < 10
  omega
/-- how a throw of the class's table ends -/
def tb_Q (_ : Array Value) (st : State) (oc : Outcome) (t : State) : Prop := ∃ x : Addr, oc = .threw x ∧ st.WarmedH t.vm ∧ st.sameButNew ({ t with vm := st.vm } : State) [] 1 6 ∧ t.heap.size = st.heap.size + 1 ∧ (∀ q : Nat, q < st.heap.size → t.heap[q]? = st.heap[q]?) ∧ ∃ ce : Cell, t.heap[x]? = some ce ∧ ce.vm.isStatics = false ∧ st.vm.findClass tb_X = some ce.cls
section TB
variable {l : Launch} {o : X_O} {D : va_G} {dA : FieldType → ClassId} {b : Nat} {oa : Nat → Nat}
set_option maxHeartbeats 4000000 in
theorem tb_met3 (htr : l.stackTraces = false) {k : Nat} {pp : Int32} {w : X_H} {fT : Nat → Int32} (ho : o 2 = some (10, fT)) (hp : ¬ x_in pp 10 = true) :
    MetFree l tb_N (headSpec tb_ws { frames := 8, cells := 1, slots := 6, locals := 512 }) (x_pre o D dA b oa [.ref k, .int pp] w) (fun _ _ _ _ _ => True) tb_Q := by
  refine MetFree.of_bodyS (code := prog_1_method_16_code) (maxLocals := 2) (ret := some .int) (by decide +kernel) ?_ ?_
  · intro args s m h hn
    obtain ⟨meth, c, h1, h2, h3, h4, h5, h6, -, -⟩ := Cond.code_spec hn (atoms_spec (ws := tb_ws) h _ List.mem_cons_self)
    exact ⟨meth, c, h1, h2, h3, h4, h5, h6⟩
  · intro p e s m args below meth c s₁ B hml hP _
    obtain ⟨rfl, hH, hodd, hK, hG⟩ := hP
    have hws := atoms_spec (ws := tb_ws) B.pre
    have ht : ∀ {z : Cond}, z ∈ lw_tbl → goodWord z = true → z.before (([.ref k, .int pp] : List Value).map (x_v b oa)).toArray s = true := fun h9 g9 => hws _ (List.mem_cons_of_mem _ (x_good h9 g9))
    have hx := B.exec
    have hb : c.code = prog_1_method_16_code := B.bytes
    have hown : s.vm.findClass "StepRows" = some m.cls := findClass_of_methodNamed B.named
    have hlocks := B.notSynchronized
    have hh0 : s₁.heap = s.heap := by rw [B.state]; rfl
    have hexc : c.exceptionTable.isEmpty = true := B.noHandlers (hws _ List.mem_cons_self)
    have hpl : e.platform.stackTraces = false := by rw [B.admits.platform]; exact htr
    have hl := lv_entry (([.ref k, .int pp] : List Value).map (x_v b oa)) (n := 2) (Nat.le_refl _)
    have K : W p l e (headSpec tb_ws { frames := 8, cells := 1, slots := 6, locals := 512 }).room s m (([.ref k, .int pp] : List Value).map (x_v b oa)).toArray below meth c s.heap [] 0 0 (fun t => ∃ oc, t.status = .running ∧ Ended t below oc ∧ tb_Q (([.ref k, .int pp] : List Value).map (x_v b oa)).toArray s oc t) (entryFrame m (([.ref k, .int pp] : List Value).map (x_v b oa)).toArray 2) := by
      rw [lg_entry_eq]
      generalize (lg_sl (([.ref k, .int pp] : List Value).map (x_v b oa)) ++ List.replicate (2 - (lg_sl (([.ref k, .int pp] : List Value).map (x_v b oa))).length) Slot.unset).toArray = ls at hl ⊢
      have h1 : ls[1]? = some (.val (.int pp)) := lv_at hl 1 rfl
      have hls : ls.size = 2 := hl.1
      have K12 : W p l e (headSpec tb_ws { frames := 8, cells := 1, slots := 6, locals := 512 }).room s m (([.ref k, .int pp] : List Value).map (x_v b oa)).toArray below meth c s.heap [] 0 0 (fun t => ∃ oc, t.status = .running ∧ Ended t below oc ∧ tb_Q (([.ref k, .int pp] : List Value).map (x_v b oa)).toArray s oc t) (F0 m 12 ls []) := by
        obtain ⟨q, hq⟩ := hG.2.2.1
        refine W.newc hx hb (C := tb_X) (n := 6) (index := 155) hown (ht tb_in.2.2.2.1 rfl) (ht tb_in.2.2.2.2.1 rfl) (ht tb_in.2.2.2.2.2 rfl) rfl tb_d12 (Nat.le_refl _) (Nat.le_refl _) (fun cC kC hcC hkC hord hsz => ?_)
        refine lv_dup hx hb (pc := 15) (ls := ls) (va := .ref s.heap.size) (rest := []) tb_d15 rfl ?_
        refine va_ldcS hx hb hown hq (pc := 16) tb_d16 ?_
        intro T hT X
        obtain ⟨U, st, hrun, hended, hWU, hsame, ce, hce, hOwn⟩ := X.ctorThrowS hx hpl (own := "StepRows") (cls := tb_X) (names := ["java/lang/RuntimeException", "java/lang/Exception"]) (ic := 159) hown (by decide +kernel) (by decide +kernel) (fun z hz => by
            rcases tb_atoms z hz with h9 | h9 | h9 | h9 | h9 | h9 | ⟨C9, g9, h9⟩
            · exact ht h9.1 h9.2
            · subst h9; exact (hG.2.2.2.1.use).1
            · subst h9; exact (hG.2.2.2.2.1.use).1
            · subst h9; exact (hG.2.2.2.1.use).2
            · subst h9; exact (hG.2.2.2.2.1.use).2
            · subst h9; exact (hG.2.2.2.2.2.1).use rfl
            · subst h9; exact (hG.2.2.2.2.2.2 C9 g9).use rfl) (fun y hy => by cases hy) (a := s.heap.size) (cX := cC) (kX := kC) hcC hkC (by rw [hT]; simp [freshCell]) (Nat.le_refl _) (msg := .ref q) rfl
            (g := F0 m 18 ls [.ref q, .ref s.heap.size, .ref s.heap.size]) rfl (by rw [hml]; exact hls) rfl rfl (rest := []) rfl (by rw [hb]; exact tb_d18) (by rw [hb]; exact tb_d21) (fun y hy => by
              have : c.exceptionTable = #[] := by simpa using hexc
              rw [this] at hy; cases hy) (by show 2 + 3 < 8; omega) (by show 2 * 0 + (1 + 0) + (13 * (2 + 1) + 42) ≤ 512; decide) hlocks
        refine ⟨U, st, .threw s.heap.size, hrun, hended, s.heap.size, rfl, hWU, hsame, ?_, ?_, ce, hce, by rw [hOwn.vm]; rfl, hOwn.cls⟩
        · have h8 := hsame.2.2.1
          have h9 := (Array.getElem?_eq_some_iff.mp hce).1
          exact Nat.le_antisymm h8 h9
        · intro a ha
          obtain ⟨c', h5, h6, h7, h8⟩ := hsame.2.2.2.2.2 a _ (Array.getElem?_eq_getElem ha)
          show U.heap[a]? = _
          rw [show U.heap[a]? = some c' from h5, Array.getElem?_eq_getElem ha]
          have e9 : c'.slots = (s.heap[a]).slots := Array.ext_getElem? (fun i => h8 i (by simp))
          rw [h6, e9]
      refine lv_iload_n hx hb (pc := 0) tb_d0 rfl h1 ?_
      refine lv_if_lt hx hb (pc := 0 + 1) (tgt := 12) tb_d1 rfl (fun _ => K12) (fun hn => ?_)
      refine lv_iload_n hx hb (pc := 4) tb_d4 rfl h1 ?_
      refine va_gets hx hb (hG.2.1 ("StepRows", "TABLE", "[I", 2) (by decide)) va_S.rf hown (ht tb_in2.2.2.2.2.2.2.2 rfl) (fun _ h9 => h9) (pc := 5) tb_d5 ?_
      refine va_tlen hx hb (hG.1 2 10 fT ho) va_S.rf rfl (pc := 8) tb_d8 ?_
      refine lv_icmp_lt hx hb (pc := 9) (tgt := 22) tb_d9 rfl (fun h9 => absurd (tb_range hn h9) hp) (fun _ => K12)
    obtain ⟨t, a1, oc, b1, b2, b3⟩ := K s₁ hh0 (Stand.of_body B)
    exact ⟨t, oc, a1, b1, b2, b3⟩
set_option maxHeartbeats 4000000 in
theorem tb_met1 {k : Nat} {pp : Int32} {w : X_H} {fT : Nat → Int32} (ho : o 2 = some (10, fT)) (hp : x_in pp 10 = true) :
    Met l tb_N tb_ws { frames := 8, cells := 0, slots := 0, locals := 512 } (x_pre o D dA b oa [.ref k, .int pp] w) (x_post D dA b oa w (some (.int (fT pp.toNatClampNeg)))) 0 0 (fun q => b ≤ q) := by
  refine Met.ofW (cc := prog_1_method_16_code) (maxL := 2) (ret := some .int) (by decide +kernel) rfl ?_
  intro p e s m args below meth c s₁ B hml hv
  obtain ⟨rfl, hH, hodd, hK, hG⟩ := hv
  have hws := atoms_spec (ws := tb_ws) B.pre
  have ht : ∀ {z : Cond}, z ∈ lw_tbl → goodWord z = true → z.before (([.ref k, .int pp] : List Value).map (x_v b oa)).toArray s = true := fun h9 g9 => hws _ (List.mem_cons_of_mem _ (x_good h9 g9))
  have hx := B.exec
  have hb : c.code = prog_1_method_16_code := B.bytes
  have hown : s.vm.findClass "StepRows" = some m.cls := findClass_of_methodNamed B.named
  have hl := lv_entry (([.ref k, .int pp] : List Value).map (x_v b oa)) (n := 2) (Nat.le_refl _)
  rw [lg_entry_eq]
  generalize (lg_sl (([.ref k, .int pp] : List Value).map (x_v b oa)) ++ List.replicate (2 - (lg_sl (([.ref k, .int pp] : List Value).map (x_v b oa))).length) Slot.unset).toArray = ls at hl ⊢
  have h1 : ls[1]? = some (.val (.int pp)) := lv_at hl 1 rfl
  obtain ⟨r0, r1⟩ := tb_rangeN hp
  refine lv_iload_n hx hb (pc := 0) tb_d0 rfl h1 ?_
  refine lv_if_lt hx hb (pc := 0 + 1) (tgt := 12) tb_d1 rfl (fun h9 => absurd h9 r0) (fun hn => ?_)
  refine lv_iload_n hx hb (pc := 4) tb_d4 rfl h1 ?_
  refine va_gets hx hb (hG.2.1 ("StepRows", "TABLE", "[I", 2) (by decide)) va_S.rf hown (ht tb_in2.2.2.2.2.2.2.2 rfl) (fun _ h9 => h9) (pc := 5) tb_d5 ?_
  refine va_tlen hx hb (hG.1 2 10 fT ho) va_S.rf rfl (pc := 8) tb_d8 ?_
  refine lv_icmp_lt hx hb (pc := 9) (tgt := 22) tb_d9 rfl (fun _ => ?_) (fun h9 => absurd r1 h9)
  refine va_gets hx hb (hG.2.1 ("StepRows", "TABLE", "[I", 2) (by decide)) va_S.rf hown (ht tb_in2.2.2.2.2.2.2.2 rfl) (fun _ h9 => h9) (pc := 22) tb_d22 ?_
  refine lv_iload_n hx hb (pc := 25) tb_d25 rfl h1 ?_
  refine va_ti hx hb (hG.1 2 10 fT ho) va_S.rf (x_in_vp hp) rfl (pc := 26) tb_d26 ?_
  refine W.iret hx hb B.returns (fun t9 ht9 _ => ⟨rfl, by rw [ht9]; exact hH, fun q _ => by rw [ht9]⟩) (fun q hq => by cases hq) (pc := 27) tb_d27 B.notSynchronized
section TBC
variable {p : Program} {e : Env} {R : Room} {s : State} {m : MethodId} {args : Array Value} {below : List Frame} {meth : Method} {c : Code} {T : State} {locs : List Loc} {cells slots : Nat}
/-- the call of the class's table, which throws: from the call's note to the caller's frame with the exception over it -/
theorem tb_thrown {Pc : Array Value → State → Prop} (hM : MetFree l tb_N (headSpec tb_ws { frames := 8, cells := 1, slots := 6, locals := 512 }) Pc (fun _ _ _ _ _ => True) tb_Q) (hbl : FrameBlind Pc) (X : Stand p l e R s m args below meth c T locs cells slots) (hfr : 9 ≤ R.frames) (hlo : 8 + (2 + 11) + 512 ≤ R.locals) {a : Array Value}
    (hws : ∀ w ∈ tb_ws, w.before a T = true) (hini : (Cond.initialized "StepRows").before a T = true) (hc : cells + 1 ≤ R.cells) (hs : slots + 6 ≤ R.slots) {g : JFrame} (hg : g.method = m) (hsize : g.locals.size = c.maxLocals) {ig : Instr} (hdg : decode c.code g.pc = .ok (ig, 3)) (hW : 2 * g.monitorRoom + (g.stack.map fun v => v.category).sum ≤ 8) {mk : MethodId} (hn : T.methodNamed? tb_N = some mk) (hp : Pc a T) :
    ∃ (x : Addr) (T' : State), Stand p l e R s m args below meth c T' locs (cells + 1) (slots + 6) ∧ T'.heap.size = T.heap.size + 1 ∧ (∀ q : Nat, q < T.heap.size → T'.heap[q]? = T.heap[q]?) ∧ (∃ ce : Cell, T'.heap[x]? = some ce ∧ ce.vm.isStatics = false ∧ T.vm.findClass tb_X = some ce.cls) ∧ Steps p.tables e below (doInvoke e (T.setTop g) [] mk a).1 ((T'.setTop g).pushFrame (.throwing x)) := by
  obtain ⟨methY, cY, hmY, hcY, -, hlY, -⟩ := Cond.code_spec hn (hws _ List.mem_cons_self)
  obtain ⟨kY, hkY, -⟩ := className_of_methodNamed hn
  have hinitY : kY.init = .initialized := Cond.initialized_spec (findClass_of_methodNamed hn) hkY hini
  have h : At T g.method c below := by rw [hg]; exact X.here
  have happ : (headSpec tb_ws { frames := 8, cells := 1, slots := 6, locals := 512 }).appliesLoose tb_N e.platform (T.calling g mk a) = true :=
    Spec.appliesLoose_calling (g := g) h hdg hn hkY hinitY (X.room_calling (g := g) (R' := { frames := 8, cells := 1, slots := 6, locals := 512 }) hsize hmY hcY hfr (by rw [hlY]; show _ + (2 + 11) + 512 ≤ _; omega) hc hs) (atoms_intro hws)
  obtain ⟨mid, hmid⟩ := h.above
  have hf : (T.setTop g).frames = (.java g :: mid) ++ below := by rw [State.frames_setTop' g h.top, hmid]; rfl
  obtain ⟨oc, t, hsteps, -, hend, hq⟩ := Steps.callFree hM p X.admits X.cas X.clock (acts := []) hf happ (hbl _ _ _ _ hp) trivial
  obtain ⟨x, rfl, hWt, hsm, hsz, hkeep, hce⟩ := hq
  rw [State.frames_setTop' g h.top, X.tail] at hend
  obtain ⟨T', X', -, -, ht⟩ := X.outOfThrown hg hend hWt hsm
  rw [List.append_nil] at X'
  have hh : T'.heap = t.heap := by rw [ht, throwing_heap]
  exact ⟨x, T', X', by rw [hh]; exact hsz, fun q hq => by rw [hh]; exact hkeep q hq, by rw [hh]; exact hce, by rw [← ht]; exact hsteps⟩
/-- the handler of the law's own table: the exception's class is at the pool's entry 13, resolved or not -/
theorem tb_find {S : State} {f : JFrame} {a : Addr} (hm : S.vm.method? f.method = some meth) (hc : meth.code = some c) (htab : c.exceptionTable.toList = [⟨0, 9, 12, 13⟩]) (hpc : f.pc = 4) {cT : ClassId} {cell : Cell} (hl : S.vm.ClassLinks e.platform f.method.cls 13 cT) (hcell : S.heap[a]? = some cell) (hobj : ∀ k, cell.vm ≠ .statics k) (hk : ∃ k, S.vm.classes[cell.cls]? = some k) (hcl : ∃ k, S.vm.classes[cT]? = some k) (hfit : S.vm.assignable cell.cls cT = true)
    (Q : Handler → Pre) (E : CtlPost) (d : Bool) (acts : List Action) : wp (findHandler f a) Q E e d acts S ↔ Q (.found 12) d acts (S.setVm (S.vm.noted f.method.cls 13 (.cls cT))) := by
  have hA : S.vm.Alike (S.vm.noted f.method.cls 13 (.cls cT)) := (Vm.Alike.refl S.vm).noted _ _ _
  obtain ⟨h1, h2⟩ := (resolveClass_links e.toSetting hl).op (op := VmOp.resolveClass f.method.cls 13) rfl
  obtain ⟨k1, hk1⟩ := hk
  obtain ⟨k2, hk2⟩ := hcl
  obtain ⟨k1', hk1', -⟩ := hA.2.2 _ _ hk1
  obtain ⟨k2', hk2', -⟩ := hA.2.2 _ _ hk2
  have hf : (S.vm.noted f.method.cls 13 (.cls cT)).assignable cell.cls cT = true := by rw [hA.assignable]; exact hfit
  rw [W.findHandler_eq hm hc, htab]
  simp [findHandler.go, hpc, h1, h2, hcell, hobj, hk1', hk2', hf, VmOp.dirties, VmOp.acts]
theorem tb_caught (X : Stand p l e R s m args below meth c T locs cells slots) (hown : s.vm.findClass "StepRowsLaw" = some m.cls) (htab : c.exceptionTable.toList = [⟨0, 9, 12, 13⟩]) {g : JFrame} (hg : g.method = m) (hpc : g.pc = 4) (hlink : (Cond.classLink "StepRowsLaw" 13 tb_X).before args s = true) {a : Addr} {cT : ClassId} {cell : Cell} (hcT : s.vm.findClass tb_X = some cT) (hcell : T.heap[a]? = some cell) (hobj : cell.vm.isStatics = false) (hfit : s.vm.assignable cell.cls cT = true) :
    ∃ vm', Stand p l e R s m args below meth c (T.setVm vm') locs cells slots ∧ ∀ target, Steps p.tables e below ((T.setVm vm').setTop { g with pc := 12, stack := [.ref a] }) target → Steps p.tables e below ((T.setTop g).pushFrame (.throwing a)) target := by
  subst hg
  obtain ⟨c', hc', hcl⟩ := Cond.classLink_spec hown hlink e.platform (by rw [X.admits.platform])
  cases hcT.symm.trans hc'
  obtain ⟨dk, _, _, kt, hd, _, _, _, _, hkt, _, hopen⟩ := hcl.here
  have hW' : s.WarmedH (T.vm.noted g.method.cls 13 (.cls cT)) := X.warmed.noted hd hopen (State.rightAt_cls hcl)
  obtain ⟨kt', hkt', -⟩ := X.warmed.alike.2.2 _ _ hkt
  have hf : T.vm.assignable cell.cls cT = true := by rw [X.warmed.alike.assignable]; exact hfit
  have hfind := tb_find (e := e) (S := (T.setTop g).pushFrame (.throwing a)) (f := g) (a := a) X.method' X.code htab hpc (X.warmed.classLinks hcl) hcell (VmData.ne_statics_of hobj) (Vm.classAt_of_assignable hf ⟨kt', hkt'⟩) ⟨kt', hkt'⟩ hf
  refine ⟨_, X.noted hW', fun target hrest => ?_⟩
  obtain ⟨hgo, hw⟩ := At.throwing (g := g) X.here a
  refine Steps.head hgo hw ?_
  have hstep : (stepThrowing e ((T.setTop g).pushFrame (.throwing a)) a (.java g :: T.frames.tail)).1 = (((T.setTop g).pushFrame (.throwing a)).setVm (T.vm.noted g.method.cls 13 (.cls cT))).setFrames (.java { g with pc := 12, stack := [.ref a] } :: T.frames.tail) := by
    simp only [stepThrowing, searchFrame, vmDo]
    generalize hr : Sem.go _ e false [] ((T.setTop g).pushFrame (.throwing a)) = res
    obtain ⟨as, rfl, -⟩ := Sem.eq_ok_of hr (a := Handler.found 12) (s' := ((T.setTop g).pushFrame (.throwing a)).setVm (T.vm.noted g.method.cls 13 (.cls cT))) (acts' := []) (by simp [hfind _ _ _ _]; rfl)
    rfl
  rw [stepThread_throwing (frames_entered X.here.top _), hstep]
  obtain ⟨g₀, hg0⟩ := Option.isSome_iff_exists.mp X.here.top
  obtain ⟨r, hr⟩ := State.topJava?_eq_some.mp hg0
  have hr' : (T.setVm (T.vm.noted g.method.cls 13 (.cls cT))).frames = .java g₀ :: r := hr
  rw [State.setTop_of_frames _ hr'] at hrest
  have e1 : (((T.setTop g).pushFrame (.throwing a)).setVm (T.vm.noted g.method.cls 13 (.cls cT))).setFrames (.java { g with pc := 12, stack := [.ref a] } :: T.frames.tail) = (T.setVm (T.vm.noted g.method.cls 13 (.cls cT))).setFrames (.java { g with pc := 12, stack := [.ref a] } :: r) := by
    rw [hr, List.tail_cons, State.pushFrame, State.setTop_of_frames _ hr, State.setFrames_setFrames]
    exact State.setFrames_setFrames (T.setVm (T.vm.noted g.method.cls 13 (.cls cT))) _ _
  rw [e1]
  exact hrest
theorem tb_callSW (X : Stand p l e R s m args below meth c T locs cells slots) (hexec : p.tables.exec = Jvm.exec) {own : String} {index : Nat} {y : MethodName} {bytes : ByteArray} {maxL : Nat} {ret : Option FieldType} {hh : List (Nat × Nat × Nat × Nat)}
    (hown : s.vm.findClass own = some m.cls) (hlink : (Cond.methodLink own index y).before args s = true) (hstat : (Cond.static y).before args s = true) (hinit : (Cond.initialized y.cls).before args s = true)
    (hcode : (Cond.codeWith y bytes maxL ret hh).before args s = true) (hy : y.cls ≠ "java/lang/invoke/MethodHandle" ∧ y.cls ≠ "java/lang/invoke/VarHandle")
    {W : Nat} {Pre : Pt → Array Value → Prop} {Post : Pt → Array Value → Option Value → Pt → Prop} (hK : Back l R p e below s args y 3 W Pre Post)
    {g : JFrame} (hg : g.method = m) (hsize : g.locals.size = c.maxLocals) {argsL rest : List Value} (hlen : ∀ sig, parseMethodDescriptor y.desc = some sig → argsL.length = sig.parameters.length)
    (hstack : g.stack = argsL.reverse ++ rest) (hW : 2 * g.monitorRoom + (rest.map fun v => v.category).sum ≤ W) (hdg : decode c.code g.pc = .ok (.invokestatic index, 3))
    (hpre : ∀ vm₁, s.WarmedH vm₁ → Pre ⟨T.setVm vm₁, locs, cells, slots⟩ argsL.toArray) :
    ∃ (v : Option Value) (vm₁ : Vm) (B : Pt), s.WarmedH vm₁ ∧ Stand p l e R s m args below meth c B.U B.locs B.cells B.slots ∧ Post ⟨T.setVm vm₁, locs, cells, slots⟩ argsL.toArray v B ∧
      ∀ target, Steps p.tables e below (B.U.setTop { g with pc := g.pc + 3, stack := v.toList ++ rest }) target → Steps p.tables e below (T.setTop g) target := by
  obtain ⟨mk, methM, cM, hnamed, hmethM, -, -, -, -, -, -, hsigM⟩ := Cond.codeWith_spec hcode
  have hstatic : methM.isStatic = true := Cond.static_spec hnamed hmethM hstat
  obtain ⟨kP, hkP, -⟩ := className_of_methodNamed hnamed
  have hinitP : kP.init = .initialized := Cond.initialized_spec (findClass_of_methodNamed hnamed) hkP hinit
  obtain ⟨vm₁, X₁, hstep₁⟩ := X.invokestatic hexec hown hlink hnamed hmethM hstatic hkP hinitP hy (g := g) hg (argsL := argsL) (rest := rest) (hlen _ hsigM) hstack hdg
  obtain ⟨v, B, X', hpost, hsteps⟩ := hK m meth c ⟨T.setVm vm₁, locs, cells, slots⟩ { g with stack := rest } (.invokestatic index) mk argsL.toArray X₁ hg hsize hdg hW (X₁.named hnamed) (hpre vm₁ X₁.warmed)
  exact ⟨v, vm₁, B, X₁.warmed, X', hpost, fun target h => hstep₁ _ fun acts => by rw [doInvoke_state]; exact hsteps.trans h⟩
end TBC
theorem tb_tab {c : Code} (h : c.exceptionTable.toList.map (fun h => (h.startPc, h.endPc, h.handlerPc, h.catchType)) = [(0, 9, 12, 13)]) : c.exceptionTable.toList = [] ++ ⟨0, 9, 12, 13⟩ :: [] := by
  cases hl : c.exceptionTable.toList with
  | nil => rw [hl] at h; cases h
  | cons x t =>
    rw [hl] at h
    cases t with
    | cons y u => simp at h
    | nil =>
      obtain ⟨a, b, d, f⟩ := x
      simp only [List.map_cons, List.map_nil, List.cons.injEq, Prod.mk.injEq, and_true] at h
      obtain ⟨h1, h2, h3, h4⟩ := h
      subst h1; subst h2; subst h3; subst h4
      rfl
end TB
