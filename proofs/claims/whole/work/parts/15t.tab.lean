theorem x_catsum (b : Nat) (oa : Nat → Nat) (t : List Value) : ((t.map (x_v b oa)).map fun v => v.category).sum = (t.map fun v => v.category).sum := by
  rw [List.map_map]
  exact congrArg List.sum (List.map_congr_left fun v _ => x_cat b oa v)
theorem x_ret_map (b : Nat) (oa : Nat → Nat) (r : Option Value) (t : List Value) : (r.map (x_v b oa)).toList ++ t.map (x_v b oa) = (r.toList ++ t).map (x_v b oa) := by cases r <;> rfl
theorem x_goodIn {y : Nat} (h : y < 152) : GoodIn x_tbl (x_wds y) := by
  intro w hw
  rcases List.mem_cons.mp hw with e | e
  · subst e
    exact ⟨x_good (x_ychk_ok h).1 rfl, Or.inl rfl⟩
  · exact ⟨e, good_of_word (List.mem_filter.mp e).2⟩
/-! THE LAW'S OWN TABLE: the class's throw, and its catch -/
def tb_N : MethodName := ⟨"StepRows", "table", "(I)I"⟩
def tb_X : String := "java/lang/IndexOutOfBoundsException"
def tb_ws : List Cond := Cond.code tb_N prog_1_method_16_code 2 (some .int) :: x_tbl
def tb_lw : List Cond := Cond.codeWith x_tabName method_3_code 4 (some .int) [(0, 9, 12, 13)] :: x_tbl
theorem tb_atoms : ∀ z ∈ Bundle.ownAtoms "StepRows" 159 tb_X ["java/lang/RuntimeException", "java/lang/Exception"], (z ∈ lw_tbl ∧ goodWord z = true) ∨ z = .laysStatic Bundle.tN "UNASSIGNED_STACK" Bundle.steD ∨ z = .laysStatic Bundle.tN "SUPPRESSED_SENTINEL" Bundle.listD ∨ z = .isRef (.static Bundle.tN "UNASSIGNED_STACK" Bundle.steD) ∨ z = .isRef (.static Bundle.tN "SUPPRESSED_SENTINEL" Bundle.listD) ∨ z = .castable tb_X tb_X ∨ ∃ C ∈ (["java/lang/RuntimeException", "java/lang/Exception", "java/lang/Throwable"] : List String), z = .declares ⟨C, "<init>", "(Ljava/lang/String;)V"⟩ := by decide +kernel
theorem tb_in : Cond.code tb_N prog_1_method_16_code 2 (some .int) ∈ lw_tbl ∧ Cond.codeWith x_tabName method_3_code 4 (some .int) [(0, 9, 12, 13)] ∈ lw_tbl ∧ Cond.classLink "StepRowsLaw" 13 tb_X ∈ lw_tbl ∧ Cond.classLink "StepRows" 155 tb_X ∈ lw_tbl ∧ Cond.instantiable tb_X 6 ∈ lw_tbl ∧ Cond.initialized tb_X ∈ lw_tbl := by decide +kernel
theorem tb_in2 : Cond.castable tb_X tb_X ∈ lw_tbl ∧ Cond.methodLink "StepRowsLaw" 7 tb_N ∈ lw_tbl ∧ Cond.instanceMethod tb_N ∈ lw_tbl ∧ Cond.selects "StepRows" tb_N tb_N ∈ lw_tbl ∧ Cond.initialized "StepRows" ∈ lw_tbl ∧ Cond.initialized "StepRowsLaw" ∈ lw_tbl ∧ Cond.static x_tabName ∈ lw_tbl ∧ Cond.fieldLink "StepRows" 152 "StepRows" "TABLE" "[I" ∈ lw_tbl := by decide +kernel
theorem tb_d0 : decode prog_1_method_16_code 0 = .ok (.iload_n 1, 1) := by decide +kernel
theorem tb_d1 : decode prog_1_method_16_code 1 = .ok (.ifCond .lt 11, 3) := by decide +kernel
theorem tb_d4 : decode prog_1_method_16_code 4 = .ok (.iload_n 1, 1) := by decide +kernel
theorem tb_d5 : decode prog_1_method_16_code 5 = .ok (.getstatic 152, 3) := by decide +kernel
theorem tb_d8 : decode prog_1_method_16_code 8 = .ok (.arraylength, 1) := by decide +kernel
theorem tb_d9 : decode prog_1_method_16_code 9 = .ok (.if_icmp .lt 13, 3) := by decide +kernel
theorem tb_d12 : decode prog_1_method_16_code 12 = .ok (.new 155, 3) := by decide +kernel
theorem tb_d15 : decode prog_1_method_16_code 15 = .ok (.dup, 1) := by decide +kernel
theorem tb_d16 : decode prog_1_method_16_code 16 = .ok (.ldc 157, 2) := by decide +kernel
theorem tb_d18 : decode prog_1_method_16_code 18 = .ok (.invokespecial 159, 3) := by decide +kernel
theorem tb_d21 : decode prog_1_method_16_code 21 = .ok (.athrow, 1) := by decide +kernel
theorem tb_d22 : decode prog_1_method_16_code 22 = .ok (.getstatic 152, 3) := by decide +kernel
theorem tb_d25 : decode prog_1_method_16_code 25 = .ok (.iload_n 1, 1) := by decide +kernel
theorem tb_d26 : decode prog_1_method_16_code 26 = .ok (.iaload, 1) := by decide +kernel
theorem tb_d27 : decode prog_1_method_16_code 27 = .ok (.ireturn, 1) := by decide +kernel
theorem tl_d0 : decode method_3_code 0 = .ok (.aload_n 2, 1) := by decide +kernel
theorem tl_d1 : decode method_3_code 1 = .ok (.iconst 0, 1) := by decide +kernel
theorem tl_d2 : decode method_3_code 2 = .ok (.aload_n 0, 1) := by decide +kernel
theorem tl_d3 : decode method_3_code 3 = .ok (.iload_n 1, 1) := by decide +kernel
theorem tl_d4 : decode method_3_code 4 = .ok (.invokevirtual 7, 3) := by decide +kernel
theorem tl_d7 : decode method_3_code 7 = .ok (.i2l, 1) := by decide +kernel
theorem tl_d8 : decode method_3_code 8 = .ok (.lastore, 1) := by decide +kernel
theorem tl_d9 : decode method_3_code 9 = .ok (.goto 6, 3) := by decide +kernel
theorem tl_d12 : decode method_3_code 12 = .ok (.astore_n 3, 1) := by decide +kernel
theorem tl_d13 : decode method_3_code 13 = .ok (.iconst 1, 1) := by decide +kernel
theorem tl_d14 : decode method_3_code 14 = .ok (.ireturn, 1) := by decide +kernel
theorem tl_d15 : decode method_3_code 15 = .ok (.iconst 0, 1) := by decide +kernel
theorem tl_d16 : decode method_3_code 16 = .ok (.ireturn, 1) := by decide +kernel
theorem tb_goodIn : GoodIn x_tbl tb_ws := by
  intro w hw
  rcases List.mem_cons.mp hw with e | e
  · subst e
    exact ⟨x_good tb_in.1 rfl, Or.inl rfl⟩
  · exact ⟨e, good_of_word (List.mem_filter.mp e).2⟩
theorem tb_goodInL : GoodIn x_tbl tb_lw := by
  intro w hw
  rcases List.mem_cons.mp hw with e | e
  · subst e
    exact ⟨x_good tb_in.2.1 rfl, Or.inl rfl⟩
  · exact ⟨e, good_of_word (List.mem_filter.mp e).2⟩
theorem tb_range {pp : Int32} (h0 : ¬ pp < 0) (h : pp < Int32.ofNat 10) : x_in pp 10 = true := by
  have h1 : pp.toInt < 10 := Int32.lt_iff_toInt_lt.mp h
  have h2 : ¬ pp.toInt < 0 := fun q => h0 (Int32.lt_iff_toInt_lt.mpr q)
  unfold x_in
  refine decide_eq_true (fun q => ?_)
  rcases q with q | q
  · exact h0 q
  · have : pp.toNatClampNeg = pp.toInt.toNat := rfl
    omega
theorem tb_rangeN {pp : Int32} (h : x_in pp 10 = true) : ¬ pp < 0 ∧ pp < Int32.ofNat 10 := by
  unfold x_in at h
  have h1 := of_decide_eq_true h
  refine ⟨fun q => h1 (Or.inl q), Int32.lt_iff_toInt_lt.mpr ?_⟩
  have h2 : ¬ pp.toInt < 0 := fun q => h1 (Or.inl (Int32.lt_iff_toInt_lt.mpr q))
  have h3 : ¬ 10 ≤ pp.toNatClampNeg := fun q => h1 (Or.inr q)
  have h4 : pp.toNatClampNeg = pp.toInt.toNat := rfl
  show pp.toInt < 10
  omega
/-- how a throw of the class's table ends -/
def tb_Q (_ : Array Value) (st : State) (oc : Outcome) (t : State) : Prop := ∃ x : Addr, oc = .threw x ∧ st.WarmedH t.vm ∧ st.sameButNew ({ t with vm := st.vm } : State) [] 1 6 ∧ t.heap.size = st.heap.size + 1 ∧ (∀ q : Nat, q < st.heap.size → t.heap[q]? = st.heap[q]?) ∧ ∃ ce : Cell, t.heap[x]? = some ce ∧ ce.vm.isStatics = false ∧ st.vm.findClass tb_X = some ce.cls
section TB
variable {l : Launch} {o : X_O} {D : va_G} {dA : FieldType → ClassId} {b : Nat} {oa : Nat → Nat}
set_option maxHeartbeats 4000000 in
theorem tb_met3 (htr : l.stackTraces = false) {k : Nat} {pp : Int32} {w : X_H} {fT : Nat → Int32} (ho : o 2 = some (10, fT)) (hp : ¬ x_in pp 10 = true) :
    MetFree l tb_N (headSpec tb_ws { frames := 8, cells := 1, slots := 6, locals := 512 }) (x_pre o D dA b oa [.ref k, .int pp] w) (fun _ _ _ _ _ => True) tb_Q := by
  refine MetFree.of_bodyS (code := prog_1_method_16_code) (maxLocals := 2) (ret := some .int) (by decide +kernel) ?_ ?_
  · intro args s m h hn
    obtain ⟨meth, c, h1, h2, h3, h4, h5, h6, -, -⟩ := Cond.code_spec hn (atoms_spec (ws := tb_ws) h _ List.mem_cons_self)
    exact ⟨meth, c, h1, h2, h3, h4, h5, h6⟩
  · intro p e s m args below meth c s₁ B hml hP _
    obtain ⟨rfl, hH, hodd, hK, hG⟩ := hP
    have hws := atoms_spec (ws := tb_ws) B.pre
    have ht : ∀ {z : Cond}, z ∈ lw_tbl → goodWord z = true → z.before (([.ref k, .int pp] : List Value).map (x_v b oa)).toArray s = true := fun h9 g9 => hws _ (List.mem_cons_of_mem _ (x_good h9 g9))
    have hx := B.exec
    have hb : c.code = prog_1_method_16_code := B.bytes
    have hown : s.vm.findClass "StepRows" = some m.cls := findClass_of_methodNamed B.named
    have hlocks := B.notSynchronized
    have hh0 : s₁.heap = s.heap := by rw [B.state]; rfl
    have hexc : c.exceptionTable.isEmpty = true := B.noHandlers (hws _ List.mem_cons_self)
    have hpl : e.platform.stackTraces = false := by rw [B.admits.platform]; exact htr
    have hl := lv_entry (([.ref k, .int pp] : List Value).map (x_v b oa)) (n := 2) (Nat.le_refl _)
    have K : W p l e (headSpec tb_ws { frames := 8, cells := 1, slots := 6, locals := 512 }).room s m (([.ref k, .int pp] : List Value).map (x_v b oa)).toArray below meth c s.heap [] 0 0 (fun t => ∃ oc, t.status = .running ∧ Ended t below oc ∧ tb_Q (([.ref k, .int pp] : List Value).map (x_v b oa)).toArray s oc t) (entryFrame m (([.ref k, .int pp] : List Value).map (x_v b oa)).toArray 2) := by
      rw [lg_entry_eq]
      generalize (lg_sl (([.ref k, .int pp] : List Value).map (x_v b oa)) ++ List.replicate (2 - (lg_sl (([.ref k, .int pp] : List Value).map (x_v b oa))).length) Slot.unset).toArray = ls at hl ⊢
      have h1 : ls[1]? = some (.val (.int pp)) := lv_at hl 1 rfl
      have hls : ls.size = 2 := hl.1
      have K12 : W p l e (headSpec tb_ws { frames := 8, cells := 1, slots := 6, locals := 512 }).room s m (([.ref k, .int pp] : List Value).map (x_v b oa)).toArray below meth c s.heap [] 0 0 (fun t => ∃ oc, t.status = .running ∧ Ended t below oc ∧ tb_Q (([.ref k, .int pp] : List Value).map (x_v b oa)).toArray s oc t) (F0 m 12 ls []) := by
        obtain ⟨q, hq⟩ := hG.2.2.1
        refine W.newc hx hb (C := tb_X) (n := 6) (index := 155) hown (ht tb_in.2.2.2.1 rfl) (ht tb_in.2.2.2.2.1 rfl) (ht tb_in.2.2.2.2.2 rfl) rfl tb_d12 (Nat.le_refl _) (Nat.le_refl _) (fun cC kC hcC hkC hord hsz => ?_)
        refine lv_dup hx hb (pc := 15) (ls := ls) (va := .ref s.heap.size) (rest := []) tb_d15 rfl ?_
        refine va_ldcS hx hb hown hq (pc := 16) tb_d16 ?_
        intro T hT X
        obtain ⟨U, st, hrun, hended, hWU, hsame, ce, hce, hOwn⟩ := X.ctorThrowS hx hpl (own := "StepRows") (cls := tb_X) (names := ["java/lang/RuntimeException", "java/lang/Exception"]) (ic := 159) hown (by decide +kernel) (by decide +kernel) (fun z hz => by
            rcases tb_atoms z hz with h9 | h9 | h9 | h9 | h9 | h9 | ⟨C9, g9, h9⟩
            · exact ht h9.1 h9.2
            · subst h9; exact (hG.2.2.2.1.use).1
            · subst h9; exact (hG.2.2.2.2.1.use).1
            · subst h9; exact (hG.2.2.2.1.use).2
            · subst h9; exact (hG.2.2.2.2.1.use).2
            · subst h9; exact (hG.2.2.2.2.2.1).use rfl
            · subst h9; exact (hG.2.2.2.2.2.2 C9 g9).use rfl) (fun y hy => by cases hy) (a := s.heap.size) (cX := cC) (kX := kC) hcC hkC (by rw [hT]; simp [freshCell]) (Nat.le_refl _) (msg := .ref q) rfl
            (g := F0 m 18 ls [.ref q, .ref s.heap.size, .ref s.heap.size]) rfl (by rw [hml]; exact hls) rfl rfl (rest := []) rfl (by rw [hb]; exact tb_d18) (by rw [hb]; exact tb_d21) (fun y hy => by
              have : c.exceptionTable = #[] := by simpa using hexc
              rw [this] at hy; cases hy) (by show 2 + 3 < 8; omega) (by show 2 * 0 + (1 + 0) + (13 * (2 + 1) + 42) ≤ 512; decide) hlocks
        refine ⟨U, st, .threw s.heap.size, hrun, hended, s.heap.size, rfl, hWU, hsame, ?_, ?_, ce, hce, by rw [hOwn.vm]; rfl, hOwn.cls⟩
        · have h8 := hsame.2.2.1
          have h9 := (Array.getElem?_eq_some_iff.mp hce).1
          exact Nat.le_antisymm h8 h9
        · intro a ha
          obtain ⟨c', h5, h6, h7, h8⟩ := hsame.2.2.2.2.2 a _ (Array.getElem?_eq_getElem ha)
          show U.heap[a]? = _
          rw [show U.heap[a]? = some c' from h5, Array.getElem?_eq_getElem ha]
          have e9 : c'.slots = (s.heap[a]).slots := Array.ext_getElem? (fun i => h8 i (by simp))
          rw [h6, e9]
      refine lv_iload_n hx hb (pc := 0) tb_d0 rfl h1 ?_
      refine lv_if_lt hx hb (pc := 0 + 1) (tgt := 12) tb_d1 rfl (fun _ => K12) (fun hn => ?_)
      refine lv_iload_n hx hb (pc := 4) tb_d4 rfl h1 ?_
      refine va_gets hx hb (hG.2.1 ("StepRows", "TABLE", "[I", 2) (by decide)) va_S.rf hown (ht tb_in2.2.2.2.2.2.2.2 rfl) (fun _ h9 => h9) (pc := 5) tb_d5 ?_
      refine va_tlen hx hb (hG.1 2 10 fT ho) va_S.rf rfl (pc := 8) tb_d8 ?_
      refine lv_icmp_lt hx hb (pc := 9) (tgt := 22) tb_d9 rfl (fun h9 => absurd (tb_range hn h9) hp) (fun _ => K12)
    obtain ⟨t, a1, oc, b1, b2, b3⟩ := K s₁ hh0 (Stand.of_body B)
    exact ⟨t, oc, a1, b1, b2, b3⟩
end TB
