/-! THE CLAIM OUT OF ONE WALK OF THE LAW'S BODY. Your part is whole_start (and what it stands on); all else here is the same for every law, but numbers. -/
def R_law : String := "StepRowsLaw"
def lw_P (b : Addr) (xs : List Int32) (args : Array Value) (s : State) : Prop := args = #[.ref b] ∧ s.IntsAt b xs ∧ xs.length ≤ 2560 ∧ (Jvm.Cond.and given_1 narrow_1).before args s = true
def lw_Q (_ : Array Value) (s : State) (o : Outcome) (t : State) : Prop := o = .returned (some (.int 1)) ∧ Framed s o t [] 601024 7293034
def lw_Z (below : List Frame) (a : Array Value) (s : State) : State → Prop := fun t => ∃ o, t.status = .running ∧ Ended t below o ∧ lw_Q a s o t
/-- the law's own end, with 1 on the stack, nothing written that was there before, its room as the claim has it -/
theorem lw_ret {p : Program} {l : Launch} {e : Env} {s : State} {m : MethodId} {below : List Frame} {meth : Method} {c : Code} {b : Nat} (hx : p.tables.exec = Jvm.exec) (hb : c.code = code) (hr : meth.sig.returnType = ret) (hlocks : meth.locks = false) {pc : Nat} {H : Heap} {ls : Array Slot} (hdg : decode code pc = .ok (.ireturn, 1)) : W p l e room_1 s m #[Value.ref b] below meth c H [] 601024 7293034 (lw_Z below #[Value.ref b] s) (F0 m pc ls [.int 1]) := by
  intro T hT X
  obtain ⟨fs, hret, hrun, hended, hW, hframe⟩ := X.leave (v := some (.int 1)) (hlocks := hlocks) (fun h => by rw [hr] at h; cases h)
  have hmeth' : T.vm.method? m = some meth := X.method'
  refine ⟨T.setFrames fs, ?_, .returned (some (.int 1)), hrun, hended, rfl, ⟨_, rfl⟩, hW, hframe⟩
  jvm_step X.here [X.here.top, hx, hb, hdg, hmeth', hr, ret, narrow_b1]
  (try refine ⟨rfl, ?_⟩); (try refine ⟨rfl, ?_⟩)
  first | (intro acts; rw [hret _ acts rfl rfl rfl]) | rw [hret _ _ rfl rfl rfl]
  exact Steps.refl _
/-- what holds at the law's entry: the machine, the code, the tables' words (any of lw_tbl by 'hts w (by decide +kernel)'), the script of L ints xs at the cell b, what the Statement gives of the start (any of its parts by flat_of_before) -/
def lw_At (p : Program) (s : State) (m : MethodId) (meth : Method) (c : Code) (b L : Nat) (xs : Nat → Int32) : Prop :=
  p.tables.exec = Jvm.exec ∧ c.code = code ∧ meth.sig.returnType = ret ∧ c.maxLocals = 7 ∧ s.vm.findClass R_law = some m.cls ∧ (∀ w ∈ lw_tbl, w.before #[Value.ref b] s = true) ∧ va_X b L xs s s.heap ∧ b < s.heap.size ∧ meth.locks = false ∧ (Jvm.Cond.and given_1 narrow_1).before #[Value.ref b] s = true
/-! THE LAW'S START: what the Statement gives at the entry is what the abstract machine asks -/
def x_WANTED : List Int32 := [1, 1, 0, 1, 1, 0, 1, 1, 0, 1, 1, 0, 1, 1, 0, 1, 1, 0, 1, 0, 0, 0, 0, 0, 0, 0, 0, 0, 0, 0, 4, 1, 0, 5, 1, 0, 1, 0, 0, 4, 1, 1, 2, 2, 0, 1, 2, 3, 1, 2, 2, 1, 2, 0, 2, 2, 0, 6, 0, 0, 6, 2, 0, 2, 0, 0]
def x_TABLE : List Int32 := [1, 2, 3, 5, 8, 13, 21, 34, 55, 89]
def x_out (L : Nat) (xs : Nat → Int32) : X_O := fun j => match j with
  | 0 => some (L, xs)
  | 1 => some (66, fun i => x_WANTED.getD i 0)
  | 2 => some (10, fun i => x_TABLE.getD i 0)
  | _ => none
/-- THE PURE CLAIM: the abstract machine runs the law over this script to true, within the room -/
def x_law (L : Nat) (xs : Nat → Int32) : Prop := ∃ n d w', d ≤ 1000 ∧ x_run (x_out L xs) n d 152 0 [(0, .retAddr 0)] [] (0, 0, fun _ => none) = some (w', some (.int 1)) ∧ w'.1 ≤ 601024 ∧ w'.2.1 ≤ 7293034
theorem x_Tof {args : Array Value} {s : State} {C n d : String} {A : Nat → Prop} (l : List Int32) (hl : l.length < 2 ^ 31) (harr : (Cond.arrayOf (.static C n d) .int).before args s = true) (hlen : (Cond.eq (.length (.static C n d)) (.int (Int32.ofNat l.length))).before args s = true) (hel : ∀ j, j < l.length → (Cond.eq (.elem (.static C n d) (.int (Int32.ofNat j))) (.int (l.getD j 0))).before args s = true) (hst : (Cond.laysStatic C n d).before args s = true) (hini : (Cond.initialized C).before args s = true) (hA : ∀ a : Nat, a < s.heap.size → ¬ A a) : ∃ t : Nat, va_T .int t l.length (fun i => .int (l.getD i 0)) A s s.heap ∧ va_Z C n d (.ref t) A s s.heap := by
  obtain ⟨t, h1, h2⟩ := va_Tof (f := fun i => .int (l.getD i 0)) hl harr (va_eqv hlen rfl) (fun j hj => va_eqv (hel j hj) rfl) hA
  exact ⟨t, h2, va_Zref hst hini h1 hA⟩
theorem x_arr_of {args : Array Value} {s : State} (t : FieldType) (h : (Cond.arrayClass t).before args s = true) (ho : ∀ C, t ≠ .object C) : ∃ cA, ArrOfT s cA t ∧ va_RA s cA t := by
  obtain ⟨cA, kA, comp, hfind, hk, hkind⟩ := Cond.arrayClass_spec h
  refine ⟨cA, fun n z => ⟨fun k h => (by cases h), kA, hk, comp, hkind⟩, ?_⟩
  cases t with
  | object C => exact absurd rfl (ho C)
  | _ => exact hfind
theorem x_arr_ofC {args : Array Value} {s : State} (C : String) (h : (Cond.arrayOver (.object C)).before args s = true) : ∃ cA, ArrOfT s cA (.object C) ∧ va_RA s cA (.object C) := by
  obtain ⟨comp, cArr, kArr, hcomp, hidx, hkArr, hkindArr, hname⟩ := Cond.arrayOver_spec h
  exact ⟨cArr, fun n z => ⟨fun k h => (by cases h), kArr, hkArr, comp, hkindArr⟩, kArr, comp, hkArr, hkindArr, hcomp, hname⟩
theorem x_flatW : ∀ j, j < x_WANTED.length → Cond.eq (.elem (.static "StepRows" "WANTED" "[I") (.int (Int32.ofNat j))) (.int (x_WANTED.getD j 0)) ∈ flatC (Jvm.Cond.and given_1 narrow_1) := by decide +kernel
theorem x_flatT : ∀ j, j < x_TABLE.length → Cond.eq (.elem (.static "StepRows" "TABLE" "[I") (.int (Int32.ofNat j))) (.int (x_TABLE.getD j 0)) ∈ flatC (Jvm.Cond.and given_1 narrow_1) := by decide +kernel
theorem x_flatA : Cond.arrayOf (.static "StepRows" "WANTED" "[I") .int ∈ flatC (Jvm.Cond.and given_1 narrow_1) ∧ Cond.arrayOf (.static "StepRows" "TABLE" "[I") .int ∈ flatC (Jvm.Cond.and given_1 narrow_1) ∧ Cond.eq (.length (.static "StepRows" "WANTED" "[I")) (.int (Int32.ofNat x_WANTED.length)) ∈ flatC (Jvm.Cond.and given_1 narrow_1) ∧ Cond.eq (.length (.static "StepRows" "TABLE" "[I")) (.int (Int32.ofNat x_TABLE.length)) ∈ flatC (Jvm.Cond.and given_1 narrow_1) := by decide +kernel
theorem x_laysS : Cond.laysStatic "StepRows" "WANTED" "[I" ∈ lw_tbl ∧ Cond.laysStatic "StepRows" "TABLE" "[I" ∈ lw_tbl ∧ Cond.initialized "StepRows" ∈ lw_tbl := by decide +kernel
theorem x_overs : Cond.arrayOver (.object "StepRows$Rows") ∈ lw_tbl ∧ Cond.arrayOver (.object "StepRows$Run") ∈ lw_tbl := by decide +kernel
theorem x_oddF_in : ∀ q ∈ x_oddF, Cond.fieldLinkNest q.1 q.2.1 q.2.2.1 q.2.2.2.1 q.2.2.2.2 "StepRows" ∈ lw_tbl := by decide +kernel
theorem x_oddM_in : ∀ q ∈ x_oddM, Cond.methodLinkNest q.1 q.2.1 q.2.2 "StepRows" ∈ lw_tbl := by decide +kernel
theorem x_et_two {C : String} (h : x_et (.object C) = true) : C = "StepRows$Rows" ∨ C = "StepRows$Run" := by
  have h1 : FieldType.object C ∈ x_etys := of_decide_eq_true h
  simp only [x_etys, List.mem_cons, List.not_mem_nil, or_false, reduceCtorEq, false_or, FieldType.object.injEq] at h1
  exact h1
theorem x_flatR : Cond.isRef (.static Bundle.tN "UNASSIGNED_STACK" Bundle.steD) ∈ flatC (Jvm.Cond.and given_1 narrow_1) ∧ Cond.isRef (.static Bundle.tN "SUPPRESSED_SENTINEL" Bundle.listD) ∈ flatC (Jvm.Cond.and given_1 narrow_1) := by decide +kernel
theorem x_thrS : Cond.laysStatic Bundle.tN "UNASSIGNED_STACK" Bundle.steD ∈ lw_tbl ∧ Cond.laysStatic Bundle.tN "SUPPRESSED_SENTINEL" Bundle.listD ∈ lw_tbl ∧ Cond.stringRef "StepRows" 157 "the TABLE has numbers 0 to 9" ∈ lw_tbl := by decide +kernel
theorem x_thrD : ∀ C ∈ (["java/lang/RuntimeException", "java/lang/Exception", "java/lang/Throwable"] : List String), Cond.declares ⟨C, "<init>", "(Ljava/lang/String;)V"⟩ ∈ lw_tbl := by decide +kernel
theorem x_thr_of {args : Array Value} {s : State} (hs : ∀ z ∈ flatC (Jvm.Cond.and given_1 narrow_1), z.before args s = true) (hts : ∀ w ∈ lw_tbl, w.before args s = true) : x_thr s.heap.size s s.heap := by
  refine ⟨?_, x_st.of (hts _ x_thrS.1) (hs _ x_flatR.1) (fun _ h => h), x_st.of (hts _ x_thrS.2.1) (hs _ x_flatR.2) (fun _ h => h), va_Nw.of rfl (hts _ tb_in2.1), fun C hC => va_Nw.of rfl (hts _ (x_thrD C hC))⟩
  have hSR := hts _ x_thrS.2.2
  have hcur : ∃ cur, s.vm.findClass "StepRows" = some cur := by
    have h1 := hSR
    simp only [Cond.before, Cond.holds, Cond.value] at h1
    cases hc : s.vm.findClass "StepRows" with
    | none => simp [hc] at h1
    | some cur => exact ⟨cur, rfl⟩
  obtain ⟨cur, hcur⟩ := hcur
  obtain ⟨k, cf, j, a, -, -, -, -, -, hev⟩ := Cond.stringRef_spec hcur hSR
  exact ⟨a, vk_R.of hSR hev⟩
set_option maxHeartbeats 4000000 in
/-- the law's walk, out of its run -/
theorem x_start {p : Program} {e : Env} {s : State} {m : MethodId} {below : List Frame} {meth : Method} {c : Code} (l : Launch) (htr : l.stackTraces = false) {b L : Nat} {xs : Nat → Int32} (hL : L ≤ 2560) (h : x_law L xs) (C0 : lw_At p s m meth c b L xs) : W p l e room_1 s m #[Value.ref b] below meth c s.heap [] 0 0 (lw_Z below #[Value.ref b] s) (entryFrame m ([Value.ref b] : List Value).toArray 7) := by
  obtain ⟨hx, hb, hr, hml, hown, hts, hX, hbl, hlocks, hgv⟩ := C0
  obtain ⟨n, d, w', hd, hrun, hc1, hs1⟩ := h
  have hA : ∀ a : Nat, a < s.heap.size → ¬ s.heap.size ≤ a := fun a h => Nat.not_le.mpr h
  have hs := flat_of_before _ hgv
  have hts' : ∀ w ∈ x_tbl, w.before #[Value.ref b] s = true := fun w hw => hts w (List.mem_filter.mp hw).1
  have k1 : ∀ ci : Nat, ∃ (cC : ClassId), ∃ (iS : Nat → Nat), ∀ q : vw_C, vwCl[ci]? = some q → u_Kn s q.1 q.2.1 q.2.2 cC iS := by
    intro ci
    cases hq : vwCl[ci]? with
    | none => exact ⟨0, fun _ => 0, fun q h => by cases h⟩
    | some q =>
      obtain ⟨C, T, N⟩ := q
      have hok := x_okC_all hq
      obtain ⟨cC, iS, hK⟩ := u_known hts' hok.1 (hts _ hok.2.2.2.1)
      exact ⟨cC, iS, fun q h => by cases h; exact hK⟩
  obtain ⟨dC, k2⟩ := Classical.axiomOfChoice k1
  obtain ⟨dI, k3⟩ := Classical.axiomOfChoice k2
  have a1 : ∀ t : FieldType, ∃ cA : ClassId, t ∈ x_etys → ArrOfT s cA t ∧ va_RA s cA t := by
    intro t
    by_cases ht : t ∈ x_etys
    · have h9 : ∃ cA, ArrOfT s cA t ∧ va_RA s cA t := by
        simp only [x_etys, List.mem_cons, List.not_mem_nil, or_false] at ht
        rcases ht with e | e | e | e | e <;> subst e
        · exact x_arr_of _ (hts _ (x_arrs _ (by decide))) (fun C h => by cases h)
        · exact x_arr_of _ (hts _ (x_arrs _ (by decide))) (fun C h => by cases h)
        · exact x_arr_of _ (hts _ (x_arrs _ (by decide))) (fun C h => by cases h)
        · exact x_arr_ofC _ (hts _ x_overs.1)
        · exact x_arr_ofC _ (hts _ x_overs.2)
      obtain ⟨cA, h9⟩ := h9
      exact ⟨cA, fun _ => h9⟩
    · exact ⟨0, fun h => absurd h ht⟩
  obtain ⟨dA, a2⟩ := Classical.axiomOfChoice a1
  have hK : va_K (dC, dI) vwCl (x_tys dA) s := by
    refine ⟨fun ci q hq => k3 ci q hq, fun k q hk => ?_⟩
    obtain ⟨t, ht, rfl⟩ := List.mem_map.mp (List.mem_of_getElem? hk)
    exact a2 t ht
  obtain ⟨t1, hT1, hZ1⟩ := x_Tof (A := fun q => s.heap.size ≤ q) x_WANTED (by decide) (hs _ x_flatA.1) (hs _ x_flatA.2.2.1) (fun j hj => hs _ (x_flatW j hj)) (hts _ x_laysS.1) (hts _ x_laysS.2.2) hA
  obtain ⟨t2, hT2, hZ2⟩ := x_Tof (A := fun q => s.heap.size ≤ q) x_TABLE (by decide) (hs _ x_flatA.2.1) (hs _ x_flatA.2.2.2) (fun j hj => hs _ (x_flatT j hj)) (hts _ x_laysS.2.1) (hts _ x_laysS.2.2) hA
  have hT0 : va_T .int b L (fun i => .int (xs i)) (fun q => s.heap.size ≤ q) s s.heap := by
    obtain ⟨scr, g1, g2, g3, g4, g5⟩ := hX
    exact ⟨scr, g1, g2, g3, Nat.le_of_eq g4.symm, by rw [g4], g5, hA b hbl⟩
  obtain ⟨oa, hoa⟩ : ∃ oa : Nat → Nat, oa 0 = b ∧ oa 1 = t1 ∧ oa 2 = t2 := ⟨fun j => if j = 0 then b else if j = 1 then t1 else t2, rfl, rfl, rfl⟩
  have hG : x_glob (x_out L xs) s.heap.size oa s s.heap := by
    refine ⟨fun j n f hj => ?_, fun q hq => ?_, x_thr_of hs hts⟩
    · match j, hj with
      | 0, hj => cases hj; rw [hoa.1]; exact hT0
      | 1, hj => cases hj; rw [hoa.2.1]; exact hT1
      | 2, hj => cases hj; rw [hoa.2.2]; exact hT2
      | j + 3, hj => cases hj
    · simp only [x_stats, List.mem_cons, List.not_mem_nil, or_false] at hq
      rcases hq with e | e <;> subst e
      · dsimp only; rw [hoa.2.1]; exact hZ1
      · dsimp only; rw [hoa.2.2]; exact hZ2
  have hodd : x_odd s := by
    refine ⟨fun q hq => va_Nw.of rfl (hts _ (x_oddF_in q hq)), fun q hq => va_Nw.of rfl (hts _ (x_oddM_in q hq)), fun C hC => ?_⟩
    rcases x_et_two hC with e | e <;> subst e
    · exact va_AO.of (hts _ x_overs.1)
    · exact va_AO.of (hts _ x_overs.2)
  have hC : x_ctx (x_out L xs) (dC, dI) dA s.heap.size oa p s m #[Value.ref b] meth c 152 := ⟨hx, hb, hml, hr, hlocks, hown, hts', hodd, hK, hG, fun h => absurd h (by decide +kernel)⟩
  have hl := lv_entry ([.ref b]) (n := 7) (Nat.le_of_ble_eq_true rfl)
  rw [lg_entry_eq]
  generalize (lg_sl ([.ref b]) ++ List.replicate (7 - (lg_sl ([.ref b])).length) Slot.unset).toArray = ls at hl ⊢
  have hl : lv_has ls (x_mL 152) (x_vl s.heap.size oa [(0, .retAddr 0)]) := by
    show lv_has ls 7 [(0, .ref (oa 0))]
    rw [hoa.1]
    exact hl
  have hH : x_hold (dC, dI) vwCl dA s.heap.size oa (0, 0, fun _ => none) s.heap := by
    refine ⟨rfl, fun k q hk => ?_, fun k c h => by cases h⟩
    obtain ⟨k2, c2, g1, g2, g3⟩ := x_ws_mem.mp (List.mem_of_getElem? hk)
    cases g2
  refine x_sound l htr (x_out L xs) (dC, dI) dA s.heap.size oa n d 152 0 _ [] _ w' _ hrun p e room_1 s m _ below meth c (lw_Z below #[Value.ref b] s) s.heap [] 0 0 0 0 ls hC hH va_S.rf rfl rfl rfl hc1 hs1 (by show d ≤ 2048; omega) (by show 64 * d ≤ 84000; omega) hl (fun i pc1 ls1 st1 H1 locs1 cells1 slots1 a1 a2 a3 a4 a5 a6 => ?_)
  refine va_forget (fun q hq => a4.2.2 q hq) ?_
  refine W.widen (k := 601024) (n := 7293034) (by omega) (by omega) ?_
  unfold x_rets at a2
  split at a2
  · split at a2
    · rename_i he
      exact absurd he (by decide +kernel)
    · split at a2
      · cases a2
        exact lw_ret hx hb hr hlocks a1
      · cases a2
    · cases a2
  · split at a2
    · rename_i he
      exact absurd he (by decide +kernel)
    · cases a2
  · split at a2
    · rename_i he
      exact absurd (show x_ret 152 = some .boolean from rfl) (by rw [he]; exact fun h9 => by cases h9)
    · rename_i he
      exact absurd (show x_ret 152 = some .boolean from rfl) (by rw [he]; exact fun h9 => by cases h9)
    · rename_i he
      exact absurd (show x_ret 152 = some .boolean from rfl) (by rw [he]; exact fun h9 => by cases h9)
    · cases a2
  · split at a2
    · rename_i he
      exact absurd (show x_ret 152 = some .boolean from rfl) (by rw [he]; exact fun h9 => by cases h9)
    · cases a2
  · cases a2
