section TL
variable {l : Launch} {o : X_O} {D : va_G} {dA : FieldType → ClassId} {b : Nat} {oa : Nat → Nat}
set_option maxHeartbeats 4000000 in
theorem tb_lawI {k a n : Nat} {pp : Int32} {w : X_H} {fs : List Value} {f : Nat → Int64} {fT : Nat → Int32} (ho : o 2 = some (10, fT)) (ha : w.2.2 a = some (.inl (.long, n, .inr (.inl f)))) (hk : w.2.2 k = some (.inr (0, fs))) (hn : 1 ≤ n) (hp : x_in pp 10 = true) :
    Met l x_tabName tb_lw { frames := 11, cells := 0, slots := 0, locals := 700 } (x_pre o D dA b oa [.ref k, .int pp, .ref a] w) (x_post D dA b oa (x_set w a (.inl (.long, n, .inr (.inl (vp_updL f 0 (fT pp.toNatClampNeg).toInt64))))) (some (.int 0))) 0 0 (fun q => b ≤ q) := by
  refine va_MetW (cc := method_3_code) (maxL := 4) (ret := some .int) (hh := [(0, 9, 12, 13)]) (by decide +kernel) rfl ?_
  intro p e s m args below meth c s₁ B hml hv
  obtain ⟨rfl, hH, hodd, hK, hG⟩ := hv
  have hws := atoms_spec (ws := tb_lw) B.pre
  have hts : ∀ z ∈ x_tbl, z.before (([.ref k, .int pp, .ref a] : List Value).map (x_v b oa)).toArray s = true := fun z h9 => hws _ (List.mem_cons_of_mem _ h9)
  have ht : ∀ {z : Cond}, z ∈ lw_tbl → goodWord z = true → z.before (([.ref k, .int pp, .ref a] : List Value).map (x_v b oa)).toArray s = true := fun h9 g9 => hts _ (x_good h9 g9)
  have hx := B.exec
  have hb : c.code = method_3_code := B.bytes
  have hown : s.vm.findClass "StepRowsLaw" = some m.cls := findClass_of_methodNamed B.named
  have hl := lv_entry (([.ref k, .int pp, .ref a] : List Value).map (x_v b oa)) (n := 4) (Nat.le_of_ble_eq_true rfl)
  rw [lg_entry_eq]
  generalize (lg_sl (([.ref k, .int pp, .ref a] : List Value).map (x_v b oa)) ++ List.replicate (4 - (lg_sl (([.ref k, .int pp, .ref a] : List Value).map (x_v b oa))).length) Slot.unset).toArray = ls at hl ⊢
  have h0 : ls[0]? = some (.val (.ref (b + k))) := lv_at hl 0 rfl
  have h1 : ls[1]? = some (.val (.int pp)) := lv_at hl 1 rfl
  have h2 : ls[2]? = some (.val (.ref (b + a))) := lv_at hl 2 rfl
  refine lv_aload_n hx hb (pc := 0) tl_d0 rfl h2 ?_
  refine lv_iconst hx hb (pc := 0 + 1) (v := 0) tl_d1 rfl ?_
  refine lv_aload_n hx hb (pc := 2) tl_d2 rfl h0 ?_
  refine lv_iload_n hx hb (pc := 3) tl_d3 rfl h1 ?_
  obtain ⟨q0, hq0⟩ := x_hold_at hH hk
  have hrecv := va_recv hK hH.2.1 (show vwCl[0]? = some ("StepRows", xT_0, 9) from rfl) hq0
  have hfix : CallFix p m c method_3_code 4 s (([.ref k, .int pp, .ref a] : List Value).map (x_v b oa)).toArray x_tbl "StepRowsLaw" := ⟨hx, hb, hml, hown, hts⟩
  refine x_callW (D := D) (dA := dA) (b := b) (oa := oa) (mc := 0) (ms := 0) (w1 := w) (r := some (.int (fT pp.toNatClampNeg))) (pc := 4) (va_runV (y := tb_N) (bytes := prog_1_method_16_code) (maxL := 2) (ret := some .int) (As := [.int pp]) (rest := [.int 0, .ref (b + a)]) (b := b + k) (C := "StepRows") hfix (tb_met1 (o := o) (D := D) (dA := dA) (b := b) (oa := oa) (k := k) (w := w) ho hp) ⟨callB_of 1 hts tb_goodIn rfl rfl rfl (ht tb_in2.2.2.2.2.1 rfl) (ht tb_in2.2.1 rfl) ⟨by decide, by decide, by decide +kernel⟩ ⟨by show 8 + 1 ≤ 11; omega, by show 8 + (2 + 11) + 512 ≤ 700; omega⟩, ht tb_in2.2.2.1 rfl, ht tb_in2.2.2.2.1 rfl⟩ ⟨x_blind, hrecv, fun U hU hW => ⟨rfl, by rw [hU]; exact hH, x_odd_warm hW hodd, va_K.moved hW.alike hK, by rw [hU]; exact x_glob_warm hW hG⟩⟩ rfl rfl hl.1 rfl (by show 2 * 0 + (1 + (1 + 0)) ≤ 8; omega) tl_d4 ⟨Nat.le_refl _, Nat.le_refl _⟩) va_S.rf (by rw [hH.1]; exact Nat.le_refl _) (fun H1 locs1 a1 a2 => ?_)
  refine lv_i2l hx hb (pc := 7) tl_d7 rfl ?_
  obtain ⟨q, hq⟩ := x_hold_at a1 ha
  obtain ⟨t0, ht0⟩ := x_tys_at (dA := dA) (t := .long) (by decide)
  have kk := x_wrote (n0 := w.1) (x' := .inl (.long, n, .inr (.inl (vp_updL f 0 (fT pp.toNatClampNeg).toInt64)))) (p := p) (l := l) (e := e) (R := (headSpec tb_lw { frames := 11, cells := 0, slots := 0, locals := 700 }).room) (s := s) (m := m) (args := (([.ref k, .int pp, .ref a] : List Value).map (x_v b oa)).toArray) (below := below) (meth := meth) (c := c) (slots := 0 + 0) (cells := 0 + 0) (Q := MQ below (x_post D dA b oa (x_set w a (.inl (.long, n, .inr (.inl (vp_updL f 0 (fT pp.toNatClampNeg).toInt64))))) (some (.int 0))) (([.ref k, .int pp, .ref a] : List Value).map (x_v b oa)).toArray s 0 0 (fun q => b ≤ q)) (g := F0 m (8 + 1) ls []) a1 a2 hH.1 (Nat.zero_add _) ha hq (fun H2 locs2 g1 g2 => by
    refine lv_goto hx hb (pc := 9) (tgt := 15) tl_d9 rfl ?_
    refine lv_iconst hx hb (pc := 15) (v := 0) tl_d15 rfl ?_
    refine W.iret hx hb B.returns (fun t9 ht9 _ => ⟨rfl, by rw [ht9]; exact g1, fun q9 hq9 => by rw [ht9]; exact g2.2.1 q9 (Nat.lt_of_lt_of_le hq9 (by rw [hH.1]; exact Nat.le_add_right _ _)) (Nat.not_le.mpr hq9)⟩) g2.2.2 (pc := 16) tl_d16 B.notSynchronized)
  refine va_last hx hb hK a1.2.1 x_ws_D (x_S_here a2) q t0 hq ht0 (i := 0) (pc := 8) (x_in_vp (decide_eq_true (fun h9 => ?_))) tl_d8 (fun H2 locs2 hP1 _ hS1 => kk H2 locs2 hP1 hS1)
  rcases h9 with h9 | h9
  · exact absurd h9 (by decide)
  · have : (0 : Int32).toNatClampNeg = 0 := rfl
    omega
set_option maxHeartbeats 4000000 in
theorem tb_lawO (htr : l.stackTraces = false) {k a : Nat} {pp : Int32} {w : X_H} {fs : List Value} {fT : Nat → Int32} (ho : o 2 = some (10, fT)) (hk : w.2.2 k = some (.inr (0, fs))) (hp : ¬ x_in pp 10 = true) :
    Met l x_tabName tb_lw { frames := 11, cells := 1, slots := 6, locals := 700 } (x_pre o D dA b oa [.ref k, .int pp, .ref a] w) (x_post D dA b oa (w.1 + 1, w.2.1 + 6, w.2.2) (some (.int 1))) 1 6 (fun q => b ≤ q) := by
  refine va_MetW (cc := method_3_code) (maxL := 4) (ret := some .int) (hh := [(0, 9, 12, 13)]) (by decide +kernel) rfl ?_
  intro p e s m args below meth c s₁ B hml hv
  obtain ⟨rfl, hH, hodd, hK, hG⟩ := hv
  have hws := atoms_spec (ws := tb_lw) B.pre
  have hts : ∀ z ∈ x_tbl, z.before (([.ref k, .int pp, .ref a] : List Value).map (x_v b oa)).toArray s = true := fun z h9 => hws _ (List.mem_cons_of_mem _ h9)
  have ht : ∀ {z : Cond}, z ∈ lw_tbl → goodWord z = true → z.before (([.ref k, .int pp, .ref a] : List Value).map (x_v b oa)).toArray s = true := fun h9 g9 => hts _ (x_good h9 g9)
  have hx := B.exec
  have hb : c.code = method_3_code := B.bytes
  have hown : s.vm.findClass "StepRowsLaw" = some m.cls := findClass_of_methodNamed B.named
  have htab : c.exceptionTable.toList = [⟨0, 9, 12, 13⟩] := by
    obtain ⟨m9, meth9, c9, g1, g2, g3, -, -, g4, -⟩ := Cond.codeWith_spec (hws _ List.mem_cons_self)
    cases B.named.symm.trans g1
    cases B.method.symm.trans g2
    cases (Stand.of_body B).code.symm.trans g3
    exact tb_tab g4
  have hl := lv_entry (([.ref k, .int pp, .ref a] : List Value).map (x_v b oa)) (n := 4) (Nat.le_of_ble_eq_true rfl)
  rw [lg_entry_eq]
  generalize (lg_sl (([.ref k, .int pp, .ref a] : List Value).map (x_v b oa)) ++ List.replicate (4 - (lg_sl (([.ref k, .int pp, .ref a] : List Value).map (x_v b oa))).length) Slot.unset).toArray = ls at hl ⊢
  have h0 : ls[0]? = some (.val (.ref (b + k))) := lv_at hl 0 rfl
  have h1 : ls[1]? = some (.val (.int pp)) := lv_at hl 1 rfl
  have h2 : ls[2]? = some (.val (.ref (b + a))) := lv_at hl 2 rfl
  refine lv_aload_n hx hb (pc := 0) tl_d0 rfl h2 ?_
  refine lv_iconst hx hb (pc := 0 + 1) (v := 0) tl_d1 rfl ?_
  refine lv_aload_n hx hb (pc := 2) tl_d2 rfl h0 ?_
  refine lv_iload_n hx hb (pc := 3) tl_d3 rfl h1 ?_
  obtain ⟨q0, hq0⟩ := x_hold_at hH hk
  obtain ⟨cellB, hcB, hoB, hclB⟩ := va_recv hK hH.2.1 (show vwCl[0]? = some ("StepRows", xT_0, 9) from rfl) hq0
  intro T hT X
  obtain ⟨mk, methM, hnamed, hmethM, hstM, habM⟩ := Cond.instanceMethod_spec (ht tb_in2.2.2.1 rfl)
  obtain ⟨methM', cM, hmethM', -, -, -, -, -, -, hsigM⟩ := Cond.code_spec hnamed (ht tb_in.1 rfl)
  cases hmethM.symm.trans hmethM'
  obtain ⟨c2, r2, m2, q1, q2, q3, q4, kP, hkP, hkPi⟩ := Cond.selects_spec (ht tb_in2.2.2.2.1 rfl)
  cases hclB.symm.trans q1
  have hy : tb_N.cls ≠ "java/lang/invoke/MethodHandle" ∧ tb_N.cls ≠ "java/lang/invoke/VarHandle" := ⟨by decide, by decide⟩
  cases (State.methodFound?_of_named hnamed hy).symm.trans q2
  cases hnamed.symm.trans q3
  have hselP : selectMethod e.platform s.vm cellB.cls mk = .method mk := by rw [Launch.admits_selectMethod X.admits]; exact q4
  obtain ⟨vm₁, X₁, hstep₁⟩ := X.invokevirtual hx hown (ht tb_in2.2.1 rfl) hnamed hmethM hstM hkP hkPi hy (a := b + k) (cell := cellB) (by rw [hT]; exact hcB)
    (fun z h => by rw [h] at hoB; cases hoB) hselP hmethM habM hkP hkPi (g := F0 m 4 ls [.int pp, .ref (b + k), .int 0, .ref (b + a)]) rfl (argsL := [.int pp]) (rest := [.int 0, .ref (b + a)]) (by
      have h8 : (parseMethodDescriptor tb_N.desc).map (fun d => d.parameters.length) = some 1 := by decide +kernel
      rw [hsigM] at h8
      exact (Option.some.inj h8).symm) rfl (by rw [hb]; exact tl_d4)
  have hW₁ := X₁.warmed
  obtain ⟨v, U', X', hsz, hkeep, ⟨ce, hce, hos, hcls⟩, st⟩ := tb_thrown (tb_met3 (o := o) (D := D) (dA := dA) (b := b) (oa := oa) htr (k := k) (w := w) ho hp) x_blind X₁ (by show 9 ≤ 11; omega) (by show 8 + (2 + 11) + 512 ≤ 700; omega) (a := (Value.ref (b + k) :: [.int pp]).toArray)
    (fun w9 h9 => pay_in hts tb_goodIn w9 h9 _ _ hW₁) (word_at hW₁ (Or.inl rfl) (ht tb_in2.2.2.2.2.1 rfl)) (Nat.le_refl _) (Nat.le_refl _) (g := F0 m 4 ls [.int 0, .ref (b + a)]) rfl (by rw [hml]; exact hl.1) (by rw [hb]; exact tl_d4) (by show 2 * 0 + (1 + (1 + 0)) ≤ 8; omega) (X₁.named hnamed)
    ⟨rfl, by show x_hold D vwCl dA b oa w T.heap; rw [hT]; exact hH, x_odd_warm hW₁ hodd, va_K.moved hW₁.alike hK, by show x_glob o b oa (T.setVm vm₁) T.heap; rw [hT]; exact x_glob_warm hW₁ hG⟩
  have hsz' : U'.heap.size = s.heap.size + 1 := by rw [hsz]; show T.heap.size + 1 = _; rw [hT]
  have hkeep' : ∀ q : Nat, q < s.heap.size → U'.heap[q]? = s.heap[q]? := fun q hq => by
    rw [hkeep q (by show q < T.heap.size; rw [hT]; exact hq)]
    show T.heap[q]? = _
    rw [hT]
  have hcls' : s.vm.findClass tb_X = some ce.cls := by rw [← hW₁.alike.findClass]; exact hcls
  obtain ⟨c3, cT, hc3, hcT, hasg⟩ := Cond.castable_spec ((hG.2.2.2.2.2.1).use (A := #[]) rfl)
  cases hcls'.symm.trans hc3
  obtain ⟨vm', XV, stV⟩ := tb_caught X' hown htab (g := F0 m 4 ls [.int 0, .ref (b + a)]) rfl rfl (ht tb_in.2.2.1 rfl) hcT hce hos hasg
  have KH : W p l e (headSpec tb_lw { frames := 11, cells := 1, slots := 6, locals := 700 }).room s m (([.ref k, .int pp, .ref a] : List Value).map (x_v b oa)).toArray below meth c U'.heap [] (0 + 1) (0 + 6) (MQ below (x_post D dA b oa (w.1 + 1, w.2.1 + 6, w.2.2) (some (.int 1))) (([.ref k, .int pp, .ref a] : List Value).map (x_v b oa)).toArray s 1 6 (fun q => b ≤ q)) (F0 m 12 ls [.ref v]) := by
    refine lv_astore_n hx hb (pc := 12) (i := 3) tl_d12 rfl hl (by omega) rfl (fun ls' hl' => ?_)
    refine lv_iconst hx hb (pc := 13) (v := 1) tl_d13 rfl ?_
    refine W.iret hx hb B.returns (fun t9 ht9 _ => ⟨rfl, by rw [ht9]; exact x_hold_junk hH hsz' hkeep', fun q9 hq9 => by rw [ht9]; exact hkeep' q9 (Nat.lt_of_lt_of_le hq9 (by rw [hH.1]; exact Nat.le_add_right _ _))⟩) (fun q hq => by cases hq) (pc := 14) tl_d14 B.notSynchronized
  obtain ⟨t2, a1, b1⟩ := KH (U'.setVm vm') rfl XV
  exact ⟨t2, hstep₁ _ fun acts => by rw [doInvoke_state]; exact st.trans (stV t2 a1), b1⟩
end TL
section TS
variable {l : Launch} {o : X_O} {D : va_G} {dA : FieldType → ClassId} {b : Nat} {oa : Nat → Nat} {p : Program} {e : Env} {R : Room} {s : State} {m : MethodId} {args : Array Value} {below : List Frame} {meth : Method} {c : Code} {H : Heap} {locs : List Loc} {cells slots : Nat} {Q : State → Prop} {pc : Nat} {ls : Array Slot} {w w' : X_H} {mi n0 s0 : Nat} {st st' : List Value}
theorem tb_runSW {rm : Room} {Pc : Array Value → State → Prop} {Qc : Array Value → State → Outcome → State → Prop} {mc ms nL index : Nat} {cc : ByteArray} {free : Addr → Prop} {own : String} {As rest : List Value} {g : JFrame} (S : CallFix p m c cc nL s args x_tbl own) (hM : Met l x_tabName tb_lw rm Pc Qc mc ms free) (hrc : rm.cells = mc) (hrs : rm.slots = ms) (hfr : rm.frames + 1 ≤ R.frames) (hlo : 8 + (4 + 11) + rm.locals ≤ R.locals) (hlink : (Cond.methodLink own index x_tabName).before args s = true) (hp : PreS s H Pc As)
    (hg : g.method = m) (hn : As.length = 3) (hsize : g.locals.size = nL) (hstack : g.stack = As.reverse ++ rest) (hW : 2 * g.monitorRoom + (rest.map fun v => v.category).sum ≤ 8) (hdg : decode cc g.pc = .ok (.invokestatic index, 3)) (hf : cells + mc ≤ R.cells ∧ slots + ms ≤ R.slots) :
    va_Run p l e R s m args below meth c H locs cells slots mc ms g rest (Qc As.toArray) free := by
  obtain ⟨hx, hb, hml, ho, hts⟩ := S
  have ht : ∀ {z : Cond}, z ∈ lw_tbl → goodWord z = true → z.before args s = true := fun h9 g9 => hts _ (x_good h9 g9)
  have hK : Back l R p e below s args x_tabName 3 8 (PreOf R mc ms Pc) (PostOf Qc mc ms free) := va_backW (hh := [(0, 9, 12, 13)]) (bytes := method_3_code) (maxL := 4) (ret := some .int) hM hp.1 hrc hrs hfr hlo (pay_in hts tb_goodInL) List.mem_cons_self (fun a' U hW => word_at hW (Or.inl rfl) (ht tb_in2.2.2.2.2.2.1 rfl))
  intro T hT X
  obtain ⟨v, vm₁, ⟨U', l2, c2, s2⟩, hW₁, X', ⟨g', mk, t, L, e1, e2, hq, h1, hL, h2, h3⟩, st⟩ := tb_callSW X hx (hh := [(0, 9, 12, 13)]) (bytes := method_3_code) (maxL := 4) (ret := some .int) ho hlink (ht tb_in2.2.2.2.2.2.2.1 rfl) (ht tb_in2.2.2.2.2.2.1 rfl) (ht tb_in.2.1 rfl) ⟨by decide, by decide⟩ hK hg (hsize.trans hml.symm) (argsL := As) (rest := rest) (fun sig h9 => by
      have h8 : (parseMethodDescriptor x_tabName.desc).map (fun d => d.parameters.length) = some 3 := by decide +kernel
      rw [h9] at h8
      exact hn.trans (Option.some.inj h8).symm) hstack hW (by rw [hb]; exact hdg)
    (fun vm₁ hW₁ => ⟨hf.1, hf.2, hp.2 (T.setVm vm₁) hT hW₁⟩)
  dsimp only [Pt.U, Pt.locs, Pt.cells, Pt.slots] at X' e1 e2 h1 h2 h3 st
  subst h1; subst h2; subst h3
  exact ⟨v, (T.setVm vm₁).calling g' mk As.toArray, t, U', L, hT, X', hL, e1, e2, hq, st⟩
set_option maxHeartbeats 4000000 in
theorem x_tab_ok (htr : l.stackTraces = false) (hC : x_ctx o D dA b oa p s m args meth c mi) {idx : Nat} (hlink : x_cno mi = 8 ∧ Cond.methodLink (x_cname mi) idx x_tabName ∈ lw_tbl) (h : x_tab o st w = some (st', w')) (hd : decode (x_bytes mi) pc = .ok (.invokestatic idx, 3)) (hls : ls.size = x_mL mi) (hH : x_hold D vwCl dA b oa w H) (hS : va_S (fun q => b ≤ q) s.heap H locs) (hsz : s.heap.size = b + n0) (hc : cells + n0 = w.1) (hs : slots + s0 = w.2.1) (hrc : cells + (w'.1 - w.1) ≤ R.cells) (hrs : slots + (w'.2.1 - w.2.1) ≤ R.slots) (hsum : (st'.map fun v => v.category).sum ≤ 8) (hfr : 12 ≤ R.frames) (hlo : 768 ≤ R.locals)
    (k : ∀ (H1 : Heap) (locs1 : List Loc) (cells1 slots1 : Nat), x_hold D vwCl dA b oa w' H1 → va_S (fun q => b ≤ q) s.heap H1 locs1 → cells1 + n0 = w'.1 → slots1 + s0 = w'.2.1 → W p l e R s m args below meth c H1 locs1 cells1 slots1 Q (F0 m (pc + 3) ls (st'.map (x_v b oa)))) : W p l e R s m args below meth c H locs cells slots Q (F0 m pc ls (st.map (x_v b oa))) := by
  obtain ⟨hx, hb, hml, hr, hlocks, hown, hts, hodd, hK, hG, hnm⟩ := id hC
  have ht : ∀ {z : Cond}, z ∈ lw_tbl → goodWord z = true → z.before args s = true := fun h9 g9 => hts _ (x_good h9 g9)
  have hfix : CallFix p m c (x_bytes mi) (x_mL mi) s args x_tbl (x_cname mi) := ⟨hx, hb, hml, hown, hts⟩
  unfold x_tab at h
  split at h
  · rename_i a pp k0 t
    split at h
    · rename_i n f fs nT fT ha hk ho
      split at h
      · rename_i hn
        obtain ⟨hn, rfl⟩ := hn
        split at h
        · rename_i hp
          cases h
          have hsum : (t.map fun v => v.category).sum ≤ 8 := by
            have h9 : 1 + (t.map fun v => v.category).sum ≤ 8 := hsum
            omega
          have hrm : cells + 0 ≤ R.cells ∧ slots + 0 ≤ R.slots := ⟨Nat.le_trans (Nat.le_add_right _ _) hrc, Nat.le_trans (Nat.le_add_right _ _) hrs⟩
          refine x_callW (D := D) (dA := dA) (b := b) (oa := oa) (mc := 0) (ms := 0) (r := some (.int 0)) (tb_runSW (As := ([.ref k0, .int pp, .ref a] : List Value).map (x_v b oa)) (rest := t.map (x_v b oa)) hfix (tb_lawI (o := o) (D := D) (dA := dA) (b := b) (oa := oa) ho ha hk hn hp) rfl rfl (by show 11 + 1 ≤ _; omega) (by show 8 + (4 + 11) + 700 ≤ _; omega) (ht hlink.2 rfl) ⟨x_blind, fun U hU hW => x_pre_at (as := [.ref k0, .int pp, .ref a]) hC hH hS U hU hW⟩ rfl rfl hls rfl (lv_room (by rw [x_catsum]; exact hsum)) hd hrm) hS (by show s.heap.size ≤ b + w.1; omega) (fun H1 locs1 a1 a2 => k H1 locs1 _ _ a1 a2 (by show cells + 0 + n0 = w.1; omega) (by show slots + 0 + s0 = w.2.1; omega))
        · rename_i hp
          cases h
          have hsum : (t.map fun v => v.category).sum ≤ 8 := by
            have h9 : 1 + (t.map fun v => v.category).sum ≤ 8 := hsum
            omega
          have hrm : cells + 1 ≤ R.cells ∧ slots + 6 ≤ R.slots := by
            have g1 : cells + (w.1 + 1 - w.1) ≤ R.cells := hrc
            have g2 : slots + (w.2.1 + 6 - w.2.1) ≤ R.slots := hrs
            constructor <;> omega
          refine x_callW (D := D) (dA := dA) (b := b) (oa := oa) (mc := 1) (ms := 6) (w1 := (w.1 + 1, w.2.1 + 6, w.2.2)) (r := some (.int 1)) (tb_runSW (As := ([.ref k0, .int pp, .ref a] : List Value).map (x_v b oa)) (rest := t.map (x_v b oa)) hfix (tb_lawO (o := o) (D := D) (dA := dA) (b := b) (oa := oa) htr ho hk hp) rfl rfl (by show 11 + 1 ≤ _; omega) (by show 8 + (4 + 11) + 700 ≤ _; omega) (ht hlink.2 rfl) ⟨x_blind, fun U hU hW => x_pre_at (as := [.ref k0, .int pp, .ref a]) hC hH hS U hU hW⟩ rfl rfl hls rfl (lv_room (by rw [x_catsum]; exact hsum)) hd hrm) hS (by show s.heap.size ≤ b + (w.1 + 1); omega) (fun H1 locs1 a1 a2 => k H1 locs1 _ _ a1 a2 (by show cells + 1 + n0 = w.1 + 1; omega) (by show slots + 6 + s0 = w.2.1 + 6; omega))
      · cases h
    · cases h
  · cases h
end TS
