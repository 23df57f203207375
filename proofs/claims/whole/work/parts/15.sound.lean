/-! THE ABSTRACT MACHINE IS RIGHT: what x_run says, the machine does -/
theorem x_heap_mono {o : X_O} {mi : Nat} {i : Instr} {st st' : List Value} {w w' : X_H} (h : x_heap o mi i st w = some (st', w')) : w.1 ≤ w'.1 ∧ w.2.1 ≤ w'.2.1 := by
  unfold x_heap at h
  repeat' (split at h)
  all_goals first
    | (cases h; done)
    | (cases h; exact ⟨Nat.le_refl _, Nat.le_refl _⟩)
    | (cases h; exact ⟨Nat.le_succ _, Nat.le_add_right _ _⟩)
theorem x_acopy_mono {st st' : List Value} {w w' : X_H} (h : x_acopy st w = some (st', w')) : w.1 ≤ w'.1 ∧ w.2.1 ≤ w'.2.1 := by
  unfold x_acopy at h
  repeat' (split at h)
  all_goals first
    | (cases h; done)
    | (cases h; exact ⟨Nat.le_refl _, Nat.le_refl _⟩)
theorem x_tab_mono {o : X_O} {st st' : List Value} {w w' : X_H} (h : x_tab o st w = some (st', w')) : w.1 ≤ w'.1 ∧ w.2.1 ≤ w'.2.1 := by
  unfold x_tab at h
  repeat' (split at h)
  all_goals first
    | (cases h; done)
    | (cases h; exact ⟨Nat.le_refl _, Nat.le_refl _⟩)
    | (cases h; exact ⟨Nat.le_add_right _ _, Nat.le_add_right _ _⟩)
theorem x_run_mono (o : X_O) : ∀ (n d mi pc : Nat) (lv : X_L) (st : List Value) (w w' : X_H) (r : Option Value), x_run o n d mi pc lv st w = some (w', r) → w.1 ≤ w'.1 ∧ w.2.1 ≤ w'.2.1 := by
  intro n
  induction n with
  | zero => intro d mi pc lv st w w' r h; simp [x_run] at h
  | succ n ih =>
    intro d mi pc lv st w w' r h
    unfold x_run x_G at h
    split at h
    · cases h
    split at h
    · exact ih _ _ _ _ _ _ _ _ h
    split at h
    · exact ih _ _ _ _ _ _ _ _ h
    split at h
    · rename_i hh
      have a := x_heap_mono hh
      have c := ih _ _ _ _ _ _ _ _ h
      exact ⟨Nat.le_trans a.1 c.1, Nat.le_trans a.2 c.2⟩
    split at h
    · split at h
      · exact ih _ _ _ _ _ _ _ _ h
      · exact ih _ _ _ _ _ _ _ _ h
    split at h
    · exact ih _ _ _ _ _ _ _ _ h
    split at h
    · cases h
      exact ⟨Nat.le_refl _, Nat.le_refl _⟩
    split at h
    · cases h
    split at h
    · cases h
    split at h
    · cases h
    split at h
    · split at h
      · split at h
        · exact ih _ _ _ _ _ _ _ _ h
        · cases h
      · cases h
    split at h
    · split at h
      · rename_i hh
        split at h
        · have a := x_acopy_mono hh
          have c := ih _ _ _ _ _ _ _ _ h
          exact ⟨Nat.le_trans a.1 c.1, Nat.le_trans a.2 c.2⟩
        · cases h
      · cases h
    split at h
    · split at h
      · split at h
        · exact ih _ _ _ _ _ _ _ _ h
        · cases h
      · cases h
    split at h
    · split at h
      · rename_i hh
        split at h
        · have a := x_tab_mono hh
          have c := ih _ _ _ _ _ _ _ _ h
          exact ⟨Nat.le_trans a.1 c.1, Nat.le_trans a.2 c.2⟩
        · cases h
      · cases h
    split at h
    · split at h
      · split at h
        · rename_i hh
          have a := ih _ _ _ _ _ _ _ _ hh
          have c := ih _ _ _ _ _ _ _ _ h
          exact ⟨Nat.le_trans a.1 c.1, Nat.le_trans a.2 c.2⟩
        · cases h
      · cases h
    · cases h
def x_wds (y : Nat) : List Cond := Cond.code (x_nm y) (x_bytes y) (x_mL y) (x_ret y) :: x_tbl
def x_pre (o : X_O) (D : va_G) (dA : FieldType → ClassId) (b : Nat) (oa : Nat → Nat) (as : List Value) (w : X_H) : Array Value → State → Prop := fun v U => v = (as.map (x_v b oa)).toArray ∧ x_hold D vwCl dA b oa w U.heap ∧ x_odd U ∧ va_K D vwCl (x_tys dA) U ∧ x_glob o b oa U U.heap
def x_post (D : va_G) (dA : FieldType → ClassId) (b : Nat) (oa : Nat → Nat) (w' : X_H) (r : Option Value) : Array Value → State → Outcome → State → Prop := fun _ st oc t => oc = .returned (r.map (x_v b oa)) ∧ x_hold D vwCl dA b oa w' t.heap ∧ ∀ q : Nat, q < b → t.heap[q]? = st.heap[q]?
theorem x_glob_warm {o : X_O} {b : Nat} {oa : Nat → Nat} {u U : State} {H : Heap} (hW : u.WarmedH U.vm) (h : x_glob o b oa u H) : x_glob o b oa U H := ⟨fun j n f hj => (h.1 j n f hj).moved hW.alike, fun q hq => (h.2.1 q hq).moved hW.alike, by obtain ⟨q, hq⟩ := h.2.2.1; exact ⟨q, hq.warm hW⟩, h.2.2.2.1.moved hW.alike, h.2.2.2.2.1.moved hW.alike, h.2.2.2.2.2.warm hW⟩
theorem x_glob_same {o : X_O} {b : Nat} {oa : Nat → Nat} {u U : State} {H : Heap} (hv : U.vm = u.vm) (h : x_glob o b oa u H) : x_glob o b oa U H := by
  have hA : u.vm.Alike U.vm := by rw [hv]; exact Vm.Alike.refl _
  exact ⟨fun j n f hj => (h.1 j n f hj).moved hA, fun q hq => (h.2.1 q hq).moved hA, by obtain ⟨q, hq⟩ := h.2.2.1; exact ⟨q, hq.same hv⟩, h.2.2.2.1.moved hA, h.2.2.2.2.1.moved hA, h.2.2.2.2.2.same hv.symm⟩
theorem x_glob_kept {o : X_O} {b : Nat} {oa : Nat → Nat} {U : State} {H H1 : Heap} (h : x_glob o b oa U H) (hq : ∀ a : Nat, a < H.size → ¬ b ≤ a → H1[a]? = H[a]?) : x_glob o b oa U H1 := ⟨fun j n f hj => (h.1 j n f hj).kept hq, fun q h9 => (h.2.1 q h9).kept hq, h.2.2.1, h.2.2.2.1.kept hq, h.2.2.2.2.1.kept hq, h.2.2.2.2.2⟩
theorem x_sw_alu {i : Instr} {st st' : List Value} (h : x_alu i st = some st') : x_sw i = false := by
  cases hs : x_sw i with
  | false => rfl
  | true =>
    unfold x_sw at hs
    split at hs
    · cases h
    · cases h
    · cases hs
theorem x_sw_loc {i : Instr} {lv lv' : X_L} {st st' : List Value} (h : x_loc i lv st = some (lv', st')) : x_sw i = false := by
  cases hs : x_sw i with
  | false => rfl
  | true =>
    unfold x_sw at hs
    split at hs
    · cases h
    · cases h
    · cases hs
theorem x_sw_heap {o : X_O} {mi : Nat} {i : Instr} {st st' : List Value} {w w' : X_H} (h : x_heap o mi i st w = some (st', w')) : x_sw i = false := by
  cases hs : x_sw i with
  | false => rfl
  | true =>
    unfold x_sw at hs
    split at hs
    · cases h
    · cases h
    · cases hs
theorem x_sw_brc {i : Instr} {st : List Value} {q : Bool × Int × List Value} (h : x_brc i st = some q) : x_sw i = false := by
  cases hs : x_sw i with
  | false => rfl
  | true =>
    unfold x_sw at hs
    split at hs
    · cases h
    · cases h
    · cases hs
theorem x_sw_rets {i : Instr} {rt : Option FieldType} {st : List Value} {r : Option Value} (h : x_rets i rt st = some r) : x_sw i = false := by
  cases hs : x_sw i with
  | false => rfl
  | true =>
    unfold x_sw at hs
    split at hs
    · cases h
    · cases h
    · cases hs
theorem x_sw_inv {i : Instr} {q : Nat × Nat} (h : x_inv i = some q) : x_sw i = false := by
  cases hs : x_sw i with
  | false => rfl
  | true =>
    unfold x_sw at hs
    split at hs
    · cases h
    · cases h
    · cases hs
section XR
variable {l : Launch} {o : X_O} {D : va_G} {dA : FieldType → ClassId} {b : Nat} {oa : Nat → Nat} {p : Program} {e : Env} {R : Room} {s : State} {m : MethodId} {args : Array Value} {below : List Frame} {meth : Method} {c : Code} {H : Heap} {locs : List Loc} {cells slots : Nat} {pc : Nat} {ls : Array Slot} {w : X_H} {mi : Nat} {i : Instr} {st : List Value} {r : Option Value}
set_option maxHeartbeats 4000000 in
theorem x_rets_ok (hC : x_ctx o D dA b oa p s m args meth c mi) (h : x_rets i (x_ret mi) st = some r) (hd : decode (x_bytes mi) pc = .ok (i, x_len i)) (hH : x_hold D vwCl dA b oa w H) (hS : va_S (fun q => b ≤ q) s.heap H locs) (hbs : b ≤ s.heap.size) :
    W p l e R s m args below meth c H locs cells slots (MQ below (x_post D dA b oa w r) args s cells slots (fun q => b ≤ q)) (F0 m pc ls (st.map (x_v b oa))) := by
  obtain ⟨hx, hb, hml, hrt, hlocks, hown, hts, hodd, hK, hG, hnm⟩ := hC
  have hq : ∀ (t : State), t.heap = H → x_post D dA b oa w r args s (.returned (r.map (x_v b oa))) t := by
    intro t ht
    refine ⟨rfl, by rw [ht]; exact hH, fun q hq => ?_⟩
    rw [ht]
    exact hS.2.1 q (Nat.lt_of_lt_of_le hq hbs) (Nat.not_le.mpr hq)
  unfold x_rets at h
  split at h
  · split at h
    · rename_i he
      cases h
      exact W.iret hx hb (hrt.trans he) (fun t ht _ => hq t ht) hS.2.2 hd hlocks
    · rename_i he
      split at h
      · rename_i hv
        cases h
        refine W.zret hx hb (hrt.trans he) ?_ (fun t ht _ => hq t ht) hS.2.2 hd hlocks
        rcases hv with hv | hv <;> subst hv <;> rfl
      · cases h
    · cases h
  · split at h
    · rename_i he
      cases h
      exact W.lret hx hb (hrt.trans he) (fun t ht _ => hq t ht) hS.2.2 hd hlocks
    · cases h
  · split at h
    · rename_i he
      cases h
      exact W.aret hx hb (hrt.trans he) (Or.inl ⟨_, rfl⟩) (Or.inr ⟨_, rfl⟩) (fun t ht _ => hq t ht) hS.2.2 hd hlocks
    · rename_i he
      cases h
      exact W.aret hx hb (hrt.trans he) (Or.inr ⟨_, rfl⟩) (Or.inr ⟨_, rfl⟩) (fun t ht _ => hq t ht) hS.2.2 hd hlocks
    · rename_i he
      cases h
      exact W.aret hx hb (hrt.trans he) (Or.inl ⟨_, rfl⟩) (Or.inl rfl) (fun t ht _ => hq t ht) hS.2.2 hd hlocks
    · cases h
  · split at h
    · rename_i he
      cases h
      exact W.vret hx hb (hrt.trans he) (fun t ht _ => hq t ht) hS.2.2 hd hlocks
    · cases h
  · cases h
end XR
/-- the soundness of n steps: what the machine does from here on is what it does from the return on -/
def x_S (l : Launch) (o : X_O) (D : va_G) (dA : FieldType → ClassId) (b : Nat) (oa : Nat → Nat) (n : Nat) : Prop := ∀ (d mi pc : Nat) (lv : X_L) (st : List Value) (w w' : X_H) (r : Option Value), x_run o n d mi pc lv st w = some (w', r) →
  ∀ (p : Program) (e : Env) (R : Room) (s : State) (m : MethodId) (args : Array Value) (below : List Frame) (meth : Method) (c : Code) (Q : State → Prop) (H : Heap) (locs : List Loc) (cells slots n0 s0 : Nat) (ls : Array Slot), x_ctx o D dA b oa p s m args meth c mi → x_hold D vwCl dA b oa w H → va_S (fun q => b ≤ q) s.heap H locs → s.heap.size = b + n0 → cells + n0 = w.1 → slots + s0 = w.2.1 → w'.1 ≤ R.cells + n0 → w'.2.1 ≤ R.slots + s0 → d ≤ R.frames → 64 * d ≤ R.locals → lv_has ls (x_mL mi) (x_vl b oa lv) →
  (∀ (i : Instr) (pc1 : Nat) (ls1 : Array Slot) (st1 : List Value) (H1 : Heap) (locs1 : List Loc) (cells1 slots1 : Nat), decode (x_bytes mi) pc1 = .ok (i, x_len i) → x_rets i (x_ret mi) st1 = some r → x_hold D vwCl dA b oa w' H1 → va_S (fun q => b ≤ q) s.heap H1 locs1 → cells1 + n0 = w'.1 → slots1 + s0 = w'.2.1 → W p l e R s m args below meth c H1 locs1 cells1 slots1 Q (F0 m pc1 ls1 (st1.map (x_v b oa)))) →
  W p l e R s m args below meth c H locs cells slots Q (F0 m pc ls (st.map (x_v b oa)))
theorem x_words (as : List Value) : (lg_sl as).length = (as.map fun v => v.category).sum := by
  unfold lg_sl
  induction as with
  | nil => rfl
  | cons v t ih =>
    rw [List.flatMap_cons, List.length_append, ih, List.map_cons, List.sum_cons]
    rcases lv_cat v with h | h <;> simp [h]
section XM
variable {l : Launch} {o : X_O} {D : va_G} {dA : FieldType → ClassId} {b : Nat} {oa : Nat → Nat}
set_option maxHeartbeats 4000000 in
/-- a method's contract out of its run -/
theorem x_met {n : Nat} (hn : x_S l o D dA b oa n) {d y : Nat} {as : List Value} {w w' : X_H} {r : Option Value} (h : x_run o n d y 0 (lv_args 0 as) [] w = some (w', r)) (hw : (as.map fun v => v.category).sum ≤ x_mL y) (hy : plainName (x_nm y).cls = true) (hyc : (x_nm y).cls = x_cname y) :
    Met l (x_nm y) (x_wds y) { frames := d, cells := w'.1 - w.1, slots := w'.2.1 - w.2.1, locals := 64 * d } (x_pre o D dA b oa as w) (x_post D dA b oa w' r) (w'.1 - w.1) (w'.2.1 - w.2.1) (fun q => b ≤ q) := by
  have hm := x_run_mono o _ _ _ _ _ _ _ _ _ h
  refine Met.ofW (cc := x_bytes y) (maxL := x_mL y) (ret := x_ret y) hy rfl ?_
  intro p e s m args below meth c s₁ B hml hv
  obtain ⟨rfl, hH, hodd, hK, hG⟩ := hv
  have hts := atoms_spec (ws := x_wds y) B.pre
  have hown : s.vm.findClass (x_cname y) = some m.cls := by rw [← hyc]; exact findClass_of_methodNamed B.named
  have hl := lv_entry (as.map (x_v b oa)) (n := x_mL y) (by rw [x_words, List.map_map]; simpa [Function.comp_def, x_cat] using hw)
  rw [lg_entry_eq]
  generalize (lg_sl (as.map (x_v b oa)) ++ List.replicate (x_mL y - (lg_sl (as.map (x_v b oa))).length) Slot.unset).toArray = ls at hl ⊢
  rw [x_vl_args] at hl
  have hC : x_ctx o D dA b oa p s m (as.map (x_v b oa)).toArray meth c y := ⟨B.exec, B.bytes, hml, B.returns, B.notSynchronized, hown, fun w9 h9 => hts w9 (List.mem_cons_of_mem _ h9), hodd, hK, hG, fun h9 => (name_of_methodNamed B.named B.method).1.trans h9⟩
  refine hn d y 0 _ [] w w' r h p e _ s m _ below meth c _ s.heap [] 0 0 w.1 w.2.1 ls hC hH va_S.rf hH.1 (Nat.zero_add _) (Nat.zero_add _) (by show w'.1 ≤ w'.1 - w.1 + w.1; omega) (by show w'.2.1 ≤ w'.2.1 - w.2.1 + w.2.1; omega) (Nat.le_refl d) (Nat.le_refl _) hl (fun i pc1 ls1 st1 H1 locs1 cells1 slots1 a1 a2 a3 a4 a5 a6 => ?_)
  have e1 : cells1 = w'.1 - w.1 := by omega
  have e2 : slots1 = w'.2.1 - w.2.1 := by omega
  subst e1
  subst e2
  exact x_rets_ok hC a2 a1 a3 a4 (by have := hH.1; omega)
variable {p : Program} {e : Env} {R : Room} {s : State} {m : MethodId} {args : Array Value} {below : List Frame} {meth : Method} {c : Code} {H : Heap} {locs : List Loc} {cells slots : Nat} {Q : State → Prop} {pc : Nat} {ls : Array Slot} {w w1 : X_H} {mi n0 s0 mc ms : Nat}
/-- behind a call -/
theorem x_callW {rest st0 : List Value} {a : Array Value} {r : Option Value} (hr : va_Run p l e R s m args below meth c H locs cells slots mc ms (F0 m pc ls st0) rest (x_post D dA b oa w1 r a) (fun q => b ≤ q)) (hS : va_S (fun q => b ≤ q) s.heap H locs) (hsz : s.heap.size ≤ b + w1.1)
    (kk : ∀ (H1 : Heap) (locs1 : List Loc), x_hold D vwCl dA b oa w1 H1 → va_S (fun q => b ≤ q) s.heap H1 locs1 → W p l e R s m args below meth c H1 locs1 (cells + mc) (slots + ms) Q (F0 m (pc + 3) ls ((r.map (x_v b oa)).toList ++ rest))) : W p l e R s m args below meth c H locs cells slots Q (F0 m pc ls st0) := by
  intro T hT X
  obtain ⟨v, st₀, t, T', L, h0, X', hL, e1, e2, ⟨hv, hh, hq⟩, st⟩ := hr T hT X
  cases hv
  rw [← e1] at hh hq
  obtain ⟨t2, a1, b1⟩ := kk T'.heap (locs ++ L) hh ⟨by rw [hh.1]; exact hsz, fun q h1 h2 => by rw [hq q (Nat.lt_of_not_le h2), h0]; exact hS.2.1 q h1 h2, fun q hq9 => by
    rcases List.mem_append.mp hq9 with h | h
    · exact hS.2.2 q h
    · exact hL q h⟩ T' rfl X'
  exact ⟨t2, st t2 a1, b1⟩
theorem x_blind {as : List Value} {w : X_H} : FrameBlind (x_pre o D dA b oa as w) := by
  intro a U g mk hq
  obtain ⟨h1, h2, h2b, h3, h4⟩ := hq
  exact ⟨h1, h2, x_odd_same (s := U) (U := U.calling g mk a) rfl h2b, va_K.moved (u := U) (U := U.calling g mk a) (Vm.Alike.refl U.vm) h3, x_glob_same (u := U) (U := U.calling g mk a) rfl h4⟩
theorem x_pre_at {as : List Value} (hC : x_ctx o D dA b oa p s m args meth c mi) (hH : x_hold D vwCl dA b oa w H) (hS : va_S (fun q => b ≤ q) s.heap H locs) (U : State) (hU : U.heap = H) (hW : s.WarmedH U.vm) : x_pre o D dA b oa as w (as.map (x_v b oa)).toArray U := by
  obtain ⟨-, -, -, -, -, -, -, hodd, hK, hG, -⟩ := hC
  refine ⟨rfl, by rw [hU]; exact hH, x_odd_warm hW hodd, va_K.moved hW.alike hK, ?_⟩
  rw [hU]
  exact x_glob_warm hW (x_glob_kept hG hS.2.1)
end XM
