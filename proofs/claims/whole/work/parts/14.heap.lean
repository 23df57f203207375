/-! THE ABSTRACT MACHINE'S INSTRUCTIONS OF THE HEAP -/
def x_tys (dA : FieldType → ClassId) : List (ClassId × FieldType) := x_etys.map fun t => (dA t, t)
/-- a static of Throwable, a reference -/
def x_st (b : Nat) (n d : String) (U : State) (H : Heap) : Prop := ∃ (c : ClassId) (k : Class) (i : Nat) (f : Field) (a : Nat) (cell : Cell) (v : Value), U.vm.findClass Bundle.tN = some c ∧ U.fieldFound? Bundle.tN n d = some (c, k, i, f) ∧ f.isStatic = true ∧ k.statics = some a ∧ H[a]? = some cell ∧ cell.vm.isStatics = true ∧ cell.cls = c ∧ f.slot < cell.slots.size ∧ k.staticTypes[f.slot]? = some f.type ∧ cell.slots[f.slot]? = some v ∧ v.isRef = true ∧ a < b
theorem x_st.moved {b : Nat} {n d : String} {u U : State} {H : Heap} (hvm : u.vm.Alike U.vm) (h : x_st b n d u H) : x_st b n d U H := by
  obtain ⟨c, k, i, f, a, cell, v, h0, h1, h2, h3, h4, h5, h6, h7, h8, h9⟩ := h
  obtain ⟨k', hi', he⟩ := State.fieldFound?_setVm hvm h1
  exact ⟨c, k', i, f, a, cell, v, by rw [hvm.findClass]; exact h0, hi', h2, by rw [he]; exact h3, h4, h5, h6, h7, by rw [he]; exact h8, h9⟩
theorem x_st.kept {b : Nat} {n d : String} {U : State} {H H1 : Heap} (h : x_st b n d U H) (hq : ∀ a : Nat, a < H.size → ¬ b ≤ a → H1[a]? = H[a]?) : x_st b n d U H1 := by
  obtain ⟨c, k, i, f, a, cell, v, h0, h1, h2, h3, h4, h5, h6, h7, h8, h9, h10, h11⟩ := h
  exact ⟨c, k, i, f, a, cell, v, h0, h1, h2, h3, by rw [hq a (Array.getElem?_eq_some_iff.mp h4).1 (Nat.not_le.mpr h11)]; exact h4, h5, h6, h7, h8, h9, h10, h11⟩
theorem x_st.of {b : Nat} {n d : String} {s : State} {args : Array Value} (h1 : (Cond.laysStatic Bundle.tN n d).before args s = true) (h2 : (Cond.isRef (.static Bundle.tN n d)).before args s = true) (hA : ∀ a : Nat, a < s.heap.size → a < b) : x_st b n d s s.heap := by
  obtain ⟨c, k, i, f, a, cell, hc, hi, hst, ha, hcell, hs, hcls, hlt, hty⟩ := Cond.laysStatic_spec h1
  obtain ⟨u, hu⟩ := Cond.staticRefV hi hst ha hcell hs h2
  exact ⟨c, k, i, f, a, cell, u.v, hc, hi, hst, ha, hcell, hs, hcls, hlt, hty, hu, u.ok, hA a (Array.getElem?_eq_some_iff.mp hcell).1⟩
theorem x_st.use {b : Nat} {n d : String} {s : State} {args : Array Value} (h : x_st b n d s s.heap) : (Cond.laysStatic Bundle.tN n d).before args s = true ∧ (Cond.isRef (.static Bundle.tN n d)).before args s = true := by
  obtain ⟨c, k, i, f, a, cell, v, hc, hf, hst, hsta, hcell, hiss, hcls, hlt, hty, hv, hr, -⟩ := h
  refine ⟨by simp [Cond.before, Cond.holds, Cond.value, hc, hf, hst, hsta, hcell, hiss, hcls, hlt, hty], ?_⟩
  have he : (Term.static Bundle.tN n d).eval args s none [] s = some v := by
    simp [Term.eval, State.fieldNamed?, hf, hst, hsta, hcell, hiss, hv]
  simp only [Cond.before, Cond.holds, Cond.value, he]
  cases v <;> simp [Value.isRef] at hr ⊢
def x_thw (U : State) : Prop := va_Nw (.castable "java/lang/IndexOutOfBoundsException" "java/lang/IndexOutOfBoundsException") U ∧ ∀ C ∈ (["java/lang/RuntimeException", "java/lang/Exception", "java/lang/Throwable"] : List String), va_Nw (.declares ⟨C, "<init>", "(Ljava/lang/String;)V"⟩) U
theorem x_thw.warm {s U : State} (hW : s.WarmedH U.vm) (h : x_thw s) : x_thw U := ⟨h.1.warmC hW, fun C hC => (h.2 C hC).warmD hW⟩
theorem x_thw.same {s U : State} (hv : s.vm = U.vm) (h : x_thw s) : x_thw U := ⟨h.1.same rfl hv, fun C hC => (h.2 C hC).same rfl hv⟩
/-- what the throw asks of the start: its text, and Throwable's two statics -/
def x_thr (b : Nat) (U : State) (H : Heap) : Prop := (∃ q, vk_R "StepRows" 157 "the TABLE has numbers 0 to 9" q U) ∧ x_st b "UNASSIGNED_STACK" Bundle.steD U H ∧ x_st b "SUPPRESSED_SENTINEL" Bundle.listD U H ∧ x_thw U
def x_glob (o : X_O) (b : Nat) (oa : Nat → Nat) (U : State) (H : Heap) : Prop :=
  (∀ j n f, o j = some (n, f) → va_T .int (oa j) n (fun i => .int (f i)) (fun q => b ≤ q) U H) ∧ (∀ q ∈ x_stats, va_Z q.1 q.2.1 q.2.2.1 (.ref (oa q.2.2.2)) (fun a => b ≤ a) U H) ∧ x_thr b U H
def x_ctx (o : X_O) (D : va_G) (dA : FieldType → ClassId) (b : Nat) (oa : Nat → Nat) (p : Program) (s : State) (m : MethodId) (args : Array Value) (meth : Method) (c : Code) (mi : Nat) : Prop :=
  p.tables.exec = Jvm.exec ∧ c.code = x_bytes mi ∧ c.maxLocals = x_mL mi ∧ meth.sig.returnType = x_ret mi ∧ meth.locks = false ∧ s.vm.findClass (x_cname mi) = some m.cls ∧ (∀ w ∈ x_tbl, w.before args s = true) ∧ x_odd s ∧ va_K D vwCl (x_tys dA) s ∧ x_glob o b oa s s.heap ∧ ((x_nm mi).name = "<init>" → meth.name = "<init>")
theorem x_S_trans {A : Nat → Prop} {H0 H H1 : Heap} {locs locs1 : List Loc} (h : va_S A H0 H locs) (h1 : va_S A H H1 locs1) : va_S A H0 H1 locs1 :=
  ⟨Nat.le_trans h.1 h1.1, fun q a n => (h1.2.1 q (Nat.lt_of_lt_of_le a h.1) n).trans (h.2.1 q a n), h1.2.2⟩
theorem x_S_here {A : Nat → Prop} {H0 H : Heap} {locs : List Loc} (h : va_S A H0 H locs) : va_S A H H locs := ⟨Nat.le_refl _, fun _ _ _ => rfl, h.2.2⟩
theorem x_in_vp {j : Int32} {n : Nat} (h : x_in j n = true) : vp_in j n := by
  unfold vp_in
  exact of_decide_eq_true h
theorem x_tys_at {dA : FieldType → ClassId} {t : FieldType} (h : t ∈ x_etys) : ∃ k : Nat, (x_tys dA)[k]? = some (dA t, t) := List.getElem?_of_mem (List.mem_map.mpr ⟨t, h, rfl⟩)
theorem x_et_mem {t : FieldType} (h : x_et t = true) : t ∈ x_etys := of_decide_eq_true h
theorem x_fit_ok {b : Nat} {oa : Nat → Nat} {ty : FieldType} {v : Value} (h : x_fit ty v = true) : narrow ty (x_v b oa v) = x_v b oa v ∧ fits ty (x_v b oa v) = true := by
  unfold x_fit at h
  split at h
  · exact ⟨rfl, rfl⟩
  · exact ⟨rfl, rfl⟩
  · rcases of_decide_eq_true h with h | h <;> subst h <;> exact ⟨rfl, rfl⟩
  · exact ⟨rfl, rfl⟩
  · exact ⟨rfl, rfl⟩
  · exact ⟨rfl, rfl⟩
  · exact ⟨rfl, rfl⟩
  · cases h
theorem x_rf_v (b : Nat) (oa : Nat → Nat) (r : Option Nat) : va_rf (r.map (b + ·)) = x_v b oa (va_rf r) := by cases r <;> rfl
theorem x_up_map (b : Nat) (f : Nat → Option Nat) (k v : Nat) : (fun j => (va_up f k (some v) j).map (b + ·)) = va_up (fun j => (f j).map (b + ·)) k (some (b + v)) := by
  funext j
  unfold va_up
  split <;> rfl
theorem x_cn_ok {ci : Nat} {C : String} (h : x_cn ci = some C) : ∃ r : vw_C, vwCl[ci]? = some r ∧ r.1 = C := by
  unfold x_cn at h
  cases hq : vwCl[ci]? with
  | none => rw [hq] at h; cases h
  | some r => rw [hq] at h; exact ⟨r, rfl, Option.some.inj h⟩
section XE
variable {p : Program} {l : Launch} {e : Env} {R : Room} {s : State} {m : MethodId} {args : Array Value} {below : List Frame} {meth : Method} {c : Code} {H : Heap} {locs : List Loc} {cells slots : Nat} {Q : State → Prop} {pc : Nat} {ls : Array Slot} {b : Nat} {oa : Nat → Nat} {i : Instr} {st st' : List Value} {w w' : X_H} {o : X_O} {D : va_G} {dA : FieldType → ClassId} {mi n0 s0 : Nat}
theorem x_alen_at (hH : x_hold D vwCl dA b oa w H) {k n : Nat} {ty : FieldType} {x : (Nat → Int32) ⊕ (Nat → Int64) ⊕ (Nat → UInt32) ⊕ (Nat → UInt64) ⊕ (Nat → Option Nat)} (hw : w.2.2 k = some (.inl (ty, n, x))) : ∃ (q : Nat) (y : vp_A), y.1 = n ∧ (x_ws b oa dA w)[q]? = some (b + k, .inl (dA ty, y)) := by
  obtain ⟨q, hq⟩ := x_hold_at hH hw
  obtain f | f | f | f | f := x
  · exact ⟨q, _, rfl, hq⟩
  · exact ⟨q, _, rfl, hq⟩
  · exact ⟨q, _, rfl, hq⟩
  · exact ⟨q, _, rfl, hq⟩
  · exact ⟨q, _, rfl, hq⟩
/-- behind a write: the abstract heap has the new cell, the heap is as large as before -/
theorem x_wrote (hH : x_hold D vwCl dA b oa w H) (hS : va_S (fun q => b ≤ q) s.heap H locs) (hsz : s.heap.size = b + n0) (hc : cells + n0 = w.1) {k i : Nat} {x x' : X_C} (hk : w.2.2 k = some x) (hi : (x_ws b oa dA w)[i]? = some (b + k, x_c b oa dA x)) {g : JFrame}
    (kk : ∀ (H1 : Heap) (locs1 : List Loc), x_hold D vwCl dA b oa (x_set w k x') H1 → va_S (fun q => b ≤ q) s.heap H1 locs1 → W p l e R s m args below meth c H1 locs1 cells slots Q g)
    (H1 : Heap) (locs1 : List Loc) (hP : va_P D vwCl ((x_ws b oa dA w).set i (b + k, x_c b oa dA x')) H1) (hS1 : va_S (fun q => b ≤ q) H H1 locs1) : W p l e R s m args below meth c H1 locs1 cells slots Q g := by
  refine x_size fun hle => ?_
  have hz : H1.size = H.size := Nat.le_antisymm (by rw [hH.1]; omega) hS1.1
  exact kk H1 locs1 (x_hold_set hH hk hi hP hz) (x_S_trans hS hS1)
/-- behind a making -/
theorem x_made (hH : x_hold D vwCl dA b oa w H) (hS : va_S (fun q => b ≤ q) s.heap H locs) (hsz : s.heap.size = b + n0) (hc : cells + n0 = w.1) (hs : slots + s0 = w.2.1) {H1 : Heap} {sl : Nat} {x : X_C} {g : JFrame} (z1 : H1.size = b + w.1 + 1) (o1 : ∀ q : Nat, q < b + w.1 → H1[q]? = H[q]?) (hat : va_at D vwCl (b + w.1, x_c b oa dA x) H1)
    (kk : ∀ (H1 : Heap) (locs1 : List Loc) (cells1 slots1 : Nat), x_hold D vwCl dA b oa (x_new w sl x) H1 → va_S (fun q => b ≤ q) s.heap H1 locs1 → cells1 + n0 = (x_new w sl x).1 → slots1 + s0 = (x_new w sl x).2.1 → W p l e R s m args below meth c H1 locs1 cells1 slots1 Q g) : W p l e R s m args below meth c H1 locs (cells + 1) (slots + sl) Q g := by
  refine kk H1 locs (cells + 1) (slots + sl) (x_hold_new hH (by rw [z1, hH.1]) (by rw [hH.1]; exact o1) hat) ⟨?_, fun q a n => ?_, hS.2.2⟩ (by show cells + 1 + n0 = w.1 + 1; omega) (by show slots + sl + s0 = w.2.1 + sl; omega)
  · have := hS.1
    have := hH.1
    omega
  · rw [o1 q (by have := hS.1; have := hH.1; omega)]
    exact hS.2.1 q a n
theorem x_arr_one (hK : va_K D vwCl (x_tys dA) s) {t : FieldType} (ht : t ∈ x_etys) {cA : ClassId} (h : s.vm.findClass ("[" ++ t.toString) = some cA) : cA = dA t := by
  obtain ⟨k, hk⟩ := x_tys_at (dA := dA) ht
  have h1 := (hK.2 k _ hk).2
  cases t with
  | object C =>
    obtain ⟨kA, comp, -, -, -, h4⟩ := h1
    exact Option.some.inj (h.symm.trans h4)
  | _ => exact Option.some.inj (h.symm.trans h1)
set_option maxHeartbeats 8000000 in
theorem x_heap_ok (hC : x_ctx o D dA b oa p s m args meth c mi) (h : x_heap o mi i st w = some (st', w')) (hd : decode (x_bytes mi) pc = .ok (i, x_len i)) (hH : x_hold D vwCl dA b oa w H) (hS : va_S (fun q => b ≤ q) s.heap H locs) (hsz : s.heap.size = b + n0) (hc : cells + n0 = w.1) (hs : slots + s0 = w.2.1) (hrc : w'.1 ≤ n0 + R.cells) (hrs : w'.2.1 ≤ s0 + R.slots)
    (k : ∀ (H1 : Heap) (locs1 : List Loc) (cells1 slots1 : Nat), x_hold D vwCl dA b oa w' H1 → va_S (fun q => b ≤ q) s.heap H1 locs1 → cells1 + n0 = w'.1 → slots1 + s0 = w'.2.1 → W p l e R s m args below meth c H1 locs1 cells1 slots1 Q (F0 m (pc + x_len i) ls (st'.map (x_v b oa)))) : W p l e R s m args below meth c H locs cells slots Q (F0 m pc ls (st.map (x_v b oa))) := by
  obtain ⟨hx, hb, hml, hr, hlocks, hown, hts, hodd, hK, hG, hnm⟩ := hC
  have ht : ∀ {z : Cond}, z ∈ lw_tbl → goodWord z = true → z.before args s = true := fun h9 g9 => hts _ (x_good h9 g9)
  have hD : va_D (fun q => b ≤ q) (x_ws b oa dA w) := x_ws_D
  have hP := hH.2.1
  have hS0 := x_S_here hS
  unfold x_heap at h
  split at h
  -- getfield
  · split at h
    · rename_i hf
      split at h
      · rename_i hw
        split at h
        · rename_i hci
          subst hci
          split at h
          · rename_i hv
            cases h
            obtain ⟨C, T, N, hcl, hkN, hlink, hok⟩ := x_fld_ok hf
            have hin := hok.1
            obtain ⟨q, hq⟩ := x_hold_at hH hw
            exact va_get hx hb hts hin hown hK hP q hq hcl _ hkN (ht hlink rfl) (fun _ h9 => h9) (by rw [List.getElem?_map, hv]; rfl) hd (k H locs cells slots hH hS hc hs)
          · cases h
        · cases h
      · cases h
    · cases h
  -- putfield
  · split at h
    · rename_i hf
      split at h
      · rename_i hw
        split at h
        · rename_i hci
          obtain ⟨hci, hkl, hfit, hpok⟩ := hci
          subst hci
          cases h
          obtain ⟨C, T, N, hcl, hkN, hlink, hok⟩ := x_fld_ok hf
          obtain ⟨hin, hty, hnms, -⟩ := id hok
          obtain ⟨q, hq⟩ := x_hold_at hH hw
          obtain ⟨hn, hfi⟩ := x_fit_ok (b := b) (oa := oa) hfit
          have kk := x_wrote hH hS hsz hc hw hq (fun H1 locs1 a1 a2 => k H1 locs1 cells slots a1 a2 hc hs)
          rcases x_pok_ok hpok hok hkN with hfin | ⟨hfin, hini, hdecl⟩
          · exact va_put hx hb hts hin (x_fty _) hty hnms hown hK hP hD hS0 q hq hcl _ hkN (ht hlink rfl) (fun _ h9 => h9) hfin (hty _ hkN) hn hfi (by rw [List.length_map]; exact hkl) hd (fun H1 locs1 hP1 _ hS1 => kk H1 locs1 (by rw [← List.map_set] at hP1; exact hP1) hS1)
          · exact va_putF hx hb hts hin (x_fty _) hty hnms hown hK hP hD hS0 q hq hcl _ hkN (ht hlink rfl) (fun _ h9 => h9) hfin (hnm hini) hdecl (hty _ hkN) hn hfi (by rw [List.length_map]; exact hkl) hd (fun H1 locs1 hP1 _ hS1 => kk H1 locs1 (by rw [← List.map_set] at hP1; exact hP1) hS1)
        · cases h
      · cases h
    · cases h
  -- iaload
  · split at h
    · split at h
      · rename_i hw
        split at h
        · rename_i hj
          cases h
          obtain ⟨q, hq⟩ := x_hold_at hH hw
          obtain ⟨t0, ht⟩ := x_tys_at (dA := dA) (t := .int) (by decide)
          exact va_iald hx hb hK hP q t0 hq ht (x_in_vp hj) hd (k H locs cells slots hH hS hc hs)
        · cases h
      · cases h
    · split at h
      · rename_i ho
        split at h
        · rename_i hj
          cases h
          exact va_ti hx hb (hG.1 _ _ _ ho) hS (x_in_vp hj) rfl hd (k H locs cells slots hH hS hc hs)
        · cases h
      · cases h
    · cases h
  -- laload
  · split at h
    · split at h
      · rename_i hw
        split at h
        · rename_i hj
          cases h
          obtain ⟨q, hq⟩ := x_hold_at hH hw
          obtain ⟨t0, ht⟩ := x_tys_at (dA := dA) (t := .long) (by decide)
          exact va_lald hx hb hK hP q t0 hq ht (x_in_vp hj) hd (k H locs cells slots hH hS hc hs)
        · cases h
      · cases h
    · cases h
  -- baload
  · split at h
    · split at h
      · rename_i hw
        split at h
        · rename_i hj
          cases h
          obtain ⟨q, hq⟩ := x_hold_at hH hw
          obtain ⟨t0, ht⟩ := x_tys_at (dA := dA) (t := .boolean) (by decide)
          exact va_zald hx hb hK hP q t0 hq ht (x_in_vp hj) hd (k H locs cells slots hH hS hc hs)
        · cases h
      · cases h
    · cases h
  -- aaload
  · split at h
    · split at h
      · rename_i hw
        split at h
        · rename_i hj
          cases h
          obtain ⟨q, hq⟩ := x_hold_at hH hw
          obtain ⟨t0, ht⟩ := x_tys_at (dA := dA) (x_et_mem hj.2)
          exact va_aldq hx hb hK hP q t0 hq ht (x_in_vp hj.1) hd (by rw [x_rf_v b oa]; exact k H locs cells slots hH hS hc hs)
        · cases h
      · cases h
    · cases h
  -- iastore
  · split at h
    · split at h
      · rename_i hw
        split at h
        · rename_i hj
          cases h
          obtain ⟨q, hq⟩ := x_hold_at hH hw
          obtain ⟨t0, ht⟩ := x_tys_at (dA := dA) (t := .int) (by decide)
          have kk := x_wrote hH hS hsz hc hw hq (fun H1 locs1 a1 a2 => k H1 locs1 cells slots a1 a2 hc hs)
          exact va_iast hx hb hK hP hD hS0 q t0 hq ht (x_in_vp hj) hd (fun H1 locs1 hP1 _ hS1 => kk H1 locs1 hP1 hS1)
        · cases h
      · cases h
    · cases h
  -- lastore
  · split at h
    · split at h
      · rename_i hw
        split at h
        · rename_i hj
          cases h
          obtain ⟨q, hq⟩ := x_hold_at hH hw
          obtain ⟨t0, ht⟩ := x_tys_at (dA := dA) (t := .long) (by decide)
          have kk := x_wrote hH hS hsz hc hw hq (fun H1 locs1 a1 a2 => k H1 locs1 cells slots a1 a2 hc hs)
          exact va_last hx hb hK hP hD hS0 q t0 hq ht (x_in_vp hj) hd (fun H1 locs1 hP1 _ hS1 => kk H1 locs1 hP1 hS1)
        · cases h
      · cases h
    · cases h
  -- bastore
  · split at h
    · split at h
      · rename_i hw
        split at h
        · rename_i hj
          cases h
          obtain ⟨q, hq⟩ := x_hold_at hH hw
          obtain ⟨t0, ht⟩ := x_tys_at (dA := dA) (t := .boolean) (by decide)
          have kk := x_wrote hH hS hsz hc hw hq (fun H1 locs1 a1 a2 => k H1 locs1 cells slots a1 a2 hc hs)
          refine va_zast hx hb hK hP hD hS0 q t0 hq ht (x_in_vp hj.1) hd (fun H1 locs1 hP1 _ hS1 => kk H1 locs1 ?_ hS1)
          rcases hj.2 with e1 | e1 <;> subst e1 <;> exact hP1
        · cases h
      · cases h
    · cases h
  -- aastore
  · split at h
    · split at h
      · rename_i hw hv
        split at h
        · rename_i hj
          cases h
          obtain ⟨q, hq⟩ := x_hold_at hH hw
          obtain ⟨q2, hq2⟩ := x_hold_at hH hv
          obtain ⟨r, hr1, hr2⟩ := x_cn_ok hj.2.1
          subst hr2
          obtain ⟨t0, ht⟩ := x_tys_at (dA := dA) (x_et_mem hj.2.2)
          have kk := x_wrote hH hS hsz hc hw hq (fun H1 locs1 a1 a2 => k H1 locs1 cells slots a1 a2 hc hs)
          exact va_astq hx hb hK hP hD hS0 q t0 q2 _ hq ht hq2 hr1 (x_in_vp hj.1) hd (fun H1 locs1 hP1 _ hS1 => kk H1 locs1 (by simp only [x_c, x_up_map]; exact hP1) hS1)
        · cases h
      · cases h
    · cases h
  -- arraylength
  · split at h
    · split at h
      · rename_i ty n x hw
        split at h
        · rename_i het
          cases h
          obtain ⟨t0, ht⟩ := x_tys_at (dA := dA) (x_et_mem het)
          obtain ⟨q, y, hy1, hy2⟩ := x_alen_at hH hw
          exact va_alen hx hb hK hP q t0 hy2 ht (by rw [hy1]) hd (k H locs cells slots hH hS hc hs)
        · cases h
      · cases h
    · split at h
      · rename_i ho
        cases h
        exact va_tlen hx hb (hG.1 _ _ _ ho) hS rfl hd (k H locs cells slots hH hS hc hs)
      · cases h
    · cases h
  -- newarray
  · split at h
    · split at h
      · rename_i hn
        split at h
        · cases h
          refine va_newaK hx hb (ht (x_arrs _ (by decide)) rfl) rfl hd rfl hn.1 rfl ?_ ?_ ?_ hH.1 fun H1 cA e1 z1 o1 hAr hNm => ?_
          · have := hn.2; show _ * 4 ≤ _; omega
          · have : w.1 + 1 ≤ n0 + R.cells := hrc; omega
          · have : w.2.1 + _ ≤ s0 + R.slots := hrs; omega
          · refine x_made hH hS hsz hc hs z1 o1 ?_ k
            have hcA : cA = dA .int := x_arr_one hK (by decide) hNm
            subst hcA
            exact e1
        · cases h
          refine va_newaK hx hb (ht (x_arrs _ (by decide)) rfl) rfl hd rfl hn.1 rfl ?_ ?_ ?_ hH.1 fun H1 cA e1 z1 o1 hAr hNm => ?_
          · have := hn.2; show _ * 8 ≤ _; omega
          · have : w.1 + 1 ≤ n0 + R.cells := hrc; omega
          · have : w.2.1 + _ ≤ s0 + R.slots := hrs; omega
          · refine x_made hH hS hsz hc hs z1 o1 ?_ k
            have hcA : cA = dA .long := x_arr_one hK (by decide) hNm
            subst hcA
            exact e1
        · cases h
          refine va_newaK hx hb (ht (x_arrs _ (by decide)) rfl) rfl hd rfl hn.1 rfl ?_ ?_ ?_ hH.1 fun H1 cA e1 z1 o1 hAr hNm => ?_
          · have := hn.2; show _ * 1 ≤ _; omega
          · have : w.1 + 1 ≤ n0 + R.cells := hrc; omega
          · have : w.2.1 + _ ≤ s0 + R.slots := hrs; omega
          · refine x_made hH hS hsz hc hs z1 o1 ?_ k
            have hcA : cA = dA .boolean := x_arr_one hK (by decide) hNm
            subst hcA
            exact e1
        · cases h
      · cases h
    · cases h
  -- anewarray
  · split at h
    · rename_i ci n t hcls
      split at h
      · rename_i C hcn
        split at h
        · rename_i hn
          cases h
          obtain ⟨C2, T2, N2, hcl2, hlink, -⟩ := x_cls_ok hcls
          have hC2 : C2 = C := by
            unfold x_cn at hcn
            rw [hcl2] at hcn
            exact Option.some.inj hcn
          subst hC2
          have hover := hodd.2.2 _ hn.2.2
          refine W.anew hx hb hown (ht hlink rfl) (va_AO.use hover) rfl hd rfl hn.1 hn.2.1 ?_ ?_ fun cA kA comp f1 f2 f3 f4 => ?_
          · have : w.1 + 1 ≤ n0 + R.cells := hrc; omega
          · have : w.2.1 + _ ≤ s0 + R.slots := hrs; omega
          · generalize hH1 : H.push ({ cls := cA, slots := Array.replicate n.toNatClampNeg .null, vm := .none } : Cell) = H1
            have z1 : H1.size = b + w.1 + 1 := by rw [← hH1, Array.size_push, hH.1]
            have e1 : H1[b + w.1]? = some (arrV cA n.toNatClampNeg (fun _ => .null)) := by rw [← hH1, ← hH.1, Array.getElem?_push_size, ← arrV_new]
            have o1 : ∀ q : Nat, q < b + w.1 → H1[q]? = H[q]? := fun q hq => by rw [← hH1, Array.getElem?_push, if_neg (by rw [hH.1]; exact Nat.ne_of_lt hq)]
            refine x_made hH hS hsz hc hs z1 o1 ?_ (fun H2 locs2 c2 s2 a1 a2 a3 a4 => by rw [hH.1]; exact k H2 locs2 c2 s2 a1 a2 a3 a4)
            have hcA : cA = dA (.object C2) := x_arr_one hK (x_et_mem hn.2.2) f1
            subst hcA
            exact e1
        · cases h
      · cases h
    · cases h
  -- new
  · split at h
    · rename_i ci hcls
      cases h
      obtain ⟨C, T, N, hcl, hlink, hok⟩ := x_cls_ok hcls
      obtain ⟨hin, hty, -, hinst, hini, hlen, hdf, -⟩ := id hok
      have hKn := hK.1 ci _ hcl
      refine W.newcK hx hb hown (ht hlink rfl) (ht hinst rfl) (ht hini rfl) rfl hd ?_ ?_ hKn.2.1 hH.1 fun H1 kC hkC e1 z1 o1 => ?_
      · have : w.1 + 1 ≤ n0 + R.cells := hrc; omega
      · have : w.2.1 + (x_dfl ci).length ≤ s0 + R.slots := hrs; omega
      · rw [← hlen]
        refine x_made hH hS hsz hc hs z1 o1 ?_ k
        refine ⟨_, hcl, (u_born (x_fty ci) hts hin hKn hkC e1 hty).to (fun j hj => ?_)⟩
        have := hdf j hj
        show defaultValue (x_fty ci j) = vp_V ((x_dfl ci).map (x_v b oa)) j
        rw [x_dfl_v b oa hok]
        exact this
    · cases h
  -- getstatic
  · split at h
    · rename_i j hst
      cases h
      obtain ⟨C, n, d, hmem, hlink⟩ := x_sta_ok hst
      rcases hlink with hlink | hlink
      · exact va_gets hx hb (hG.2.1 _ hmem) hS hown (ht hlink rfl) (fun _ h9 => h9) hd (k H locs cells slots hH hS hc hs)
      · exact va_getsN hx hb (hG.2.1 _ hmem) hS hown (va_Nw.use rfl (hodd.1 _ hlink)) (fun _ h9 => h9) hd (k H locs cells slots hH hS hc hs)
    · cases h
  -- ldc
  · split at h
    · rename_i hcn
      cases h
      exact lv_ldc hx hb hown (ht (x_con_ok hcn) rfl) hd (k H locs cells slots hH hS hc hs)
    · cases h
  · split at h
    · rename_i hcn
      cases h
      exact lv_ldc2 hx hb hown (ht (x_conL_ok hcn) rfl) hd (k H locs cells slots hH hS hc hs)
    · cases h
  · cases h
end XE
