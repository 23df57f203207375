/-! CONSTANTS, and small rows for the decompiled methods -/
theorem y_cati (x : Int32) : (Value.int x).category = 1 := rfl
theorem y_catl (x : Int64) : (Value.long x).category = 2 := rfl
theorem y_catr (x : Nat) : (Value.ref x).category = 1 := rfl
theorem y_catn : Value.null.category = 1 := rfl
theorem y_cata (x : Nat) : (Value.retAddr x).category = 1 := rfl
section VC
variable {o : X_O} {d mi pc pc' : Nat} {lv : X_L} {st t : List Value} {s s' : Y_S} {Q : Y_S → Option Value → Prop}
theorem Vic {n : Int} {v : Int32} (hc : x_code mi pc = some (.iconst n)) (hv : Int32.ofInt n = v) (hp : pc + 1 = pc') (K : Y o d mi pc' lv (.int v :: st) s Q) : Y o d mi pc lv st s Q := Ya hc (by rw [← hv]; rfl) hp K
theorem Vbp {n : Int} {v : Int32} (hc : x_code mi pc = some (.bipush n)) (hv : (Int8.ofInt n).toInt32 = v) (hp : pc + 2 = pc') (K : Y o d mi pc' lv (.int v :: st) s Q) : Y o d mi pc lv st s Q := Ya hc (by rw [← hv]; rfl) hp K
theorem Vsp {n : Int} {v : Int32} (hc : x_code mi pc = some (.sipush n)) (hv : (Int16.ofInt n).toInt32 = v) (hp : pc + 3 = pc') (K : Y o d mi pc' lv (.int v :: st) s Q) : Y o d mi pc lv st s Q := Ya hc (by rw [← hv]; rfl) hp K
theorem Vlc {n : Fin 2} {v : Int64} (hc : x_code mi pc = some (.lconst n)) (hv : Int64.ofNat n = v) (hp : pc + 1 = pc') (K : Y o d mi pc' lv (.long v :: st) s Q) : Y o d mi pc lv st s Q := Ya hc (by rw [← hv]; rfl) hp K
theorem y_rv_cat {v : Value} (h : y_rv v = true) : v.category = 1 := by cases v <;> first | rfl | (cases h; done)
def y_no (s : Y_S) (ci : Nat) : Option Y_S := some (y_new s (x_dfl ci).length (.inr (ci, y_shp ci)))
theorem Zno {ci idx : Nat} (h : y_no s ci = some s') (hc : x_code mi pc = some (.new idx)) (hcl : x_cls mi idx = some ci) (hfs : y_fl (fun _ => 0) 0 (y_shp ci) = x_dfl ci) (hp : pc + 3 = pc') (k : Y o d mi pc' lv (.ref s.1 :: st) s' Q) : Y o d mi pc lv st s Q := by
  cases h
  exact Ynew hc hcl hfs hp k
def y_nr (s : Y_S) (C : String) (n : Int32) : Option Y_S := if ¬ n < 0 ∧ n.toNatClampNeg * 4 ≤ 536870912 then some (y_new s n.toNatClampNeg (.inl (.object C, n.toNatClampNeg, fun _ => none))) else none
theorem Znr {ci idx : Nat} {C : String} {n : Int32} (h : y_nr s C n = some s') (hc : x_code mi pc = some (.anewarray idx)) (hcl : x_cls mi idx = some ci) (hcn : x_cn ci = some C) (he : x_et (.object C) = true) (hp : pc + 3 = pc') (k : Y o d mi pc' lv (.ref s.1 :: t) s' Q) : Y o d mi pc lv (.int n :: t) s Q := by
  unfold y_nr at h
  split at h
  · rename_i g
    cases h
    exact Yanew hc hcl hcn he g.1 rfl g.2 hp k
  · cases h
theorem Vts {x k : Int32} {i : Instr} {off : Int} {tg : Nat} (c : x = k) (hc : x_code mi pc = some i) (ha : x_alu i (.int k :: t) = none) (hl : x_loc i lv (.int k :: t) = none) (hh : x_heap o mi i (.int k :: t) (y_w s) = none) (hb : x_brc i (.int k :: t) = none) (h : x_swt i (.int k :: t) = some (off, t)) (hp : x_tgt pc off = tg) (K : Y o d mi tg lv t s Q) : Y o d mi pc lv (.int x :: t) s Q := by
  subst c
  exact Ysw hc ha hl hh hb h hp K
theorem Vdup {v : Value} (hc : x_code mi pc = some .dup) (hv : v.category = 1) (hp : pc + 1 = pc') (K : Y o d mi pc' lv (v :: v :: t) s Q) : Y o d mi pc lv (v :: t) s Q := Ya hc (if_pos hv) hp K
theorem Vdup2 {v u : Value} (hc : x_code mi pc = some .dup2) (hv : v.category = 1) (hu : u.category = 1) (hp : pc + 1 = pc') (K : Y o d mi pc' lv (v :: u :: v :: u :: t) s Q) : Y o d mi pc lv (v :: u :: t) s Q := Ya hc (if_pos ⟨hv, hu⟩) hp K
theorem Vpop {v : Value} (hc : x_code mi pc = some .pop) (hv : v.category = 1) (hp : pc + 1 = pc') (K : Y o d mi pc' lv t s Q) : Y o d mi pc lv (v :: t) s Q := Ya hc (if_pos hv) hp K
theorem Vls {x : Int32} {dflt off : Int} {ps : Array (Int × Int)} {tg : Nat} (hc : x_code mi pc = some (.lookupswitch dflt ps)) (h : Op.lookupswitch.offset ps.toList dflt x.toInt = off) (hp : x_tgt pc off = tg) (K : Y o d mi tg lv t s Q) : Y o d mi pc lv (.int x :: t) s Q := Ysw hc rfl rfl rfl rfl rfl (by rw [h]; exact hp) K
end VC
