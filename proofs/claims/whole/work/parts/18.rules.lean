/-! RULES OF X, an instruction each, with the next place given -/
section XQ
variable {o : X_O} {d mi pc pc' : Nat} {lv lv' : X_L} {st st' t : List Value} {w w' : X_H} {Q : X_H → Option Value → Prop} {i : Instr}
theorem Xa (hc : x_code mi pc = some i) (h : x_alu i st = some st') (hp : pc + x_len i = pc') (k : X o d mi pc' lv st' w Q) : X o d mi pc lv st w Q := by
  subst hp
  exact X_alu hc h k
theorem Xl (hc : x_code mi pc = some i) (ha : x_alu i st = none) (h : x_loc i lv st = some (lv', st')) (hp : pc + x_len i = pc') (k : X o d mi pc' lv' st' w Q) : X o d mi pc lv st w Q := by
  subst hp
  exact X_loc hc ha h k
theorem Xgetf {a ci f idx : Nat} {fs : List Value} {v : Value} (hc : x_code mi pc = some (.getfield idx)) (hf : x_fld mi idx = some (ci, f)) (hw : w.2.2 a = some (.inr (ci, fs))) (hv : fs[f]? = some v) (hp : pc + 3 = pc') (k : X o d mi pc' lv (v :: t) w Q) : X o d mi pc lv (.ref a :: t) w Q := by
  subst hp
  exact X_heap hc rfl rfl (by simp only [x_heap, hf, hw, hv, if_true]) k
theorem Xputf {a ci f idx : Nat} {fs : List Value} {v : Value} (hc : x_code mi pc = some (.putfield idx)) (hf : x_fld mi idx = some (ci, f)) (hw : w.2.2 a = some (.inr (ci, fs))) (hg : f < fs.length ∧ x_fit (x_fty ci f) v = true ∧ x_pok mi ci f = true) (hp : pc + 3 = pc') (k : X o d mi pc' lv t (x_set w a (.inr (ci, fs.set f v))) Q) : X o d mi pc lv (v :: .ref a :: t) w Q := by
  subst hp
  exact X_heap hc rfl rfl (by simp only [x_heap, hf, hw, hg, and_self, if_true]) k
theorem Xiald {a n : Nat} {f : Nat → Int32} {j : Int32} (hc : x_code mi pc = some .iaload) (hw : w.2.2 a = some (.inl (.int, n, .inl f))) (hj : x_in j n = true) (hp : pc + 1 = pc') (k : X o d mi pc' lv (.int (f j.toNatClampNeg) :: t) w Q) : X o d mi pc lv (.int j :: .ref a :: t) w Q := by
  subst hp
  exact X_heap hc rfl rfl (by simp only [x_heap, hw, hj, if_true]) k
theorem Xoald {a n : Nat} {f : Nat → Int32} {j : Int32} (hc : x_code mi pc = some .iaload) (hw : o a = some (n, f)) (hj : x_in j n = true) (hp : pc + 1 = pc') (k : X o d mi pc' lv (.int (f j.toNatClampNeg) :: t) w Q) : X o d mi pc lv (.int j :: .retAddr a :: t) w Q := by
  subst hp
  exact X_heap hc rfl rfl (by simp only [x_heap, hw, hj, if_true]) k
theorem Xlald {a n : Nat} {f : Nat → Int64} {j : Int32} (hc : x_code mi pc = some .laload) (hw : w.2.2 a = some (.inl (.long, n, .inr (.inl f)))) (hj : x_in j n = true) (hp : pc + 1 = pc') (k : X o d mi pc' lv (.long (f j.toNatClampNeg) :: t) w Q) : X o d mi pc lv (.int j :: .ref a :: t) w Q := by
  subst hp
  exact X_heap hc rfl rfl (by simp only [x_heap, hw, hj, if_true]) k
theorem Xbald {a n : Nat} {f : Nat → Int32} {j : Int32} (hc : x_code mi pc = some .baload) (hw : w.2.2 a = some (.inl (.boolean, n, .inl f))) (hj : x_in j n = true) (hp : pc + 1 = pc') (k : X o d mi pc' lv (.int (f j.toNatClampNeg) :: t) w Q) : X o d mi pc lv (.int j :: .ref a :: t) w Q := by
  subst hp
  exact X_heap hc rfl rfl (by simp only [x_heap, hw, hj, if_true]) k
theorem Xaald {a n : Nat} {C : String} {f : Nat → Option Nat} {j : Int32} (hc : x_code mi pc = some .aaload) (hw : w.2.2 a = some (.inl (.object C, n, .inr (.inr (.inr (.inr f)))))) (hj : x_in j n = true) (he : x_et (.object C) = true) (hp : pc + 1 = pc') (k : X o d mi pc' lv (va_rf (f j.toNatClampNeg) :: t) w Q) : X o d mi pc lv (.int j :: .ref a :: t) w Q := by
  subst hp
  exact X_heap hc rfl rfl (by simp only [x_heap, hw, hj, he, and_self, if_true]) k
theorem Xiast {a n : Nat} {f : Nat → Int32} {j x : Int32} (hc : x_code mi pc = some .iastore) (hw : w.2.2 a = some (.inl (.int, n, .inl f))) (hj : x_in j n = true) (hp : pc + 1 = pc') (k : X o d mi pc' lv t (x_set w a (.inl (.int, n, .inl (upd f j.toNatClampNeg x)))) Q) : X o d mi pc lv (.int x :: .int j :: .ref a :: t) w Q := by
  subst hp
  exact X_heap hc rfl rfl (by simp only [x_heap, hw, hj, if_true]) k
theorem Xlast {a n : Nat} {f : Nat → Int64} {j : Int32} {x : Int64} (hc : x_code mi pc = some .lastore) (hw : w.2.2 a = some (.inl (.long, n, .inr (.inl f)))) (hj : x_in j n = true) (hp : pc + 1 = pc') (k : X o d mi pc' lv t (x_set w a (.inl (.long, n, .inr (.inl (vp_updL f j.toNatClampNeg x))))) Q) : X o d mi pc lv (.long x :: .int j :: .ref a :: t) w Q := by
  subst hp
  exact X_heap hc rfl rfl (by simp only [x_heap, hw, hj, if_true]) k
theorem Xbast {a n : Nat} {f : Nat → Int32} {j x : Int32} (hc : x_code mi pc = some .bastore) (hw : w.2.2 a = some (.inl (.boolean, n, .inl f))) (hj : x_in j n = true) (hx : x = 0 ∨ x = 1) (hp : pc + 1 = pc') (k : X o d mi pc' lv t (x_set w a (.inl (.boolean, n, .inl (upd f j.toNatClampNeg x)))) Q) : X o d mi pc lv (.int x :: .int j :: .ref a :: t) w Q := by
  subst hp
  exact X_heap hc rfl rfl (by simp only [x_heap, hw, hj, hx, and_self, if_true]) k
theorem Xaast {a v n cj : Nat} {C : String} {fs : List Value} {f : Nat → Option Nat} {j : Int32} (hc : x_code mi pc = some .aastore) (hw : w.2.2 a = some (.inl (.object C, n, .inr (.inr (.inr (.inr f)))))) (hv : w.2.2 v = some (.inr (cj, fs))) (hj : x_in j n = true) (hcn : x_cn cj = some C) (he : x_et (.object C) = true) (hp : pc + 1 = pc') (k : X o d mi pc' lv t (x_set w a (.inl (.object C, n, .inr (.inr (.inr (.inr (va_up f j.toNatClampNeg (some v)))))))) Q) : X o d mi pc lv (.ref v :: .int j :: .ref a :: t) w Q := by
  subst hp
  exact X_heap hc rfl rfl (by simp only [x_heap, hw, hv, hj, hcn, he, and_self, if_true]) k
theorem Xalen {a n : Nat} {ty : FieldType} {x : (Nat → Int32) ⊕ (Nat → Int64) ⊕ (Nat → UInt32) ⊕ (Nat → UInt64) ⊕ (Nat → Option Nat)} (hc : x_code mi pc = some .arraylength) (hw : w.2.2 a = some (.inl (ty, n, x))) (he : x_et ty = true) (hp : pc + 1 = pc') (k : X o d mi pc' lv (.int (Int32.ofNat n) :: t) w Q) : X o d mi pc lv (.ref a :: t) w Q := by
  subst hp
  exact X_heap hc rfl rfl (by simp only [x_heap, hw, he, if_true]) k
theorem Xolen {a n : Nat} {f : Nat → Int32} (hc : x_code mi pc = some .arraylength) (hw : o a = some (n, f)) (hp : pc + 1 = pc') (k : X o d mi pc' lv (.int (Int32.ofNat n) :: t) w Q) : X o d mi pc lv (.retAddr a :: t) w Q := by
  subst hp
  exact X_heap hc rfl rfl (by simp only [x_heap, hw]) k
/-- what no cell decides: static fields, constants, new objects and arrays -/
theorem Xh (hc : x_code mi pc = some i) (ha : x_alu i st = none) (hl : x_loc i lv st = none) (h : x_heap o mi i st w = some (st', w')) (hp : pc + x_len i = pc') (k : X o d mi pc' lv st' w' Q) : X o d mi pc lv st w Q := by
  subst hp
  exact X_heap hc ha hl h k
theorem Xnewa {n : Int32} {N : Nat} {at_ : ArrayType} {x : X_C} (hc : x_code mi pc = some (.newarray at_)) (h0 : ¬ n < 0) (hN : n.toNatClampNeg = N) (hb : N * 8 ≤ 536870912) (hx : (match at_ with | .int => some (.inl (.int, N, .inl fun _ => 0)) | .long => some (.inl (.long, N, .inr (.inl fun _ => 0))) | .boolean => some (.inl (.boolean, N, .inl fun _ => 0)) | _ => none : Option X_C) = some x) (hp : pc + 2 = pc') (k : X o d mi pc' lv (.ref w.1 :: t) (x_new w N x) Q) : X o d mi pc lv (.int n :: t) w Q := by
  subst hp
  subst hN
  refine X_heap hc rfl rfl ?_ k
  simp only [x_heap]
  rw [if_pos ⟨h0, hb⟩]
  cases at_ <;> first | (cases hx; done) | (cases hx; rfl)
/-- a branch by a condition -/
theorem Xif {P : Prop} {dP : Decidable P} {off : Int} {tg : Nat} (hc : x_code mi pc = some i) (ha : x_alu i st = none) (hl : x_loc i lv st = none) (hh : x_heap o mi i st w = none) (h : x_brc i st = some (@decide P dP, off, st')) (hp : x_tgt pc off = tg) (hq : pc + 3 = pc') (k1 : P → X o d mi tg lv st' w Q) (k2 : ¬ P → X o d mi pc' lv st' w Q) : X o d mi pc lv st w Q := by
  subst hp
  subst hq
  exact X_br hc ha hl hh h (fun z => k1 (of_decide_eq_true z)) (fun z => k2 (of_decide_eq_false z))
/-- a branch that is known -/
theorem Xgo {off : Int} {tg : Nat} (hc : x_code mi pc = some i) (ha : x_alu i st = none) (hl : x_loc i lv st = none) (hh : x_heap o mi i st w = none) (h : x_brc i st = some (true, off, st')) (hp : x_tgt pc off = tg) (k : X o d mi tg lv st' w Q) : X o d mi pc lv st w Q := by
  subst hp
  exact X_br hc ha hl hh h (fun _ => k) (fun z => by cases z)
theorem Xno {off : Int} (hc : x_code mi pc = some i) (ha : x_alu i st = none) (hl : x_loc i lv st = none) (hh : x_heap o mi i st w = none) (h : x_brc i st = some (false, off, st')) (hp : pc + 3 = pc') (k : X o d mi pc' lv st' w Q) : X o d mi pc lv st w Q := by
  subst hp
  exact X_br hc ha hl hh h (fun z => by cases z) (fun _ => k)
theorem Xsw {off : Int} {tg : Nat} (hc : x_code mi pc = some i) (ha : x_alu i st = none) (hl : x_loc i lv st = none) (hh : x_heap o mi i st w = none) (hb : x_brc i st = none) (h : x_swt i st = some (off, st')) (hp : x_tgt pc off = tg) (k : X o d mi tg lv st' w Q) : X o d mi pc lv st w Q := by
  subst hp
  exact X_sw hc ha hl hh hb h k
/-- a call: what the callee's run gives is what comes behind -/
theorem Xcall {it idx kd y na : Nat} {as rest : List Value} {Q1 : X_H → Option Value → Prop} (hc : x_code mi pc = some i) (ha : x_alu i st = none) (hl : x_loc i lv st = none) (hh : x_heap o mi i st w = none) (hb : x_brc i st = none) (hs : x_swt i st = none) (hr : x_rets i (x_ret mi) st = none) (hi : x_inv i = some (it, idx)) (hm : x_mth mi idx = some (kd, y, na)) (ht : x_kt kd = it) (h6 : kd < 6) (hargs : x_args kd y na st w = some (as, rest)) (hrest : (rest.map fun v => v.category).sum ≤ 8 ∧ (as.map fun v => v.category).sum ≤ x_mL y) (hp : pc + 3 = pc')
    (k : X o d y 0 (lv_args 0 as) [] w Q1) (k2 : ∀ w1 r, Q1 w1 r → X o (d + 1) mi pc' lv (r.toList ++ rest) w1 Q) : X o (d + 1) mi pc lv st w Q := by
  subst hp
  exact X_call hc ha hl hh hb hs hr hi hm ht h6 hargs hrest (k.mono k2)
end XQ
