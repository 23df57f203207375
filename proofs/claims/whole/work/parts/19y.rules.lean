/-! THE ABSTRACT MACHINE OVER THE FLAT STORE: Y .. Q: from here it returns, the store and the answer with Q -/
def Y (o : X_O) (d mi pc : Nat) (lv : X_L) (st : List Value) (s : Y_S) (Q : Y_S → Option Value → Prop) : Prop := X o d mi pc lv st (y_w s) fun w r => ∃ s', w = y_w s' ∧ Q s' r
section YQ
variable {o : X_O} {d mi pc pc' : Nat} {lv lv' : X_L} {st st' t : List Value} {s : Y_S} {Q : Y_S → Option Value → Prop} {i : Instr}
theorem Ya (hc : x_code mi pc = some i) (h : x_alu i st = some st') (hp : pc + x_len i = pc') (k : Y o d mi pc' lv st' s Q) : Y o d mi pc lv st s Q := Xa hc h hp k
theorem Yl (hc : x_code mi pc = some i) (ha : x_alu i st = none) (h : x_loc i lv st = some (lv', st')) (hp : pc + x_len i = pc') (k : Y o d mi pc' lv' st' s Q) : Y o d mi pc lv st s Q := Xl hc ha h hp k
theorem Yif {P : Prop} {dP : Decidable P} {off : Int} {tg : Nat} (hc : x_code mi pc = some i) (ha : x_alu i st = none) (hl : x_loc i lv st = none) (hh : x_heap o mi i st (y_w s) = none) (h : x_brc i st = some (@decide P dP, off, st')) (hp : x_tgt pc off = tg) (hq : pc + 3 = pc') (k1 : P → Y o d mi tg lv st' s Q) (k2 : ¬ P → Y o d mi pc' lv st' s Q) : Y o d mi pc lv st s Q := Xif hc ha hl hh h hp hq k1 k2
theorem Ygo {off : Int} {tg : Nat} (hc : x_code mi pc = some i) (ha : x_alu i st = none) (hl : x_loc i lv st = none) (hh : x_heap o mi i st (y_w s) = none) (h : x_brc i st = some (true, off, st')) (hp : x_tgt pc off = tg) (k : Y o d mi tg lv st' s Q) : Y o d mi pc lv st s Q := Xgo hc ha hl hh h hp k
theorem Yno {off : Int} (hc : x_code mi pc = some i) (ha : x_alu i st = none) (hl : x_loc i lv st = none) (hh : x_heap o mi i st (y_w s) = none) (h : x_brc i st = some (false, off, st')) (hp : pc + 3 = pc') (k : Y o d mi pc' lv st' s Q) : Y o d mi pc lv st s Q := Xno hc ha hl hh h hp k
theorem Ysw {off : Int} {tg : Nat} (hc : x_code mi pc = some i) (ha : x_alu i st = none) (hl : x_loc i lv st = none) (hh : x_heap o mi i st (y_w s) = none) (hb : x_brc i st = none) (h : x_swt i st = some (off, st')) (hp : x_tgt pc off = tg) (k : Y o d mi tg lv st' s Q) : Y o d mi pc lv st s Q := Xsw hc ha hl hh hb h hp k
theorem Yret {r : Option Value} (hc : x_code mi pc = some i) (ha : x_alu i st = none) (hl : x_loc i lv st = none) (hh : x_heap o mi i st (y_w s) = none) (hb : x_brc i st = none) (hs : x_swt i st = none) (h : x_rets i (x_ret mi) st = some r) (k : Q s r) : Y o d mi pc lv st s Q := X_ret hc ha hl hh hb hs h ⟨s, rfl, k⟩
theorem Ycall {it idx kd y na : Nat} {as rest : List Value} {Q1 : Y_S → Option Value → Prop} (hc : x_code mi pc = some i) (ha : x_alu i st = none) (hl : x_loc i lv st = none) (hh : x_heap o mi i st (y_w s) = none) (hb : x_brc i st = none) (hs : x_swt i st = none) (hr : x_rets i (x_ret mi) st = none) (hi : x_inv i = some (it, idx)) (hm : x_mth mi idx = some (kd, y, na)) (ht : x_kt kd = it) (h6 : kd < 6) (hargs : x_args kd y na st (y_w s) = some (as, rest)) (hrest : (rest.map fun v => v.category).sum ≤ 8 ∧ (as.map fun v => v.category).sum ≤ x_mL y) (hp : pc + 3 = pc')
    (k : Y o d y 0 (lv_args 0 as) [] s Q1) (k2 : ∀ s1 r, Q1 s1 r → Y o (d + 1) mi pc' lv (r.toList ++ rest) s1 Q) : Y o (d + 1) mi pc lv st s Q :=
  Xcall hc ha hl hh hb hs hr hi hm ht h6 hargs hrest hp k (fun w1 r h => by
    obtain ⟨s1, e, h1⟩ := h
    subst e
    exact k2 s1 r h1)
theorem Y.mono {Q' : Y_S → Option Value → Prop} (h : Y o d mi pc lv st s Q) (hq : ∀ s r, Q s r → Q' s r) : Y o d mi pc lv st s Q' := X.mono h (fun w r z => by
  obtain ⟨s1, e, h1⟩ := z
  exact ⟨s1, e, hq _ _ h1⟩)
/-- an int field -/
theorem Ygeti {a ci f idx : Nat} {fs : List (Option Value)} (hc : x_code mi pc = some (.getfield idx)) (hf : x_fld mi idx = some (ci, f)) (hw : s.2.2.1 a = some (.inr (ci, fs))) (hv : fs[f]? = some none) (hp : pc + 3 = pc') (k : Y o d mi pc' lv (.int (s.2.2.2.1 a f) :: t) s Q) : Y o d mi pc lv (.ref a :: t) s Q :=
  Xgetf hc hf (y_w_at hw) (by rw [y_fl_at, hv, Nat.zero_add]; rfl) hp k
/-- a field that holds a reference -/
theorem Ygetr {a ci f idx : Nat} {fs : List (Option Value)} {v : Value} (hc : x_code mi pc = some (.getfield idx)) (hf : x_fld mi idx = some (ci, f)) (hw : s.2.2.1 a = some (.inr (ci, fs))) (hv : fs[f]? = some (some v)) (hp : pc + 3 = pc') (k : Y o d mi pc' lv (v :: t) s Q) : Y o d mi pc lv (.ref a :: t) s Q :=
  Xgetf hc hf (y_w_at hw) (by rw [y_fl_at, hv]; rfl) hp k
theorem Yputi {a ci f idx : Nat} {fs : List (Option Value)} {v : Int32} (hc : x_code mi pc = some (.putfield idx)) (hf : x_fld mi idx = some (ci, f)) (hw : s.2.2.1 a = some (.inr (ci, fs))) (hv : fs[f]? = some none) (hg : x_fit (x_fty ci f) (.int v) = true ∧ x_pok mi ci f = true) (hp : pc + 3 = pc') (k : Y o d mi pc' lv t (y_setI s a f v) Q) : Y o d mi pc lv (.int v :: .ref a :: t) s Q := by
  refine Xputf hc hf (y_w_at hw) ⟨by rw [y_fl_len]; exact (List.getElem?_eq_some_iff.mp hv).1, hg⟩ hp ?_
  rw [y_fl_int hv]
  have e := y_setI_w (s := s) (j := f) (v := v) hw
  exact e ▸ k
theorem Yputr {a ci f idx : Nat} {fs : List (Option Value)} {u v : Value} (hc : x_code mi pc = some (.putfield idx)) (hf : x_fld mi idx = some (ci, f)) (hw : s.2.2.1 a = some (.inr (ci, fs))) (hv : fs[f]? = some (some u)) (hg : x_fit (x_fty ci f) v = true ∧ x_pok mi ci f = true) (hp : pc + 3 = pc') (k : Y o d mi pc' lv t (y_setT s a (.inr (ci, fs.set f (some v)))) Q) : Y o d mi pc lv (v :: .ref a :: t) s Q := by
  refine Xputf hc hf (y_w_at hw) ⟨by rw [y_fl_len]; exact (List.getElem?_eq_some_iff.mp hv).1, hg⟩ hp ?_
  rw [y_fl_ref hv]
  have e := y_setT_w (s := s) (a := a) (t := .inr (ci, fs.set f (some v)))
  exact e ▸ k
theorem Yiald {a n : Nat} {g : Nat → Option Nat} {j : Int32} (hc : x_code mi pc = some .iaload) (hw : s.2.2.1 a = some (.inl (.int, n, g))) (hj : x_in j n = true) (hp : pc + 1 = pc') (k : Y o d mi pc' lv (.int (s.2.2.2.1 a j.toNatClampNeg) :: t) s Q) : Y o d mi pc lv (.int j :: .ref a :: t) s Q := Xiald hc (y_w_at hw) hj hp k
theorem Yoald {a n : Nat} {f : Nat → Int32} {j : Int32} (hc : x_code mi pc = some .iaload) (hw : o a = some (n, f)) (hj : x_in j n = true) (hp : pc + 1 = pc') (k : Y o d mi pc' lv (.int (f j.toNatClampNeg) :: t) s Q) : Y o d mi pc lv (.int j :: .retAddr a :: t) s Q := Xoald hc hw hj hp k
theorem Ylald {a n : Nat} {g : Nat → Option Nat} {j : Int32} (hc : x_code mi pc = some .laload) (hw : s.2.2.1 a = some (.inl (.long, n, g))) (hj : x_in j n = true) (hp : pc + 1 = pc') (k : Y o d mi pc' lv (.long (s.2.2.2.2 a j.toNatClampNeg) :: t) s Q) : Y o d mi pc lv (.int j :: .ref a :: t) s Q := Xlald hc (y_w_at hw) hj hp k
theorem Ybald {a n : Nat} {g : Nat → Option Nat} {j : Int32} (hc : x_code mi pc = some .baload) (hw : s.2.2.1 a = some (.inl (.boolean, n, g))) (hj : x_in j n = true) (hp : pc + 1 = pc') (k : Y o d mi pc' lv (.int (s.2.2.2.1 a j.toNatClampNeg) :: t) s Q) : Y o d mi pc lv (.int j :: .ref a :: t) s Q := Xbald hc (y_w_at hw) hj hp k
theorem Yaald {a n : Nat} {C : String} {g : Nat → Option Nat} {j : Int32} (hc : x_code mi pc = some .aaload) (hw : s.2.2.1 a = some (.inl (.object C, n, g))) (hj : x_in j n = true) (he : x_et (.object C) = true) (hp : pc + 1 = pc') (k : Y o d mi pc' lv (va_rf (g j.toNatClampNeg) :: t) s Q) : Y o d mi pc lv (.int j :: .ref a :: t) s Q := Xaald hc (y_w_at hw) hj he hp k
theorem Yiast {a n : Nat} {g : Nat → Option Nat} {j x : Int32} (hc : x_code mi pc = some .iastore) (hw : s.2.2.1 a = some (.inl (.int, n, g))) (hj : x_in j n = true) (hp : pc + 1 = pc') (k : Y o d mi pc' lv t (y_setI s a j.toNatClampNeg x) Q) : Y o d mi pc lv (.int x :: .int j :: .ref a :: t) s Q :=
  Xiast hc (y_w_at hw) hj hp ((y_setI_w (s := s) (j := j.toNatClampNeg) (v := x) hw) ▸ k)
theorem Ylast {a n : Nat} {g : Nat → Option Nat} {j : Int32} {x : Int64} (hc : x_code mi pc = some .lastore) (hw : s.2.2.1 a = some (.inl (.long, n, g))) (hj : x_in j n = true) (hp : pc + 1 = pc') (k : Y o d mi pc' lv t (y_setL s a j.toNatClampNeg x) Q) : Y o d mi pc lv (.long x :: .int j :: .ref a :: t) s Q :=
  Xlast hc (y_w_at hw) hj hp ((y_setL_w (s := s) (j := j.toNatClampNeg) (v := x) hw) ▸ k)
theorem Ybast {a n : Nat} {g : Nat → Option Nat} {j x : Int32} (hc : x_code mi pc = some .bastore) (hw : s.2.2.1 a = some (.inl (.boolean, n, g))) (hj : x_in j n = true) (hx : x = 0 ∨ x = 1) (hp : pc + 1 = pc') (k : Y o d mi pc' lv t (y_setI s a j.toNatClampNeg x) Q) : Y o d mi pc lv (.int x :: .int j :: .ref a :: t) s Q :=
  Xbast hc (y_w_at hw) hj hx hp ((y_setI_w (s := s) (j := j.toNatClampNeg) (v := x) hw) ▸ k)
theorem Yaast {a v n cj : Nat} {C : String} {fs : List (Option Value)} {g : Nat → Option Nat} {j : Int32} (hc : x_code mi pc = some .aastore) (hw : s.2.2.1 a = some (.inl (.object C, n, g))) (hv : s.2.2.1 v = some (.inr (cj, fs))) (hj : x_in j n = true) (hcn : x_cn cj = some C) (he : x_et (.object C) = true) (hp : pc + 1 = pc') (k : Y o d mi pc' lv t (y_setT s a (.inl (.object C, n, va_up g j.toNatClampNeg (some v)))) Q) : Y o d mi pc lv (.ref v :: .int j :: .ref a :: t) s Q :=
  Xaast hc (y_w_at hw) (y_w_at hv) hj hcn he hp ((y_setT_w (s := s) (a := a) (t := .inl (.object C, n, va_up g j.toNatClampNeg (some v)))) ▸ k)
theorem Yalen {a n : Nat} {ty : FieldType} {g : Nat → Option Nat} (hc : x_code mi pc = some .arraylength) (hw : s.2.2.1 a = some (.inl (ty, n, g))) (he : x_et ty = true) (hp : pc + 1 = pc') (k : Y o d mi pc' lv (.int (Int32.ofNat n) :: t) s Q) : Y o d mi pc lv (.ref a :: t) s Q := by
  have h : ∃ x, (y_w s).2.2 a = some (.inl (ty, n, x)) := by
    rw [y_w_at hw]
    cases ty <;> exact ⟨_, rfl⟩
  obtain ⟨x, h⟩ := h
  exact Xalen hc h he hp k
theorem Yolen {a n : Nat} {f : Nat → Int32} (hc : x_code mi pc = some .arraylength) (hw : o a = some (n, f)) (hp : pc + 1 = pc') (k : Y o d mi pc' lv (.int (Int32.ofNat n) :: t) s Q) : Y o d mi pc lv (.retAddr a :: t) s Q := Xolen hc hw hp k
/-- constants, static fields: the store stays -/
theorem Yk {v : Value} (hc : x_code mi pc = some i) (ha : x_alu i st = none) (hl : x_loc i lv st = none) (h : x_heap o mi i st (y_w s) = some (v :: st, y_w s)) (hp : pc + x_len i = pc') (k : Y o d mi pc' lv (v :: st) s Q) : Y o d mi pc lv st s Q := Xh hc ha hl h hp k
theorem Ynewa {n : Int32} {N : Nat} {at_ : ArrayType} {ty : FieldType} (hc : x_code mi pc = some (.newarray at_)) (h0 : ¬ n < 0) (hN : n.toNatClampNeg = N) (hb : N * 8 ≤ 536870912) (hx : (match at_ with | .int => some .int | .long => some .long | .boolean => some .boolean | _ => none : Option FieldType) = some ty) (hp : pc + 2 = pc') (k : Y o d mi pc' lv (.ref s.1 :: t) (y_new s N (.inl (ty, N, fun _ => none))) Q) : Y o d mi pc lv (.int n :: t) s Q := by
  refine Xnewa (x := y_c (fun _ => 0) (fun _ => 0) (.inl (ty, N, fun _ => none))) hc h0 hN hb ?_ hp ?_
  · cases at_ <;> first | (cases hx; done) | (cases hx; rfl)
  · exact (y_new_w (s := s) (sl := N) (t := .inl (ty, N, fun _ => none))) ▸ k
end YQ
