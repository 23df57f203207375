/-! MORE RULES: Object's constructor, System.arraycopy, Math.min, new objects, arrays of objects -/
section YM
variable {o : X_O} {d mi pc pc' : Nat} {lv : X_L} {st t : List Value} {w w' : X_H} {s : Y_S} {QX : X_H → Option Value → Prop} {Q : Y_S → Option Value → Prop}
theorem X6 {a idx y na : Nat} (hc : x_code mi pc = some (.invokespecial idx)) (hm : x_mth mi idx = some (6, y, na)) (ht : (t.map fun v => v.category).sum ≤ 8) (hp : pc + 3 = pc') (k : X o (d + 1) mi pc' lv t w QX) : X o (d + 1) mi pc lv (.ref a :: t) w QX := by
  subst hp
  obtain ⟨n, w', r, hn, hq⟩ := k
  refine ⟨n + 1, w', r, ?_, hq⟩
  have e1 : x_alu (.invokespecial idx) (.ref a :: t) = none := rfl
  have e2 : x_loc (.invokespecial idx) lv (.ref a :: t) = none := rfl
  have e3 : x_heap o mi (.invokespecial idx) (.ref a :: t) w = none := rfl
  have e4 : x_brc (.invokespecial idx) (.ref a :: t) = none := rfl
  have e5 : x_swt (.invokespecial idx) (.ref a :: t) = none := rfl
  have e6 : x_rets (.invokespecial idx) (x_ret mi) (.ref a :: t) = none := rfl
  have e7 : x_inv (.invokespecial idx) = some (1, idx) := rfl
  simp only [x_run, x_G, hc, e1, e2, e3, e4, e5, e6, e7, hm]
  rw [if_neg (by decide), if_pos trivial, if_pos ⟨ht, Nat.le_add_left 1 d⟩]
  exact hn
theorem X7 {idx y na : Nat} (hc : x_code mi pc = some (.invokestatic idx)) (hm : x_mth mi idx = some (7, y, na)) (hcp : x_acopy st w = some (t, w')) (ht : (t.map fun v => v.category).sum ≤ 8) (hp : pc + 3 = pc') (k : X o (d + 1) mi pc' lv t w' QX) : X o (d + 1) mi pc lv st w QX := by
  subst hp
  obtain ⟨n, w'', r, hn, hq⟩ := k
  refine ⟨n + 1, w'', r, ?_, hq⟩
  have e1 : x_alu (.invokestatic idx) st = none := rfl
  have e2 : x_loc (.invokestatic idx) lv st = none := rfl
  have e3 : x_heap o mi (.invokestatic idx) st w = none := rfl
  have e4 : x_brc (.invokestatic idx) st = none := rfl
  have e5 : x_swt (.invokestatic idx) st = none := rfl
  have e6 : x_rets (.invokestatic idx) (x_ret mi) st = none := rfl
  have e7 : x_inv (.invokestatic idx) = some (2, idx) := rfl
  simp only [x_run, x_G, hc, e1, e2, e3, e4, e5, e6, e7, hm, hcp]
  rw [if_neg (by decide), if_neg (by decide), if_pos trivial, if_pos ⟨ht, Nat.le_add_left 1 d⟩]
  exact hn
theorem X8 {x y : Int32} {idx y9 na : Nat} (hc : x_code mi pc = some (.invokestatic idx)) (hm : x_mth mi idx = some (8, y9, na)) (ht : (t.map fun v => v.category).sum ≤ 8) (hp : pc + 3 = pc') (k : X o (d + 1) mi pc' lv (.int (if y < x then y else x) :: t) w QX) : X o (d + 1) mi pc lv (.int y :: .int x :: t) w QX := by
  subst hp
  obtain ⟨n, w'', r, hn, hq⟩ := k
  refine ⟨n + 1, w'', r, ?_, hq⟩
  have e1 : x_alu (.invokestatic idx) (.int y :: .int x :: t) = none := rfl
  have e2 : x_loc (.invokestatic idx) lv (.int y :: .int x :: t) = none := rfl
  have e3 : x_heap o mi (.invokestatic idx) (.int y :: .int x :: t) w = none := rfl
  have e4 : x_brc (.invokestatic idx) (.int y :: .int x :: t) = none := rfl
  have e5 : x_swt (.invokestatic idx) (.int y :: .int x :: t) = none := rfl
  have e6 : x_rets (.invokestatic idx) (x_ret mi) (.int y :: .int x :: t) = none := rfl
  have e7 : x_inv (.invokestatic idx) = some (2, idx) := rfl
  simp only [x_run, x_G, hc, e1, e2, e3, e4, e5, e6, e7, hm]
  rw [if_neg (by decide), if_neg (by decide), if_neg (by decide), if_pos trivial, if_pos ⟨ht, Nat.le_add_left 1 d⟩]
  exact hn
theorem X9 {idx y na : Nat} (hc : x_code mi pc = some (.invokestatic idx)) (hm : x_mth mi idx = some (9, y, na)) (hcp : x_tab o st w = some (t, w')) (ht : (t.map fun v => v.category).sum ≤ 8) (hd : 12 ≤ d) (hp : pc + 3 = pc') (k : X o d mi pc' lv t w' QX) : X o d mi pc lv st w QX := by
  subst hp
  obtain ⟨n, w'', r, hn, hq⟩ := k
  refine ⟨n + 1, w'', r, ?_, hq⟩
  have e1 : x_alu (.invokestatic idx) st = none := rfl
  have e2 : x_loc (.invokestatic idx) lv st = none := rfl
  have e3 : x_heap o mi (.invokestatic idx) st w = none := rfl
  have e4 : x_brc (.invokestatic idx) st = none := rfl
  have e5 : x_swt (.invokestatic idx) st = none := rfl
  have e6 : x_rets (.invokestatic idx) (x_ret mi) st = none := rfl
  have e7 : x_inv (.invokestatic idx) = some (2, idx) := rfl
  simp only [x_run, x_G, hc, e1, e2, e3, e4, e5, e6, e7, hm, hcp]
  rw [if_neg (by decide), if_neg (by decide), if_neg (by decide), if_neg (by decide), if_pos trivial, if_pos ⟨ht, hd⟩]
  exact hn
theorem Y6 {a idx y na : Nat} (hc : x_code mi pc = some (.invokespecial idx)) (hm : x_mth mi idx = some (6, y, na)) (ht : (t.map fun v => v.category).sum ≤ 8) (hp : pc + 3 = pc') (k : Y o (d + 1) mi pc' lv t s Q) : Y o (d + 1) mi pc lv (.ref a :: t) s Q := X6 hc hm ht hp k
theorem Y8 {x y : Int32} {idx y9 na : Nat} (hc : x_code mi pc = some (.invokestatic idx)) (hm : x_mth mi idx = some (8, y9, na)) (ht : (t.map fun v => v.category).sum ≤ 8) (hp : pc + 3 = pc') (k : Y o (d + 1) mi pc' lv (.int (if y < x then y else x) :: t) s Q) : Y o (d + 1) mi pc lv (.int y :: .int x :: t) s Q := X8 hc hm ht hp k
/-- copying: n places from sp of a cell to dp of another -/
def y_cpyI (s : Y_S) (a0 a1 sp dp n : Nat) : Y_S := (s.1, s.2.1, s.2.2.1, (fun k => if k = a1 then va_cpy (s.2.2.2.1 a0) (s.2.2.2.1 a1) sp dp n else s.2.2.2.1 k), s.2.2.2.2)
def y_cpyL (s : Y_S) (a0 a1 sp dp n : Nat) : Y_S := (s.1, s.2.1, s.2.2.1, s.2.2.2.1, fun k => if k = a1 then va_cpy (s.2.2.2.2 a0) (s.2.2.2.2 a1) sp dp n else s.2.2.2.2 k)
theorem y_cpyI_w {s : Y_S} {a0 a1 sp dp n n1 : Nat} {g : Nat → Option Nat} (h : s.2.2.1 a1 = some (.inl (.int, n1, g))) : x_set (y_w s) a1 (.inl (.int, n1, .inl (va_cpy (s.2.2.2.1 a0) (s.2.2.2.1 a1) sp dp n))) = y_w (y_cpyI s a0 a1 sp dp n) := by
  refine y_eqw rfl rfl fun k => ?_
  show x_up (y_w s).2.2 a1 _ k = (s.2.2.1 k).map (y_c (if k = a1 then va_cpy (s.2.2.2.1 a0) (s.2.2.2.1 a1) sp dp n else s.2.2.2.1 k) (s.2.2.2.2 k))
  unfold x_up
  by_cases e : k = a1
  · subst e
    rw [if_pos rfl, if_pos rfl, h]
    rfl
  · rw [if_neg e, if_neg e]
    rfl
theorem y_cpyL_w {s : Y_S} {a0 a1 sp dp n n1 : Nat} {g : Nat → Option Nat} (h : s.2.2.1 a1 = some (.inl (.long, n1, g))) : x_set (y_w s) a1 (.inl (.long, n1, .inr (.inl (va_cpy (s.2.2.2.2 a0) (s.2.2.2.2 a1) sp dp n)))) = y_w (y_cpyL s a0 a1 sp dp n) := by
  refine y_eqw rfl rfl fun k => ?_
  show x_up (y_w s).2.2 a1 _ k = (s.2.2.1 k).map (y_c (s.2.2.2.1 k) (if k = a1 then va_cpy (s.2.2.2.2 a0) (s.2.2.2.2 a1) sp dp n else s.2.2.2.2 k))
  unfold x_up
  by_cases e : k = a1
  · subst e
    rw [if_pos rfl, if_pos rfl, h]
    rfl
  · rw [if_neg e, if_neg e]
    rfl
theorem Y7i {a0 a1 n0 n1 idx y na : Nat} {g0 g1 : Nat → Option Nat} {n sp dp : Int32} (hc : x_code mi pc = some (.invokestatic idx)) (hm : x_mth mi idx = some (7, y, na)) (h0 : s.2.2.1 a0 = some (.inl (.int, n0, g0))) (h1 : s.2.2.1 a1 = some (.inl (.int, n1, g1))) (hn : ¬ sp < 0 ∧ ¬ dp < 0 ∧ ¬ n < 0) (hle : sp.toNatClampNeg + n.toNatClampNeg ≤ n0 ∧ dp.toNatClampNeg + n.toNatClampNeg ≤ n1) (ht : (t.map fun v => v.category).sum ≤ 8) (hp : pc + 3 = pc') (k : Y o (d + 1) mi pc' lv t (y_cpyI s a0 a1 sp.toNatClampNeg dp.toNatClampNeg n.toNatClampNeg) Q) : Y o (d + 1) mi pc lv (.int n :: .int dp :: .ref a1 :: .int sp :: .ref a0 :: t) s Q := by
  have e0 : (y_w s).2.2 a0 = some (.inl (.int, n0, .inl (s.2.2.2.1 a0))) := y_w_at h0
  have e1 : (y_w s).2.2 a1 = some (.inl (.int, n1, .inl (s.2.2.2.1 a1))) := y_w_at h1
  refine X7 (w' := y_w (y_cpyI s a0 a1 sp.toNatClampNeg dp.toNatClampNeg n.toNatClampNeg)) hc hm ?_ ht hp k
  rw [← y_cpyI_w h1]
  simp only [x_acopy, e0, e1]
  rw [if_pos hn, if_pos hle]
theorem Y7l {a0 a1 n0 n1 idx y na : Nat} {g0 g1 : Nat → Option Nat} {n sp dp : Int32} (hc : x_code mi pc = some (.invokestatic idx)) (hm : x_mth mi idx = some (7, y, na)) (h0 : s.2.2.1 a0 = some (.inl (.long, n0, g0))) (h1 : s.2.2.1 a1 = some (.inl (.long, n1, g1))) (hn : ¬ sp < 0 ∧ ¬ dp < 0 ∧ ¬ n < 0) (hle : sp.toNatClampNeg + n.toNatClampNeg ≤ n0 ∧ dp.toNatClampNeg + n.toNatClampNeg ≤ n1) (ht : (t.map fun v => v.category).sum ≤ 8) (hp : pc + 3 = pc') (k : Y o (d + 1) mi pc' lv t (y_cpyL s a0 a1 sp.toNatClampNeg dp.toNatClampNeg n.toNatClampNeg) Q) : Y o (d + 1) mi pc lv (.int n :: .int dp :: .ref a1 :: .int sp :: .ref a0 :: t) s Q := by
  have e0 : (y_w s).2.2 a0 = some (.inl (.long, n0, .inr (.inl (s.2.2.2.2 a0)))) := y_w_at h0
  have e1 : (y_w s).2.2 a1 = some (.inl (.long, n1, .inr (.inl (s.2.2.2.2 a1)))) := y_w_at h1
  refine X7 (w' := y_w (y_cpyL s a0 a1 sp.toNatClampNeg dp.toNatClampNeg n.toNatClampNeg)) hc hm ?_ ht hp k
  rw [← y_cpyL_w h1]
  simp only [x_acopy, e0, e1]
  rw [if_pos hn, if_pos hle]
/-- a new object: its fields in the shape's words -/
theorem Ynew {ci idx : Nat} {fs : List (Option Value)} (hc : x_code mi pc = some (.new idx)) (hcl : x_cls mi idx = some ci) (hfs : y_fl (fun _ => 0) 0 fs = x_dfl ci) (hp : pc + 3 = pc') (k : Y o d mi pc' lv (.ref s.1 :: st) (y_new s (x_dfl ci).length (.inr (ci, fs))) Q) : Y o d mi pc lv st s Q := by
  refine Xh (st' := .ref (y_w s).1 :: st) (w' := x_new (y_w s) (x_dfl ci).length (.inr (ci, x_dfl ci))) hc rfl rfl (by simp only [x_heap, hcl]) hp ?_
  have e := y_new_w (s := s) (sl := (x_dfl ci).length) (t := .inr (ci, fs))
  rw [show y_c (fun _ => 0) (fun _ => 0) (.inr (ci, fs)) = .inr (ci, x_dfl ci) from congrArg (fun z => Sum.inr (ci, z)) hfs] at e
  exact e ▸ k
theorem Yanew {ci idx N : Nat} {n : Int32} {C : String} (hc : x_code mi pc = some (.anewarray idx)) (hcl : x_cls mi idx = some ci) (hcn : x_cn ci = some C) (he : x_et (.object C) = true) (h0 : ¬ n < 0) (hN : n.toNatClampNeg = N) (hb : N * 4 ≤ 536870912) (hp : pc + 3 = pc') (k : Y o d mi pc' lv (.ref s.1 :: t) (y_new s N (.inl (.object C, N, fun _ => none))) Q) : Y o d mi pc lv (.int n :: t) s Q := by
  subst hN
  refine Xh (st' := .ref (y_w s).1 :: t) (w' := x_new (y_w s) n.toNatClampNeg (.inl (.object C, n.toNatClampNeg, .inr (.inr (.inr (.inr fun _ => none)))))) hc rfl rfl (by simp only [x_heap, hcl, hcn]; rw [if_pos ⟨h0, hb, he⟩]) hp ?_
  exact (y_new_w (s := s) (sl := n.toNatClampNeg) (t := .inl (.object C, n.toNatClampNeg, fun _ => none))) ▸ k
end YM
