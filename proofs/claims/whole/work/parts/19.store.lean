/-! THE FLAT STORE: an abstract heap as a shape (what each cell is, what its references are) and numbers (I: ints by cell and place, L: longs). y_w makes the heap of it. -/
abbrev Y_T : Type := (FieldType × Nat × (Nat → Option Nat)) ⊕ (Nat × List (Option Value))
abbrev Y_S : Type := Nat × Nat × (Nat → Option Y_T) × (Nat → Nat → Int32) × (Nat → Nat → Int64)
def y_fl (I : Nat → Int32) : Nat → List (Option Value) → List Value
  | _, [] => []
  | j, some v :: t => v :: y_fl I (j + 1) t
  | j, none :: t => .int (I j) :: y_fl I (j + 1) t
def y_c (I : Nat → Int32) (L : Nat → Int64) : Y_T → X_C
  | .inl (.long, n, _) => .inl (.long, n, .inr (.inl L))
  | .inl (.object C, n, f) => .inl (.object C, n, .inr (.inr (.inr (.inr f))))
  | .inl (ty, n, _) => .inl (ty, n, .inl I)
  | .inr (ci, fs) => .inr (ci, y_fl I 0 fs)
def y_w (s : Y_S) : X_H := (s.1, s.2.1, fun k => (s.2.2.1 k).map (y_c (s.2.2.2.1 k) (s.2.2.2.2 k)))
def y_upI (I : Nat → Nat → Int32) (a j : Nat) (v : Int32) : Nat → Nat → Int32 := fun k => if k = a then upd (I a) j v else I k
def y_upL (L : Nat → Nat → Int64) (a j : Nat) (v : Int64) : Nat → Nat → Int64 := fun k => if k = a then vp_updL (L a) j v else L k
def y_upT (T : Nat → Option Y_T) (a : Nat) (t : Y_T) : Nat → Option Y_T := fun k => if k = a then some t else T k
def y_setI (s : Y_S) (a j : Nat) (v : Int32) : Y_S := (s.1, s.2.1, s.2.2.1, y_upI s.2.2.2.1 a j v, s.2.2.2.2)
def y_setL (s : Y_S) (a j : Nat) (v : Int64) : Y_S := (s.1, s.2.1, s.2.2.1, s.2.2.2.1, y_upL s.2.2.2.2 a j v)
def y_setT (s : Y_S) (a : Nat) (t : Y_T) : Y_S := (s.1, s.2.1, y_upT s.2.2.1 a t, s.2.2.2.1, s.2.2.2.2)
/-- a new cell: all its numbers are 0 -/
def y_new (s : Y_S) (sl : Nat) (t : Y_T) : Y_S := (s.1 + 1, s.2.1 + sl, y_upT s.2.2.1 s.1 t, (fun k => if k = s.1 then fun _ => 0 else s.2.2.2.1 k), (fun k => if k = s.1 then fun _ => 0 else s.2.2.2.2 k))
theorem y_w_at {s : Y_S} {a : Nat} {t : Y_T} (h : s.2.2.1 a = some t) : (y_w s).2.2 a = some (y_c (s.2.2.2.1 a) (s.2.2.2.2 a) t) := by
  show (s.2.2.1 a).map _ = _
  rw [h]
  rfl
theorem y_eqw {w : X_H} {s : Y_S} (h1 : w.1 = s.1) (h2 : w.2.1 = s.2.1) (h3 : ∀ k, w.2.2 k = (y_w s).2.2 k) : w = y_w s := by
  obtain ⟨a, b, f⟩ := w
  obtain ⟨a2, b2, r⟩ := s
  cases h1
  cases h2
  exact congrArg (fun z => (a, b, z)) (funext h3)
theorem y_setI_w {s : Y_S} {a j : Nat} {v : Int32} {t : Y_T} (h : s.2.2.1 a = some t) : x_set (y_w s) a (y_c (upd (s.2.2.2.1 a) j v) (s.2.2.2.2 a) t) = y_w (y_setI s a j v) := by
  refine y_eqw rfl rfl fun k => ?_
  show x_up (y_w s).2.2 a _ k = (s.2.2.1 k).map (y_c (y_upI s.2.2.2.1 a j v k) (s.2.2.2.2 k))
  unfold x_up y_upI
  by_cases e : k = a
  · subst e
    rw [if_pos rfl, if_pos rfl, h]
    rfl
  · rw [if_neg e, if_neg e]
    rfl
theorem y_setL_w {s : Y_S} {a j : Nat} {v : Int64} {t : Y_T} (h : s.2.2.1 a = some t) : x_set (y_w s) a (y_c (s.2.2.2.1 a) (vp_updL (s.2.2.2.2 a) j v) t) = y_w (y_setL s a j v) := by
  refine y_eqw rfl rfl fun k => ?_
  show x_up (y_w s).2.2 a _ k = (s.2.2.1 k).map (y_c (s.2.2.2.1 k) (y_upL s.2.2.2.2 a j v k))
  unfold x_up y_upL
  by_cases e : k = a
  · subst e
    rw [if_pos rfl, if_pos rfl, h]
    rfl
  · rw [if_neg e, if_neg e]
    rfl
theorem y_setT_w {s : Y_S} {a : Nat} {t : Y_T} : x_set (y_w s) a (y_c (s.2.2.2.1 a) (s.2.2.2.2 a) t) = y_w (y_setT s a t) := by
  refine y_eqw rfl rfl fun k => ?_
  show x_up (y_w s).2.2 a _ k = (y_upT s.2.2.1 a t k).map (y_c (s.2.2.2.1 k) (s.2.2.2.2 k))
  unfold x_up y_upT
  by_cases e : k = a
  · subst e
    rw [if_pos rfl, if_pos rfl]
    rfl
  · rw [if_neg e, if_neg e]
    rfl
theorem y_new_w {s : Y_S} {sl : Nat} {t : Y_T} : x_new (y_w s) sl (y_c (fun _ => 0) (fun _ => 0) t) = y_w (y_new s sl t) := by
  refine y_eqw rfl rfl fun k => ?_
  show x_up (y_w s).2.2 s.1 _ k = (y_upT s.2.2.1 s.1 t k).map (y_c (if k = s.1 then fun _ => 0 else s.2.2.2.1 k) (if k = s.1 then fun _ => 0 else s.2.2.2.2 k))
  unfold x_up y_upT
  by_cases e : k = s.1
  · subst e
    rw [if_pos rfl, if_pos rfl, if_pos rfl, if_pos rfl]
    rfl
  · rw [if_neg e, if_neg e, if_neg e, if_neg e]
    rfl
theorem y_fl_at {I : Nat → Int32} : ∀ {fs : List (Option Value)} {j k : Nat}, (y_fl I j fs)[k]? = (fs[k]?).map (fun z => z.getD (.int (I (j + k)))) := by
  intro fs
  induction fs with
  | nil => intro j k; rfl
  | cons z t ih =>
    intro j k
    cases k with
    | zero => cases z <;> rfl
    | succ k =>
      cases z <;> (show (y_fl I (j + 1) t)[k]? = _; rw [ih, show j + 1 + k = j + (k + 1) by omega]; rfl)
theorem y_fl_len {I : Nat → Int32} : ∀ {fs : List (Option Value)} {j : Nat}, (y_fl I j fs).length = fs.length := by
  intro fs
  induction fs with
  | nil => intro j; rfl
  | cons z t ih => intro j; cases z <;> (show (y_fl I (j + 1) t).length + 1 = _; rw [ih]; rfl)
theorem y_ext {α : Type} {l m : List α} (h : ∀ k : Nat, l[k]? = m[k]?) : l = m := List.ext_getElem? h
theorem y_fl_int {I : Nat → Int32} {fs : List (Option Value)} {f : Nat} {v : Int32} (h : fs[f]? = some none) : (y_fl I 0 fs).set f (.int v) = y_fl (upd I f v) 0 fs := by
  refine y_ext fun k => ?_
  have hlt := (List.getElem?_eq_some_iff.mp h).1
  rw [y_fl_at]
  by_cases e : f = k
  · subst e
    rw [List.getElem?_set_self (by rw [y_fl_len]; exact hlt), h]
    simp [upd]
  · rw [List.getElem?_set_ne e, y_fl_at]
    cases hk : fs[k]? with
    | none => rfl
    | some z =>
      cases z with
      | some v => rfl
      | none =>
        simp [upd]
        intro q
        exact absurd q.symm e
theorem y_fl_ref {I : Nat → Int32} {fs : List (Option Value)} {f : Nat} {u v : Value} (h : fs[f]? = some (some u)) : (y_fl I 0 fs).set f v = y_fl I 0 (fs.set f (some v)) := by
  refine y_ext fun k => ?_
  have hlt := (List.getElem?_eq_some_iff.mp h).1
  rw [y_fl_at]
  by_cases e : f = k
  · subst e
    rw [List.getElem?_set_self (by rw [y_fl_len]; exact hlt), List.getElem?_set_self hlt]
    rfl
  · rw [List.getElem?_set_ne e, List.getElem?_set_ne e, y_fl_at]
