/-! LOCALS BY LOOKUP, CALLS BY RECEIVER: the rules that the decompiled methods' rows take -/
def y_rv : Value → Bool
  | .ref _ => true
  | .null => true
  | .retAddr _ => true
  | _ => false
def y_rcv (s : Y_S) (ci : Nat) (v : Value) : Option Nat := match v with
  | .ref b => (match s.2.2.1 b with
    | some (.inr (cj, _)) => if cj = ci then some b else none
    | _ => none)
  | _ => none
def y_isr (v : Value) : Option Nat := match v with
  | .ref b => some b
  | _ => none
/-- a reference read from a field is one -/
def y_gv (s : Y_S) (ci : Nat) (v : Value) (f : Nat) : Option Value := (y_gr s ci v f).bind fun u => if y_rv u = true then some u else none
theorem y_rv_rf (r : Option Nat) : y_rv (va_rf r) = true := by cases r <;> rfl
theorem y_aa_rv {s : Y_S} {v x : Value} {j : Int32} (h : y_aa s v j = some x) : y_rv x = true := by
  unfold y_aa at h
  split at h
  · split at h
    · split at h
      · cases h
        exact y_rv_rf _
      · cases h
    · cases h
  · cases h
theorem y_gv_ok {s : Y_S} {ci f : Nat} {v x : Value} (h : y_gv s ci v f = some x) : y_gr s ci v f = some x ∧ y_rv x = true := by
  obtain ⟨u, h1, h2⟩ := y_bind h
  split at h2
  · rename_i g
    cases h2
    exact ⟨h1, g⟩
  · cases h2
theorem y_rcv_ok {s : Y_S} {ci b : Nat} {v : Value} (h : y_rcv s ci v = some b) : v = .ref b ∧ ∃ fs, s.2.2.1 b = some (.inr (ci, fs)) := by
  unfold y_rcv at h
  split at h
  · split at h
    · rename_i fs hw
      split at h
      · rename_i g
        cases h
        subst g
        exact ⟨rfl, fs, hw⟩
      · cases h
    · cases h
  · cases h
theorem y_isr_ok {b : Nat} {v : Value} (h : y_isr v = some b) : v = .ref b := by
  unfold y_isr at h
  split at h
  · cases h; rfl
  · cases h
theorem x_keep1 {lv : X_L} {i j : Nat} {u v : Value} (h : x_lget lv j = some u) (h1 : j ≠ i) (h2 : j + 1 ≠ i ∨ u.category = 1) : x_lget (x_st1 lv i v) j = some u := by
  unfold x_st1
  simp only [x_lget]
  rw [if_neg (fun e => h1 e.symm)]
  induction lv with
  | nil => cases h
  | cons q t ih =>
    obtain ⟨k, z⟩ := q
    simp only [x_lget] at h
    by_cases e : k = j
    · subst e
      rw [if_pos rfl] at h
      cases h
      rw [List.filter_cons_of_pos]
      · simp [x_lget]
      · rcases h2 with h2 | h2
        · simp [h1, h2]
        · simp [h1, h2]
    · rw [if_neg e] at h
      by_cases g : (!(k == i) && !(k + 1 == i && z.category == 2)) = true
      · rw [List.filter_cons_of_pos (by exact g)]
        simp only [x_lget]
        rw [if_neg e]
        exact ih h
      · rw [List.filter_cons_of_neg (by exact g)]
        exact ih h
theorem x_keep2 {lv : X_L} {i j : Nat} {u v : Value} (h : x_lget lv j = some u) (h1 : j ≠ i) (h0 : j ≠ i + 1) (h2 : j + 1 ≠ i ∨ u.category = 1) : x_lget (x_st2 lv i v) j = some u := by
  unfold x_st2
  simp only [x_lget]
  rw [if_neg (fun e => h1 e.symm)]
  induction lv with
  | nil => cases h
  | cons q t ih =>
    obtain ⟨k, z⟩ := q
    simp only [x_lget] at h
    by_cases e : k = j
    · subst e
      rw [if_pos rfl] at h
      cases h
      rw [List.filter_cons_of_pos]
      · simp [x_lget]
      · rcases h2 with h2 | h2
        · simp [h1, h0, h2]
        · simp [h1, h0, h2]
    · rw [if_neg e] at h
      by_cases g : (!(k == i) && (!(k == i + 1) && !(k + 1 == i && z.category == 2))) = true
      · rw [List.filter_cons_of_pos (by exact g)]
        simp only [x_lget]
        rw [if_neg e]
        exact ih h
      · rw [List.filter_cons_of_neg (by exact g)]
        exact ih h
/-- what a store leaves: the new local, and the others that it does not touch (two: the store is of two words) -/
def x_kept (two : Bool) (lv lv' : X_L) (i : Nat) : Prop := ∀ (j : Nat) (u : Value), x_lget lv j = some u → j ≠ i → (two = true → j ≠ i + 1) → (j + 1 ≠ i ∨ u.category = 1) → x_lget lv' j = some u
section VL
variable {o : X_O} {d mi pc pc' : Nat} {lv : X_L} {st t : List Value} {s : Y_S} {Q : Y_S → Option Value → Prop}
theorem Vin {k : Fin 4} {x : Int32} (hc : x_code mi pc = some (.iload_n k)) (l : x_lget lv k = some (.int x)) (hp : pc + 1 = pc') (K : Y o d mi pc' lv (.int x :: st) s Q) : Y o d mi pc lv st s Q := Yl hc rfl (by simp only [x_loc, l]) hp K
theorem Vi {k : Nat} {x : Int32} (hc : x_code mi pc = some (.iload k)) (l : x_lget lv k = some (.int x)) (hp : pc + 2 = pc') (K : Y o d mi pc' lv (.int x :: st) s Q) : Y o d mi pc lv st s Q := Yl hc rfl (by simp only [x_loc, l]) hp K
theorem Vln {k : Fin 4} {x : Int64} (hc : x_code mi pc = some (.lload_n k)) (l : x_lget lv k = some (.long x)) (hp : pc + 1 = pc') (K : Y o d mi pc' lv (.long x :: st) s Q) : Y o d mi pc lv st s Q := Yl hc rfl (by simp only [x_loc, l]) hp K
theorem Vl {k : Nat} {x : Int64} (hc : x_code mi pc = some (.lload k)) (l : x_lget lv k = some (.long x)) (hp : pc + 2 = pc') (K : Y o d mi pc' lv (.long x :: st) s Q) : Y o d mi pc lv st s Q := Yl hc rfl (by simp only [x_loc, l]) hp K
theorem Van {k : Fin 4} {v : Value} (hc : x_code mi pc = some (.aload_n k)) (l : x_lget lv k = some v) (hv : y_rv v = true) (hp : pc + 1 = pc') (K : Y o d mi pc' lv (v :: st) s Q) : Y o d mi pc lv st s Q := Yl hc rfl (by cases v <;> first | (cases hv; done) | simp only [x_loc, l]) hp K
theorem Va {k : Nat} {v : Value} (hc : x_code mi pc = some (.aload k)) (l : x_lget lv k = some v) (hv : y_rv v = true) (hp : pc + 2 = pc') (K : Y o d mi pc' lv (v :: st) s Q) : Y o d mi pc lv st s Q := Yl hc rfl (by cases v <;> first | (cases hv; done) | simp only [x_loc, l]) hp K
theorem x_kept1 {i : Nat} {v : Value} : x_kept false lv (x_st1 lv i v) i := fun j u h h1 _ h2 => x_keep1 h h1 h2
theorem x_kept2 {i : Nat} {v : Value} : x_kept true lv (x_st2 lv i v) i := fun j u h h1 h0 h2 => x_keep2 h h1 (h0 rfl) h2
theorem x_got1 {i : Nat} {v : Value} : x_lget (x_st1 lv i v) i = some v := by simp [x_st1, x_lget]
theorem x_got2 {i : Nat} {v : Value} : x_lget (x_st2 lv i v) i = some v := by simp [x_st2, x_lget]
theorem Vsin {k : Fin 4} {x : Int32} (hc : x_code mi pc = some (.istore_n k)) (hp : pc + 1 = pc') (K : ∀ lv', x_lget lv' k = some (.int x) → x_kept false lv lv' k → Y o d mi pc' lv' t s Q) : Y o d mi pc lv (.int x :: t) s Q := Yl hc rfl rfl hp (K _ x_got1 x_kept1)
theorem Vsi {k : Nat} {x : Int32} (hc : x_code mi pc = some (.istore k)) (hp : pc + 2 = pc') (K : ∀ lv', x_lget lv' k = some (.int x) → x_kept false lv lv' k → Y o d mi pc' lv' t s Q) : Y o d mi pc lv (.int x :: t) s Q := Yl hc rfl rfl hp (K _ x_got1 x_kept1)
theorem Vsln {k : Fin 4} {x : Int64} (hc : x_code mi pc = some (.lstore_n k)) (hp : pc + 1 = pc') (K : ∀ lv', x_lget lv' k = some (.long x) → x_kept true lv lv' k → Y o d mi pc' lv' t s Q) : Y o d mi pc lv (.long x :: t) s Q := Yl hc rfl rfl hp (K _ x_got2 x_kept2)
theorem Vsl {k : Nat} {x : Int64} (hc : x_code mi pc = some (.lstore k)) (hp : pc + 2 = pc') (K : ∀ lv', x_lget lv' k = some (.long x) → x_kept true lv lv' k → Y o d mi pc' lv' t s Q) : Y o d mi pc lv (.long x :: t) s Q := Yl hc rfl rfl hp (K _ x_got2 x_kept2)
theorem Vsan {k : Fin 4} {v : Value} (hc : x_code mi pc = some (.astore_n k)) (hv : y_rv v = true) (hp : pc + 1 = pc') (K : ∀ lv', x_lget lv' k = some v → x_kept false lv lv' k → Y o d mi pc' lv' t s Q) : Y o d mi pc lv (v :: t) s Q := by
  cases v <;> first | (cases hv; done) | exact Yl hc rfl rfl hp (K _ x_got1 x_kept1)
theorem Vsa {k : Nat} {v : Value} (hc : x_code mi pc = some (.astore k)) (hv : y_rv v = true) (hp : pc + 2 = pc') (K : ∀ lv', x_lget lv' k = some v → x_kept false lv lv' k → Y o d mi pc' lv' t s Q) : Y o d mi pc lv (v :: t) s Q := by
  cases v <;> first | (cases hv; done) | exact Yl hc rfl rfl hp (K _ x_got1 x_kept1)
theorem Vinc {k : Nat} {n : Int} {x : Int32} (hc : x_code mi pc = some (.iinc k n)) (l : x_lget lv k = some (.int x)) (hp : pc + 3 = pc') (K : ∀ lv', x_lget lv' k = some (.int (x + Int32.ofInt n)) → x_kept false lv lv' k → Y o d mi pc' lv' st s Q) : Y o d mi pc lv st s Q := Yl hc rfl (by simp only [x_loc, l]) hp (K _ x_got1 x_kept1)
theorem Vgv {ci f idx : Nat} {v x : Value} (h : y_gv s ci v f = some x) (hc : x_code mi pc = some (.getfield idx)) (hf : x_fld mi idx = some (ci, f)) (hp : pc + 3 = pc') (k : Y o d mi pc' lv (x :: t) s Q) : Y o d mi pc lv (v :: t) s Q := Zgr (y_gv_ok h).1 hc hf hp k
theorem x_args_v {kd y na b ci : Nat} {fs : List (Option Value)} {rest : List Value} (hk : kd ≤ 1) (hd : st.drop na = .ref b :: rest) (hw : s.2.2.1 b = some (.inr (ci, fs))) (hy : x_own y = some ci) : x_args kd y na st (y_w s) = some (.ref b :: (st.take na).reverse, rest) := by
  unfold x_args
  rw [if_pos hk, hd]
  simp only [y_w_at hw, y_c]
  rw [if_pos hy.symm]
/-- a call by the receiver -/
theorem Vcv {idx y na b ci : Nat} {fs : List (Option Value)} {as rest : List Value} {Q1 : Y_S → Option Value → Prop} (hc : x_code mi pc = some (.invokevirtual idx)) (hm : x_mth mi idx = some (0, y, na)) (hd : st.drop na = .ref b :: rest) (hw : s.2.2.1 b = some (.inr (ci, fs))) (hy : x_own y = some ci) (has : Value.ref b :: (st.take na).reverse = as) (hrest : (rest.map fun v => v.category).sum ≤ 8 ∧ (as.map fun v => v.category).sum ≤ x_mL y) (hp : pc + 3 = pc')
    (k : Y o d y 0 (lv_args 0 as) [] s Q1) (k2 : ∀ s1 r, Q1 s1 r → Y o (d + 1) mi pc' lv (r.toList ++ rest) s1 Q) : Y o (d + 1) mi pc lv st s Q := by
  subst has
  exact Ycall hc rfl rfl rfl rfl rfl rfl rfl hm rfl (by decide) (x_args_v (by decide) hd hw hy) hrest hp k k2
/-- a static call -/
theorem Vcs {idx y na : Nat} {as rest : List Value} {Q1 : Y_S → Option Value → Prop} (hc : x_code mi pc = some (.invokestatic idx)) (hm : x_mth mi idx = some (5, y, na)) (hn : na ≤ st.length) (has : (st.take na).reverse = as) (hr : st.drop na = rest) (hrest : (rest.map fun v => v.category).sum ≤ 8 ∧ (as.map fun v => v.category).sum ≤ x_mL y) (hp : pc + 3 = pc')
    (k : Y o d y 0 (lv_args 0 as) [] s Q1) (k2 : ∀ s1 r, Q1 s1 r → Y o (d + 1) mi pc' lv (r.toList ++ rest) s1 Q) : Y o (d + 1) mi pc lv st s Q := by
  subst has
  subst hr
  refine Ycall hc rfl rfl rfl rfl rfl rfl rfl hm rfl (by decide) ?_ hrest hp k k2
  unfold x_args
  rw [if_neg (by decide), if_neg (by decide), if_pos hn]
/-- a constructor's call -/
theorem Vci {idx y na kd b : Nat} {as rest : List Value} {Q1 : Y_S → Option Value → Prop} (hc : x_code mi pc = some (.invokespecial idx)) (hm : x_mth mi idx = some (kd, y, na)) (hkd : kd = 2 ∨ kd = 3) (hd : st.drop na = .ref b :: rest) (has : Value.ref b :: (st.take na).reverse = as) (hrest : (rest.map fun v => v.category).sum ≤ 8 ∧ (as.map fun v => v.category).sum ≤ x_mL y) (hp : pc + 3 = pc')
    (k : Y o d y 0 (lv_args 0 as) [] s Q1) (k2 : ∀ s1 r, Q1 s1 r → Y o (d + 1) mi pc' lv (r.toList ++ rest) s1 Q) : Y o (d + 1) mi pc lv st s Q := by
  subst has
  rcases hkd with e | e <;> subst e
  · refine Ycall hc rfl rfl rfl rfl rfl rfl rfl hm rfl (by decide) ?_ hrest hp k k2
    unfold x_args
    rw [if_neg (by decide), if_pos (by decide), hd]
  · refine Ycall hc rfl rfl rfl rfl rfl rfl rfl hm rfl (by decide) ?_ hrest hp k k2
    unfold x_args
    rw [if_neg (by decide), if_pos (by decide), hd]
end VL
