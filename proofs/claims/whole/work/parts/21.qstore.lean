/-! THE STORE IN WHOLE NUMBERS: cells' ints as Int, places as Int: what the decompiled methods speak of -/
abbrev Q_S : Type := Nat × Nat × (Nat → Option Y_T) × (Nat → Int → Int) × (Nat → Int → Int64)
def q_y (s : Q_S) : Y_S := (s.1, s.2.1, s.2.2.1, (fun k j => Int32.ofInt (s.2.2.2.1 k (j : Int))), (fun k j => s.2.2.2.2 k (j : Int)))
abbrev q_in (x : Int) : Prop := -2147483648 ≤ x ∧ x < 2147483648
def q_si (s : Q_S) (a : Nat) (j v : Int) : Q_S := (s.1, s.2.1, s.2.2.1, (fun k i => if k = a ∧ i = j then v else s.2.2.2.1 k i), s.2.2.2.2)
def q_sl (s : Q_S) (a : Nat) (j : Int) (v : Int64) : Q_S := (s.1, s.2.1, s.2.2.1, s.2.2.2.1, (fun k i => if k = a ∧ i = j then v else s.2.2.2.2 k i))
def q_st (s : Q_S) (a : Nat) (t : Y_T) : Q_S := (s.1, s.2.1, y_upT s.2.2.1 a t, s.2.2.2.1, s.2.2.2.2)
def q_nw (s : Q_S) (sl : Nat) (t : Y_T) : Q_S := (s.1 + 1, s.2.1 + sl, y_upT s.2.2.1 s.1 t, (fun k i => if k = s.1 then 0 else s.2.2.2.1 k i), (fun k i => if k = s.1 then 0 else s.2.2.2.2 k i))
def q_cI (s : Q_S) (a0 a1 : Nat) (sp dp n : Int) : Q_S := (s.1, s.2.1, s.2.2.1, (fun k i => if k = a1 ∧ dp ≤ i ∧ i < dp + n then s.2.2.2.1 a0 (sp + (i - dp)) else s.2.2.2.1 k i), s.2.2.2.2)
def q_cL (s : Q_S) (a0 a1 : Nat) (sp dp n : Int) : Q_S := (s.1, s.2.1, s.2.2.1, s.2.2.2.1, (fun k i => if k = a1 ∧ dp ≤ i ∧ i < dp + n then s.2.2.2.2 a0 (sp + (i - dp)) else s.2.2.2.2 k i))
theorem q_ext {n z : Nat} {T : Nat → Option Y_T} {I I' : Nat → Nat → Int32} {L L' : Nat → Nat → Int64} (h : ∀ k j, I k j = I' k j) (g : ∀ k j, L k j = L' k j) : ((n, z, T, I, L) : Y_S) = (n, z, T, I', L') := by
  rw [show I = I' from funext fun k => funext fun j => h k j, show L = L' from funext fun k => funext fun j => g k j]
theorem q_y_si {s : Q_S} {a : Nat} {j v : Int} (hj : 0 ≤ j) : y_setI (q_y s) a j.toNat (Int32.ofInt v) = q_y (q_si s a j v) := by
  refine q_ext (fun k i => ?_) (fun k i => rfl)
  have hg : (i = j.toNat) = ((i : Int) = j) := propext (by omega)
  by_cases e : k = a
  · subst e
    by_cases g : (i : Int) = j <;> simp [y_upI, upd, q_si, q_y, hg, g]
  · simp [y_upI, q_si, q_y, e]
theorem q_y_sl {s : Q_S} {a : Nat} {j : Int} {v : Int64} (hj : 0 ≤ j) : y_setL (q_y s) a j.toNat v = q_y (q_sl s a j v) := by
  refine q_ext (fun k i => rfl) (fun k i => ?_)
  have hg : (i = j.toNat) = ((i : Int) = j) := propext (by omega)
  by_cases e : k = a
  · subst e
    by_cases g : (i : Int) = j <;> simp [y_upL, vp_updL, q_sl, q_y, hg, g]
  · simp [y_upL, q_sl, q_y, e]
theorem q_y_st {s : Q_S} {a : Nat} {t : Y_T} : y_setT (q_y s) a t = q_y (q_st s a t) := rfl
theorem q_y_nw {s : Q_S} {sl : Nat} {t : Y_T} : y_new (q_y s) sl t = q_y (q_nw s sl t) := by
  refine q_ext (fun k i => ?_) (fun k i => ?_)
  · by_cases e : k = s.1
    · subst e
      simp [q_y, q_nw]
    · simp [q_y, q_nw, e]
  · by_cases e : k = s.1
    · subst e
      simp [q_y, q_nw]
    · simp [q_y, q_nw, e]
theorem q_y_cI {s : Q_S} {a0 a1 : Nat} {sp dp n : Int} (h0 : 0 ≤ sp) (h1 : 0 ≤ dp) (h2 : 0 ≤ n) : y_cpyI (q_y s) a0 a1 sp.toNat dp.toNat n.toNat = q_y (q_cI s a0 a1 sp dp n) := by
  refine q_ext (fun k i => ?_) (fun k i => rfl)
  have hg : (dp.toNat ≤ i ∧ i < dp.toNat + n.toNat) = (dp ≤ (i : Int) ∧ (i : Int) < dp + n) := propext (by omega)
  by_cases e : k = a1
  · subst e
    by_cases g : dp ≤ (i : Int) ∧ (i : Int) < dp + n
    · have e2 : ((sp.toNat + (i - dp.toNat) : Nat) : Int) = sp + (i - dp) := by omega
      simp only [q_y, q_cI, va_cpy, hg, if_pos g, if_true]
      rw [e2, if_pos ⟨trivial, g⟩]
    · simp only [q_y, q_cI, va_cpy, hg, if_neg g, if_true]
      rw [if_neg (fun q => g q.2)]
  · simp only [q_y, q_cI, if_neg e, if_neg (fun q : k = a1 ∧ _ => e q.1)]
theorem q_y_cL {s : Q_S} {a0 a1 : Nat} {sp dp n : Int} (h0 : 0 ≤ sp) (h1 : 0 ≤ dp) (h2 : 0 ≤ n) : y_cpyL (q_y s) a0 a1 sp.toNat dp.toNat n.toNat = q_y (q_cL s a0 a1 sp dp n) := by
  refine q_ext (fun k i => rfl) (fun k i => ?_)
  have hg : (dp.toNat ≤ i ∧ i < dp.toNat + n.toNat) = (dp ≤ (i : Int) ∧ (i : Int) < dp + n) := propext (by omega)
  by_cases e : k = a1
  · subst e
    by_cases g : dp ≤ (i : Int) ∧ (i : Int) < dp + n
    · have e2 : ((sp.toNat + (i - dp.toNat) : Nat) : Int) = sp + (i - dp) := by omega
      simp only [q_y, q_cL, va_cpy, hg, if_pos g, if_true]
      rw [e2, if_pos ⟨trivial, g⟩]
    · simp only [q_y, q_cL, va_cpy, hg, if_neg g, if_true]
      rw [if_neg (fun q => g q.2)]
  · simp only [q_y, q_cL, if_neg e, if_neg (fun q : k = a1 ∧ _ => e q.1)]
theorem q_ti {x : Int} (h : q_in x) : (Int32.ofInt x).toInt = x := Int32.toInt_ofInt_of_le (by have := h.1; omega) (by have := h.2; omega)
theorem q_lt {x y : Int} (hx : q_in x) (hy : q_in y) : Int32.ofInt x < Int32.ofInt y ↔ x < y := by rw [Int32.lt_iff_toInt_lt, q_ti hx, q_ti hy]
theorem q_le {x y : Int} (hx : q_in x) (hy : q_in y) : Int32.ofInt x ≤ Int32.ofInt y ↔ x ≤ y := by rw [Int32.le_iff_toInt_le, q_ti hx, q_ti hy]
theorem q_eq {x y : Int} (hx : q_in x) (hy : q_in y) : Int32.ofInt x = Int32.ofInt y ↔ x = y := by rw [← Int32.toInt_inj, q_ti hx, q_ti hy]
theorem q_z : (0 : Int32) = Int32.ofInt 0 := rfl
theorem q_y1 {s : Q_S} : (q_y s).1 = s.1 := rfl
theorem q_i0 : q_in 0 := by decide
theorem q_cl {x : Int} (h0 : 0 ≤ x) (h : x < 2147483648) : (Int32.ofInt x).toNatClampNeg = x.toNat := by
  rw [Int32.toNatClampNeg, q_ti ⟨by omega, h⟩]
theorem q_nn {x : Int} (h0 : 0 ≤ x) (h : x < 2147483648) : ¬ Int32.ofInt x < 0 := by
  rw [q_z, q_lt ⟨by omega, h⟩ q_i0]
  omega
theorem q_xin {x : Int} {n : Nat} (h0 : 0 ≤ x) (hn : x < n) (h : x < 2147483648) : x_in (Int32.ofInt x) n = true := by
  unfold x_in
  rw [decide_eq_true_eq, q_cl h0 h]
  rintro (g | g)
  · exact q_nn h0 h g
  · omega
/-! the primitives -/
def q_gi (s : Q_S) (ci : Nat) (v : Value) (f : Nat) : Option Int := match v with
  | .ref a => (match s.2.2.1 a with
    | some (.inr (cj, fs)) => if cj = ci ∧ fs[f]? = some none then some (s.2.2.2.1 a (f : Int)) else none
    | _ => none)
  | _ => none
def q_gv (s : Q_S) (ci : Nat) (v : Value) (f : Nat) : Option Value := y_gv (q_y s) ci v f
def q_pi (s : Q_S) (ci : Nat) (v : Value) (f : Nat) (x : Int) : Option Q_S := match v with
  | .ref a => (match s.2.2.1 a with
    | some (.inr (cj, fs)) => if cj = ci ∧ fs[f]? = some none ∧ x_fty ci f = .int then some (q_si s a f x) else none
    | _ => none)
  | _ => none
def q_pz (s : Q_S) (ci : Nat) (v : Value) (f : Nat) (x : Int) : Option Q_S := match v with
  | .ref a => (match s.2.2.1 a with
    | some (.inr (cj, fs)) => if cj = ci ∧ fs[f]? = some none ∧ x_fty ci f = .boolean ∧ (x = 0 ∨ x = 1) then some (q_si s a f x) else none
    | _ => none)
  | _ => none
def q_pr (s : Q_S) (ci : Nat) (v : Value) (f : Nat) (x : Value) : Option Q_S := match v with
  | .ref a => (match s.2.2.1 a with
    | some (.inr (cj, fs)) => if cj = ci ∧ x_fit (x_fty ci f) x = true then (match fs[f]? with | some (some _) => some (q_st s a (.inr (cj, fs.set f (some x)))) | _ => none) else none
    | _ => none)
  | _ => none
def q_ia (o : X_O) (s : Q_S) (v : Value) (j : Int) : Option Int := match v with
  | .ref a => (match s.2.2.1 a with
    | some (.inl (.int, n, _)) => if 0 ≤ j ∧ j < n ∧ j < 2147483648 then some (s.2.2.2.1 a j) else none
    | _ => none)
  | .retAddr a => (match o a with
    | some (n, f) => if 0 ≤ j ∧ j < n ∧ j < 2147483648 then some (f j.toNat).toInt else none
    | none => none)
  | _ => none
def q_la (s : Q_S) (v : Value) (j : Int) : Option Int64 := match v with
  | .ref a => (match s.2.2.1 a with
    | some (.inl (.long, n, _)) => if 0 ≤ j ∧ j < n ∧ j < 2147483648 then some (s.2.2.2.2 a j) else none
    | _ => none)
  | _ => none
def q_ba (s : Q_S) (v : Value) (j : Int) : Option Int := match v with
  | .ref a => (match s.2.2.1 a with
    | some (.inl (.boolean, n, _)) => if 0 ≤ j ∧ j < n ∧ j < 2147483648 then some (s.2.2.2.1 a j) else none
    | _ => none)
  | _ => none
def q_aa (s : Q_S) (v : Value) (j : Int) : Option Value := match v with
  | .ref a => (match s.2.2.1 a with
    | some (.inl (.object C, n, g)) => if (0 ≤ j ∧ j < n ∧ j < 2147483648) ∧ x_et (.object C) = true then some (va_rf (g j.toNat)) else none
    | _ => none)
  | _ => none
def q_is (s : Q_S) (v : Value) (j x : Int) : Option Q_S := match v with
  | .ref a => (match s.2.2.1 a with
    | some (.inl (.int, n, _)) => if 0 ≤ j ∧ j < n ∧ j < 2147483648 then some (q_si s a j x) else none
    | _ => none)
  | _ => none
def q_ls (s : Q_S) (v : Value) (j : Int) (x : Int64) : Option Q_S := match v with
  | .ref a => (match s.2.2.1 a with
    | some (.inl (.long, n, _)) => if 0 ≤ j ∧ j < n ∧ j < 2147483648 then some (q_sl s a j x) else none
    | _ => none)
  | _ => none
def q_bs (s : Q_S) (v : Value) (j x : Int) : Option Q_S := match v with
  | .ref a => (match s.2.2.1 a with
    | some (.inl (.boolean, n, _)) => if (0 ≤ j ∧ j < n ∧ j < 2147483648) ∧ (x = 0 ∨ x = 1) then some (q_si s a j x) else none
    | _ => none)
  | _ => none
def q_as (s : Q_S) (v : Value) (j : Int) (x : Value) : Option Q_S := match v, x with
  | .ref a, .ref u => (match s.2.2.1 a, s.2.2.1 u with
    | some (.inl (.object C, n, g)), some (.inr (cj, _)) => if (0 ≤ j ∧ j < n ∧ j < 2147483648) ∧ x_cn cj = some C ∧ x_et (.object C) = true then some (q_st s a (.inl (.object C, n, va_up g j.toNat (some u)))) else none
    | _, _ => none)
  | _, _ => none
def q_ln (o : X_O) (s : Q_S) (v : Value) : Option Int := match v with
  | .ref a => (match s.2.2.1 a with
    | some (.inl (ty, n, _)) => if x_et ty = true then some (n : Int) else none
    | _ => none)
  | .retAddr a => (match o a with
    | some (n, _) => some (n : Int)
    | none => none)
  | _ => none
def q_na (s : Q_S) (ty : FieldType) (n : Int) : Option Q_S := if 0 ≤ n ∧ n ≤ 67108864 then some (q_nw s n.toNat (.inl (ty, n.toNat, fun _ => none))) else none
def q_nr (s : Q_S) (C : String) (n : Int) : Option Q_S := if 0 ≤ n ∧ n ≤ 67108864 then some (q_nw s n.toNat (.inl (.object C, n.toNat, fun _ => none))) else none
def q_no (s : Q_S) (ci : Nat) : Option Q_S := some (q_nw s (x_dfl ci).length (.inr (ci, y_shp ci)))
def q_cp (s : Q_S) (v : Value) (sp : Int) (u : Value) (dp n : Int) : Option Q_S := match v, u with
  | .ref a0, .ref a1 => if 0 ≤ sp ∧ 0 ≤ dp ∧ 0 ≤ n then (match s.2.2.1 a0, s.2.2.1 a1 with
      | some (.inl (.int, n0, _)), some (.inl (.int, n1, _)) => if sp + n ≤ n0 ∧ dp + n ≤ n1 ∧ sp + n < 2147483648 ∧ dp + n < 2147483648 then some (q_cI s a0 a1 sp dp n) else none
      | some (.inl (.long, n0, _)), some (.inl (.long, n1, _)) => if sp + n ≤ n0 ∧ dp + n ≤ n1 ∧ sp + n < 2147483648 ∧ dp + n < 2147483648 then some (q_cL s a0 a1 sp dp n) else none
      | _, _ => none) else none
  | _, _ => none
def q_rcv (s : Q_S) (ci : Nat) (v : Value) : Option Nat := y_rcv (q_y s) ci v
def q_dec : Nat → Option Nat
  | 0 => none
  | e + 1 => some e
theorem q_dec_ok {e f : Nat} (h : q_dec e = some f) : e = f + 1 := by
  cases e with
  | zero => cases h
  | succ e => cases h; rfl
/-! what they are over the flat store -/
theorem q_gi_y {s : Q_S} {ci f : Nat} {v : Value} {x : Int} (h : q_gi s ci v f = some x) : y_gi (q_y s) ci v f = some (Int32.ofInt x) := by
  unfold q_gi at h
  split at h
  · split at h
    · rename_i hw
      split at h
      · rename_i g
        cases h
        simp only [y_gi, q_y, hw]
        rw [if_pos g]
      · cases h
    · cases h
  · cases h
theorem q_pi_y {s s' : Q_S} {ci f : Nat} {v : Value} {x : Int} (h : q_pi s ci v f x = some s') : y_pi (q_y s) ci v f (Int32.ofInt x) = some (q_y s') := by
  unfold q_pi at h
  split at h
  · rename_i a
    split at h
    · rename_i hw
      split at h
      · rename_i g
        cases h
        rw [← q_y_si (Int.natCast_nonneg f)]
        simp only [y_pi, q_y, hw]
        rw [if_pos ⟨g.1, g.2.1, by rw [g.2.2]; rfl⟩]
        rfl
      · cases h
    · cases h
  · cases h
theorem q_pz_y {s s' : Q_S} {ci f : Nat} {v : Value} {x : Int} (h : q_pz s ci v f x = some s') : y_pi (q_y s) ci v f (Int32.ofInt x) = some (q_y s') := by
  unfold q_pz at h
  split at h
  · rename_i a
    split at h
    · rename_i hw
      split at h
      · rename_i g
        cases h
        rw [← q_y_si (Int.natCast_nonneg f)]
        simp only [y_pi, q_y, hw]
        rw [if_pos ⟨g.1, g.2.1, by rw [g.2.2.1]; rcases g.2.2.2 with e | e <;> subst e <;> rfl⟩]
        rfl
      · cases h
    · cases h
  · cases h
theorem q_pr_y {s s' : Q_S} {ci f : Nat} {v x : Value} (h : q_pr s ci v f x = some s') : y_pr (q_y s) ci v f x = some (q_y s') := by
  unfold q_pr at h
  split at h
  · split at h
    · rename_i hw
      split at h
      · rename_i g
        split at h
        · rename_i hf
          cases h
          simp only [y_pr, q_y, hw]
          rw [if_pos g, hf]
          rfl
        · cases h
      · cases h
    · cases h
  · cases h
theorem q_ia_y {o : X_O} {s : Q_S} {v : Value} {j x : Int} (h : q_ia o s v j = some x) : y_ia o (q_y s) v (Int32.ofInt j) = some (Int32.ofInt x) := by
  unfold q_ia at h
  split at h
  · split at h
    · rename_i hw
      split at h
      · rename_i g
        cases h
        simp only [y_ia, q_y, hw]
        rw [if_pos (q_xin g.1 g.2.1 g.2.2), q_cl g.1 g.2.2, Int.toNat_of_nonneg g.1]
      · cases h
    · cases h
  · split at h
    · rename_i hw
      split at h
      · rename_i g
        cases h
        simp only [y_ia, hw]
        rw [if_pos (q_xin g.1 g.2.1 g.2.2), q_cl g.1 g.2.2, Int32.ofInt_toInt]
      · cases h
    · cases h
  · cases h
theorem q_la_y {s : Q_S} {v : Value} {j : Int} {x : Int64} (h : q_la s v j = some x) : y_la (q_y s) v (Int32.ofInt j) = some x := by
  unfold q_la at h
  split at h
  · split at h
    · rename_i hw
      split at h
      · rename_i g
        cases h
        simp only [y_la, q_y, hw]
        rw [if_pos (q_xin g.1 g.2.1 g.2.2), q_cl g.1 g.2.2, Int.toNat_of_nonneg g.1]
      · cases h
    · cases h
  · cases h
theorem q_ba_y {s : Q_S} {v : Value} {j x : Int} (h : q_ba s v j = some x) : y_ba (q_y s) v (Int32.ofInt j) = some (Int32.ofInt x) := by
  unfold q_ba at h
  split at h
  · split at h
    · rename_i hw
      split at h
      · rename_i g
        cases h
        simp only [y_ba, q_y, hw]
        rw [if_pos (q_xin g.1 g.2.1 g.2.2), q_cl g.1 g.2.2, Int.toNat_of_nonneg g.1]
      · cases h
    · cases h
  · cases h
theorem q_aa_y {s : Q_S} {v x : Value} {j : Int} (h : q_aa s v j = some x) : y_aa (q_y s) v (Int32.ofInt j) = some x := by
  unfold q_aa at h
  split at h
  · split at h
    · rename_i hw
      split at h
      · rename_i g
        cases h
        simp only [y_aa, q_y, hw]
        rw [if_pos ⟨q_xin g.1.1 g.1.2.1 g.1.2.2, g.2⟩, q_cl g.1.1 g.1.2.2]
      · cases h
    · cases h
  · cases h
theorem q_is_y {s s' : Q_S} {v : Value} {j x : Int} (h : q_is s v j x = some s') : y_is (q_y s) v (Int32.ofInt j) (Int32.ofInt x) = some (q_y s') := by
  unfold q_is at h
  split at h
  · split at h
    · rename_i hw
      split at h
      · rename_i g
        cases h
        rw [← q_y_si g.1]
        simp only [y_is, q_y, hw]
        rw [if_pos (q_xin g.1 g.2.1 g.2.2), q_cl g.1 g.2.2]
      · cases h
    · cases h
  · cases h
theorem q_ls_y {s s' : Q_S} {v : Value} {j : Int} {x : Int64} (h : q_ls s v j x = some s') : y_ls (q_y s) v (Int32.ofInt j) x = some (q_y s') := by
  unfold q_ls at h
  split at h
  · split at h
    · rename_i hw
      split at h
      · rename_i g
        cases h
        rw [← q_y_sl g.1]
        simp only [y_ls, q_y, hw]
        rw [if_pos (q_xin g.1 g.2.1 g.2.2), q_cl g.1 g.2.2]
      · cases h
    · cases h
  · cases h
theorem q_bs_y {s s' : Q_S} {v : Value} {j x : Int} (h : q_bs s v j x = some s') : y_bs (q_y s) v (Int32.ofInt j) (Int32.ofInt x) = some (q_y s') := by
  unfold q_bs at h
  split at h
  · split at h
    · rename_i hw
      split at h
      · rename_i g
        cases h
        rw [← q_y_si g.1.1]
        simp only [y_bs, q_y, hw]
        rw [if_pos ⟨q_xin g.1.1 g.1.2.1 g.1.2.2, by rcases g.2 with e | e <;> subst e; exact Or.inl rfl; exact Or.inr rfl⟩, q_cl g.1.1 g.1.2.2]
      · cases h
    · cases h
  · cases h
theorem q_as_y {s s' : Q_S} {v x : Value} {j : Int} (h : q_as s v j x = some s') : y_as (q_y s) v (Int32.ofInt j) x = some (q_y s') := by
  unfold q_as at h
  split at h
  · split at h
    · rename_i hw hu
      split at h
      · rename_i g
        cases h
        simp only [y_as, q_y, hw, hu]
        rw [if_pos ⟨q_xin g.1.1 g.1.2.1 g.1.2.2, g.2⟩, q_cl g.1.1 g.1.2.2]
        rfl
      · cases h
    · cases h
  · cases h
theorem q_ln_y {o : X_O} {s : Q_S} {v : Value} {x : Int} (h : q_ln o s v = some x) : y_ln o (q_y s) v = some (Int32.ofInt x) := by
  unfold q_ln at h
  split at h
  · split at h
    · rename_i hw
      split at h
      · rename_i g
        cases h
        simp only [y_ln, q_y, hw]
        rw [if_pos g, Int32.ofInt_eq_ofNat]
      · cases h
    · cases h
  · split at h
    · rename_i hw
      cases h
      simp only [y_ln, hw]
      rw [Int32.ofInt_eq_ofNat]
    · cases h
  · cases h
theorem q_na_y {s s' : Q_S} {ty : FieldType} {n : Int} (h : q_na s ty n = some s') : y_na (q_y s) ty (Int32.ofInt n) = some (q_y s') := by
  unfold q_na at h
  split at h
  · rename_i g
    cases h
    rw [← q_y_nw]
    unfold y_na
    rw [q_cl g.1 (by omega), if_pos ⟨q_nn g.1 (by omega), by omega⟩]
  · cases h
theorem q_nr_y {s s' : Q_S} {C : String} {n : Int} (h : q_nr s C n = some s') : y_nr (q_y s) C (Int32.ofInt n) = some (q_y s') := by
  unfold q_nr at h
  split at h
  · rename_i g
    cases h
    rw [← q_y_nw]
    unfold y_nr
    rw [q_cl g.1 (by omega), if_pos ⟨q_nn g.1 (by omega), by omega⟩]
  · cases h
theorem q_no_y {s s' : Q_S} {ci : Nat} (h : q_no s ci = some s') : y_no (q_y s) ci = some (q_y s') := by
  cases h
  rw [← q_y_nw]
  rfl
theorem q_cp_y {s s' : Q_S} {v u : Value} {sp dp n : Int} (h : q_cp s v sp u dp n = some s') : y_cp (q_y s) v (Int32.ofInt sp) u (Int32.ofInt dp) (Int32.ofInt n) = some (q_y s') := by
  unfold q_cp at h
  split at h
  · split at h
    · rename_i hn
      split at h
      · rename_i h0 h1
        split at h
        · rename_i hle
          cases h
          rw [← q_y_cI hn.1 hn.2.1 hn.2.2]
          simp only [y_cp, q_y, h0, h1]
          rw [q_cl hn.1 (by omega), q_cl hn.2.1 (by omega), q_cl hn.2.2 (by omega), if_pos ⟨q_nn hn.1 (by omega), q_nn hn.2.1 (by omega), q_nn hn.2.2 (by omega)⟩, if_pos ⟨by omega, by omega⟩]
        · cases h
      · rename_i h0 h1
        split at h
        · rename_i hle
          cases h
          rw [← q_y_cL hn.1 hn.2.1 hn.2.2]
          simp only [y_cp, q_y, h0, h1]
          rw [q_cl hn.1 (by omega), q_cl hn.2.1 (by omega), q_cl hn.2.2 (by omega), if_pos ⟨q_nn hn.1 (by omega), q_nn hn.2.1 (by omega), q_nn hn.2.2 (by omega)⟩, if_pos ⟨by omega, by omega⟩]
        · cases h
      · cases h
    · cases h
  · cases h
def q_g (p : Prop) [Decidable p] : Option Unit := if p then some () else none
theorem q_g_ok {p : Prop} [Decidable p] {u : Unit} (h : q_g p = some u) : p := by
  unfold q_g at h
  split at h
  · assumption
  · cases h
/-- StepRowsLaw.table -/
def q_tb (o : X_O) (s : Q_S) (u : Value) (p : Int) (v : Value) : Option (Q_S × Int) := match u, v with
  | .ref a, .ref k => (match s.2.2.1 a, s.2.2.1 k, o 2 with
    | some (.inl (.long, n, _)), some (.inr (0, _)), some (nT, fT) => if 1 ≤ n ∧ nT = 10 ∧ q_in p then (if 0 ≤ p ∧ p < 10 then some (q_sl s a 0 (fT p.toNat).toInt64, 0) else some ((s.1 + 1, s.2.1 + 6, s.2.2.1, s.2.2.2.1, s.2.2.2.2), 1)) else none
    | _, _, _ => none)
  | _, _ => none
def q_shl (x : Int64) : Int64 := x <<< ((Int32.ofInt 32).toInt64 &&& 63)
theorem q_and15 (a : Int) : Int32.ofInt a &&& Int32.ofInt 15 = Int32.ofInt (a % 16) := by
  apply Int32.toBitVec_inj.1
  rw [Int32.toBitVec_and]
  show BitVec.ofInt 32 a &&& BitVec.ofInt 32 15 = BitVec.ofInt 32 (a % 16)
  apply BitVec.eq_of_toNat_eq
  rw [BitVec.toNat_and]
  simp only [BitVec.toNat_ofInt]
  rw [show ((15 : Int) % ((2 ^ 32 : Nat) : Int)).toNat = 2 ^ 4 - 1 by decide, Nat.and_two_pow_sub_one_eq_mod]
  omega
theorem q_xin_iff {x : Int} {n : Nat} (h : q_in x) : x_in (Int32.ofInt x) n = true ↔ 0 ≤ x ∧ x < n := by
  constructor
  · intro g
    unfold x_in at g
    rw [decide_eq_true_eq] at g
    have h0 : 0 ≤ x := Int.not_lt.mp fun z => g (Or.inl ((by rw [q_z]; exact (q_lt h q_i0).mpr z)))
    refine ⟨h0, ?_⟩
    rw [q_cl h0 h.2] at g
    omega
  · exact fun g => q_xin g.1 g.2 h.2
theorem q_tb_x {o : X_O} {s s' : Q_S} {u v : Value} {p r : Int} (t : List Value) (h : q_tb o s u p v = some (s', r)) : x_tab o (u :: .int (Int32.ofInt p) :: v :: t) (y_w (q_y s)) = some (.int (Int32.ofInt r) :: t, y_w (q_y s')) := by
  unfold q_tb at h
  split at h
  · rename_i a k
    split at h
    · rename_i n g0 fs nT fT h1 h2 h3
      split at h
      · rename_i g
        have e1 : (y_w (q_y s)).2.2 a = some (.inl (.long, n, .inr (.inl ((q_y s).2.2.2.2 a)))) := y_w_at (s := q_y s) h1
        have e2 : (y_w (q_y s)).2.2 k = some (.inr (0, y_fl ((q_y s).2.2.2.1 k) 0 fs)) := y_w_at (s := q_y s) h2
        simp only [x_tab, e1, e2, h3]
        rw [if_pos ⟨g.1, g.2.1⟩]
        split at h
        · rename_i g2
          cases h
          rw [if_pos ((q_xin_iff g.2.2).mpr g2), q_cl g2.1 (by omega), ← q_y_sl (Int.le_refl 0)]
          exact congrArg (fun z => some (_, z)) (y_setL_w (s := q_y s) (j := 0) (v := (fT p.toNat).toInt64) h1)
        · rename_i g2
          cases h
          rw [if_neg (fun z => g2 ((q_xin_iff g.2.2).mp z))]
          rfl
      · cases h
    · cases h
  · cases h
