/-! THE PRIMITIVES of the decompiled methods: what an instruction does to the store, or none; and the rules that take them -/
def y_gi (s : Y_S) (ci : Nat) (v : Value) (f : Nat) : Option Int32 := match v with
  | .ref a => (match s.2.2.1 a with
    | some (.inr (cj, fs)) => if cj = ci ∧ fs[f]? = some none then some (s.2.2.2.1 a f) else none
    | _ => none)
  | _ => none
def y_gr (s : Y_S) (ci : Nat) (v : Value) (f : Nat) : Option Value := match v with
  | .ref a => (match s.2.2.1 a with
    | some (.inr (cj, fs)) => if cj = ci then (match fs[f]? with | some (some u) => some u | _ => none) else none
    | _ => none)
  | _ => none
def y_pi (s : Y_S) (ci : Nat) (v : Value) (f : Nat) (x : Int32) : Option Y_S := match v with
  | .ref a => (match s.2.2.1 a with
    | some (.inr (cj, fs)) => if cj = ci ∧ fs[f]? = some none ∧ x_fit (x_fty ci f) (.int x) = true then some (y_setI s a f x) else none
    | _ => none)
  | _ => none
def y_pr (s : Y_S) (ci : Nat) (v : Value) (f : Nat) (x : Value) : Option Y_S := match v with
  | .ref a => (match s.2.2.1 a with
    | some (.inr (cj, fs)) => if cj = ci ∧ x_fit (x_fty ci f) x = true then (match fs[f]? with | some (some _) => some (y_setT s a (.inr (cj, fs.set f (some x)))) | _ => none) else none
    | _ => none)
  | _ => none
def y_ia (o : X_O) (s : Y_S) (v : Value) (j : Int32) : Option Int32 := match v with
  | .ref a => (match s.2.2.1 a with
    | some (.inl (.int, n, _)) => if x_in j n = true then some (s.2.2.2.1 a j.toNatClampNeg) else none
    | _ => none)
  | .retAddr a => (match o a with
    | some (n, f) => if x_in j n = true then some (f j.toNatClampNeg) else none
    | none => none)
  | _ => none
def y_la (s : Y_S) (v : Value) (j : Int32) : Option Int64 := match v with
  | .ref a => (match s.2.2.1 a with
    | some (.inl (.long, n, _)) => if x_in j n = true then some (s.2.2.2.2 a j.toNatClampNeg) else none
    | _ => none)
  | _ => none
def y_ba (s : Y_S) (v : Value) (j : Int32) : Option Int32 := match v with
  | .ref a => (match s.2.2.1 a with
    | some (.inl (.boolean, n, _)) => if x_in j n = true then some (s.2.2.2.1 a j.toNatClampNeg) else none
    | _ => none)
  | _ => none
def y_aa (s : Y_S) (v : Value) (j : Int32) : Option Value := match v with
  | .ref a => (match s.2.2.1 a with
    | some (.inl (.object C, n, g)) => if x_in j n = true ∧ x_et (.object C) = true then some (va_rf (g j.toNatClampNeg)) else none
    | _ => none)
  | _ => none
def y_is (s : Y_S) (v : Value) (j x : Int32) : Option Y_S := match v with
  | .ref a => (match s.2.2.1 a with
    | some (.inl (.int, n, _)) => if x_in j n = true then some (y_setI s a j.toNatClampNeg x) else none
    | _ => none)
  | _ => none
def y_ls (s : Y_S) (v : Value) (j : Int32) (x : Int64) : Option Y_S := match v with
  | .ref a => (match s.2.2.1 a with
    | some (.inl (.long, n, _)) => if x_in j n = true then some (y_setL s a j.toNatClampNeg x) else none
    | _ => none)
  | _ => none
def y_bs (s : Y_S) (v : Value) (j x : Int32) : Option Y_S := match v with
  | .ref a => (match s.2.2.1 a with
    | some (.inl (.boolean, n, _)) => if x_in j n = true ∧ (x = 0 ∨ x = 1) then some (y_setI s a j.toNatClampNeg x) else none
    | _ => none)
  | _ => none
def y_as (s : Y_S) (v : Value) (j : Int32) (x : Value) : Option Y_S := match v, x with
  | .ref a, .ref u => (match s.2.2.1 a, s.2.2.1 u with
    | some (.inl (.object C, n, g)), some (.inr (cj, _)) => if x_in j n = true ∧ x_cn cj = some C ∧ x_et (.object C) = true then some (y_setT s a (.inl (.object C, n, va_up g j.toNatClampNeg (some u)))) else none
    | _, _ => none)
  | _, _ => none
def y_ln (o : X_O) (s : Y_S) (v : Value) : Option Int32 := match v with
  | .ref a => (match s.2.2.1 a with
    | some (.inl (ty, n, _)) => if x_et ty = true then some (Int32.ofNat n) else none
    | _ => none)
  | .retAddr a => (match o a with
    | some (n, _) => some (Int32.ofNat n)
    | none => none)
  | _ => none
def y_nul (v : Value) : Option Bool := match v with
  | .null => some true
  | .ref _ => some false
  | _ => none
def y_shp (ci : Nat) : List (Option Value) := (x_ftys.getD ci []).map fun t => match t with
  | .int => none
  | .boolean => none
  | _ => some .null
def y_na (s : Y_S) (ty : FieldType) (n : Int32) : Option Y_S := if ¬ n < 0 ∧ n.toNatClampNeg * 8 ≤ 536870912 then some (y_new s n.toNatClampNeg (.inl (ty, n.toNatClampNeg, fun _ => none))) else none
def y_cp (s : Y_S) (v : Value) (sp : Int32) (u : Value) (dp n : Int32) : Option Y_S := match v, u with
  | .ref a0, .ref a1 => if ¬ sp < 0 ∧ ¬ dp < 0 ∧ ¬ n < 0 then (match s.2.2.1 a0, s.2.2.1 a1 with
      | some (.inl (.int, n0, _)), some (.inl (.int, n1, _)) => if sp.toNatClampNeg + n.toNatClampNeg ≤ n0 ∧ dp.toNatClampNeg + n.toNatClampNeg ≤ n1 then some (y_cpyI s a0 a1 sp.toNatClampNeg dp.toNatClampNeg n.toNatClampNeg) else none
      | some (.inl (.long, n0, _)), some (.inl (.long, n1, _)) => if sp.toNatClampNeg + n.toNatClampNeg ≤ n0 ∧ dp.toNatClampNeg + n.toNatClampNeg ≤ n1 then some (y_cpyL s a0 a1 sp.toNatClampNeg dp.toNatClampNeg n.toNatClampNeg) else none
      | _, _ => none) else none
  | _, _ => none
theorem y_bind {α β : Type} {a : Option α} {f : α → Option β} {b : β} (h : a.bind f = some b) : ∃ x, a = some x ∧ f x = some b := by
  cases a with
  | none => cases h
  | some x => exact ⟨x, rfl, h⟩
section ZR
variable {o : X_O} {d mi pc pc' : Nat} {lv : X_L} {st t : List Value} {s s' : Y_S} {Q : Y_S → Option Value → Prop}
theorem Zgi {ci f idx : Nat} {v : Value} {x : Int32} (h : y_gi s ci v f = some x) (hc : x_code mi pc = some (.getfield idx)) (hf : x_fld mi idx = some (ci, f)) (hp : pc + 3 = pc') (k : Y o d mi pc' lv (.int x :: t) s Q) : Y o d mi pc lv (v :: t) s Q := by
  unfold y_gi at h
  split at h
  · split at h
    · rename_i hw
      split at h
      · rename_i g
        obtain ⟨g1, g2⟩ := g
        subst g1
        cases h
        exact Ygeti hc hf hw g2 hp k
      · cases h
    · cases h
  · cases h
theorem Zgr {ci f idx : Nat} {v x : Value} (h : y_gr s ci v f = some x) (hc : x_code mi pc = some (.getfield idx)) (hf : x_fld mi idx = some (ci, f)) (hp : pc + 3 = pc') (k : Y o d mi pc' lv (x :: t) s Q) : Y o d mi pc lv (v :: t) s Q := by
  unfold y_gr at h
  split at h
  · split at h
    · rename_i hw
      split at h
      · rename_i g1
        subst g1
        split at h
        · rename_i g2
          cases h
          exact Ygetr hc hf hw g2 hp k
        · cases h
      · cases h
    · cases h
  · cases h
theorem Zpi {ci f idx : Nat} {v : Value} {x : Int32} (h : y_pi s ci v f x = some s') (hc : x_code mi pc = some (.putfield idx)) (hf : x_fld mi idx = some (ci, f)) (hk : x_pok mi ci f = true) (hp : pc + 3 = pc') (k : Y o d mi pc' lv t s' Q) : Y o d mi pc lv (.int x :: v :: t) s Q := by
  unfold y_pi at h
  split at h
  · split at h
    · rename_i hw
      split at h
      · rename_i g
        obtain ⟨g1, g2, g3⟩ := g
        subst g1
        cases h
        exact Yputi hc hf hw g2 ⟨g3, hk⟩ hp k
      · cases h
    · cases h
  · cases h
theorem Zpr {ci f idx : Nat} {v x : Value} (h : y_pr s ci v f x = some s') (hc : x_code mi pc = some (.putfield idx)) (hf : x_fld mi idx = some (ci, f)) (hk : x_pok mi ci f = true) (hp : pc + 3 = pc') (k : Y o d mi pc' lv t s' Q) : Y o d mi pc lv (x :: v :: t) s Q := by
  unfold y_pr at h
  split at h
  · split at h
    · rename_i hw
      split at h
      · rename_i g
        obtain ⟨g1, g3⟩ := g
        subst g1
        split at h
        · rename_i g2
          cases h
          exact Yputr hc hf hw g2 ⟨g3, hk⟩ hp k
        · cases h
      · cases h
    · cases h
  · cases h
theorem Zia {v : Value} {j x : Int32} (h : y_ia o s v j = some x) (hc : x_code mi pc = some .iaload) (hp : pc + 1 = pc') (k : Y o d mi pc' lv (.int x :: t) s Q) : Y o d mi pc lv (.int j :: v :: t) s Q := by
  unfold y_ia at h
  split at h
  · split at h
    · rename_i hw
      split at h
      · rename_i g
        cases h
        exact Yiald hc hw g hp k
      · cases h
    · cases h
  · split at h
    · rename_i hw
      split at h
      · rename_i g
        cases h
        exact Yoald hc hw g hp k
      · cases h
    · cases h
  · cases h
theorem Zla {v : Value} {j : Int32} {x : Int64} (h : y_la s v j = some x) (hc : x_code mi pc = some .laload) (hp : pc + 1 = pc') (k : Y o d mi pc' lv (.long x :: t) s Q) : Y o d mi pc lv (.int j :: v :: t) s Q := by
  unfold y_la at h
  split at h
  · split at h
    · rename_i hw
      split at h
      · rename_i g
        cases h
        exact Ylald hc hw g hp k
      · cases h
    · cases h
  · cases h
theorem Zba {v : Value} {j x : Int32} (h : y_ba s v j = some x) (hc : x_code mi pc = some .baload) (hp : pc + 1 = pc') (k : Y o d mi pc' lv (.int x :: t) s Q) : Y o d mi pc lv (.int j :: v :: t) s Q := by
  unfold y_ba at h
  split at h
  · split at h
    · rename_i hw
      split at h
      · rename_i g
        cases h
        exact Ybald hc hw g hp k
      · cases h
    · cases h
  · cases h
theorem Zaa {v x : Value} {j : Int32} (h : y_aa s v j = some x) (hc : x_code mi pc = some .aaload) (hp : pc + 1 = pc') (k : Y o d mi pc' lv (x :: t) s Q) : Y o d mi pc lv (.int j :: v :: t) s Q := by
  unfold y_aa at h
  split at h
  · split at h
    · rename_i hw
      split at h
      · rename_i g
        cases h
        exact Yaald hc hw g.1 g.2 hp k
      · cases h
    · cases h
  · cases h
theorem Zis {v : Value} {j x : Int32} (h : y_is s v j x = some s') (hc : x_code mi pc = some .iastore) (hp : pc + 1 = pc') (k : Y o d mi pc' lv t s' Q) : Y o d mi pc lv (.int x :: .int j :: v :: t) s Q := by
  unfold y_is at h
  split at h
  · split at h
    · rename_i hw
      split at h
      · rename_i g
        cases h
        exact Yiast hc hw g hp k
      · cases h
    · cases h
  · cases h
theorem Zls {v : Value} {j : Int32} {x : Int64} (h : y_ls s v j x = some s') (hc : x_code mi pc = some .lastore) (hp : pc + 1 = pc') (k : Y o d mi pc' lv t s' Q) : Y o d mi pc lv (.long x :: .int j :: v :: t) s Q := by
  unfold y_ls at h
  split at h
  · split at h
    · rename_i hw
      split at h
      · rename_i g
        cases h
        exact Ylast hc hw g hp k
      · cases h
    · cases h
  · cases h
theorem Zbs {v : Value} {j x : Int32} (h : y_bs s v j x = some s') (hc : x_code mi pc = some .bastore) (hp : pc + 1 = pc') (k : Y o d mi pc' lv t s' Q) : Y o d mi pc lv (.int x :: .int j :: v :: t) s Q := by
  unfold y_bs at h
  split at h
  · split at h
    · rename_i hw
      split at h
      · rename_i g
        cases h
        exact Ybast hc hw g.1 g.2 hp k
      · cases h
    · cases h
  · cases h
theorem Zas {v x : Value} {j : Int32} (h : y_as s v j x = some s') (hc : x_code mi pc = some .aastore) (hp : pc + 1 = pc') (k : Y o d mi pc' lv t s' Q) : Y o d mi pc lv (x :: .int j :: v :: t) s Q := by
  unfold y_as at h
  split at h
  · split at h
    · rename_i hw hu
      split at h
      · rename_i g
        cases h
        exact Yaast hc hw hu g.1 g.2.1 g.2.2 hp k
      · cases h
    · cases h
  · cases h
theorem Zln {v : Value} {x : Int32} (h : y_ln o s v = some x) (hc : x_code mi pc = some .arraylength) (hp : pc + 1 = pc') (k : Y o d mi pc' lv (.int x :: t) s Q) : Y o d mi pc lv (v :: t) s Q := by
  unfold y_ln at h
  split at h
  · split at h
    · rename_i hw
      split at h
      · rename_i g
        cases h
        exact Yalen hc hw g hp k
      · cases h
    · cases h
  · split at h
    · rename_i hw
      cases h
      exact Yolen hc hw hp k
    · cases h
  · cases h
theorem Znull {v : Value} {z : Bool} {off : Int} {tg : Nat} (h : y_nul v = some z) (hc : x_code mi pc = some (.ifnull off)) (hp : x_tgt pc off = tg) (hq : pc + 3 = pc') (k1 : z = true → Y o d mi tg lv t s Q) (k2 : ¬ z = true → Y o d mi pc' lv t s Q) : Y o d mi pc lv (v :: t) s Q := by
  unfold y_nul at h
  split at h
  · cases h
    exact Ygo hc rfl rfl rfl rfl hp (k1 rfl)
  · cases h
    exact Yno hc rfl rfl rfl rfl hq (k2 (by decide))
  · cases h
theorem Znonnull {v : Value} {z : Bool} {off : Int} {tg : Nat} (h : y_nul v = some z) (hc : x_code mi pc = some (.ifnonnull off)) (hp : x_tgt pc off = tg) (hq : pc + 3 = pc') (k1 : z = true → Y o d mi pc' lv t s Q) (k2 : ¬ z = true → Y o d mi tg lv t s Q) : Y o d mi pc lv (v :: t) s Q := by
  unfold y_nul at h
  split at h
  · cases h
    exact Yno hc rfl rfl rfl rfl hq (k1 rfl)
  · cases h
    exact Ygo hc rfl rfl rfl rfl hp (k2 (by decide))
  · cases h
theorem Zcp {v u : Value} {sp dp n : Int32} {idx y na : Nat} (h : y_cp s v sp u dp n = some s') (hc : x_code mi pc = some (.invokestatic idx)) (hm : x_mth mi idx = some (7, y, na)) (ht : (t.map fun v => v.category).sum ≤ 8) (hp : pc + 3 = pc') (k : Y o (d + 1) mi pc' lv t s' Q) : Y o (d + 1) mi pc lv (.int n :: .int dp :: u :: .int sp :: v :: t) s Q := by
  unfold y_cp at h
  split at h
  · split at h
    · rename_i hn
      split at h
      · rename_i h0 h1
        split at h
        · rename_i hle
          cases h
          exact Y7i hc hm h0 h1 hn hle ht hp k
        · cases h
      · rename_i h0 h1
        split at h
        · rename_i hle
          cases h
          exact Y7l hc hm h0 h1 hn hle ht hp k
        · cases h
      · cases h
    · cases h
  · cases h
theorem Zna {n : Int32} {at_ : ArrayType} {ty : FieldType} (h : y_na s ty n = some s') (hc : x_code mi pc = some (.newarray at_)) (hx : (match at_ with | .int => some .int | .long => some .long | .boolean => some .boolean | _ => none : Option FieldType) = some ty) (hp : pc + 2 = pc') (k : Y o d mi pc' lv (.ref s.1 :: t) s' Q) : Y o d mi pc lv (.int n :: t) s Q := by
  unfold y_na at h
  split at h
  · rename_i g
    cases h
    exact Ynewa hc g.1 rfl g.2 hx hp k
  · cases h
end ZR
