/-! ONE MORE FRAME, ONE LESS, in the tree -/
theorem chV_same4 {v v' : CV} {P : PT} {base u : Int} {r : Bool} {st : List FR} {xs : List Int} (hn : xs.Nodup) (e : ∀ x ∈ xs, EqX v v' x (if x = hdI xs u then 4 else 0)) (es : xs ≠ [] → slotV v' u r = slotV v u r) (h : chV v P base u r st xs) : chV v' P base u r st xs := by
  cases st with
  | nil =>
    cases xs with
    | nil => exact h
    | cons _ _ => exact h.elim
  | cons f t =>
    obtain ⟨p, a⟩ := f
    cases xs with
    | nil => exact h.elim
    | cons x xs =>
      obtain ⟨⟨h1, h2, h3, h4, h5, h6, h7, h8⟩, h9⟩ := h
      have ex := e x List.mem_cons_self
      rw [show hdI (x :: xs) u = x from rfl, if_pos rfl] at ex
      have et : ∀ y ∈ xs, EqX v v' y 0 := fun y hy => by
        have := e y (List.mem_cons_of_mem _ hy)
        rw [show hdI (x :: xs) u = x from rfl, if_neg (fun q => (List.nodup_cons.mp hn).1 (by rw [← q]; exact hy))] at this
        exact this
      have ge := (chV_ge t xs h9).1
      refine ⟨⟨h1, (ex.1 1 (by decide) (by decide) (by decide)).trans h2, (ex.1 2 (by decide) (by decide) (by decide)).trans h3, (ex.1 3 (by decide) (by decide) (by decide)).trans h4, (ex.1 6 (by decide) (by decide) (by decide)).trans h5, fun z => (ex.2 8 (by decide) (by decide)).trans (h6 z), ?_, fun z => ?_⟩, chV_same t xs et (fun _ => es (by simp)) h9⟩
      · cases xs with
        | nil => exact (es (by simp)).trans h7
        | cons y ys => exact (slot_same (by have := ge y List.mem_cons_self; show ¬ y = -1; omega) (et y List.mem_cons_self)).trans h7
      · exact ((et _ (hdI_mem z)).1 5 (by decide) (by decide) (by decide)).trans (h8 z)
/-- the others stay -/
def SM (v v' : CV) (RX : List Int) (u : Int) (r : Bool) : Prop := (∀ x ∈ RX, EqX v v' x (if x = u then colV r else 0)) ∧ (¬ u = -1 → v_t v' = v_t v)
theorem EqX.rf (v : CV) (y : Int) (k : Nat) : EqX v v y k := ⟨fun _ _ _ _ => rfl, fun _ _ _ => rfl⟩
theorem EqX.tr {v v1 v2 : CV} {y : Int} {k : Nat} (h : EqX v v1 y k) (g : EqX v1 v2 y k) : EqX v v2 y k := ⟨fun i a b c => (g.1 i a b c).trans (h.1 i a b c), fun i a b => (g.2 i a b).trans (h.2 i a b)⟩
theorem EqX.wk {v v1 : CV} {y : Int} {k : Nat} (h : EqX v v1 y 0) : EqX v v1 y k := ⟨fun i a b _ => h.1 i a b (by omega), h.2⟩
theorem SM.rf (v : CV) (RX : List Int) (u : Int) (r : Bool) : SM v v RX u r := ⟨fun _ _ => EqX.rf _ _ _, fun _ => rfl⟩
theorem SM.tr {v v1 v2 : CV} {RX : List Int} {u : Int} {r : Bool} (h : SM v v1 RX u r) (g : SM v1 v2 RX u r) : SM v v2 RX u r := ⟨fun x hx => (h.1 x hx).tr (g.1 x hx), fun z => (g.2 z).trans (h.2 z)⟩
/-- where a branch hangs: below a side's frame, or nowhere -/
def CX (v : CV) (RX : List Int) (base : Nat) (u : Int) (r : Bool) (N : Int) (side : Option Int) : Prop := NXT v RX base u r N ∧ (r = true → vI v 4 u = -1 ∨ vI v 4 u ∈ RX) ∧
  (match side with
    | none => u = -1 ∧ r = false
    | some q => 0 ≤ u ∧ u ∈ RX ∧ vI v 1 u = 18 ∧ vI v 2 u = q)
theorem CX.same {v v' : CV} {RX : List Int} {base : Nat} {u : Int} {r : Bool} {N : Int} {side : Option Int} (h : CX v RX base u r N side) (e : SM v v' RX u r) : CX v' RX base u r N side := by
  obtain ⟨h1, h2, h3⟩ := h
  cases side with
  | none =>
    refine ⟨h1.foc e.2 e.1, fun z => ?_, h3⟩
    rw [h3.2] at z
    cases z
  | some q =>
    obtain ⟨g1, g2, g3, g4⟩ := h3
    have eu := e.1 u g2
    rw [if_pos rfl] at eu
    have c45 := colV_45 r
    refine ⟨h1.foc e.2 e.1, fun z => ?_, g1, g2, (eu.1 1 (by decide) (by decide) (by omega)).trans g3, (eu.1 2 (by decide) (by decide) (by omega)).trans g4⟩
    rw [eu.1 4 (by decide) (by decide) (by rw [z]; decide)]
    exact h2 z
theorem NXT.depth {v : CV} {RX : List Int} {base : Nat} {u : Int} {r : Bool} {N : Int} (h : NXT v RX base u r N) : depthV v u = base ∧ (u = -1 ∨ u ∈ RX) := by
  unfold depthV
  cases base with
  | zero => rw [if_pos h.1]; exact ⟨rfl, Or.inl h.1⟩
  | succ b =>
    obtain ⟨h1, h2, h3, h4⟩ := h
    rw [if_neg (by omega), h3]
    exact ⟨by simp, Or.inr h1⟩
theorem chV_depth {v : CV} {P : PT} {base : Nat} {u : Int} {r : Bool} {N : Int} {RX : List Int} (hN : NXT v RX base u r N) {st : List FR} {xs : List Int} (h : chV v P base u r st xs) : depthV v (hdI xs u) = base + st.length := by
  cases st with
  | nil =>
    cases xs with
    | nil => simpa [hdI] using hN.depth.1
    | cons _ _ => exact h.elim
  | cons f t =>
    obtain ⟨p, a⟩ := f
    cases xs with
    | nil => exact h.elim
    | cons x xs =>
      obtain ⟨⟨h1, h2, h3, h4, h5, h6, h7, h8⟩, h9⟩ := h
      unfold depthV
      show (if x = -1 then 0 else vI v 6 x) = _
      rw [if_neg (by omega), h5]
      simp
      omega
section COP
variable {v v' : CV} {P : PT} {base : Nat} {u N : Int} {r : Bool} {st : List FR} {xs RX : List Int} {side : Option Int}
theorem nd_app {l l' : List Int} (h : (l ++ l').Nodup) {x : Int} (h1 : x ∈ l) (h2 : x ∈ l') : False := (List.nodup_append.mp h).2.2 x h1 x h2 rfl
/-- a frame is added where there was none -/
theorem t_add {kd p x : Int} (hc : chV v P base u r st xs) (hr5 : xs ≠ [] → vI v 5 (hdI xs u) = -1) (hw : CWd v (xs ++ RX)) (hx : CX v RX base u r N side) (a : AddR v v' kd p (hdI xs u) (rsI xs r) x) (hl : ((xs ++ RX).length : Int) ≤ 6400) :
    SM v v' RX u r ∧ chV v' P base u r st xs ∧ slotV v' (hdI xs u) (rsI xs r) = x ∧ (xs ≠ [] → vI v' 5 (hdI xs u) = -1) ∧ CX v' RX base u r N side ∧ CWd v' (x :: xs ++ RX) ∧ 0 ≤ x ∧ x ∉ xs ++ RX := by
  have hw' := hw.add a hl
  have hnew := hw.new
  rw [← a.1] at hnew
  obtain ⟨fl, w1, w2, w3, w4, w5⟩ := hw
  obtain ⟨a1, a2, a3, a4, a5, a6, a7, a8, a9, a10, a11, a12, a13⟩ := a
  have nd : (xs ++ RX).Nodup := (List.nodup_append.mp w2).1
  have rg : ∀ y ∈ xs ++ RX, 0 ≤ y ∧ y < v_u v := fun y hy => w3 y (List.mem_append_left _ hy)
  have nx : ∀ y ∈ xs ++ RX, y ≠ x := fun y hy z => hnew.1 (by rw [← z]; exact hy)
  have ge := (chV_ge st xs hc).1
  have hu : ∀ y ∈ RX, ¬ y ∈ xs := fun y hy z => nd_app nd z hy
  have sm : SM v v' RX u r := by
    refine ⟨fun y hy => ?_, fun z => ?_⟩
    · have h8 := a8 y (rg y (List.mem_append_right _ hy)).1 (rg y (List.mem_append_right _ hy)).2 (nx y (List.mem_append_right _ hy))
      cases xs with
      | nil => exact h8
      | cons z zs =>
        rw [if_neg (fun q => hu y hy (by rw [q]; exact List.mem_cons_self))] at h8
        exact h8.wk
    · rw [a10]
      cases xs with
      | nil => exact if_neg z
      | cons w ws => exact if_neg (by have := ge w List.mem_cons_self; show ¬ w = -1; omega)
  refine ⟨sm, ?_, ?_, fun z => ?_, hx.same sm, hw', hnew.2, hnew.1⟩
  · cases xs with
    | nil =>
      cases st with
      | nil => exact hc
      | cons _ _ => exact hc.elim
    | cons z zs =>
      refine chV_same4 (List.nodup_append.mp nd).1 (fun y hy => ?_) (fun _ => ?_) hc
      · exact a8 y (rg y (List.mem_append_left _ hy)).1 (rg y (List.mem_append_left _ hy)).2 (nx y (List.mem_append_left _ hy))
      · have gz := ge z List.mem_cons_self
        by_cases zu : u = -1
        · have et : v_t v' = v_t v := a10.trans (if_neg (by show ¬ z = -1; omega))
          unfold slotV
          rw [if_pos zu, if_pos zu]
          exact et
        · have hm : u ∈ RX := by
            rcases hx.1.depth.2 with q | q
            · exact absurd q zu
            · exact q
          have h8 := a8 u (rg u (List.mem_append_right _ hm)).1 (rg u (List.mem_append_right _ hm)).2 (nx u (List.mem_append_right _ hm))
          rw [if_neg (fun q => hu u hm (by rw [q]; exact List.mem_cons_self))] at h8
          exact slot_same zu h8
  · unfold slotV
    by_cases z : hdI xs u = -1
    · rw [if_pos z, a10, if_pos z]
    · rw [if_neg z]
      exact a9 z
  · have hm := hdI_mem (u := u) z
    have h8 := a8 _ (rg _ (List.mem_append_left _ hm)).1 (rg _ (List.mem_append_left _ hm)).2 (nx _ (List.mem_append_left _ hm))
    rw [if_pos rfl] at h8
    refine (h8.1 5 (by decide) (by decide) ?_).trans (hr5 z)
    cases xs with
    | nil => exact absurd rfl z
    | cons y ys => show 5 ≠ colV false; decide
/-- a frame goes that hangs there -/
theorem t_rem {x : Int} (hc : chV v P base u r st xs) (hr5 : xs ≠ [] → vI v 5 (hdI xs u) = -1) (hs : slotV v (hdI xs u) (rsI xs r) = x) (h3 : vI v 3 x = hdI xs u) (hw : CWd v (x :: xs ++ RX)) (hx : CX v RX base u r N side) (a : RemR v v' x) :
    SM v v' RX u r ∧ chV v' P base u r st xs ∧ slotV v' (hdI xs u) (rsI xs r) = -1 ∧ (xs ≠ [] → vI v' 5 (hdI xs u) = -1) ∧ CX v' RX base u r N side ∧ CWd v' (xs ++ RX) := by
  have hw' := CWd.rem (live := xs ++ RX) hw a
  obtain ⟨fl, w1, w2, w3, w4, w5⟩ := hw
  obtain ⟨a1, a2, a3, a4, a5, a6, a7⟩ := a
  have nd0 : (x :: (xs ++ RX)).Nodup := (List.nodup_append.mp w2).1
  have nd : (xs ++ RX).Nodup := (List.nodup_cons.mp nd0).2
  have rg : ∀ y ∈ xs ++ RX, 0 ≤ y ∧ y < v_u v := fun y hy => w3 y (List.mem_append_left _ (List.mem_cons_of_mem _ hy))
  have nx : ∀ y ∈ xs ++ RX, y ≠ x := fun y hy z => (List.nodup_cons.mp nd0).1 (by rw [← z]; exact hy)
  have ge := (chV_ge st xs hc).1
  have hu : ∀ y ∈ RX, ¬ y ∈ xs := fun y hy z => nd_app nd z hy
  -- the slot's side
  have hcol : ¬ hdI xs u = -1 → colV (!decide (vI v 4 (vI v 3 x) = x)) = colV (rsI xs r) := by
    intro z
    rw [h3]
    unfold slotV at hs
    rw [if_neg z] at hs
    cases xs with
    | nil =>
      cases r with
      | false =>
        have hs : vI v 4 u = x := hs
        simp [hdI, hs, rsI]
      | true =>
        have hs : vI v 5 u = x := hs
        have hx0 := w3 x (List.mem_append_left _ List.mem_cons_self)
        have : ¬ vI v 4 u = x := by
          intro q
          rcases hx.2.1 rfl with y | y
          · omega
          · exact nx _ (List.mem_append_right _ y) q
        simp [hdI, this, rsI]
    | cons y ys =>
      have hs : vI v 4 y = x := hs
      simp [hdI, hs, rsI]
  have sm : SM v v' RX u r := by
    refine ⟨fun y hy => ?_, fun z => ?_⟩
    · have h8 := a1 y (rg y (List.mem_append_right _ hy)).1 (rg y (List.mem_append_right _ hy)).2
      rw [if_neg (nx y (List.mem_append_right _ hy))] at h8
      cases xs with
      | nil =>
        by_cases q : y = u
        · have h3 : vI v 3 x = u := h3
          rw [h3] at hcol
          rw [if_pos (by rw [h3]; exact q), h3, hcol (by have := rg y (List.mem_append_right _ hy); show ¬ u = -1; omega)] at h8
          rw [if_pos q]
          exact h8
        · rw [if_neg (by rw [h3]; exact q)] at h8
          rw [if_neg q]
          exact h8
      | cons z zs =>
        rw [if_neg (fun q => hu y hy (by rw [q, h3]; exact List.mem_cons_self))] at h8
        exact h8.wk
    · rw [a4, h3]
      cases xs with
      | nil => exact if_neg z
      | cons w ws => exact if_neg (by have := ge w List.mem_cons_self; show ¬ w = -1; omega)
  refine ⟨sm, ?_, ?_, fun z => ?_, hx.same sm, hw'⟩
  · cases xs with
    | nil =>
      cases st with
      | nil => exact hc
      | cons _ _ => exact hc.elim
    | cons z zs =>
      have gz := ge z List.mem_cons_self
      refine chV_same4 (List.nodup_append.mp nd).1 (fun y hy => ?_) (fun _ => ?_) hc
      · have h8 := a1 y (rg y (List.mem_append_left _ hy)).1 (rg y (List.mem_append_left _ hy)).2
        rw [if_neg (nx y (List.mem_append_left _ hy)), h3, ← h3, hcol (by show ¬ z = -1; omega), h3] at h8
        exact h8
      · by_cases zu : u = -1
        · have et : v_t v' = v_t v := a4.trans (if_neg (by rw [h3]; show ¬ z = -1; omega))
          unfold slotV
          rw [if_pos zu, if_pos zu]
          exact et
        · have hm : u ∈ RX := by
            rcases hx.1.depth.2 with q | q
            · exact absurd q zu
            · exact q
          have h8 := a1 u (rg u (List.mem_append_right _ hm)).1 (rg u (List.mem_append_right _ hm)).2
          rw [if_neg (nx u (List.mem_append_right _ hm)), if_neg (fun q => hu u hm (by rw [q, h3]; exact List.mem_cons_self))] at h8
          exact slot_same zu h8
  · unfold slotV
    by_cases z : hdI xs u = -1
    · rw [if_pos z, a4, if_pos (by rw [h3]; exact z)]
    · rw [if_neg z, ← hcol z, ← h3]
      exact a3 (by rw [h3]; exact z)
  · have hm := hdI_mem (u := u) z
    have h8 := a1 _ (rg _ (List.mem_append_left _ hm)).1 (rg _ (List.mem_append_left _ hm)).2
    rw [if_neg (nx _ (List.mem_append_left _ hm)), if_pos h3.symm, hcol (by have := ge _ hm; omega)] at h8
    refine (h8.1 5 (by decide) (by decide) ?_).trans (hr5 z)
    cases xs with
    | nil => exact absurd rfl z
    | cons y ys => show 5 ≠ colV false; decide
end COP
