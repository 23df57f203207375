/-! THE CLASS'S FRAMES AS A TREE: chains of frames, inner first; branches in their slots; free frames -/
def hdI (xs : List Int) (u : Int) : Int := match xs with
  | [] => u
  | x :: _ => x
def rsI (xs : List Int) (r : Bool) : Bool := match xs with
  | [] => r
  | _ :: _ => false
def slotV (v : CV) (u : Int) (r : Bool) : Int := if u = -1 then v_t v else vI v (colV r) u
/-- the frames around, inner first -/
def chV (v : CV) (P : PT) (base u : Int) (r : Bool) : List FR → List Int → Prop
  | [], [] => True
  | (p, a) :: t, x :: xs => (0 ≤ x ∧ vI v 1 x = P_w P p ∧ vI v 2 x = p ∧ vI v 3 x = hdI xs u ∧ vI v 6 x = base + t.length + 1 ∧ (P_w P p = 17 → vL v 8 x = a) ∧ slotV v (hdI xs u) (rsI xs r) = x ∧ (xs ≠ [] → vI v 5 (hdI xs u) = -1)) ∧ chV v P base u r t xs
  | _, _ => False
/-- what stands below the innermost: a statement to begin, or one that stands -/
def lfV (v : CV) (P : PT) (w : Int) (r : Bool) (m p : Int) (d : DT) (y : Int) : Prop := 0 ≤ y ∧ slotV v w r = y ∧ vI v 2 y = p ∧ vI v 3 y = w ∧ vI v 4 y = -1 ∧ vI v 5 y = -1 ∧
  ((m = 2 ∧ vI v 1 y = 40) ∨ (m = 1 ∧ vI v 1 y = P_w P p ∧ vI v 7 y = d.1 ∧ vL v 8 y = d.2.1 ∧ (P_w P p = 13 → vL v 9 y = d.2.2.1 ∧ vL v 10 y = d.2.2.2)))
def CB (v : CV) (P : PT) : (k : Nat) → Int → Int → Bool → BT k → IT k → Prop
  | 0, _, _, _, _, _ => False
  | k + 1, base, u, r, (m, p, d, st, sub), (b, xs, isub) => chV v P base u r st xs ∧ (match sub, isub with
    | none, none => (m = 0 ∧ b = -1 ∧ st = [] ∧ slotV v u r = -1) ∨ (lfV v P (hdI xs u) (rsI xs r) m p d b ∧ (xs ≠ [] → vI v 5 (hdI xs u) = -1))
    | some (l, rr), some (il, ir) => m = 4 ∧ b = -1 ∧ xs ≠ [] ∧ CB v P k (base + st.length) (hdI xs u) false l il ∧ CB v P k (base + st.length) (hdI xs u) true rr ir
    | _, _ => False)
def flC : (k : Nat) → IT k → List Int
  | 0, _ => []
  | k + 1, (b, xs, sub) => (if b = -1 then [] else [b]) ++ xs ++ (match sub with
    | none => []
    | some (l, r) => flC k l ++ flC k r)
/-- in flight: no leaf -/
def AF (v : CV) (P : PT) (base u : Int) (r : Bool) (st : List FR) (xs : List Int) : Prop := chV v P base u r st xs ∧ slotV v (hdI xs u) (rsI xs r) = -1 ∧ (xs ≠ [] → vI v 5 (hdI xs u) = -1)
/-- the free frames -/
def flV (v : CV) : Int → List Int → Prop
  | f, [] => f = -1
  | f, y :: ys => f = y ∧ flV v (vI v 3 y) ys
/-- all frames: those that live and those that are free -/
def CWd (v : CV) (live : List Int) : Prop := ∃ fl, flV v (v_f v) fl ∧ (live ++ fl).Nodup ∧ (∀ x ∈ live ++ fl, 0 ≤ x ∧ x < v_u v) ∧ v_u v = live.length + fl.length ∧ v_u v ≤ 6500
theorem CWd.perm {v : CV} {l l' : List Int} (h : CWd v l) (p : l.Perm l') : CWd v l' := by
  obtain ⟨fl, h1, h2, h3, h4, h5⟩ := h
  have q : (l ++ fl).Perm (l' ++ fl) := p.append_right fl
  exact ⟨fl, h1, q.nodup_iff.mp h2, fun x hx => h3 x (q.mem_iff.mpr hx), by rw [← p.length_eq]; exact h4, h5⟩
theorem colV_45 (r : Bool) : colV r = 4 ∨ colV r = 5 := by cases r <;> simp [colV]
theorem flV_same {v v' : CV} : ∀ (l : List Int) (f : Int), (∀ y ∈ l, vI v' 3 y = vI v 3 y) → flV v f l → flV v' f l := by
  intro l
  induction l with
  | nil => intro f _ h; exact h
  | cons y ys ih =>
    intro f e h
    refine ⟨h.1, ?_⟩
    rw [e y List.mem_cons_self]
    exact ih _ (fun z hz => e z (List.mem_cons_of_mem _ hz)) h.2
/-- the next free frame -/
theorem CWd.new {v : CV} {live : List Int} (h : CWd v live) : (if v_f v = -1 then v_u v else v_f v) ∉ live ∧ 0 ≤ (if v_f v = -1 then v_u v else v_f v) := by
  obtain ⟨fl, h1, h2, h3, h4, h5⟩ := h
  cases fl with
  | nil =>
    have e : v_f v = -1 := h1
    rw [if_pos e]
    refine ⟨fun z => ?_, by simp at h4; omega⟩
    have := h3 _ (by rw [List.append_nil]; exact z)
    omega
  | cons y ys =>
    obtain ⟨e, h1⟩ := h1
    have hy := h3 y (List.mem_append_right _ List.mem_cons_self)
    rw [if_neg (by omega), e]
    refine ⟨fun z => ?_, hy.1⟩
    exact (List.nodup_append.mp h2).2.2 y z y List.mem_cons_self rfl
theorem CWd.add {v v' : CV} {live : List Int} {kd p u x : Int} {r : Bool} (h : CWd v live) (a : AddR v v' kd p u r x) (hl : (live.length : Int) ≤ 6400) : CWd v' (x :: live) := by
  obtain ⟨fl, h1, h2, h3, h4, h5⟩ := h
  obtain ⟨a1, a2, a3, a4, a5, a6, a7, a8, a9, a10, a11, a12, a13⟩ := a
  cases fl with
  | nil =>
    have e : v_f v = -1 := h1
    rw [if_pos e] at a1 a11 a12
    simp only [List.append_nil] at h2 h3
    refine ⟨[], a11, ?_, fun y hy => ?_, ?_, ?_⟩
    · rw [List.append_nil]
      refine List.nodup_cons.mpr ⟨fun z => ?_, h2⟩
      have := h3 _ z
      omega
    · simp only [List.append_nil, List.mem_cons] at hy
      rcases hy with rfl | hy
      · simp at h4; omega
      · have := h3 _ hy
        omega
    · simp only [List.length_cons, List.length_nil] at h4 ⊢
      omega
    · simp only [List.length_nil] at h4
      omega
  | cons y ys =>
    obtain ⟨e, h1⟩ := h1
    have hy := h3 y (List.mem_append_right _ List.mem_cons_self)
    have en : ¬ v_f v = -1 := by omega
    rw [if_neg en] at a1 a11 a12
    have hp : (live ++ y :: ys).Perm (y :: live ++ ys) := l_perm (fun a => by simp only [List.count_append, List.count_cons]; omega)
    have hn := hp.nodup_iff.mp h2
    have ex : x = y := a1.trans e
    subst ex
    refine ⟨ys, ?_, hn, fun z hz => ?_, ?_, by omega⟩
    · rw [a11, e]
      refine flV_same ys _ (fun z hz => ?_) h1
      have hz1 := h3 z (List.mem_append_right _ (List.mem_cons_of_mem _ hz))
      have hz2 : z ≠ x := fun q => by
        subst q
        have := (List.nodup_append.mp h2).2.1
        exact (List.nodup_cons.mp this).1 hz
      have c45 := colV_45 r
      exact (a8 z hz1.1 hz1.2 hz2).1 3 (by decide) (by decide) (by split <;> omega)
    · have := h3 z (hp.mem_iff.mpr hz)
      omega
    · simp only [List.length_cons] at h4 ⊢
      omega
theorem CWd.rem {v v' : CV} {live : List Int} {x : Int} (h : CWd v (x :: live)) (a : RemR v v' x) : CWd v' live := by
  obtain ⟨fl, h1, h2, h3, h4, h5⟩ := h
  obtain ⟨a1, a2, a3, a4, a5, a6, a7⟩ := a
  have hp : (x :: live ++ fl).Perm (live ++ x :: fl) := l_perm (fun a => by simp only [List.count_append, List.count_cons]; omega)
  refine ⟨x :: fl, ⟨a5, ?_⟩, hp.nodup_iff.mp h2, fun z hz => ?_, ?_, by omega⟩
  · rw [a2]
    refine flV_same fl _ (fun z hz => ?_) h1
    have hz1 := h3 z (List.mem_append_right _ hz)
    have hz2 : z ≠ x := fun q => by
      subst q
      exact (List.nodup_append.mp h2).2.2 z List.mem_cons_self z hz rfl
    refine (a1 z hz1.1 hz1.2).1 3 (by decide) (by decide) ?_
    rw [if_neg hz2]
    have c45 := colV_45 (!decide (vI v 4 (vI v 3 x) = x))
    split <;> omega
  · have := h3 z (hp.mem_iff.mpr hz)
    omega
  · simp only [List.length_cons] at h4 ⊢
    omega
/-- what is not touched stays -/
theorem hdI_mem {xs : List Int} {u : Int} (h : xs ≠ []) : hdI xs u ∈ xs := by
  cases xs with
  | nil => exact absurd rfl h
  | cons x xs => exact List.mem_cons_self
theorem slot_same {v v' : CV} {u : Int} {r : Bool} (h : ¬ u = -1) (e : EqX v v' u 0) : slotV v' u r = slotV v u r := by
  unfold slotV
  rw [if_neg h, if_neg h]
  have := colV_45 r
  exact e.1 _ (by omega) (by omega) (by omega)
theorem chV_ge {v : CV} {P : PT} {base u : Int} {r : Bool} : ∀ (st : List FR) (xs : List Int), chV v P base u r st xs → (∀ x ∈ xs, 0 ≤ x) ∧ xs.length = st.length := by
  intro st
  induction st with
  | nil =>
    intro xs h
    cases xs with
    | nil => exact ⟨fun x hx => absurd hx List.not_mem_nil, rfl⟩
    | cons _ _ => exact h.elim
  | cons f t ih =>
    intro xs h
    obtain ⟨p, a⟩ := f
    cases xs with
    | nil => exact h.elim
    | cons x xs =>
      obtain ⟨i1, i2⟩ := ih xs h.2
      refine ⟨fun y hy => ?_, by simp [i2]⟩
      rcases List.mem_cons.mp hy with e | hy
      · rw [e]; exact h.1.1
      · exact i1 y hy
theorem chV_same {v v' : CV} {P : PT} {base u : Int} {r : Bool} : ∀ (st : List FR) (xs : List Int), (∀ x ∈ xs, EqX v v' x 0) → (xs ≠ [] → slotV v' u r = slotV v u r) → chV v P base u r st xs → chV v' P base u r st xs := by
  intro st
  induction st with
  | nil =>
    intro xs _ _ h
    cases xs with
    | nil => exact h
    | cons _ _ => exact h.elim
  | cons f t ih =>
    intro xs e es h
    obtain ⟨p, a⟩ := f
    cases xs with
    | nil => exact h.elim
    | cons x xs =>
      obtain ⟨⟨h1, h2, h3, h4, h5, h6, h7, h8⟩, h9⟩ := h
      have ex := e x List.mem_cons_self
      have ge := (chV_ge t xs h9).1
      refine ⟨⟨h1, (ex.1 1 (by decide) (by decide) (by decide)).trans h2, (ex.1 2 (by decide) (by decide) (by decide)).trans h3, (ex.1 3 (by decide) (by decide) (by decide)).trans h4, (ex.1 6 (by decide) (by decide) (by decide)).trans h5, fun z => (ex.2 8 (by decide) (by decide)).trans (h6 z), ?_, fun z => ?_⟩, ih xs (fun y hy => e y (List.mem_cons_of_mem _ hy)) (fun z => es (by simp)) h9⟩
      · cases xs with
        | nil => exact (es (by simp)).trans h7
        | cons y ys => exact (slot_same (by have := ge y List.mem_cons_self; show ¬ y = -1; omega) (e y (List.mem_cons_of_mem _ List.mem_cons_self))).trans h7
      · exact ((e _ (List.mem_cons_of_mem _ (hdI_mem z))).1 5 (by decide) (by decide) (by decide)).trans (h8 z)
theorem CB_same {v v' : CV} {P : PT} : ∀ (k : Nat) (base u : Int) (r : Bool) (t : BT k) (it : IT k), (∀ x ∈ flC k it, EqX v v' x 0) → slotV v' u r = slotV v u r → CB v P k base u r t it → CB v' P k base u r t it := by
  intro k
  induction k with
  | zero => intro base u r t it _ _ h; exact h.elim
  | succ k ih =>
    intro base u r t it e es h
    obtain ⟨m, p, d, st, sub⟩ := t
    obtain ⟨b, xs, isub⟩ := it
    obtain ⟨h1, h2⟩ := h
    have ge := (chV_ge st xs h1).1
    have ex : ∀ x ∈ xs, EqX v v' x 0 := fun x hx => e x (by simp only [flC, List.mem_append]; exact Or.inl (Or.inr hx))
    have ehd : slotV v' (hdI xs u) (rsI xs r) = slotV v (hdI xs u) (rsI xs r) := by
      cases xs with
      | nil => exact es
      | cons y ys => exact slot_same (by have := ge y List.mem_cons_self; show ¬ y = -1; omega) (ex y List.mem_cons_self)
    refine ⟨chV_same st xs ex (fun _ => es) h1, ?_⟩
    cases sub with
    | none =>
      cases isub with
      | some _ => exact h2.elim
      | none =>
        rcases h2 with ⟨a1, a2, a3, a4⟩ | ⟨a1, a2⟩
        · exact Or.inl ⟨a1, a2, a3, es.trans a4⟩
        · obtain ⟨b1, b2, b3, b4, b5, b6, b7⟩ := a1
          have eb := e b (by simp only [flC, List.mem_append]; left; left; rw [if_neg (by omega)]; exact List.mem_singleton.mpr rfl)
          have eI := fun i h0 h1 => eb.1 i h0 h1
          refine Or.inr ⟨⟨b1, ehd.trans b2, (eI 2 (by decide) (by decide) (by decide)).trans b3, (eI 3 (by decide) (by decide) (by decide)).trans b4, (eI 4 (by decide) (by decide) (by decide)).trans b5, (eI 5 (by decide) (by decide) (by decide)).trans b6, ?_⟩, fun z => ((ex _ (hdI_mem z)).1 5 (by decide) (by decide) (by decide)).trans (a2 z)⟩
          rcases b7 with ⟨c1, c2⟩ | ⟨c1, c2, c3, c4, c5⟩
          · exact Or.inl ⟨c1, (eI 1 (by decide) (by decide) (by decide)).trans c2⟩
          · exact Or.inr ⟨c1, (eI 1 (by decide) (by decide) (by decide)).trans c2, (eI 7 (by decide) (by decide) (by decide)).trans c3, (eb.2 8 (by decide) (by decide)).trans c4, fun z => ⟨(eb.2 9 (by decide) (by decide)).trans (c5 z).1, (eb.2 10 (by decide) (by decide)).trans (c5 z).2⟩⟩
    | some lr =>
      obtain ⟨l, rr⟩ := lr
      cases isub with
      | none => exact h2.elim
      | some ilr =>
        obtain ⟨il, ir⟩ := ilr
        obtain ⟨a1, a2, a3, a4, a5⟩ := h2
        have hm := hdI_mem (u := u) a3
        have hn : ¬ hdI xs u = -1 := by have := ge _ hm; omega
        refine ⟨a1, a2, a3, ih _ _ _ l il (fun x hx => e x ?_) (slot_same hn (ex _ hm)) a4, ih _ _ _ rr ir (fun x hx => e x ?_) (slot_same hn (ex _ hm)) a5⟩
        · simp only [flC, List.mem_append]
          exact Or.inr (Or.inl hx)
        · simp only [flC, List.mem_append]
          exact Or.inr (Or.inr hx)
