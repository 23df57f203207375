/-! THE CLASS'S LOOK: a branch as a tree of frames, cut at a limit -/
theorem CN_all {P : PT} {side : Option Int} : ∀ (f : Nat) (p : Int) (st : List FR), CN P side f p st → ∀ x ∈ st, ¬ P_w P x.1 = 18 := by
  intro f
  induction f with
  | zero => intro p st h; exact h.elim
  | succ f ih =>
    intro p st h x hx
    simp only [CN] at h
    split at h
    · rw [h.1] at hx; cases hx
    · split at h
      · exact ih _ _ h x hx
      · split at h
        · rename_i w16
          split at h
          · obtain ⟨b, t', e, h⟩ := h
            rw [e] at hx
            rcases List.mem_cons.mp hx with z | z
            · rw [z]; show ¬ P_w P (P_u P p) = 18; omega
            · exact ih _ _ h x z
          · exact ih _ _ h x hx
        · split at h
          · rename_i w17
            obtain ⟨b, t', e, _, h⟩ := h
            rw [e] at hx
            rcases List.mem_cons.mp hx with z | z
            · rw [z]; show ¬ P_w P (P_u P p) = 18; omega
            · exact ih _ _ h x z
          · split at h
            · rw [h.1] at hx; cases hx
            · split at h
              · obtain ⟨y, b, t', e, _, _, w, h⟩ := h
                rw [e] at hx
                rcases List.mem_cons.mp hx with z | z
                · rw [z]; show ¬ P_w P y = 18; omega
                · exact ih _ _ h x z
              · exact h.elim
/-- where sides stand in a branch -/
def KD (P : PT) : (k : Nat) → BT k → Prop
  | 0, _ => True
  | k + 1, (m, p, _, st, sub) => (m = 1 → ¬ P_w P p = 18) ∧ (match sub with
    | none => ∀ f ∈ st, ¬ P_w P f.1 = 18
    | some (l, r) => ∃ q a t, st = (q, a) :: t ∧ P_w P q = 18 ∧ (∀ f ∈ t, ¬ P_w P f.1 = 18) ∧ KD P k l ∧ KD P k r)
theorem VT.kd {P : PT} {sz : Int → Int} {sec ph : Int} : ∀ (k : Nat) (side : Option Int) (base : Int) (t : BT k), VT P sz sec ph k side base t → KD P k t := by
  intro k
  induction k with
  | zero => intro side base t h; exact trivial
  | succ k ih =>
    intro side base t h
    obtain ⟨m, p, d, st, sub⟩ := t
    obtain ⟨h1, h2⟩ := h
    refine ⟨fun z => ?_, ?_⟩
    · rcases h1.2.2.2.2 with y | y | y
      · have : m = 0 := y.1
        omega
      · have w : P_w P p = 12 ∨ P_w P p = 13 := (y.2.2.2.2.2.2 z).1
        omega
      · have : m = 4 := y.1
        omega
    · cases sub with
      | none =>
        rcases h1.2.2.2.2 with y | y | y
        · have : st = [] := y.2
          intro f hf
          rw [this] at hf
          cases hf
        · obtain ⟨n, hn⟩ := y.2.2.2.2.1
          exact CN_all n p st hn
        · exact absurd y.1 h2
      | some lr =>
        obtain ⟨l, r⟩ := lr
        rcases h1.2.2.2.2 with y | y | y
        · have : m = 0 := y.1
          have := h2.1
          omega
        · have : m = 1 ∨ m = 2 ∨ m = 3 := y.1
          have := h2.1
          omega
        · obtain ⟨_, y1, y2, y3, t', y4, ⟨n, y5⟩, y6⟩ := y
          exact ⟨p, 0, t', y4, y3, CN_all n p t' y5, ih _ _ _ h2.2.1, ih _ _ _ h2.2.2⟩
theorem cn_ch {v : CV} {P : PT} {base u : Int} {r : Bool} : ∀ (st : List FR) (xs : List Int), chV v P base u r st xs → (∀ f ∈ st, ¬ P_w P f.1 = 18) → cn v xs = 0 := by
  intro st
  induction st with
  | nil =>
    intro xs h _
    rw [ch_nil h]
    rfl
  | cons f t ih =>
    intro xs h hk
    obtain ⟨p, a⟩ := f
    cases xs with
    | nil => exact h.elim
    | cons x ys =>
      have h0 := hk (p, a) List.mem_cons_self
      simp only [cn]
      rw [h.1.2.1, if_neg h0, ih ys h.2 (fun f hf => hk f (List.mem_cons_of_mem _ hf))]
      rfl
theorem SubT.mono {v : CV} : ∀ (n m : Nat) (x : Int) (D : List Int), n ≤ m → SubT v n x D → SubT v m x D := by
  intro n
  induction n with
  | zero => intro m x D _ h; exact h.elim
  | succ n ih =>
    intro m x D hm h
    obtain ⟨m', rfl⟩ : ∃ m', m = m' + 1 := ⟨m - 1, by omega⟩
    obtain ⟨h0, Dl, Dr, e, h1, h2⟩ := h
    refine ⟨h0, Dl, Dr, e, ?_, ?_⟩
    · rcases h1 with z | ⟨z1, z2⟩
      · exact Or.inl z
      · exact Or.inr ⟨z1, ih m' _ _ (by omega) z2⟩
    · rcases h2 with z | ⟨z1, z2⟩
      · exact Or.inl z
      · exact Or.inr ⟨z1, ih m' _ _ (by omega) z2⟩
/-- a chain with what hangs in it -/
theorem chV_sub {v : CV} {P : PT} {base u : Int} {r : Bool} : ∀ (st : List FR) (xs : List Int) (n : Nat) (D : List Int), chV v P base u r st xs → SubT v n (slotV v (hdI xs u) (rsI xs r)) D → vI v 3 (slotV v (hdI xs u) (rsI xs r)) = hdI xs u → (xs ≠ [] → vI v 5 (hdI xs u) = -1) →
    ∃ m E, SubT v m (slotV v u r) E ∧ E.Perm (D ++ xs) ∧ cn v E = cn v D + cn v xs ∧ vI v 3 (slotV v u r) = u := by
  intro st
  induction st with
  | nil =>
    intro xs n D h hs h3 h5
    have e := ch_nil h
    subst e
    exact ⟨n, D, hs, by simp, by simp [cn], h3⟩
  | cons f t ih =>
    intro xs n D h hs h3 h5
    obtain ⟨p, a⟩ := f
    cases xs with
    | nil => exact h.elim
    | cons x ys =>
      obtain ⟨⟨c1, c2, c3, c4, c5, c6, c7, c8⟩, c9⟩ := h
      have hs : SubT v n (slotV v x false) D := hs
      have h3 : vI v 3 (slotV v x false) = x := h3
      have h5 : vI v 5 x = -1 := h5 (by simp)
      rw [slot_l c1] at hs h3
      have hx : SubT v (n + 1) x (x :: (D ++ [])) := ⟨c1, D, [], rfl, Or.inr ⟨h3, hs⟩, Or.inl ⟨h5, rfl⟩⟩
      obtain ⟨m, E, e1, e2, e3, e4⟩ := ih ys (n + 1) (x :: (D ++ [])) c9 (by rw [c7]; exact hx) (by rw [c7]; exact c4) c8
      refine ⟨m, E, e1, e2.trans (l_perm (fun a => by simp only [List.cons_append, List.append_nil, List.count_append, List.count_cons]; omega)), ?_, e4⟩
      rw [e3]
      simp only [cn, List.append_nil]
      omega
theorem CB_sub {v : CV} {P : PT} : ∀ (k : Nat) (base u : Int) (r : Bool) (t : BT k) (it : IT k), KD P k t → CB v P k base u r t it → ¬ modeB k t = 0 → ∃ n E, SubT v n (slotV v u r) E ∧ E.Perm (flC k it) ∧ cn v E = sidesB k t ∧ vI v 3 (slotV v u r) = u := by
  intro k
  induction k with
  | zero => intro base u r t it _ h; exact h.elim
  | succ k ih =>
    intro base u r t it hk h hm
    obtain ⟨m, p, d, st, sub⟩ := t
    obtain ⟨b, xs, isub⟩ := it
    obtain ⟨h1, h2⟩ := h
    obtain ⟨k1, k2⟩ := hk
    have hm : ¬ m = 0 := hm
    cases sub with
    | none =>
      cases isub with
      | some _ => exact h2.elim
      | none =>
        rcases h2 with ⟨a1, _⟩ | ⟨a1, a2⟩
        · exact absurd a1 hm
        · obtain ⟨b1, b2, b3, b4, b5, b6, b7⟩ := a1
          have hb : SubT v 1 b [b] := ⟨b1, [], [], rfl, Or.inl ⟨b5, rfl⟩, Or.inl ⟨b6, rfl⟩⟩
          obtain ⟨n, E, e1, e2, e3, e4⟩ := chV_sub st xs 1 [b] h1 (by rw [b2]; exact hb) (by rw [b2]; exact b4) a2
          refine ⟨n, E, e1, e2.trans (l_perm (fun a => ?_)), ?_, e4⟩
          · simp only [flC]
            rw [if_neg (by omega)]
            simp only [List.count_append, List.count_nil]
            omega
          · rw [e3, cn_ch st xs h1 k2]
            have : ¬ vI v 1 b = 18 := by
              rcases b7 with z | z
              · omega
              · rw [z.2.1]; exact k1 z.1
            simp [cn, this, sidesB]
    | some lr =>
      obtain ⟨l, rr⟩ := lr
      cases isub with
      | none => exact h2.elim
      | some ilr =>
        obtain ⟨il, ir⟩ := ilr
        obtain ⟨a1, a2, a3, a4, a5⟩ := h2
        obtain ⟨q, a, t, est, q18, kt, kl, kr⟩ := k2
        subst est
        obtain ⟨x, ys, rfl⟩ := ch_cons h1
        obtain ⟨⟨c1, c2, c3, c4, c5, c6, c7, c8⟩, c9⟩ := h1
        have a4 : CB v P k _ x false l il := a4
        have a5 : CB v P k _ x true rr ir := a5
        have L : ∃ n E, ((vI v 4 x = -1 ∧ E = []) ∨ (vI v 3 (vI v 4 x) = x ∧ SubT v n (vI v 4 x) E)) ∧ E.Perm (flC k il) ∧ cn v E = sidesB k l := by
          rw [← slot_l c1]
          by_cases z : modeB k l = 0
          · obtain ⟨o1, o2⟩ := CB_over0 a4 z
            refine ⟨0, [], Or.inl ⟨o2, rfl⟩, by rw [o1], ?_⟩
            cases k with
            | zero => exact a4.elim
            | succ k =>
              obtain ⟨lm, lp, ld, lst, lsub⟩ := l
              obtain ⟨ib, ixs, iisub⟩ := il
              have z : lm = 0 := z
              cases lsub with
              | none => rfl
              | some w =>
                obtain ⟨w1, w2⟩ := w
                cases iisub with
                | none => exact a4.2.elim
                | some w3 =>
                  obtain ⟨w4, w5⟩ := w3
                  have := a4.2.1
                  omega
          · obtain ⟨n, E, e1, e2, e3, e4⟩ := ih _ _ _ _ _ kl a4 z
            exact ⟨n, E, Or.inr ⟨e4, e1⟩, e2, e3⟩
        have R : ∃ n E, ((vI v 5 x = -1 ∧ E = []) ∨ (vI v 3 (vI v 5 x) = x ∧ SubT v n (vI v 5 x) E)) ∧ E.Perm (flC k ir) ∧ cn v E = sidesB k rr := by
          rw [← slot_r c1]
          by_cases z : modeB k rr = 0
          · obtain ⟨o1, o2⟩ := CB_over0 a5 z
            refine ⟨0, [], Or.inl ⟨o2, rfl⟩, by rw [o1], ?_⟩
            cases k with
            | zero => exact a5.elim
            | succ k =>
              obtain ⟨lm, lp, ld, lst, lsub⟩ := rr
              obtain ⟨ib, ixs, iisub⟩ := ir
              have z : lm = 0 := z
              cases lsub with
              | none => rfl
              | some w =>
                obtain ⟨w1, w2⟩ := w
                cases iisub with
                | none => exact a5.2.elim
                | some w3 =>
                  obtain ⟨w4, w5⟩ := w3
                  have := a5.2.1
                  omega
          · obtain ⟨n, E, e1, e2, e3, e4⟩ := ih _ _ _ _ _ kr a5 z
            exact ⟨n, E, Or.inr ⟨e4, e1⟩, e2, e3⟩
        obtain ⟨n1, El, l1, l2, l3⟩ := L
        obtain ⟨n2, Er, r1, r2, r3⟩ := R
        have hx : SubT v (n1 + n2 + 1) x (x :: (El ++ Er)) := by
          refine ⟨c1, El, Er, rfl, ?_, ?_⟩
          · rcases l1 with z | ⟨z1, z2⟩
            · exact Or.inl z
            · exact Or.inr ⟨z1, z2.mono n1 _ _ _ (by omega)⟩
          · rcases r1 with z | ⟨z1, z2⟩
            · exact Or.inl z
            · exact Or.inr ⟨z1, z2.mono n2 _ _ _ (by omega)⟩
        obtain ⟨m', E, e1, e2, e3, e4⟩ := chV_sub t ys (n1 + n2 + 1) (x :: (El ++ Er)) c9 (by rw [c7]; exact hx) (by rw [c7]; exact c4) c8
        refine ⟨m', E, e1, e2.trans (l_perm (fun a => ?_)), ?_, e4⟩
        · simp only [flC]
          have q1 := l2.count_eq a
          have q2 := r2.count_eq a
          rw [a2, if_pos rfl]
          simp only [List.cons_append, List.count_append, List.count_cons, List.count_nil]
          omega
        · rw [e3, cn_ch t ys c9 kt]
          have : vI v 1 x = 18 := c2.trans q18
          simp only [cn, this, if_true, cn_app, l3, r3, sidesB]
          omega
/-- outer frames of a chain; inner ones -/
theorem chV_drop {v : CV} {P : PT} {base u : Int} {r : Bool} {st2 : List FR} {xs2 : List Int} : ∀ (st1 : List FR) (xs1 : List Int), st1.length = xs1.length → chV v P base u r (st1 ++ st2) (xs1 ++ xs2) → chV v P base u r st2 xs2 := by
  intro st1
  induction st1 with
  | nil =>
    intro xs1 e h
    cases xs1 with
    | nil => exact h
    | cons _ _ => simp at e
  | cons f t ih =>
    intro xs1 e h
    obtain ⟨p, a⟩ := f
    cases xs1 with
    | nil => simp at e
    | cons x ys => exact ih ys (by simpa using e) h.2
theorem chV_take {v : CV} {P : PT} {base u : Int} {r : Bool} {q : Int} {a : Int64} {acc : List FR} {y : Int} {ya : List Int} : ∀ (st1 : List FR) (xs1 : List Int), st1.length = xs1.length → chV v P base u r (st1 ++ (q, a) :: acc) (xs1 ++ y :: ya) → chV v P (base + acc.length + 1) y false st1 xs1 ∧ (st1 ≠ [] → vI v 5 y = -1) := by
  intro st1
  induction st1 with
  | nil =>
    intro xs1 e h
    cases xs1 with
    | nil => exact ⟨trivial, fun z => absurd rfl z⟩
    | cons _ _ => simp at e
  | cons f t ih =>
    intro xs1 e h
    obtain ⟨p, b⟩ := f
    cases xs1 with
    | nil => simp at e
    | cons x ys =>
      have e : t.length = ys.length := by simpa using e
      obtain ⟨⟨c1, c2, c3, c4, c5, c6, c7, c8⟩, c9⟩ := h
      obtain ⟨i1, i2⟩ := ih ys e c9
      have eh : hdI (ys ++ y :: ya) u = hdI ys y := by cases ys <;> rfl
      have er : rsI (ys ++ y :: ya) r = rsI ys false := by cases ys <;> rfl
      have c8' : vI v 5 (hdI (ys ++ y :: ya) u) = -1 := c8 (by simp)
      refine ⟨⟨⟨c1, c2, c3, c4.trans eh, ?_, c6, ?_, fun _ => by rw [← eh]; exact c8'⟩, i1⟩, fun _ => ?_⟩
      · have c5' : vI v 6 x = base + ((t ++ (q, a) :: acc).length : Int) + 1 := c5
        rw [c5', List.length_append, List.length_cons]
        push_cast
        omega
      · rw [← eh, ← er]
        exact c7
      · cases t with
        | nil =>
          cases ys with
          | nil => exact c8'
          | cons _ _ => simp at e
        | cons _ _ => exact i2 (by simp)
/-- cut at a limit: all inside it -/
theorem CB_cut {v : CV} {P : PT} {k : Nat} {base u : Int} {r : Bool} {m p : Int} {d : DT} {sub : Option (BT k × BT k)} {b : Int} {isub : Option (IT k × IT k)} {st1 acc : List FR} {q : Int} {a : Int64} {xs1 ya : List Int} {y : Int} (hl : st1.length = xs1.length) (hq : ¬ P_w P q = 18) (hk : KD P (k + 1) (m, p, d, st1 ++ (q, a) :: acc, sub)) (hm : ¬ m = 0) (h : CB v P (k + 1) base u r (m, p, d, st1 ++ (q, a) :: acc, sub) (b, xs1 ++ y :: ya, isub)) :
    ∃ n D, SubT v n y (y :: D) ∧ (y :: D ++ ya).Perm (flC (k + 1) (b, xs1 ++ y :: ya, isub)) ∧ cn v D = sidesB (k + 1) (m, p, d, st1 ++ (q, a) :: acc, sub) := by
  obtain ⟨h1, h2⟩ := h
  obtain ⟨t1, t2⟩ := chV_take st1 xs1 hl h1
  have hy := (chV_drop st1 xs1 hl h1).1
  have eh : hdI (xs1 ++ y :: ya) u = hdI xs1 y := by cases xs1 <;> rfl
  have er : rsI (xs1 ++ y :: ya) r = rsI xs1 false := by cases xs1 <;> rfl
  rw [eh, er] at h2
  have hne : sub ≠ none → st1 ≠ [] := by
    intro z e
    subst e
    cases sub with
    | none => exact z rfl
    | some lr =>
      obtain ⟨l, rr⟩ := lr
      obtain ⟨q', a', t', e1, e2, _⟩ := hk.2
      simp only [List.nil_append] at e1
      injection e1 with e3 e4
      injection e3 with e5 e6
      exact hq (by rw [e5]; exact e2)
  have kin : KD P (k + 1) (m, p, d, st1, sub) := by
    refine ⟨hk.1, ?_⟩
    cases sub with
    | none => exact fun f hf => hk.2 f (List.mem_append_left _ hf)
    | some lr =>
      obtain ⟨l, rr⟩ := lr
      obtain ⟨q', a', t', e1, e2, e3, e4, e5⟩ := hk.2
      cases st1 with
      | nil => exact absurd rfl (hne (by simp))
      | cons f t =>
        simp only [List.cons_append] at e1
        injection e1 with e6 e7
        refine ⟨q', a', t, by rw [e6], e2, fun f hf => e3 f ?_, e4, e5⟩
        rw [← e7]
        exact List.mem_append_left _ hf
  have hin : CB v P (k + 1) (base + acc.length + 1) y false (m, p, d, st1, sub) (b, xs1, isub) := by
    refine ⟨t1, ?_⟩
    cases sub with
    | none =>
      cases isub with
      | some _ => exact h2.elim
      | none =>
        rcases h2 with ⟨a1, a2, a3, a4⟩ | ⟨a1, a2⟩
        · exact absurd a1 hm
        · exact Or.inr ⟨a1, fun z => a2 (by simp)⟩
    | some lr =>
      obtain ⟨l, rr⟩ := lr
      cases isub with
      | none => exact h2.elim
      | some ilr =>
        obtain ⟨il, ir⟩ := ilr
        obtain ⟨a1, a2, a3, a4, a5⟩ := h2
        have hb : base + ((st1 ++ (q, a) :: acc).length : Int) = base + acc.length + 1 + st1.length := by
          simp only [List.length_append, List.length_cons]
          push_cast
          omega
        rw [hb] at a4 a5
        refine ⟨a1, a2, ?_, a4, a5⟩
        intro z
        subst z
        exact hne (by simp) (List.eq_nil_of_length_eq_zero (by simpa using hl))
  have h5 : vI v 5 y = -1 := by
    by_cases z : st1 = []
    · subst z
      have ex : xs1 = [] := List.eq_nil_of_length_eq_zero (by simpa using hl.symm)
      subst ex
      cases sub with
      | some lr => exact absurd rfl (hne (by simp))
      | none =>
        cases isub with
        | some _ => exact h2.elim
        | none =>
          rcases h2 with ⟨a1, a2, a3, a4⟩ | ⟨a1, a2⟩
          · exact absurd a1 hm
          · exact a2 (by simp)
    · exact t2 z
  obtain ⟨n, E, e1, e2, e3, e4⟩ := CB_sub (k + 1) _ _ _ _ _ kin hin hm
  rw [slot_l hy.1] at e1 e4
  refine ⟨n + 1, E ++ [], ⟨hy.1, E, [], rfl, Or.inr ⟨e4, e1⟩, Or.inl ⟨h5, rfl⟩⟩, l_perm (fun z => ?_), ?_⟩
  · have q1 := e2.count_eq z
    simp only [flC, List.count_append] at q1 ⊢
    simp only [List.append_nil, List.cons_append, List.count_append, List.count_cons]
    omega
  · rw [List.append_nil, e3]
    rfl
