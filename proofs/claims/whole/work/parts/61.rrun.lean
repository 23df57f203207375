/-! THE REFERENCE'S run -/
def VT (P : PT) (sz : Int → Int) (sec ph : Int) : (k : Nat) → Option Int → Int → BT k → Prop
  | 0, _, _, _ => False
  | k + 1, side, base, (m, p, d, st, sub) => VC P sz sec ph side base (m, p, d, st) ∧ (match sub with
    | none => ¬ m = 4
    | some (l, r) => m = 4 ∧ VT P sz sec ph k (some p) (base + st.length) l ∧ VT P sz sec ph k (some p) (base + st.length) r)
def wtB (sw : Int) : (k : Nat) → BT k → Int
  | 0, _ => 0
  | k + 1, (m, p, d, st, sub) => wtC sw (m, p, d, st) + (match sub with
    | none => 0
    | some (l, r) => wtB sw k l + wtB sw k r)
theorem VC.wt {P : PT} {sz : Int → Int} {sec ph base sw : Int} {side : Option Int} {c : CT} (hn : P_n P ≤ 500) (h : VC P sz sec ph side base c) : 0 ≤ wtC sw c ∧ wtC sw c ≤ 70000 := by
  obtain ⟨h1, h2, h3, h4, h5⟩ := h
  have hs : (0 : Int) ≤ (if sw = -1 then 0 else 1000) ∧ (if sw = -1 then 0 else 1000) ≤ (1000 : Int) := by split <;> omega
  unfold wtC
  rcases h5 with h5 | h5 | h5
  · rw [if_neg (by omega), if_neg (by omega), if_pos h5.1]; omega
  · by_cases c2 : c.1 = 2
    · rw [if_pos c2]; omega
    · rw [if_neg c2]
      by_cases c3 : c.1 = 3
      · rw [if_pos c3]; omega
      · rw [if_neg c3, if_neg (by omega)]; omega
  · rw [if_neg (by omega), if_neg (by omega), if_neg (by omega)]; omega
theorem VT.wt {P : PT} {sz : Int → Int} {sec ph sw : Int} (hn : P_n P ≤ 500) : ∀ (k : Nat) (side : Option Int) (base : Int) (t : BT k), VT P sz sec ph k side base t → 0 ≤ wtB sw k t ∧ wtB (-1) k t ≤ wtB sw k t := by
  intro k
  induction k with
  | zero => intro side base t h; exact h.elim
  | succ k ih =>
    intro side base t h
    obtain ⟨m, p, d, st, sub⟩ := t
    obtain ⟨h1, h2⟩ := h
    have w1 := (h1.wt (sw := sw) hn).1
    have w2 : wtC (-1) (m, p, d, st) ≤ wtC sw (m, p, d, st) := by
      unfold wtC
      repeat' split
      all_goals omega
    cases sub with
    | none => exact ⟨by simp only [wtB]; omega, by simp only [wtB]; omega⟩
    | some lr =>
      obtain ⟨l, r⟩ := lr
      have i1 := ih _ _ l h2.2.1
      have i2 := ih _ _ r h2.2.2
      exact ⟨by simp only [wtB]; omega, by simp only [wtB]; omega⟩
/-- a tree whose cells are not touched -/
theorem RM_same {s s' : Q_S} {P : PT} : ∀ (k : Nat) (base u : Int) (t : BT k) (it : IT k), SMX s s' (fxI k it) → SMB s s' (fbI k it) → RM s P k base u t it → RM s' P k base u t it := by
  intro k
  induction k with
  | zero => intro base u t it _ _ h; exact h
  | succ k ih =>
    intro base u t it hx hb h
    obtain ⟨m, p, d, st, sub⟩ := t
    obtain ⟨b, xs, isub⟩ := it
    obtain ⟨⟨b1, b2, b3, b4, b5, b6⟩, h2⟩ := h
    obtain ⟨e1, e2, e3, e4, e5, e6, e7⟩ := hb b List.mem_cons_self
    have hxs : ∀ y ∈ xs, y ∈ fxI (k + 1) (b, xs, isub) := fun y hy => List.mem_append_left _ hy
    refine ⟨⟨b1, b2, e1.trans b3, e2.trans b4, fun hm => ?_, ?_⟩, ?_⟩
    · obtain ⟨d1, d2, d3⟩ := b5 hm
      exact ⟨e4.trans d1, e5.trans d2, fun hw => ⟨e6.trans (d3 hw).1, e7.trans (d3 hw).2⟩⟩
    · rw [e3]
      exact rpS_same _ _ _ (fun y hy => by obtain ⟨a1, a2, a3, a4, a5, a6⟩ := hx y (hxs y hy); exact ⟨a1, a2, a3, a6⟩) b6
    · cases sub with
      | none =>
        cases isub with
        | none => exact ⟨h2.1, fun x hy => (hx x (hxs x hy)).2.2.2.1.trans (h2.2 x hy)⟩
        | some _ => exact h2.elim
      | some lr =>
        cases isub with
        | none => exact h2.elim
        | some ilr =>
          obtain ⟨l, r⟩ := lr
          obtain ⟨il, ir⟩ := ilr
          obtain ⟨g1, x, ys, g2, g3, g4, g5, g6, g7⟩ := h2
          subst g2
          have hx0 := hx x (hxs x List.mem_cons_self)
          refine ⟨g1, x, ys, rfl, hx0.2.2.2.1.trans g3, hx0.2.2.2.2.1.trans g4, fun y hy => (hx y (hxs y (List.mem_cons_of_mem _ hy))).2.2.2.1.trans (g5 y hy), ?_, ?_⟩
          · exact ih _ _ l il (fun y hy => hx y (List.mem_append_right _ (List.mem_append_left _ hy))) (fun y hy => hb y (List.mem_cons_of_mem _ (List.mem_append_left _ hy))) g6
          · exact ih _ _ r ir (fun y hy => hx y (List.mem_append_right _ (List.mem_append_right _ hy))) (fun y hy => hb y (List.mem_cons_of_mem _ (List.mem_append_right _ hy))) g7
/-- how many frames a tree has -/
theorem RM_len {s : Q_S} {P : PT} {sz : Int → Int} {sec ph : Int} : ∀ (k : Nat) (side : Option Int) (base u : Int) (t : BT k) (it : IT k), UD s u base → VT P sz sec ph k side base t → RM s P k base u t it → ((fxI k it).length : Int) ≤ 60 * (1 + 2 * sidesB k t) ∧ ((fbI k it).length : Int) = 1 + 2 * sidesB k t ∧ 0 ≤ sidesB k t := by
  intro k
  induction k with
  | zero => intro side base u t it _ h; exact h.elim
  | succ k ih =>
    intro side base u t it hu hv h
    obtain ⟨m, p, d, st, sub⟩ := t
    obtain ⟨b, xs, isub⟩ := it
    obtain ⟨⟨b1, b2, b3, b4, b5, b6⟩, h2⟩ := h
    have hl := (rpS_top hu (show rpS s base u st xs (q_I s 64 b) from b6)).2.2
    have hv1 : base + (st.length : Int) ≤ 60 := hv.1.2.1
    have hv0 : 0 ≤ base := hv.1.1
    cases sub with
    | none =>
      cases isub with
      | none => simp only [fxI, fbI, sidesB]; simp; omega
      | some _ => exact h2.elim
    | some lr =>
      cases isub with
      | none => exact h2.elim
      | some ilr =>
        obtain ⟨l, r⟩ := lr
        obtain ⟨il, ir⟩ := ilr
        obtain ⟨g1, x, ys, g2, g3, g4, g5, g6, g7⟩ := h2
        subst g2
        obtain ⟨y1, y2, y3, y4, y5, y6, y7⟩ : ∃ f t', st = f :: t' ∧ True ∧ True ∧ True ∧ (0 ≤ x ∧ x < 6144 ∧ q_I s 57 x = base + st.length) := by
          cases st with
          | nil => exact b6.elim
          | cons f t' =>
            obtain ⟨fp, fa⟩ := f
            obtain ⟨z1, z2, z3, z4, z5, z6, z7⟩ := b6
            exact ⟨_, _, rfl, trivial, trivial, trivial, z2, z3, by rw [z6]; simp; omega⟩
        have hu' : UD s x (base + st.length) := Or.inr y7
        have i1 := ih _ _ _ l il hu' hv.2.2.1 g6
        have i2 := ih _ _ _ r ir hu' hv.2.2.2 g7
        simp only [fxI, fbI, sidesB]
        simp only [List.length_append, List.length_cons] at hl ⊢
        push_cast
        omega
