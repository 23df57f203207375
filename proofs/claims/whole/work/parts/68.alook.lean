/-! THE LOOK AT THE LIMITS keeps the invariants -/
section AL
variable {P : PT} {sz : Int → Int} {side : Option Int}
/-- around a frame are the frames outside it -/
theorem CNS.suffix (hW : WP P sz) : ∀ (f : Nat) (p : Int) (st1 : List FR) (q : Int) (a : Int64) (acc : List FR), 0 ≤ p → p < P_n P → CN P side f p (st1 ++ (q, a) :: acc) → 0 ≤ q ∧ q < P_n P ∧ CNS P side q acc := by
  intro f
  induction f with
  | zero => intro p st1 q a acc _ _ h; exact h.elim
  | succ f ih =>
    intro p st1 q a acc h0 h1 h
    rcases (CNS.inv ⟨f + 1, h⟩ : _) with ⟨_, e, _⟩ | _ | _ | _ | ⟨_, _, e, _⟩ | _
    · simp at e
    all_goals try (simp at e; done)
    all_goals
      simp only [CN] at h
      have hp0 : ¬ P_u P p = -1 := by
        rename_i z
        first
          | exact z.1
      rw [if_neg hp0] at h
      have hpz : ¬ p = 0 := fun z => hp0 (by rw [z]; exact hW.2.2.2.1)
      obtain ⟨u0, u1, _, _⟩ := hW.2.2.2.2.2.2 p (by omega) h1
      split at h
      · exact ih _ _ _ _ _ u0 (by omega) h
      · split at h
        · split at h
          · obtain ⟨a', t', e', h'⟩ := h
            cases st1 with
            | nil =>
              simp only [List.nil_append, List.cons.injEq, Prod.mk.injEq] at e'
              obtain ⟨⟨e1, _⟩, e2⟩ := e'
              rw [e1, e2]
              exact ⟨u0, by omega, f, h'⟩
            | cons g t1 =>
              simp only [List.cons_append, List.cons.injEq] at e'
              rw [← e'.2] at h'
              exact ih _ _ _ _ _ u0 (by omega) h'
          · exact ih _ _ _ _ _ u0 (by omega) h
        · split at h
          · obtain ⟨a', t', e', _, h'⟩ := h
            cases st1 with
            | nil =>
              simp only [List.nil_append, List.cons.injEq, Prod.mk.injEq] at e'
              obtain ⟨⟨e1, _⟩, e2⟩ := e'
              rw [e1, e2]
              exact ⟨u0, by omega, f, h'⟩
            | cons g t1 =>
              simp only [List.cons_append, List.cons.injEq] at e'
              rw [← e'.2] at h'
              exact ih _ _ _ _ _ u0 (by omega) h'
          · split at h
            · simp at h
            · split at h
              · obtain ⟨x', a', t', e', x0, x1, _, h'⟩ := h
                cases st1 with
                | nil =>
                  simp only [List.nil_append, List.cons.injEq, Prod.mk.injEq] at e'
                  obtain ⟨⟨e1, _⟩, e2⟩ := e'
                  rw [e1, e2]
                  exact ⟨x0, x1, f, h'⟩
                | cons g t1 =>
                  simp only [List.cons_append, List.cons.injEq] at e'
                  rw [← e'.2] at h'
                  exact ih _ _ _ _ _ x0 x1 h'
              · exact h.elim
theorem lastP_app : ∀ (st1 : List FR) (p q : Int) (a : Int64) (acc : List FR), lastP (st1 ++ (q, a) :: acc) p = lastP acc q := by
  intro st1
  induction st1 with
  | nil => intro p q a acc; rfl
  | cons f t ih =>
    intro p q a acc
    obtain ⟨x, b⟩ := f
    exact ih x q a acc
/-- the outermost limit that fails stands in the frames -/
theorem limA_at {sig val : Int → Int64} : ∀ (rev acc : List FR) (q : Int) (acc' : List FR), limA sig P val rev acc = .inl (some (q, acc')) → P_w P q = 16 ∧ ∃ st1 a, rev.reverse ++ acc = st1 ++ (q, a) :: acc' ∧ acc.length ≤ acc'.length := by
  intro rev
  induction rev with
  | nil => intro acc q acc' h; cases h
  | cons g t ih =>
    intro acc q acc' h
    obtain ⟨p, a⟩ := g
    simp only [limA] at h
    by_cases c : P_w P p = 16
    · rw [if_pos c] at h
      cases hx : ev P sig val 500 (P_1 P p) with
      | inr x => rw [hx] at h; cases h
      | inl v =>
        rw [hx] at h
        by_cases cv : v = 0
        · simp only [if_pos cv] at h
          cases h
          exact ⟨c, t.reverse, a, by simp, Nat.le_refl _⟩
        · simp only [if_neg cv] at h
          obtain ⟨h1, st1, a1, h2, h3⟩ := ih _ _ _ h
          refine ⟨h1, st1, a1, ?_, by simp at h3; omega⟩
          rw [← h2]
          simp
    · rw [if_neg c] at h
      obtain ⟨h1, st1, a1, h2, h3⟩ := ih _ _ _ h
      refine ⟨h1, st1, a1, ?_, by simp at h3; omega⟩
      rw [← h2]
      simp
end AL
