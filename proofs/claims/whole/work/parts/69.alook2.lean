theorem limP {P : PT} {sz : Int → Int} (hW : WP P sz) {q : Int} (q0 : 0 ≤ q) (q1 : q < P_n P) (w : P_w P q = 16) : 0 ≤ P_3 P q ∧ P_3 P q < P_n P ∧ isS (P_w P (P_3 P q)) ∧ P_u P (P_3 P q) = q ∧ ¬ P_3 P q = P_2 P q ∧ P_1 P q = q + 1 ∧ q + 1 < P_n P ∧ isE (P_w P (q + 1)) := by
  have hk := hW.2.2.2.2.2.1 q q0 q1
  rcases hk.2.2 with h | h | h | h | h | h | h | h | h | h | h | h | h | h | h | h
  all_goals first
    | (exfalso; have := h.1; have := h.2.1; omega)
    | (exfalso; have := h.1; omega)
    | skip
  obtain ⟨_, c3, k2, k3, k4, _⟩ := h
  have z1 := (hW.2.2.2.2.2.1 (q + 1) (by omega) c3.1.1.2.2).1
  have z2 := (hW.2.2.2.2.2.1 (q + 1 + sz (q + 1)) (by omega) c3.1.2.2.2).1
  rw [c3.2.1, c3.1.2.1]
  exact ⟨by omega, c3.2.2.2, k4, c3.2.2.1, by omega, c3.1.1.1, c3.1.1.2.2, k2⟩
section AL2
variable {Ps : Int → PT} {szs : Int → Int → Int} {nP sec : Int} {sig : Int → Int64} {G : GT}
theorem VC.frame {P : PT} {sz : Int → Int} {ph base : Int} {side : Option Int} {m p : Int} {d : DT} {st1 acc : List FR} {q : Int} {a : Int64} (hW : WP P sz) (h : VC P sz sec ph side base (m, p, d, st1 ++ (q, a) :: acc)) (w : P_w P q = 16) : 0 ≤ q ∧ q < P_n P ∧ CNS P side q acc ∧ (side = none → PHI P sz ph (m, p, d, st1 ++ (q, a) :: acc)) := by
  rcases h.2.2.2.2 with z | z | z
  · have e : st1 ++ (q, a) :: acc = [] := z.2
    simp at e
  · obtain ⟨_, z0, z1, _, ⟨f, z3⟩, z4, _⟩ := z
    obtain ⟨y0, y1, y2⟩ := CNS.suffix hW f p st1 q a acc z0 z1 z3
    exact ⟨y0, y1, y2, z4⟩
  · obtain ⟨_, z0, z1, z2, t, z3, ⟨f, z5⟩, z4⟩ := z
    have z3' : st1 ++ (q, a) :: acc = (p, 0) :: t := z3
    have z2' : P_w P p = 18 := z2
    cases st1 with
    | nil =>
      simp only [List.nil_append, List.cons.injEq, Prod.mk.injEq] at z3'
      rw [z3'.1.1] at w
      omega
    | cons g t1 =>
      simp only [List.cons_append, List.cons.injEq] at z3'
      rw [← z3'.2] at z5
      obtain ⟨y0, y1, y2⟩ := CNS.suffix hW f p t1 q a acc z0 z1 z5
      exact ⟨y0, y1, y2, z4⟩
theorem look_inv (hg : GW Ps szs nP sec G) : ∀ (k : Nat) (side : Option Int) (base : Int) (t t' : BT k) (n : Int), VT (Ps (G_pg G)) (szs (G_pg G)) sec (G_ph G) k side base t → lookA Ps sig G k t = .inl (t', n) → VT (Ps (G_pg G)) (szs (G_pg G)) sec (G_ph G) k side base t' ∧ sidesB k t' + n = sidesB k t ∧ 0 ≤ n := by
  have hW := hg.2.2.2.2.1 _ hg.2.2.2.2.2.1 hg.2.2.2.2.2.2.1
  intro k
  induction k with
  | zero => intro side base t t' n h; exact h.elim
  | succ k ih =>
    intro side base t t' n hv h
    obtain ⟨m, p, d, st, sub⟩ := t
    obtain ⟨hV, hsub⟩ := hv
    simp only [lookA] at h
    cases hl : limA sig (Ps (G_pg G)) (G_v G) st.reverse [] with
    | inr x => rw [hl] at h; cases h
    | inl z =>
      rw [hl] at h
      cases z with
      | some y =>
        obtain ⟨q, acc⟩ := y
        cases h
        obtain ⟨w, st1, a, e, _⟩ := limA_at _ _ _ _ hl
        rw [List.reverse_reverse, List.append_nil] at e
        subst e
        obtain ⟨q0, q1, q2, q3⟩ := hV.frame hW w
        obtain ⟨l0, l1, l2, l3, l4, _⟩ := limP hW q0 q1 w
        have hb : base + ((st1 ++ (q, a) :: acc).length : Int) ≤ 60 := hV.2.1
        refine ⟨⟨VC.of2 hV.1 (by simp at hb; omega) hV.2.2.1 hV.2.2.2.1 l0 l1 l2 (q2.into l3 (by omega) (Or.inr ⟨w, l4⟩)) (fun y => ?_), by simp⟩, by simp only [sidesB]; omega, sides0 (k + 1) (m, p, d, st1 ++ (q, a) :: acc, sub)⟩
        rcases q3 y with ⟨_, y2, _⟩ | ⟨r, f, g, y3, y4, y5⟩
        · have : st1 ++ (q, a) :: acc = [] := y2
          simp at this
        · have y3' : AN (Ps (G_pg G)) r f (lastP (st1 ++ (q, a) :: acc) p) := y3
          rw [lastP_app] at y3'
          cases acc with
          | nil => exact Or.inr ⟨r, f + 1, g, Or.inr ⟨(by show ¬ P_u (Ps (G_pg G)) (P_3 (Ps (G_pg G)) q) = -1; rw [l3]; omega), (by show AN (Ps (G_pg G)) r f (P_u (Ps (G_pg G)) (P_3 (Ps (G_pg G)) q)); rw [l3]; exact y3')⟩, y4, y5⟩
          | cons w2 ws => exact Or.inr ⟨r, f, g, y3', y4, y5⟩
      | none =>
        dsimp only at h
        by_cases m4 : m = 4
        · rw [if_pos m4] at h
          cases sub with
          | none => exact absurd m4 hsub
          | some lr =>
            obtain ⟨l, r⟩ := lr
            obtain ⟨_, v1, v2⟩ := hsub
            dsimp only at h
            cases hx : lookA Ps sig G k l with
            | inr x => rw [hx] at h; cases h
            | inl y =>
              obtain ⟨l1, n1⟩ := y
              rw [hx] at h
              dsimp only at h
              cases hy : lookA Ps sig G k r with
              | inr x => rw [hy] at h; cases h
              | inl y =>
                obtain ⟨r1, n2⟩ := y
                rw [hy] at h
                cases h
                obtain ⟨a1, a2, a3⟩ := ih _ _ _ _ _ v1 hx
                obtain ⟨b1, b2, b3⟩ := ih _ _ _ _ _ v2 hy
                refine ⟨⟨hV, m4, a1, b1⟩, ?_, by omega⟩
                simp only [sidesB]
                omega
        · rw [if_neg m4] at h
          cases h
          exact ⟨⟨hV, hsub⟩, by omega, Int.le_refl _⟩
theorem lookA_side (x : Int) : ∀ (k : Nat) (t : BT k), lookA Ps sig (G_side G x) k t = lookA Ps sig G k t := by
  intro k
  induction k with
  | zero => intro t; rfl
  | succ k ih =>
    intro t
    obtain ⟨m, p, d, st, sub⟩ := t
    simp only [lookA, ih]
    rfl
end AL2
