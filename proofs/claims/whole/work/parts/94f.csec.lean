/-! A SECOND OF THE CLASS -/
section CSA
variable {Ps : Int → PT} {szs : Int → Int → Int} {nP sec : Int} {sig : Int → Int64} {G : GT}
/-- a look keeps the places, and never ends a branch -/
theorem look_xt {P : PT} {sz : Int → Int} {sec ph : Int} (hP : Ps (G_pg G) = P) (hW : WP P sz) : ∀ (k : Nat) (side : Option Int) (rt : Bool) (base : Int) (t t' : BT k) (n : Int), VT P sz sec ph k side base t → XT P k side rt t → NB k t → lookA Ps sig G k t = .inl (t', n) → XT P k side rt t' ∧ NB k t' ∧ (modeB k t' = 0 ↔ modeB k t = 0) := by
  intro k
  induction k with
  | zero => intro side rt base t t' n h; exact h.elim
  | succ k ih =>
    intro side rt base t t' n hv hx hn h
    obtain ⟨m, p, d, st, sub⟩ := t
    simp only [lookA, hP] at h
    cases hlim : limA sig P (G_v G) st.reverse [] with
    | inr x => rw [hlim] at h; cases h
    | inl x =>
      rw [hlim] at h
      cases x with
      | some x =>
        obtain ⟨q, acc⟩ := x
        dsimp only at h
        obtain ⟨w16, st1, a, est, _⟩ := limA_at st.reverse [] q acc hlim
        simp only [List.reverse_reverse, List.append_nil] at est
        have hmz : ¬ m = 0 := fun z => by
          rcases hv.1.2.2.2.2 with y | y | y
          · have : st = [] := y.2
            rw [this] at est
            simp at est
          · have : m = 1 ∨ m = 2 ∨ m = 3 := y.1
            omega
          · have : m = 4 := y.1
            omega
        obtain ⟨q0, q1, _, _⟩ := VC.frame hW (by have := hv.1; rw [est] at this; exact this) w16
        obtain ⟨l1, l2, l3, l4, l5, l6, l7, l8⟩ := limP hW q0 q1 w16
        injection h with h
        injection h with h1 h2
        subst h1
        refine ⟨⟨fun _ => ?_, trivial⟩, trivial, ?_⟩
        · intro z hz
          obtain ⟨z0, z1, z18, f, hf⟩ := hx.1 hmz z hz
          refine ⟨z0, z1, z18, ?_⟩
          rw [est, lastP_app] at hf
          cases acc with
          | nil =>
            have hf : AN P _ f q := hf
            exact ⟨f + 1, Or.inr ⟨(by show ¬ P_u P (P_3 P q) = -1; rw [l4]; omega), (by show AN P _ f (P_u P (P_3 P q)); rw [l4]; exact hf)⟩⟩
          | cons x y => exact ⟨f, hf⟩
        · show (2 : Int) = 0 ↔ m = 0
          omega
      | none =>
        dsimp only at h
        by_cases m4 : m = 4
        · rw [if_pos m4] at h
          cases sub with
          | none => exact absurd m4 hv.2
          | some lr =>
            obtain ⟨l, r⟩ := lr
            obtain ⟨_, v1, v2⟩ := hv.2
            obtain ⟨x1, x2, x3⟩ := hx
            obtain ⟨n1, n2, n3⟩ := hn
            dsimp only at h
            cases hl : lookA Ps sig G k l with
            | inr y => rw [hl] at h; cases h
            | inl y =>
              obtain ⟨l1, m1⟩ := y
              rw [hl] at h
              dsimp only at h
              cases hr : lookA Ps sig G k r with
              | inr y => rw [hr] at h; cases h
              | inl y =>
                obtain ⟨r1, m2⟩ := y
                rw [hr] at h
                dsimp only at h
                injection h with h
                injection h with h1 h2
                subst h1
                obtain ⟨a1, a2, a3⟩ := ih _ false _ _ _ _ v1 x2 n1 hl
                obtain ⟨b1, b2, b3⟩ := ih _ true _ _ _ _ v2 x3 n2 hr
                exact ⟨⟨x1, a1, b1⟩, ⟨a2, b2, fun z => n3 ⟨a3.mp z.1, b3.mp z.2⟩⟩, Iff.rfl⟩
        · rw [if_neg m4] at h
          injection h with h
          injection h with h1 h2
          subst h1
          exact ⟨hx, hn, Iff.rfl⟩
theorem potB_le {P : PT} {sz : Int → Int} {sec ph : Int} : ∀ (k : Nat) (side : Option Int) (base : Int) (t : BT k), VT P sz sec ph k side base t → potB k t ≤ 190 * (1 + 2 * sidesB k t) := by
  intro k
  induction k with
  | zero => intro side base t h; exact h.elim
  | succ k ih =>
    intro side base t h
    obtain ⟨m, p, d, st, sub⟩ := t
    obtain ⟨h1, h2⟩ := h
    have hb : base + (st.length : Int) ≤ 60 := h1.2.1
    have hb0 : 0 ≤ base := h1.1
    cases sub with
    | none =>
      simp only [potB, sidesB]
      split
      · omega
      · split <;> omega
    | some lr =>
      obtain ⟨l, r⟩ := lr
      have i1 := ih _ _ l h2.2.1
      have i2 := ih _ _ r h2.2.2
      simp only [potB, sidesB]
      omega
end CSA
/-- the class's run at rest: its cells, its room, its state, its second, its numbers, its tree, its alarm -/
def CR {K : Nat} (Ps : Int → PT) (szs ths : Int → Int → Int) (rc : Int → Nat) (nP : Int) (sig : Int → Int64) (s : Q_S) (c room : Nat) (st sec : Int) (G : GT) (t : BT K) (al : Int × Int × Int) : Prop :=
  (∃ b, CG Ps szs ths rc nP sec sig (G_bgb G b) (q_sf s 20 0 1) c) ∧ q_F s 20 0 = st ∧ (st = 0 ∨ st = 1 ∨ st = 2) ∧ 9 ≤ room ∧ GW Ps szs nP sec G ∧
  (∃ v, VW s 24 c room v ∧ VB v ∧ v_u v ≤ 6500 ∧ (st = 1 → v_s v = G_sd G ∧ (∃ it, CB v (Ps (G_pg G)) K 0 (-1) false t it ∧ CWd v (flC K it)))) ∧
  (st = 1 → VT (Ps (G_pg G)) (szs (G_pg G)) sec (G_ph G) K none 0 t ∧ XT (Ps (G_pg G)) K none false t ∧ NB K t ∧ ¬ modeB K t = 0 ∧ sidesB K t = G_sd G) ∧
  (st = 2 → q_F s 20 5 = al.1 ∧ q_F s 20 6 = al.2.1 ∧ q_F s 20 7 = al.2.2)
section CSB
variable {o : X_O} {Ps : Int → PT} {szs ths : Int → Int → Int} {rc : Int → Nat} {nP sec : Int} {sig : Int → Int64} {G G' : GT} {s s' : Q_S} {c room c' room' : Nat} {v v' : CV}
/-- other fields of the run -/
theorem CG.f20 (h : CG Ps szs ths rc nP sec sig G s c) {s' : Q_S} (eT : ∀ a, q_T s' a = q_T s a) (eL : ∀ a j, q_L s' a j = q_L s a j) (eI : ∀ a j, a ≠ 20 → q_I s' a j = q_I s a j) (e0 : q_F s' 20 0 = 1) (e3 : q_F s' 20 3 = q_F s 20 3) (e4 : q_F s' 20 4 = q_F s 20 4) (hn : s'.1 = s.1) : CG Ps szs ths rc nP sec sig G s' c := by
  obtain ⟨a1, a2, a3, a4, a5, a6, a7, a8, a9, a10, a11, a12, a13⟩ := h
  refine ⟨fun a t e => (eT a).trans (a1 a t e), (eT 20).trans a2, e0, e3.trans a4, e4.trans a5, fun j j0 j1 => (eL 21 j).trans (a6 j j0 j1), fun j j0 j1 => (eL 22 j).trans (a7 j j0 j1), fun j j0 j1 => (eI 23 j (by decide)).trans (a8 j j0 j1), (eI 35 6 (by decide)).trans a9, fun j j0 j1 => (eL 19 j).trans (a10 j j0 j1), a11, by rw [hn]; exact a12, fun k k0 k1 => ?_⟩
  obtain ⟨b1, b2, b3, b4⟩ := a13 k k0 k1
  exact ⟨b1.same (fun i hi => ⟨eT _, fun j => ⟨eI _ j (by omega), eL _ j⟩⟩), b2, b3, by rw [hn]; exact b4⟩
theorem CG.s1 (h : CG Ps szs ths rc nP sec sig G s c) : CG Ps szs ths rc nP sec sig G (q_sf s 20 0 1) c := h.f20 (fun _ => rfl) (fun _ _ => rfl) (fun a j ha => by rw [q_I_sf, if_neg (fun z => ha z.1)]) (by rw [q_F_sf, if_pos ⟨rfl, rfl⟩]) (by rw [q_F_sf, if_neg (by decide)]) (by rw [q_F_sf, if_neg (by decide)]) rfl
theorem CG.back1 (h : CG Ps szs ths rc nP sec sig G (q_sf s 20 0 1) c) (h0 : q_F s 20 0 = 1) : CG Ps szs ths rc nP sec sig G s c := h.f20 (fun _ => rfl) (fun _ _ => rfl) (fun a j ha => by rw [q_I_sf, if_neg (fun z => ha z.1)]) h0 (by rw [q_F_sf, if_neg (by decide)]) (by rw [q_F_sf, if_neg (by decide)]) rfl
/-- the next second -/
theorem CG.sc (h : CG Ps szs ths rc nP sec sig G s c) {sec' : Int} : CG Ps szs ths rc nP sec' sig G (q_sf s 20 3 sec') c := by
  obtain ⟨a1, a2, a3, a4, a5, a6, a7, a8, a9, a10, a11, a12, a13⟩ := h
  refine ⟨a1, a2, by rw [q_F_sf, if_neg (by decide)]; exact a3, by rw [q_F_sf, if_pos ⟨rfl, rfl⟩], by rw [q_F_sf, if_neg (by decide)]; exact a5, a6, a7, fun j j0 j1 => ?_, ?_, a10, a11, a12, fun k k0 k1 => ?_⟩
  · rw [q_I_sf, if_neg (by omega)]; exact a8 j j0 j1
  · rw [q_F_sf, if_neg (by omega)]; exact a9
  · obtain ⟨b1, b2, b3, b4⟩ := a13 k k0 k1
    exact ⟨b1.same (fun i hi => ⟨rfl, fun j => ⟨by rw [q_I_sf, if_neg (by omega)], rfl⟩⟩), b2, b3, b4⟩
theorem sf_comm {f g : Nat} {x y : Int} (h : f ≠ g) : q_sf (q_sf s 20 f x) 20 g y = q_sf (q_sf s 20 g y) 20 f x := by
  unfold q_sf q_si
  refine congrArg (fun z => (s.1, s.2.1, s.2.2.1, z, s.2.2.2.2)) (funext fun a => funext fun j => ?_)
  dsimp only
  by_cases h1 : a = 20 ∧ j = (g : Int)
  · rw [if_pos h1, if_neg (by omega)]
    try rw [if_pos h1]
  · rw [if_neg h1]
    by_cases h2 : a = 20 ∧ j = (f : Int)
    · rw [if_pos h2, if_pos h2]
    · rw [if_neg h2, if_neg h2, if_neg h1]
end CSB
