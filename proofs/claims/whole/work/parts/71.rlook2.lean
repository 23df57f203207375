section RL2
variable {o : X_O} {Ps : Int → PT} {szs : Int → Int → Int} {nP sec : Int} {sig : Int → Int64} {G : GT} {base u b : Int} {m p : Int} {d : DT} {RX RB : List Int} {k : Nat}
theorem rl_5 {s : Q_S} {e : Nat} : QW (fun n => g_110 o n e 5 s 0 0 0 0 0 0) (fun q => q = (s, ())) := by
  refine QW_s ?_
  simp only [g_110]
  exact QW_ret rfl
/-- nothing more is looked at -/
theorem rl_4 {s : Q_S} {e : Nat} (hs : SH s) {i : Int} (hi : i = 1 ∨ (i = 0 ∧ q_F s 38 47 = 1)) : QW (fun n => g_110 o n e 4 s 38 b 0 0 i 0) (fun q => q = (s, ())) := by
  refine QW_s ?_
  simp only [g_110]
  refine QW_g (by omega) ?_
  rcases hi with hi | ⟨hi, hf⟩
  · refine QW_it (by omega) ?_
    exact rl_5
  · refine QW_if (by omega) ?_
    refine QW_p (k_gi (hs _ _ rfl) rfl) ?_
    rw [hf]
    refine QW_g (by omega) ?_
    refine QW_it (by decide) ?_
    exact rl_5
theorem rl_3 {s : Q_S} {e : Nat} (hs : SH s) {i j : Int} (hj : 0 ≤ j ∧ j < 100) (hi : i = 1 ∨ (i = 0 ∧ q_F s 38 47 = 1)) : QW (fun n => g_110 o n e 3 s 38 b 0 0 i j) (fun q => q = (s, ())) := by
  refine QW_s ?_
  simp only [g_110]
  refine QW_s ?_
  simp only [g_110]
  refine QW_g (by omega) ?_
  by_cases c : j + (-1) < 0
  · refine QW_it c ?_
    exact rl_4 hs hi
  · refine QW_if c ?_
    refine QW_g (by omega) ?_
    rcases hi with hi | ⟨hi, hf⟩
    · refine QW_it (by omega) ?_
      exact rl_4 hs (Or.inl hi)
    · refine QW_if (by omega) ?_
      refine QW_p (k_gi (hs _ _ rfl) rfl) ?_
      rw [hf]
      refine QW_g (by omega) ?_
      refine QW_it (by decide) ?_
      exact rl_4 hs (Or.inr ⟨hi, hf⟩)
/-- what a look at the frames leaves, or that it goes on -/
def LmP (o : X_O) (Ps : Int → PT) (nP sec : Int) (sig : Int → Int64) (G : GT) (base u b : Int) (d : DT) (RX RB : List Int) (e : Nat) (sd n : Int) (S : Q_S) (r : Option (Int × List FR) ⊕ (Int × Int)) : Prop := match r with
  | .inr x => QW (fun q => g_110 o q e 2 S 38 b 0 0 0 (n - 1)) (fun q => FltP Ps nP sec sig G S q.1 x)
  | .inl (some (q, acc)) => QW (fun n' => g_110 o n' e 2 S 38 b 0 0 0 (n - 1)) (fun r => ∃ xs', RS Ps nP sec sig r.1 (G_side G (-sd)) base u b (2, P_3 (Ps (G_pg G)) q, d, acc) xs' RX RB ∧ ST S r.1 RX RB)
  | .inl none => ∀ Q, QW (fun q => g_110 o q e 4 S 38 b 0 0 0 0) Q → QW (fun q => g_110 o q e 2 S 38 b 0 0 0 (n - 1)) Q
set_option maxHeartbeats 4000000 in
theorem r_lim (e : Nat) (hg : GW Ps szs nP sec G) {side : Option Int} {sub : Option (BT k × BT k)} {isub : Option (IT k × IT k)} (S : Q_S) : ∀ (n : Nat) (st1 st2 : List FR) (xs1 xs2 : List Int), st1.length = n → xs1.length = n → VT (Ps (G_pg G)) (szs (G_pg G)) sec (G_ph G) (k + 1) side base (m, p, d, st1 ++ st2, sub) → RF Ps nP sec sig S G (k + 1) base u (m, p, d, st1 ++ st2, sub) (b, xs1 ++ xs2, isub) RX RB → (∀ (i : Nat) (hi : i < xs1.length), q_I S 70 i = xs1[i]) →
    LmP o Ps nP sec sig G base u b d RX RB e (sidesB (k + 1) (m, p, d, st1 ++ st2, sub)) n S (limA sig (Ps (G_pg G)) (G_v G) st1.reverse st2) := by
  have hW := hg.2.2.2.2.1 _ hg.2.2.2.2.2.1 hg.2.2.2.2.2.2.1
  have hn5 := hW.2.1
  intro n
  induction n with
  | zero =>
    intro st1 st2 xs1 xs2 l1 l2 hv h hc
    cases st1 with
    | cons _ _ => cases l1
    | nil =>
      intro Q K
      refine QW_s ?_
      simp only [g_110]
      refine QW_g (by omega) ?_
      refine QW_it (by omega) ?_
      exact K
  | succ n ih =>
    intro st1 st2 xs1 xs2 l1 l2 hv h hc
    obtain ⟨st1', fr, rfl⟩ : ∃ a b, st1 = a ++ [b] := by
      rcases List.eq_nil_or_concat st1 with z | ⟨a, b, z⟩
      · rw [z] at l1; cases l1
      · exact ⟨a, b, by simpa using z⟩
    obtain ⟨xs1', x, rfl⟩ : ∃ a b, xs1 = a ++ [b] := by
      rcases List.eq_nil_or_concat xs1 with z | ⟨a, b, z⟩
      · rw [z] at l2; cases l2
      · exact ⟨a, b, by simpa using z⟩
    obtain ⟨fp, fa⟩ := fr
    have l1' : st1'.length = n := by simpa using l1
    have l2' : xs1'.length = n := by simpa using l2
    have hv' := hv
    rw [List.append_assoc, List.singleton_append] at hv'
    have h' := h
    rw [List.append_assoc, List.singleton_append, List.append_assoc, List.singleton_append] at h'
    have IH := ih st1' ((fp, fa) :: st2) xs1' (x :: xs2) l1' l2' hv' h' (fun i hi => by
      rw [hc i (by simp; omega), List.getElem_append_left])
    have hcx : q_I S 70 (n : Int) = x := by
      have := hc n (by simp; omega)
      rw [this]
      simp [l2']
    have hs := h.1
    have hG := h.2.1
    have hf := h.2.2.2.2.2.2.2.2.2.1
    have hud := h.2.2.2.2.2.2.2.1
    have b1 := h.2.2.1.1.1
    have b2 := h.2.2.1.1.2.1
    obtain ⟨s1, g, s2, e1, e2, y0, y1, y2, y3, y4, y5⟩ := rpS_at xs1' _ _ h'.2.2.1.1.2.2.2.2.2
    have e1' : st1' ++ (fp, fa) :: st2 = s1 ++ g :: s2 := e1
    have hgf : g = (fp, fa) := by
      have := List.append_inj_right e1' (by rw [l1', e2, l2'])
      simp at this
      exact this.1.symm
    rw [hgf] at y3
    have y3' : q_I S 55 x = fp := y3
    have hVb : base + ((st1' ++ (fp, fa) :: st2).length : Int) ≤ 60 := hv'.1.2.1
    have hn60 : (n : Int) < 60 := by simp [l1'] at hVb; have := hv'.1.1; omega
    have hplace : 0 ≤ fp ∧ fp < P_n (Ps (G_pg G)) := by
      rcases hv'.1.2.2.2.2 with z | z | z
      · have : st1' ++ (fp, fa) :: st2 = [] := z.2
        simp at this
      · obtain ⟨_, z0, z1, _, ⟨f, z3⟩, _⟩ := z
        obtain ⟨q0, q1, _⟩ := CNS.suffix hW f p st1' fp fa st2 z0 z1 z3
        exact ⟨q0, q1⟩
      · obtain ⟨_, z0, z1, z2, t, z3, ⟨f, z5⟩, _⟩ := z
        have z3' : st1' ++ (fp, fa) :: st2 = (p, 0) :: t := z3
        cases st1' with
        | nil =>
          simp only [List.nil_append, List.cons.injEq, Prod.mk.injEq] at z3'
          rw [z3'.1.1]
          exact ⟨z0, z1⟩
        | cons g2 t1 =>
          simp only [List.cons_append, List.cons.injEq] at z3'
          rw [← z3'.2] at z5
          obtain ⟨q0, q1, _⟩ := CNS.suffix hW f p t1 fp fa st2 z0 z1 z5
          exact ⟨q0, q1⟩
    obtain ⟨p0, p1⟩ := hplace
    have hrg := WK_rg (hW.2.2.2.2.2.1 fp p0 p1).2.2
    have hrev : (st1' ++ [(fp, fa)]).reverse = (fp, fa) :: st1'.reverse := by simp
    have hsd2 : sidesB (k + 1) (m, p, d, (st1' ++ [(fp, fa)]) ++ st2, sub) = sidesB (k + 1) (m, p, d, st1' ++ (fp, fa) :: st2, sub) := by rw [List.append_assoc, List.singleton_append]
    rw [hrev]
    -- the walk to the frame's kind
    have walk : ∀ Q : Q_S × Unit → Prop, (¬ P_w (Ps (G_pg G)) fp = 16 → QW (fun q => g_110 o q e 3 S 38 b 0 0 0 n) Q) → (P_w (Ps (G_pg G)) fp = 16 → QW (fun n' => (q_rcv S 7 (.ref 38)).bind fun b35 => (g_112 o n' 0 S b35 fp).bind fun q34 => (q_rcv q34.1 7 (.ref 38)).bind fun b43 => (g_113 o n' 510 0 q34.1 b43 (q34.2) 0).bind fun q42 => if ¬ q42.2 = 0 then g_110 o n' e 3 q42.1 38 b 0 0 0 n else (q_gi q42.1 7 (.ref 38) 47).bind fun v48 => (q_g (q_in v48)).bind fun _ => if ¬ v48 = 0 then g_110 o n' e 3 q42.1 38 b 0 0 0 n else (q_gv q42.1 7 (.ref 38) 30).bind fun v53 => (q_ia o q42.1 v53 x).bind fun v55 => (q_rcv q42.1 7 (.ref 38)).bind fun b61 => (g_117 o n' 60 0 q42.1 b61 b v55).bind fun q60 => (q_rcv q60.1 7 (.ref 38)).bind fun b69 => (g_119 o n' 0 q60.1 b69 fp).bind fun q68 => (q_rcv q68.1 7 (.ref 38)).bind fun b77 => (g_120 o n' 0 q68.1 b77 b 2 (q68.2)).bind fun q76 => g_110 o n' e 3 q76.1 38 b 0 0 1 n) Q) → QW (fun q => g_110 o q e 2 S 38 b 0 0 0 (((n + 1 : Nat) : Int) - 1)) Q := by
      intro Q K1 K2
      rw [show (((n + 1 : Nat) : Int) - 1) = (n : Int) by omega]
      refine QW_s ?_
      simp only [g_110]
      refine QW_g (by omega) ?_
      refine QW_if (by omega) ?_
      refine QW_g (by first | omega | simp) ?_
      refine QW_if (by first | omega | simp) ?_
      refine QW_p (k_gi (hs _ _ rfl) rfl) ?_
      rw [hf]
      refine QW_g (by first | omega | simp) ?_
      refine QW_if (by first | omega | simp) ?_
      refine QW_p (k_gv (hs _ _ rfl) rfl rfl) ?_
      refine QW_p (k_ia (hs _ _ rfl) (by omega) (by omega) (by decide)) ?_
      rw [hcx]
      refine QW_p (k_gv (hs _ _ rfl) rfl rfl) ?_
      refine QW_p (k_ia (hs _ _ rfl) y0 y1 (by decide)) ?_
      rw [y3']
      refine QW_p (k_rc (hs _ _ rfl)) ?_
      refine QW_e (r_w hs hG hg rfl p0 (by omega)) ?_
      dsimp only
      refine QW_g (by omega) ?_
      refine QW_by K1 (fun c => ?_)
      exact K2 (Decidable.not_not.mp c)
    have next : ∀ Q : Q_S × Unit → Prop, QW (fun q => g_110 o q e 2 S 38 b 0 0 0 ((n : Int) - 1)) Q → QW (fun q => g_110 o q e 3 S 38 b 0 0 0 n) Q := by
      intro Q K
      refine QW_s ?_
      simp only [g_110]
      exact K
    simp only [limA]
    by_cases w : P_w (Ps (G_pg G)) fp = 16
    · rw [if_pos w]
      obtain ⟨l0, l1b, l2b, l3, l4, l5, l6, l7⟩ := limP hW p0 p1 w
      have RK := m_rk (o := o) hs hG hg hf (p := P_1 (Ps (G_pg G)) fp) (by rw [l5]; omega) (by rw [l5]; exact l6) (by rw [l5]; exact l7) 0
      cases hx : evG Ps sig G (P_1 (Ps (G_pg G)) fp) with
      | inr y =>
        rw [show ev (Ps (G_pg G)) sig (G_v G) 500 (P_1 (Ps (G_pg G)) fp) = .inr y from hx]
        show QW _ _
        refine walk _ (fun z => absurd w z) (fun _ => ?_)
        refine QW_p (k_rc (hs _ _ rfl)) ?_
        refine QW_e (r_1 hs hG hg rfl p0 (by omega)) ?_
        dsimp only
        refine QW_p (k_rc (hs _ _ rfl)) ?_
        refine QW_c RK (fun q hq => ?_)
        rw [hx] at hq
        subst hq
        dsimp only
        have hs2 : SH (m_flt S y.1 y.2) := hs
        refine QW_if (by simp) ?_
        refine QW_p (k_gi (hs2 _ _ rfl) rfl) ?_
        rw [m_flt_47]
        refine QW_g (by omega) ?_
        refine QW_it (by decide) ?_
        refine QW_m (rl_3 hs2 (by omega) (Or.inr ⟨rfl, m_flt_47 S y.1 y.2⟩)) (fun q hq => ?_)
        subst hq
        exact FltP.a hG ⟨h.2.2.2.2.1.1, h.2.2.2.2.2.2.1.1⟩
      | inl v =>
        rw [show ev (Ps (G_pg G)) sig (G_v G) 500 (P_1 (Ps (G_pg G)) fp) = .inl v from hx]
        dsimp only
        by_cases cv : v = 0
        · rw [if_pos cv]
          show QW _ _
          refine walk _ (fun z => absurd w z) (fun _ => ?_)
          refine QW_p (k_rc (hs _ _ rfl)) ?_
          refine QW_e (r_1 hs hG hg rfl p0 (by omega)) ?_
          dsimp only
          refine QW_p (k_rc (hs _ _ rfl)) ?_
          refine QW_c RK (fun q hq => ?_)
          rw [hx] at hq
          subst hq
          dsimp only
          refine QW_if (by simp [cv]) ?_
          refine QW_p (k_gi (hs _ _ rfl) rfl) ?_
          rw [hf]
          refine QW_g (by omega) ?_
          refine QW_if (by decide) ?_
          refine QW_p (k_gv (hs _ _ rfl) rfl rfl) ?_
          refine QW_p (k_ia (hs _ _ rfl) y0 y1 (by decide)) ?_
          rw [y4]
          refine QW_p (k_rc (hs _ _ rfl)) ?_
          refine QW_c (r_drop (P := Ps (G_pg G)) (sz := szs (G_pg G)) (ph := G_ph G) k side base u m p d (st1' ++ [(fp, fa)]) st2 sub b (xs1' ++ [x]) xs2 isub S G RX RB 60 rfl hv h (by rw [l1, l2]) (fun _ => by simp) (by have := hv.1.1; omega)) (fun q hq => ?_)
          obtain ⟨r1, t1⟩ := hq
          have hs2 := r1.1
          refine QW_p (k_rc (hs2 _ _ rfl)) ?_
          have hg2 : GW Ps szs nP sec G := hg
          obtain ⟨z1, z2, z3, z4, z5, z6, z7, z8, z9, z10, z11, z12⟩ := r1.2.1
          have hG3 : ∃ (_ : m_P q.1 (q_F q.1 38 18) = Ps (G_pg G)), 0 ≤ q_F q.1 38 18 ∧ q_F q.1 38 18 < 20 := by
            rw [z10]
            have a1 : 0 ≤ G_pg G := hg.2.2.2.2.2.1
            have a2 : G_pg G < nP := hg.2.2.2.2.2.2.1
            have a3 := hg.2.1
            exact ⟨z3 _ a1 a2, a1, by show G_pg G < 20; omega⟩
          obtain ⟨m1, m2, m3⟩ := hG3
          have R3 := m_119 (o := o) (p := fp) hs2 (by omega) (by omega)
          rw [m1] at R3
          refine QW_e R3 ?_
          dsimp only
          refine QW_p (k_rc (hs2 _ _ rfl)) ?_
          refine QW_e (m_120 hs2 b1 b2) ?_
          obtain ⟨r2, t2⟩ := r1.go (how := 2) (p := P_3 (Ps (G_pg G)) fp) (d := d) (fun z => absurd z (by decide))
          refine QW_m (rl_3 r2.1 (by omega) (Or.inl rfl)) (fun q3 hq3 => ?_)
          subst hq3
          exact ⟨xs2, r2, t1.tr t2⟩
        · rw [if_neg cv, hsd2]
          have nx2 : ∀ Q : Q_S × Unit → Prop, QW (fun q => g_110 o q e 2 S 38 b 0 0 0 ((n : Int) - 1)) Q → QW (fun q => g_110 o q e 2 S 38 b 0 0 0 (((n + 1 : Nat) : Int) - 1)) Q := by
            intro Q K
            refine walk Q (fun z => absurd w z) (fun _ => ?_)
            refine QW_p (k_rc (hs _ _ rfl)) ?_
            refine QW_e (r_1 hs hG hg rfl p0 (by omega)) ?_
            dsimp only
            refine QW_p (k_rc (hs _ _ rfl)) ?_
            refine QW_c RK (fun q hq => ?_)
            rw [hx] at hq
            subst hq
            dsimp only
            refine QW_it cv ?_
            exact next Q K
          cases hl : limA sig (Ps (G_pg G)) (G_v G) st1'.reverse ((fp, fa) :: st2) with
          | inr y => rw [hl] at IH; exact nx2 _ IH
          | inl y =>
            rw [hl] at IH
            cases y with
            | some y => exact nx2 _ IH
            | none => exact fun Q K => nx2 Q (IH Q K)
    · rw [if_neg w, hsd2]
      have nx2 : ∀ Q : Q_S × Unit → Prop, QW (fun q => g_110 o q e 2 S 38 b 0 0 0 ((n : Int) - 1)) Q → QW (fun q => g_110 o q e 2 S 38 b 0 0 0 (((n + 1 : Nat) : Int) - 1)) Q := fun Q K => walk Q (fun _ => next Q K) (fun z => absurd z w)
      cases hl : limA sig (Ps (G_pg G)) (G_v G) st1'.reverse ((fp, fa) :: st2) with
      | inr y => rw [hl] at IH; exact nx2 _ IH
      | inl y =>
        rw [hl] at IH
        cases y with
        | some y => exact nx2 _ IH
        | none => exact fun Q K => nx2 Q (IH Q K)
end RL2
