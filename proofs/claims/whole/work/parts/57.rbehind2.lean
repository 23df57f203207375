/-! behind -/
section RB7
variable {o : X_O} {Ps : Int → PT} {szs : Int → Int → Int} {nP sec : Int} {sig : Int → Int64} {G : GT} {s : Q_S} {P : PT} {base u b : Int} {m p : Int} {d : DT} {st : List FR} {xs RX RB : List Int} {k : Nat}
theorem RS.off (h : RS Ps nP sec sig s G base u b (m, p, d, st) xs RX RB) : RS Ps nP sec sig (q_si s 62 b 0) G base u b (0, p, d, st) xs RX RB ∧ ST s (q_si s 62 b 0) RX RB := by
  have e : q_si s 62 b 0 = m_go s b 0 p := by
    unfold m_go
    rw [show p = q_I (q_si s 62 b 0) 63 b by have : q_I s 63 b = p := h.2.2.1.2.2.2.1; simp [q_I_si, this]]
    exact q_si_self.symm
  rw [e]
  exact h.go (fun z => absurd z (by decide))
set_option maxHeartbeats 4000000 in
theorem r_behind (hR : RS Ps nP sec sig s G base u b (3, p, d, st) xs RX RB) (hg : GW Ps szs nP sec G) (hP : Ps (G_pg G) = P) (h0 : 0 ≤ p) (h1 : p < P_n P)
    (hc : (P_w P (P_u P p) = 16 ∧ p = P_2 P (P_u P p)) ∨ P_w P (P_u P p) = 17 ∨ P_w P (P_u P p) = 20 → ¬ P_u P p = -1 → ¬ st = []) :
    QW (fun n => g_129 o n 0 s 38 b 0 0 .null 0 0 0) (fun q => ∃ xs', RS Ps nP sec sig q.1 (behindA Ps G p d st).1 base u b (behindA Ps G p d st).2 xs' RX RB ∧ ST s q.1 RX RB) := by
  have hR' := hR
  obtain ⟨hs, hG, ⟨b1, b2, b3, b4, b5, b6⟩, h4, h5, h6, h7, h8, h9, h10, hf, h12⟩ := hR
  have e63 : q_I s 63 b = p := b4
  have hW : WP P (szs (G_pg G)) := by rw [← hP]; exact hg.2.2.2.2.1 _ hg.2.2.2.2.2.1 hg.2.2.2.2.2.2.1
  have hn := hW.2.1
  have hu : P_u P p = -1 ∨ (0 ≤ P_u P p ∧ P_u P p < P_n P) := by
    by_cases z : p = 0
    · rw [z]; exact Or.inl hW.2.2.2.1
    · have := hW.2.2.2.2.2.2 p (by omega) h1
      omega
  have e4 : ∀ s' : Q_S, QW (fun n => g_129 o n 4 s' 0 0 0 0 .null 0 0 0) (fun q => q = (s', ())) := fun s' => by
    refine QW_s ?_
    simp only [g_129]
    exact QW_ret rfl
  refine QW_s ?_
  simp only [g_129]
  refine QW_p (k_gv (hs _ _ rfl) rfl rfl) ?_
  refine QW_p (k_ia (hs _ _ rfl) b1 b2 (by decide)) ?_
  rw [e63]
  refine QW_p (k_rc (hs _ _ rfl)) ?_
  refine QW_e (r_u hs hG hg hP h0 (by omega)) ?_
  dsimp only
  refine QW_g (by omega) ?_
  by_cases cu : P_u P p = -1
  · refine QW_if (by omega) ?_
    rw [show behindA Ps G p d st = (G, (0, p, d, st)) by simp [behindA, hP, cu]]
    refine QW_p (k_gv (hs _ _ rfl) rfl rfl) ?_
    refine QW_p (k_is (hs _ _ rfl) b1 b2 (by decide)) ?_
    obtain ⟨r1, t1⟩ := hR'.off
    exact QW_ret ⟨xs, r1, t1⟩
  refine QW_it cu ?_
  have hu0 : 0 ≤ P_u P p := by omega
  have hu1 : P_u P p < P_n P := by omega
  have hq := hW.2.2.2.2.2.1 (P_u P p) hu0 hu1
  have hrg := WK_rg hq.2.2
  generalize hqe : P_u P p = q at *
  refine QW_p (k_rc (hs _ _ rfl)) ?_
  refine QW_e (r_w hs hG hg hP hu0 (by omega)) ?_
  dsimp only
  refine QW_g (by omega) ?_
  have hdef : (P_w P q < 14 ∨ 21 < P_w P q) ∨ P_w P q = 15 ∨ P_w P q = 19 → behindA Ps G p d st = (G, (3, q, d, st)) := by
    intro z
    have z1 : ¬ P_w P q = 14 := by omega
    have z2 : ¬ P_w P q = 16 := by omega
    have z3 : ¬ P_w P q = 17 := by omega
    have z4 : ¬ P_w P q = 18 := by omega
    have z5 : ¬ P_w P q = 20 := by omega
    have z6 : ¬ P_w P q = 21 := by omega
    simp [behindA, hP, hqe, cu, z1, z2, z3, z4, z5, z6]
  have hgo3 : ∀ n1 : (∃ xs', RS Ps nP sec sig (m_go s b 3 q) G base u b (3, q, d, st) xs' RX RB ∧ ST s (m_go s b 3 q) RX RB) = True, True := fun _ => trivial
  obtain ⟨rg, tg⟩ := hR'.go (how := 3) (p := q) (d := d) (fun z => absurd z (by decide))
  by_cases c0 : P_w P q < 14 ∨ 21 < P_w P q
  · refine QW_it c0 ?_
    rw [hdef (Or.inl c0)]
    refine QW_p (k_rc (hs _ _ rfl)) ?_
    refine QW_e (m_120 hs b1 b2) ?_
    refine QW_m (e4 _) (fun r hr => ?_)
    subst hr
    exact ⟨xs, rg, tg⟩
  refine QW_if c0 ?_
  by_cases c14 : P_w P q = 14
  · refine QW_it c14 ?_
    refine QW_p (k_rc (hs _ _ rfl)) ?_
    refine QW_e (r_1 hs hG hg hP hu0 (by omega)) ?_
    dsimp only
    have hk : C2 P (szs (G_pg G)) q := by
      rcases hq.2.2 with h | h | h | h | h | h | h | h | h | h | h | h | h | h | h | h
      all_goals first
        | (exfalso; have := h.1; have := h.2.1; omega)
        | (exfalso; have := h.1; omega)
        | exact h.2.1
    have hz := hW.2.2.2.2.2.1 (q + 1) (by omega) hk.1.2.2
    have hk1 := hk.1.1
    have hk11 := hk.1.2.2
    have hk2 := hk.2.1
    have hk22 := hk.2.2.2
    refine QW_g (by omega) ?_
    by_cases cp : p = P_1 P q
    · refine QW_if (by omega) ?_
      rw [show behindA Ps G p d st = (G, (2, P_2 P q, d, st)) by simp only [behindA, hP, hqe, if_neg cu, c14, if_pos cp]; simp]
      refine QW_s ?_
      simp only [g_129]
      refine QW_p (k_rc (hs _ _ rfl)) ?_
      refine QW_e (r_1 hs hG hg hP hu0 (by omega)) ?_
      dsimp only
      refine QW_g (by omega) ?_
      refine QW_if (by omega) ?_
      refine QW_p (k_rc (hs _ _ rfl)) ?_
      refine QW_e (r_2 hs hG hg hP hu0 (by omega)) ?_
      dsimp only
      refine QW_s ?_
      simp only [g_129]
      refine QW_p (k_rc (hs _ _ rfl)) ?_
      refine QW_e (m_120 hs b1 b2) ?_
      refine QW_m (e4 _) (fun r hr => ?_)
      subst hr
      obtain ⟨r1, t1⟩ := hR'.go (how := 2) (p := P_2 P q) (d := d) (fun z => absurd z (by decide))
      exact ⟨xs, r1, t1⟩
    · refine QW_it cp ?_
      rw [show behindA Ps G p d st = (G, (3, q, d, st)) by simp only [behindA, hP, hqe, if_neg cu, c14, if_neg cp]; simp]
      refine QW_s ?_
      simp only [g_129]
      refine QW_p (k_rc (hs _ _ rfl)) ?_
      refine QW_e (r_1 hs hG hg hP hu0 (by omega)) ?_
      dsimp only
      refine QW_g (by omega) ?_
      refine QW_it cp ?_
      refine QW_s ?_
      simp only [g_129]
      refine QW_p (k_rc (hs _ _ rfl)) ?_
      refine QW_e (m_120 hs b1 b2) ?_
      refine QW_m (e4 _) (fun r hr => ?_)
      subst hr
      exact ⟨xs, rg, tg⟩
  refine QW_if c14 ?_
  by_cases c15 : P_w P q = 15
  · refine QW_it c15 ?_
    rw [hdef (Or.inr (Or.inl c15))]
    refine QW_p (k_rc (hs _ _ rfl)) ?_
    refine QW_e (m_120 hs b1 b2) ?_
    refine QW_m (e4 _) (fun r hr => ?_)
    subst hr
    exact ⟨xs, rg, tg⟩
  refine QW_if c15 ?_
  by_cases c16 : P_w P q = 16
  · refine QW_it c16 ?_
    refine QW_p (k_rc (hs _ _ rfl)) ?_
    refine QW_e (r_2 hs hG hg hP hu0 (by omega)) ?_
    dsimp only
    have hk : C3 P (szs (G_pg G)) q := by
      rcases hq.2.2 with h | h | h | h | h | h | h | h | h | h | h | h | h | h | h | h
      all_goals first
        | (exfalso; have := h.1; have := h.2.1; omega)
        | (exfalso; have := h.1; omega)
        | exact h.2.1
    have hz := hW.2.2.2.2.2.1 (q + 1) (by omega) hk.1.1.2.2
    have hk2 := hk.1.2.1
    have hk22 := hk.1.2.2.2
    refine QW_g (by omega) ?_
    by_cases cp : p = P_2 P q
    · refine QW_if (by omega) ?_
      rw [show behindA Ps G p d st = (G, (3, q, d, st.tail)) by simp only [behindA, hP, hqe, if_neg cu, c16, if_pos cp]; simp]
      have hne := hc (Or.inl ⟨c16, cp⟩) cu
      cases st with
      | nil => exact absurd rfl hne
      | cons f t =>
        cases xs with
        | nil => obtain ⟨f1, f2⟩ := f; exact b6.elim
        | cons x ys =>
          obtain ⟨r1, t1, y1, y2, y3, y4, y5⟩ := hR'.pop
          refine QW_p (k_rc (hs _ _ rfl)) ?_
          refine QW_e (m_118 hs b1 b2 (by rw [y1]; exact y2) (by rw [y1]; exact y3)) ?_
          dsimp only
          have hs2 : SH (m_pop s b) := hs
          refine QW_s ?_
          simp only [g_129]
          refine QW_p (k_rc (hs2 _ _ rfl)) ?_
          refine QW_e (m_120 hs2 b1 b2) ?_
          refine QW_m (e4 _) (fun r hr => ?_)
          subst hr
          obtain ⟨r2, t2⟩ := r1.go (how := 3) (p := q) (d := d) (fun z => absurd z (by decide))
          exact ⟨ys, r2, t1.tr t2⟩
    · refine QW_it cp ?_
      rw [show behindA Ps G p d st = (G, (3, q, d, st)) by simp only [behindA, hP, hqe, if_neg cu, c16, if_neg cp]; simp]
      refine QW_s ?_
      simp only [g_129]
      refine QW_p (k_rc (hs _ _ rfl)) ?_
      refine QW_e (m_120 hs b1 b2) ?_
      refine QW_m (e4 _) (fun r hr => ?_)
      subst hr
      exact ⟨xs, rg, tg⟩
  refine QW_if c16 ?_
  by_cases c17 : P_w P q = 17
  · refine QW_it c17 ?_
    have hne := hc (Or.inr (Or.inl c17)) cu
    cases st with
    | nil => exact absurd rfl hne
    | cons f t =>
      obtain ⟨fp, fa⟩ := f
      cases xs with
      | nil => exact b6.elim
      | cons x ys =>
        obtain ⟨_, _, y1, y2, y3, y4, y5⟩ := hR'.pop
        have y5' : q_L s 58 x = fa := y5
        refine QW_p (k_gv (hs _ _ rfl) rfl rfl) ?_
        refine QW_p (k_gv (hs _ _ rfl) rfl rfl) ?_
        refine QW_p (k_ia (hs _ _ rfl) b1 b2 (by decide)) ?_
        rw [y1]
        refine QW_p (k_la (hs _ _ rfl) y2 y3 (by decide)) ?_
        rw [y5']
        refine QW_p (k_ls (hs _ _ rfl) y2 y3 (by decide)) ?_
        obtain ⟨r3, t3⟩ := hR'.left (v := fa - 1)
        have hs3 : SH (q_sl s 58 x (fa - 1)) := hs
        refine QW_p (k_gv (hs3 _ _ rfl) rfl rfl) ?_
        refine QW_p (k_gv (hs3 _ _ rfl) rfl rfl) ?_
        refine QW_p (k_ia (hs3 _ _ rfl) b1 b2 (by decide)) ?_
        rw [show q_I (q_sl s 58 x (fa - 1)) 64 b = x from y1]
        refine QW_p (k_la (hs3 _ _ rfl) y2 y3 (by decide)) ?_
        rw [show q_L (q_sl s 58 x (fa - 1)) 58 x = fa - 1 by simp [q_L_sl]]
        by_cases ca : 0 < fa - 1
        · refine QW_if (Int64.not_le.mpr ca) ?_
          rw [show behindA Ps G p d ((fp, fa) :: t) = (G, (2, p, d, (fp, fa - 1) :: t)) by simp only [behindA, hP, hqe, if_neg cu, c17, if_pos ca]; simp]
          refine QW_p (k_rc (hs3 _ _ rfl)) ?_
          refine QW_e (m_120 hs3 b1 b2) ?_
          refine QW_m (e4 _) (fun r hr => ?_)
          subst hr
          obtain ⟨r2, t2⟩ := r3.go (how := 2) (p := p) (d := d) (fun z => absurd z (by decide))
          exact ⟨x :: ys, r2, t3.tr t2⟩
        · refine QW_it (Int64.not_lt.mp ca) ?_
          rw [show behindA Ps G p d ((fp, fa) :: t) = (G, (3, q, d, t)) by simp only [behindA, hP, hqe, if_neg cu, c17, if_neg ca]; simp]
          obtain ⟨r4, t4, z1, z2, z3, z4, z5⟩ := r3.pop
          refine QW_p (k_rc (hs3 _ _ rfl)) ?_
          refine QW_e (m_118 hs3 b1 b2 (by rw [z1]; exact y2) (by rw [z1]; exact y3)) ?_
          dsimp only
          have hs4 : SH (m_pop (q_sl s 58 x (fa - 1)) b) := hs
          refine QW_p (k_rc (hs4 _ _ rfl)) ?_
          refine QW_e (m_120 hs4 b1 b2) ?_
          refine QW_m (e4 _) (fun r hr => ?_)
          subst hr
          obtain ⟨r2, t2⟩ := r4.go (how := 3) (p := q) (d := d) (fun z => absurd z (by decide))
          exact ⟨ys, r2, (t3.tr t4).tr t2⟩
  refine QW_if c17 ?_
  by_cases c18 : P_w P q = 18
  · refine QW_it c18 ?_
    rw [show behindA Ps G p d st = (G, (0, p, d, st)) by simp only [behindA, hP, hqe, if_neg cu, c18]; simp]
    refine QW_p (k_gv (hs _ _ rfl) rfl rfl) ?_
    refine QW_p (k_is (hs _ _ rfl) b1 b2 (by decide)) ?_
    refine QW_m (e4 _) (fun r hr => ?_)
    subst hr
    obtain ⟨r1, t1⟩ := hR'.off
    exact ⟨xs, r1, t1⟩
  refine QW_if c18 ?_
  by_cases c19 : P_w P q = 19
  · refine QW_it c19 ?_
    rw [hdef (Or.inr (Or.inr c19))]
    refine QW_p (k_rc (hs _ _ rfl)) ?_
    refine QW_e (m_120 hs b1 b2) ?_
    refine QW_m (e4 _) (fun r hr => ?_)
    subst hr
    exact ⟨xs, rg, tg⟩
  refine QW_if c19 ?_
  by_cases c20 : P_w P q = 20
  · refine QW_it c20 ?_
    have hne := hc (Or.inr (Or.inr c20)) cu
    cases st with
    | nil => exact absurd rfl hne
    | cons f t =>
      obtain ⟨fp, fa⟩ := f
      cases xs with
      | nil => exact b6.elim
      | cons x ys =>
        obtain ⟨r1, t1, y1, y2, y3, y4, y5⟩ := hR'.pop
        have y4' : q_I s 55 x = fp := y4
        rw [show behindA Ps G p d ((fp, fa) :: t) = (G, (3, fp, d, t)) by simp only [behindA, hP, hqe, if_neg cu, c20]; simp]
        refine QW_p (k_gv (hs _ _ rfl) rfl rfl) ?_
        refine QW_p (k_gv (hs _ _ rfl) rfl rfl) ?_
        refine QW_p (k_ia (hs _ _ rfl) b1 b2 (by decide)) ?_
        rw [y1]
        refine QW_p (k_ia (hs _ _ rfl) y2 y3 (by decide)) ?_
        rw [y4']
        refine QW_p (k_rc (hs _ _ rfl)) ?_
        refine QW_e (m_118 hs b1 b2 (by rw [y1]; exact y2) (by rw [y1]; exact y3)) ?_
        dsimp only
        have hs2 : SH (m_pop s b) := hs
        refine QW_p (k_rc (hs2 _ _ rfl)) ?_
        refine QW_e (m_120 hs2 b1 b2) ?_
        refine QW_m (e4 _) (fun r hr => ?_)
        subst hr
        obtain ⟨r2, t2⟩ := r1.go (how := 3) (p := fp) (d := d) (fun z => absurd z (by decide))
        exact ⟨ys, r2, t1.tr t2⟩
  refine QW_if c20 ?_
  have c21 : P_w P q = 21 := by omega
  refine QW_it c21 ?_
  refine QW_p (k_rc (hs _ _ rfl)) ?_
  refine QW_e (m_120 hs b1 b2) ?_
  dsimp only
  have hs2 : SH (m_go s b 3 q) := hs
  obtain ⟨e, e1, e2⟩ := r_eP rg.2.1 hg hP
  refine QW_p (k_rc (hs2 _ _ rfl)) ?_
  refine QW_e (m_131 (sz := szs (G_pg G)) hs2 (by rw [e]; exact hW) ⟨e1, e2⟩ hu0 (by rw [e]; exact hu1)) ?_
  rw [e]
  dsimp only
  by_cases cph : isPh P q = true
  · simp only [if_pos cph]
    repeat (first | (refine QW_p (k_gv (hs2 _ _ rfl) rfl rfl) ?_) | (refine QW_p (k_gi (hs2 _ _ rfl) rfl) ?_) | (refine QW_p (k_rc (hs2 _ _ rfl)) ?_) | (refine QW_p (k_pi (hs2 _ _ rfl) rfl rfl) ?_) | (refine QW_p (k_pz (hs2 _ _ rfl) rfl rfl (by decide)) ?_) | (refine QW_g (by first | omega | decide | (simp only [q_F_sf, q_F_si, q_F_sl, q_F_st, q_F_cL, q_I_sf, q_L_sf, q_T_sf, q_I_si, q_I_sl, q_I_st, q_I_cI, q_I_cL, q_L_si, q_L_sl, q_L_st, q_L_cI, q_L_cL, q_T_si, q_T_sl]; omega)) ?_) | (refine QW_p (k_ia (hs2 _ _ rfl) (by first | omega | decide | (simp only [q_F_sf, q_F_si, q_F_sl, q_F_st, q_F_cL, q_I_sf, q_L_sf, q_T_sf, q_I_si, q_I_sl, q_I_st, q_I_cI, q_I_cL, q_L_si, q_L_sl, q_L_st, q_L_cI, q_L_cL, q_T_si, q_T_sl]; omega)) (by first | omega | decide | (simp only [q_F_sf, q_F_si, q_F_sl, q_F_st, q_F_cL, q_I_sf, q_L_sf, q_T_sf, q_I_si, q_I_sl, q_I_st, q_I_cI, q_I_cL, q_L_si, q_L_sl, q_L_st, q_L_cI, q_L_cL, q_T_si, q_T_sl]; omega)) (by decide)) ?_) | (refine QW_p (k_la (hs2 _ _ rfl) (by first | omega | decide | (simp only [q_F_sf, q_F_si, q_F_sl, q_F_st, q_F_cL, q_I_sf, q_L_sf, q_T_sf, q_I_si, q_I_sl, q_I_st, q_I_cI, q_I_cL, q_L_si, q_L_sl, q_L_st, q_L_cI, q_L_cL, q_T_si, q_T_sl]; omega)) (by first | omega | decide | (simp only [q_F_sf, q_F_si, q_F_sl, q_F_st, q_F_cL, q_I_sf, q_L_sf, q_T_sf, q_I_si, q_I_sl, q_I_st, q_I_cI, q_I_cL, q_L_si, q_L_sl, q_L_st, q_L_cI, q_L_cL, q_T_si, q_T_sl]; omega)) (by decide)) ?_) | (refine QW_p (k_ba (hs2 _ _ rfl) (by first | omega | decide | (simp only [q_F_sf, q_F_si, q_F_sl, q_F_st, q_F_cL, q_I_sf, q_L_sf, q_T_sf, q_I_si, q_I_sl, q_I_st, q_I_cI, q_I_cL, q_L_si, q_L_sl, q_L_st, q_L_cI, q_L_cL, q_T_si, q_T_sl]; omega)) (by first | omega | decide | (simp only [q_F_sf, q_F_si, q_F_sl, q_F_st, q_F_cL, q_I_sf, q_L_sf, q_T_sf, q_I_si, q_I_sl, q_I_st, q_I_cI, q_I_cL, q_L_si, q_L_sl, q_L_st, q_L_cI, q_L_cL, q_T_si, q_T_sl]; omega)) (by decide)) ?_) | (refine QW_p (k_is (hs2 _ _ rfl) (by first | omega | decide | (simp only [q_F_sf, q_F_si, q_F_sl, q_F_st, q_F_cL, q_I_sf, q_L_sf, q_T_sf, q_I_si, q_I_sl, q_I_st, q_I_cI, q_I_cL, q_L_si, q_L_sl, q_L_st, q_L_cI, q_L_cL, q_T_si, q_T_sl]; omega)) (by first | omega | decide | (simp only [q_F_sf, q_F_si, q_F_sl, q_F_st, q_F_cL, q_I_sf, q_L_sf, q_T_sf, q_I_si, q_I_sl, q_I_st, q_I_cI, q_I_cL, q_L_si, q_L_sl, q_L_st, q_L_cI, q_L_cL, q_T_si, q_T_sl]; omega)) (by decide)) ?_) | (refine QW_p (k_ls (hs2 _ _ rfl) (by first | omega | decide | (simp only [q_F_sf, q_F_si, q_F_sl, q_F_st, q_F_cL, q_I_sf, q_L_sf, q_T_sf, q_I_si, q_I_sl, q_I_st, q_I_cI, q_I_cL, q_L_si, q_L_sl, q_L_st, q_L_cI, q_L_cL, q_T_si, q_T_sl]; omega)) (by first | omega | decide | (simp only [q_F_sf, q_F_si, q_F_sl, q_F_st, q_F_cL, q_I_sf, q_L_sf, q_T_sf, q_I_si, q_I_sl, q_I_st, q_I_cI, q_I_cL, q_L_si, q_L_sl, q_L_st, q_L_cI, q_L_cL, q_T_si, q_T_sl]; omega)) (by decide)) ?_) | (refine QW_p (k_bs (hs2 _ _ rfl) (by first | omega | decide | (simp only [q_F_sf, q_F_si, q_F_sl, q_F_st, q_F_cL, q_I_sf, q_L_sf, q_T_sf, q_I_si, q_I_sl, q_I_st, q_I_cI, q_I_cL, q_L_si, q_L_sl, q_L_st, q_L_cI, q_L_cL, q_T_si, q_T_sl]; omega)) (by first | omega | decide | (simp only [q_F_sf, q_F_si, q_F_sl, q_F_st, q_F_cL, q_I_sf, q_L_sf, q_T_sf, q_I_si, q_I_sl, q_I_st, q_I_cI, q_I_cL, q_L_si, q_L_sl, q_L_st, q_L_cI, q_L_cL, q_T_si, q_T_sl]; omega)) (by decide) (by decide)) ?_) | (refine QW_it (by first | omega | decide | (simp only [q_F_sf, q_F_si, q_F_sl, q_F_st, q_F_cL, q_I_sf, q_L_sf, q_T_sf, q_I_si, q_I_sl, q_I_st, q_I_cI, q_I_cL, q_L_si, q_L_sl, q_L_st, q_L_cI, q_L_cL, q_T_si, q_T_sl]; omega)) ?_) | (refine QW_if (by first | omega | decide | (simp only [q_F_sf, q_F_si, q_F_sl, q_F_st, q_F_cL, q_I_sf, q_L_sf, q_T_sf, q_I_si, q_I_sl, q_I_st, q_I_cI, q_I_cL, q_L_si, q_L_sl, q_L_st, q_L_cI, q_L_cL, q_T_si, q_T_sl]; omega)) ?_))
    rw [show behindA Ps G p d st = phaseA Ps G q d st by simp only [behindA, hP, hqe, if_neg cu, c21, if_pos cph]; simp]
    refine QW_c (r_phase rg hg) (fun r hr => ?_)
    refine QW_m (e4 _) (fun r2 hr2 => ?_)
    subst hr2
    exact ⟨xs, hr.1, tg.tr hr.2⟩
  · simp only [if_neg cph]
    repeat (first | (refine QW_p (k_gv (hs2 _ _ rfl) rfl rfl) ?_) | (refine QW_p (k_gi (hs2 _ _ rfl) rfl) ?_) | (refine QW_p (k_rc (hs2 _ _ rfl)) ?_) | (refine QW_p (k_pi (hs2 _ _ rfl) rfl rfl) ?_) | (refine QW_p (k_pz (hs2 _ _ rfl) rfl rfl (by decide)) ?_) | (refine QW_g (by first | omega | decide | (simp only [q_F_sf, q_F_si, q_F_sl, q_F_st, q_F_cL, q_I_sf, q_L_sf, q_T_sf, q_I_si, q_I_sl, q_I_st, q_I_cI, q_I_cL, q_L_si, q_L_sl, q_L_st, q_L_cI, q_L_cL, q_T_si, q_T_sl]; omega)) ?_) | (refine QW_p (k_ia (hs2 _ _ rfl) (by first | omega | decide | (simp only [q_F_sf, q_F_si, q_F_sl, q_F_st, q_F_cL, q_I_sf, q_L_sf, q_T_sf, q_I_si, q_I_sl, q_I_st, q_I_cI, q_I_cL, q_L_si, q_L_sl, q_L_st, q_L_cI, q_L_cL, q_T_si, q_T_sl]; omega)) (by first | omega | decide | (simp only [q_F_sf, q_F_si, q_F_sl, q_F_st, q_F_cL, q_I_sf, q_L_sf, q_T_sf, q_I_si, q_I_sl, q_I_st, q_I_cI, q_I_cL, q_L_si, q_L_sl, q_L_st, q_L_cI, q_L_cL, q_T_si, q_T_sl]; omega)) (by decide)) ?_) | (refine QW_p (k_la (hs2 _ _ rfl) (by first | omega | decide | (simp only [q_F_sf, q_F_si, q_F_sl, q_F_st, q_F_cL, q_I_sf, q_L_sf, q_T_sf, q_I_si, q_I_sl, q_I_st, q_I_cI, q_I_cL, q_L_si, q_L_sl, q_L_st, q_L_cI, q_L_cL, q_T_si, q_T_sl]; omega)) (by first | omega | decide | (simp only [q_F_sf, q_F_si, q_F_sl, q_F_st, q_F_cL, q_I_sf, q_L_sf, q_T_sf, q_I_si, q_I_sl, q_I_st, q_I_cI, q_I_cL, q_L_si, q_L_sl, q_L_st, q_L_cI, q_L_cL, q_T_si, q_T_sl]; omega)) (by decide)) ?_) | (refine QW_p (k_ba (hs2 _ _ rfl) (by first | omega | decide | (simp only [q_F_sf, q_F_si, q_F_sl, q_F_st, q_F_cL, q_I_sf, q_L_sf, q_T_sf, q_I_si, q_I_sl, q_I_st, q_I_cI, q_I_cL, q_L_si, q_L_sl, q_L_st, q_L_cI, q_L_cL, q_T_si, q_T_sl]; omega)) (by first | omega | decide | (simp only [q_F_sf, q_F_si, q_F_sl, q_F_st, q_F_cL, q_I_sf, q_L_sf, q_T_sf, q_I_si, q_I_sl, q_I_st, q_I_cI, q_I_cL, q_L_si, q_L_sl, q_L_st, q_L_cI, q_L_cL, q_T_si, q_T_sl]; omega)) (by decide)) ?_) | (refine QW_p (k_is (hs2 _ _ rfl) (by first | omega | decide | (simp only [q_F_sf, q_F_si, q_F_sl, q_F_st, q_F_cL, q_I_sf, q_L_sf, q_T_sf, q_I_si, q_I_sl, q_I_st, q_I_cI, q_I_cL, q_L_si, q_L_sl, q_L_st, q_L_cI, q_L_cL, q_T_si, q_T_sl]; omega)) (by first | omega | decide | (simp only [q_F_sf, q_F_si, q_F_sl, q_F_st, q_F_cL, q_I_sf, q_L_sf, q_T_sf, q_I_si, q_I_sl, q_I_st, q_I_cI, q_I_cL, q_L_si, q_L_sl, q_L_st, q_L_cI, q_L_cL, q_T_si, q_T_sl]; omega)) (by decide)) ?_) | (refine QW_p (k_ls (hs2 _ _ rfl) (by first | omega | decide | (simp only [q_F_sf, q_F_si, q_F_sl, q_F_st, q_F_cL, q_I_sf, q_L_sf, q_T_sf, q_I_si, q_I_sl, q_I_st, q_I_cI, q_I_cL, q_L_si, q_L_sl, q_L_st, q_L_cI, q_L_cL, q_T_si, q_T_sl]; omega)) (by first | omega | decide | (simp only [q_F_sf, q_F_si, q_F_sl, q_F_st, q_F_cL, q_I_sf, q_L_sf, q_T_sf, q_I_si, q_I_sl, q_I_st, q_I_cI, q_I_cL, q_L_si, q_L_sl, q_L_st, q_L_cI, q_L_cL, q_T_si, q_T_sl]; omega)) (by decide)) ?_) | (refine QW_p (k_bs (hs2 _ _ rfl) (by first | omega | decide | (simp only [q_F_sf, q_F_si, q_F_sl, q_F_st, q_F_cL, q_I_sf, q_L_sf, q_T_sf, q_I_si, q_I_sl, q_I_st, q_I_cI, q_I_cL, q_L_si, q_L_sl, q_L_st, q_L_cI, q_L_cL, q_T_si, q_T_sl]; omega)) (by first | omega | decide | (simp only [q_F_sf, q_F_si, q_F_sl, q_F_st, q_F_cL, q_I_sf, q_L_sf, q_T_sf, q_I_si, q_I_sl, q_I_st, q_I_cI, q_I_cL, q_L_si, q_L_sl, q_L_st, q_L_cI, q_L_cL, q_T_si, q_T_sl]; omega)) (by decide) (by decide)) ?_) | (refine QW_it (by first | omega | decide | (simp only [q_F_sf, q_F_si, q_F_sl, q_F_st, q_F_cL, q_I_sf, q_L_sf, q_T_sf, q_I_si, q_I_sl, q_I_st, q_I_cI, q_I_cL, q_L_si, q_L_sl, q_L_st, q_L_cI, q_L_cL, q_T_si, q_T_sl]; omega)) ?_) | (refine QW_if (by first | omega | decide | (simp only [q_F_sf, q_F_si, q_F_sl, q_F_st, q_F_cL, q_I_sf, q_L_sf, q_T_sf, q_I_si, q_I_sl, q_I_st, q_I_cI, q_I_cL, q_L_si, q_L_sl, q_L_st, q_L_cI, q_L_cL, q_T_si, q_T_sl]; omega)) ?_))
    rw [show behindA Ps G p d st = (G, (3, q, d, st)) by simp only [behindA, hP, hqe, if_neg cu, c21, if_neg cph]; simp]
    refine QW_m (e4 _) (fun r hr => ?_)
    subst hr
    exact ⟨xs, rg, tg⟩
end RB7
