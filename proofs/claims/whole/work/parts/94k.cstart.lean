/-! THE CLASS'S start -/
/-- the programs and the signals, as the cells have them -/
def CP (Ps : Int → PT) (szs ths : Int → Int → Int) (rc : Int → Nat) (nP : Int) (sig : Int → Int64) (s : Q_S) (c : Nat) : Prop :=
  SH s ∧ (∀ j, 0 ≤ j → j < 16 → q_L s 19 j = sig j) ∧ (c = 24 ∨ 80 ≤ c) ∧ 80 < s.1 ∧ (∀ k, 0 ≤ k → k < nP → RW s (rc k) (Ps k) (szs k) (ths k) ∧ 80 < rc k ∧ (rc k + 7 ≤ c ∨ c + 10 < rc k) ∧ rc k + 7 < s.1)
/-- the numbers of a run that begins -/
def G0 (k : Int) : GT := ((fun _ => 0), (fun _ => 0), (fun _ => -1), 0, -1, k, 0, 0)
theorem CG.cp {Ps : Int → PT} {szs ths : Int → Int → Int} {rc : Int → Nat} {nP sec : Int} {sig : Int → Int64} {G : GT} {s : Q_S} {c : Nat} (h : CG Ps szs ths rc nP sec sig G s c) : CP Ps szs ths rc nP sig s c := by
  obtain ⟨a1, a2, a3, a4, a5, a6, a7, a8, a9, a10, a11, a12, a13⟩ := h
  exact ⟨a1, a10, a11, a12, a13⟩
section CSTA
variable {o : X_O} {Ps : Int → PT} {szs ths : Int → Int → Int} {rc : Int → Nat} {nP : Int} {sig : Int → Int64} {s : Q_S} {c room : Nat} {v : CV} {rw wt : Value}
theorem G0_gw (hn : 0 ≤ nP ∧ nP ≤ 20) (hW : ∀ k, 0 ≤ k → k < nP → WP (Ps k) (szs k)) {k : Int} (k0 : 0 ≤ k) (k1 : k < nP) : GW Ps szs nP 0 (G0 k) :=
  ⟨hn.1, hn.2, Int.le_refl _, by decide, hW, k0, k1, Or.inl rfl, Int.le_refl _, (by show (0 : Int) ≤ 500; decide), Int.le_refl _, (by show (0 : Int) ≤ 49; decide), Int.le_refl _, (by show (0 : Int) ≤ 900000; decide), fun _ _ _ => Or.inl rfl⟩
theorem new_vt {P : PT} {sz : Int → Int} (hW : WP P sz) {n : Nat} : VT P sz 0 0 (n + 1) none 0 (newB n 0) ∧ XT P (n + 1) none false (newB n 0) ∧ NB (n + 1) (newB n 0) := by
  have hn := hW.1
  refine ⟨⟨?_, by show ¬ (2 : Int) = 4; decide⟩, ⟨(fun _ q hq => by cases hq), trivial⟩, trivial⟩
  refine VC.of2 (Int.le_refl _) (by decide) (Int.le_refl _) (by decide) (Int.le_refl _) (by omega) hW.2.2.2.2.1 (CNS.root hW.2.2.2.1) (fun _ => Or.inr ⟨0, 0, 1, rfl, Or.inl hW.2.2.2.1, Int.le_refl _⟩)
set_option maxHeartbeats 2000000 in
theorem d_42 (hC : CP Ps szs ths rc nP sig s c) (h20 : q_T s 20 = some (sh20 rw wt)) (h2 : VW s 24 c room v) (h9 : 9 ≤ room) (hn : 0 ≤ nP ∧ nP ≤ 20) (hW : ∀ k, 0 ≤ k → k < nP → WP (Ps k) (szs k)) {k : Int} (k0 : 0 ≤ k) (k1 : k < nP) {al : Int × Int × Int} {m : Nat} :
    QW (fun n => g_42 o n 0 s 20 (.ref (rc k))) (fun q => ∃ c' room', CR (K := m + 1) Ps szs ths rc nP sig q.1 c' room' 1 0 (G0 k) (newB m 0) al ∧ KC s c room q.1 c' room') := by
  obtain ⟨hs, hsig, hcc, hn80, hrows⟩ := hC
  have hWk := hW k k0 k1
  refine QW_s ?_
  simp only [g_42]
  refine QW_p (k_pi h20 rfl rfl) ?_
  have t0 : q_T (q_sf s 20 0 1) 20 = some (sh20 rw wt) := h20
  refine QW_p (show q_pr (q_sf s 20 0 1) 4 (.ref 20) 1 (.ref (rc k)) = some (q_st (q_sf s 20 0 1) 20 (sh20 (.ref (rc k)) wt)) from k_pr t0 rfl rfl) ?_
  have t1 : q_T (q_st (q_sf s 20 0 1) 20 (sh20 (.ref (rc k)) wt)) 20 = some (sh20 (.ref (rc k)) wt) := by rw [q_T_st, if_pos rfl]
  refine QW_p (show q_pr (q_st (q_sf s 20 0 1) 20 (sh20 (.ref (rc k)) wt)) 4 (.ref 20) 2 .null = some (q_st (q_st (q_sf s 20 0 1) 20 (sh20 (.ref (rc k)) wt)) 20 (sh20 (.ref (rc k)) .null)) from k_pr t1 rfl rfl) ?_
  have t2 : q_T (q_st (q_st (q_sf s 20 0 1) 20 (sh20 (.ref (rc k)) wt)) 20 (sh20 (.ref (rc k)) .null)) 20 = some (sh20 (.ref (rc k)) .null) := by rw [q_T_st, if_pos rfl]
  refine QW_p (k_pi t2 rfl rfl) ?_
  refine QW_p (k_pi (show q_T (q_sf _ 20 3 0) 20 = some (sh20 (.ref (rc k)) .null) from t2) rfl rfl) ?_
  generalize hs9 : q_sf (q_sf (q_st (q_st (q_sf s 20 0 1) 20 (sh20 (.ref (rc k)) wt)) 20 (sh20 (.ref (rc k)) .null)) 20 3 0) 20 4 0 = s9
  have T20 : q_T s9 20 = some (sh20 (.ref (rc k)) .null) := by rw [← hs9]; exact t2
  have TT : ∀ a, a ≠ 20 → q_T s9 a = q_T s a := fun a ha => by
    rw [← hs9, q_T_sf, q_T_sf, q_T_st, if_neg ha, q_T_st, if_neg ha]
    rfl
  have II : ∀ a j, a ≠ 20 → q_I s9 a j = q_I s a j := fun a j ha => by
    rw [← hs9, q_I_sf, if_neg (fun z => ha z.1), q_I_sf, if_neg (fun z => ha z.1), q_I_st, q_I_st, q_I_sf, if_neg (fun z => ha z.1)]
  have LL : ∀ a j, q_L s9 a j = q_L s a j := fun a j => by rw [← hs9]; rfl
  have n9 : s9.1 = s.1 := by rw [← hs9]; rfl
  have m9 : s9.2.1 = s.2.1 := by rw [← hs9]; rfl
  have f0 : q_F s9 20 0 = 1 := by rw [← hs9]; simp only [q_F_sf, q_F_st]; rfl
  have f3 : q_F s9 20 3 = 0 := by rw [← hs9]; simp only [q_F_sf, q_F_st]; rfl
  have f4 : q_F s9 20 4 = 0 := by rw [← hs9]; simp only [q_F_sf, q_F_st]; rfl
  refine QW_p (k_gv T20 rfl rfl) ?_
  refine QW_c (d_148 ((TT 21 (by decide)).trans (hs 21 _ rfl)) (by decide)) (fun q1 ⟨a1, a2, a3, a4, a5⟩ => ?_)
  refine QW_p (k_gv ((a3 20).trans T20) rfl rfl) ?_
  refine QW_c (d_148 ((a3 22).trans ((TT 22 (by decide)).trans (hs 22 _ rfl))) (by decide)) (fun q2 ⟨b1, b2, b3, b4, b5⟩ => ?_)
  refine QW_p (k_gv ((b3 20).trans ((a3 20).trans T20)) rfl rfl) ?_
  refine QW_c (d_149 ((b3 23).trans ((a3 23).trans ((TT 23 (by decide)).trans (hs 23 _ rfl)))) (by decide)) (fun q3 ⟨c1, c2, c3, c4, c5⟩ => ?_)
  have T3 : ∀ a, q_T q3.1 a = q_T s9 a := fun a => (c3 a).trans ((b3 a).trans (a3 a))
  refine QW_p (k_gv ((T3 20).trans T20) rfl rfl) ?_
  have hF0 : q_T q3.1 24 = some (shF0 c) := (T3 24).trans ((TT 24 (by decide)).trans h2.1)
  refine QW_p (k_rc hF0) ?_
  have C48 : QW (fun n => g_48 o n 0 q3.1 24) (fun q => q = (q_sf (q_sf (q_sf (q_sf q3.1 24 10 (-1)) 24 11 (-1)) 24 12 0) 24 13 0, ())) := by
    refine QW_s ?_
    simp only [g_48]
    refine QW_p (k_pi hF0 rfl rfl) ?_
    refine QW_p (k_pi (show q_T (q_sf _ 24 10 (-1)) 24 = some (shF0 c) from hF0) rfl rfl) ?_
    refine QW_p (k_pi (show q_T (q_sf _ 24 11 (-1)) 24 = some (shF0 c) from hF0) rfl rfl) ?_
    refine QW_p (k_pi (show q_T (q_sf _ 24 12 0) 24 = some (shF0 c) from hF0) rfl rfl) ?_
    exact QW_ret rfl
  refine QW_e C48 ?_
  dsimp only
  generalize hs4 : q_sf (q_sf (q_sf (q_sf q3.1 24 10 (-1)) 24 11 (-1)) 24 12 0) 24 13 0 = s4
  have T4 : ∀ a, q_T s4 a = q_T s9 a := fun a => by rw [← hs4]; exact T3 a
  have I4 : ∀ a j, a ≠ 20 → a ≠ 23 → a ≠ 24 → q_I s4 a j = q_I s a j := fun a j h1 h2 h3 => by
    rw [← hs4, q_I_sf, if_neg (fun z => h3 z.1), q_I_sf, if_neg (fun z => h3 z.1), q_I_sf, if_neg (fun z => h3 z.1), q_I_sf, if_neg (fun z => h3 z.1), c5, if_neg (fun z => h2 z.1), b4, a4]
    exact II a j h1
  have L4 : ∀ a j, a ≠ 21 → a ≠ 22 → q_L s4 a j = q_L s a j := fun a j h1 h2 => by
    rw [← hs4]
    show q_L q3.1 a j = _
    rw [c4, b5, if_neg (fun z => h2 z.1), a5, if_neg (fun z => h1 z.1)]
    exact LL a j
  have F20 : ∀ f : Nat, q_F s4 20 f = q_F s9 20 f := fun f => by
    rw [← hs4, q_F_sf, if_neg (fun z => by omega), q_F_sf, if_neg (fun z => by omega), q_F_sf, if_neg (fun z => by omega), q_F_sf, if_neg (fun z => by omega)]
    show q_I q3.1 20 f = _
    rw [c5, if_neg (fun z => by omega), b4, a4]
    rfl
  have n4 : s4.1 = s.1 := by rw [← hs4]; exact c1.trans (b1.trans (a1.trans n9))
  have m4 : s4.2.1 = s.2.1 := by rw [← hs4]; exact c2.trans (b2.trans (a2.trans m9))
  have hF4 : q_T s4 24 = some (shF0 c) := (T4 24).trans ((TT 24 (by decide)).trans h2.1)
  have h20' : q_T s4 20 = some (sh20 (.ref (rc k)) .null) := (T4 20).trans T20
  refine QW_p (k_gv h20' rfl rfl) ?_
  refine QW_p (k_rc hF4) ?_
  -- the frames, none of them
  have hV0 : VW s4 24 c room (v.1, v.2.1, -1, -1, 0, 0) := by
    obtain ⟨w0, wa, w1, w2, w3, w4, w5, w6, w7, w8, w9, w10, w11, w12⟩ := h2
    refine ⟨hF4, fun i t e => (T4 _).trans ((TT _ ?_).trans (wa i t e)), fun i x _ _ x0 x1 => ?_, fun i x _ _ x0 x1 => ?_, ?_, ?_, ?_, ?_, Int.le_refl _, by show (0 : Int) ≤ room; omega, w9, w10, by rw [n4]; exact w11, by rw [n4]; exact w12⟩
    · have i0 : 1 ≤ i ∧ i ≤ 10 := by
        unfold shFa at e
        split at e <;> first | omega | cases e
      omega
    · have x1 : x < 0 := x1
      omega
    · have x1 : x < 0 := x1
      omega
    · rw [← hs4]; simp only [q_F_sf]; rfl
    · rw [← hs4]; simp only [q_F_sf]; rfl
    · rw [← hs4]; simp only [q_F_sf]; rfl
    · rw [← hs4]; simp only [q_F_sf]; rfl
  have hB0 : VB (v.1, v.2.1, -1, -1, 0, 0) := ⟨fun x x0 x1 => by have x1 : x < 0 := x1; omega, ⟨Int.le_refl _, by show (-1 : Int) < 0; decide⟩, ⟨Int.le_refl _, by show (-1 : Int) < 0; decide⟩, by show (-1000 : Int) ≤ 0 ∧ (0 : Int) ≤ 1000; decide⟩
  have hD0 : CWd (v.1, v.2.1, -1, -1, 0, 0) [] := ⟨[], rfl, List.nodup_nil, (fun x hx => by cases hx), rfl, by show (0 : Int) ≤ 6500; decide⟩
  refine QW_c (d_49 (r := false) (x := 0) (u := -1) hV0 hB0 (by show (0 : Int) ≤ 7000; decide) h9 rfl (by decide) (by decide) (by decide) ⟨Int.le_refl _, by show (-1 : Int) < 0; decide⟩ (by show (0 : Int) ≤ 999; decide) (by show (-999 : Int) ≤ 0 ∧ (0 : Int) ≤ 999; decide) rfl) (fun q5 hq5 => ?_)
  obtain ⟨e1, v', c', room', e2, e3, e4, e5⟩ := hq5
  have hD1 := hD0.add e4 (by decide)
  -- the numbers
  have hG : CG Ps szs ths rc nP 0 sig (G_bgb (G0 k) (q_F s 35 6)) s4 c := by
    refine ⟨fun a t e => ?_, ?_, (F20 0).trans f0, (F20 3).trans f3, (F20 4).trans f4, fun j j0 j1 => ?_, fun j j0 j1 => ?_, fun j j0 j1 => ?_, I4 35 6 (by decide) (by decide) (by decide), fun j j0 j1 => ?_, hcc, by rw [n4]; exact hn80, fun i i0 i1 => ?_⟩
    · have ha : a ≠ 20 := fun z => by subst z; cases e
      rw [T4, TT a ha]
      exact hs a t e
    · exact h20'
    · rw [← hs4]
      show q_L q3.1 21 j = 0
      rw [c4, b5, if_neg (by omega), a5, if_pos ⟨rfl, j0, j1⟩]
    · rw [← hs4]
      show q_L q3.1 22 j = 0
      rw [c4, b5, if_pos ⟨rfl, j0, j1⟩]
    · rw [← hs4, q_I_sf, if_neg (by omega), q_I_sf, if_neg (by omega), q_I_sf, if_neg (by omega), q_I_sf, if_neg (by omega), c5, if_pos ⟨rfl, j0, j1⟩]
      rfl
    · rw [L4 19 j (by decide) (by decide)]
      exact hsig j j0 j1
    · obtain ⟨r1, r2, r3, r4⟩ := hrows i i0 i1
      exact ⟨r1.same (fun z hz => ⟨(T4 _).trans (TT _ (by omega)), fun j => ⟨I4 _ j (by omega) (by omega) (by omega), L4 _ j (by omega) (by omega)⟩⟩), r2, r3, by rw [n4]; exact r4⟩
  have kc4 : KC s c room s4 c room := by
    refine ⟨Nat.le_of_eq n4.symm, Nat.le_refl _, by rw [n4]; exact Nat.le_refl _, by rw [m4]; exact Nat.le_refl _, Or.inl rfl, fun a _ ha _ _ _ => ⟨(T4 a).trans (TT a (by omega)), fun j => ⟨I4 a j (by omega) (by omega) (by omega), L4 a j (by omega) (by omega)⟩⟩, fun a _ ha => (T4 a).trans (TT a (by omega))⟩
  have hG1 := hG.fk e5
  obtain ⟨n1, n2, n3⟩ := new_vt hWk (n := m)
  refine QW_ret ⟨c', room', ⟨⟨_, hG1.s1⟩, hG1.2.2.1, Or.inr (Or.inl rfl), by have := e5.2.1; omega, G0_gw hn hW k0 k1, ⟨v', e2, e3, ?_, fun _ => ⟨?_, (0, [], none), ?_, ?_⟩⟩, fun _ => ⟨n1, n2, n3, by show ¬ (2 : Int) = 0; decide, rfl⟩, fun z => by omega⟩, kc4.tr (e5.kc h2.cc)⟩
  · obtain ⟨fl, w1, w2, w3, w4, w5⟩ := hD1
    exact w5
  · rw [e4.2.2.2.2.2.2.2.2.2.2.2.2, if_neg (by decide)]
    rfl
  · refine ⟨trivial, Or.inr ⟨⟨Int.le_refl _, ?_, e4.2.2.1, e4.2.2.2.1, e4.2.2.2.2.1, e4.2.2.2.2.2.1, Or.inl ⟨rfl, e4.2.1⟩⟩, fun z => absurd rfl z⟩⟩
    show slotV v' (-1) false = 0
    rw [slot_root, e4.2.2.2.2.2.2.2.2.2.1, if_pos rfl]
  · have : flC (m + 1) (0, [], none) = [0] := by simp [flC]
    rw [this]
    exact hD1
/-- start -/
theorem d_6 (hC : CP Ps szs ths rc nP sig s c) (h20 : q_T s 20 = some (sh20 rw wt)) (h2 : VW s 24 c room v) (h9 : 9 ≤ room) (hP : PA s nP rc) (hW : ∀ k, 0 ≤ k → k < nP → WP (Ps k) (szs k)) {k : Int} (hk : q_in k) {al : Int × Int × Int} {m : Nat} :
    QW (fun n => g_6 o n 0 s 0 k) (fun q => if 0 ≤ k ∧ k < nP then q.2 = 0 ∧ ∃ c' room', CR (K := m + 1) Ps szs ths rc nP sig q.1 c' room' 1 0 (G0 k) (newB m 0) al ∧ KC s c room q.1 c' room' else q = (s, -1)) := by
  have hs := hC.1
  have hP' := hP
  obtain ⟨g, p1, p2, p3, p4, p5⟩ := hP'
  refine QW_s ?_
  simp only [g_6]
  refine QW_p (k_rc (hs _ _ rfl)) ?_
  refine QW_e (d_7 hs hk (by omega)) ?_
  dsimp only
  rw [p3]
  by_cases z : 0 ≤ k ∧ k < nP
  · simp only [if_pos z]
    refine QW_g (by decide) ?_
    refine QW_it (by decide) ?_
    refine QW_p (k_gv (hs _ _ rfl) rfl rfl) ?_
    refine QW_p (k_gv (hs _ _ rfl) rfl rfl) ?_
    refine QW_p (k_aa p1 z.1 (by omega) (by decide) (by decide)) ?_
    rw [p2 k z.1 z.2]
    refine QW_p (k_rc h20) ?_
    refine QW_c (d_42 hC h20 h2 h9 ⟨p4, p5⟩ hW z.1 z.2 (al := al) (m := m)) (fun q hq => ?_)
    exact QW_ret ⟨rfl, hq⟩
  · simp only [if_neg z]
    refine QW_g (by decide) ?_
    refine QW_if (by decide) ?_
    exact QW_ret rfl
end CSTA
