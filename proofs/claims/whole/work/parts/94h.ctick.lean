/-! THE CLASS'S tick -/
section CTK
variable {o : X_O} {Ps : Int → PT} {szs ths : Int → Int → Int} {rc : Int → Nat} {nP sec : Int} {sig : Int → Int64} {G G' : GT} {s s' : Q_S} {c room c' room' : Nat} {v v' : CV} {K : Nat} {t : BT K} {it : IT K} {al : Int × Int × Int}
theorem CF.fin {x : Int × Int} (h : CF Ps szs ths rc nP sec sig s c room G x s') (hg : GW Ps szs nP sec G) (hsec : sec + 1 ≤ 100000000) : SH s' ∧ (∃ rw wt, q_T s' 20 = some (sh20 rw wt)) ∧ q_F s' 20 3 = sec ∧ ∃ c1 room1, KC s c room (q_sf s' 20 3 (sec + 1)) c1 room1 ∧ CR Ps szs ths rc nP sig (q_sf s' 20 3 (sec + 1)) c1 room1 2 (sec + 1) G t (sec, x.1, x.2) := by
  obtain ⟨s2, c2, room2, v2, b, e1, e2, e3, e4, e5, e6, e7⟩ := h
  subst e1
  have h3 : q_F (c_flt s2 x.1 x.2) 20 3 = sec := by
    unfold c_flt
    simp only [q_F_sf]
    exact e2.2.2.2.1
  refine ⟨e2.1, ⟨_, _, e2.2.1⟩, h3, c2, room2, e7.tr (KC.f20.tr (KC.f20.tr (KC.f20.tr (KC.f20.tr KC.f20)))), ⟨b, ?_⟩, ?_, Or.inr (Or.inr rfl), e5, hg.sc hsec, ⟨v2, e3.f20.f20.f20.f20.f20, e4, e6, fun z => by omega⟩, fun z => by omega, fun _ => ?_⟩
  · refine (e2.sc (sec' := sec + 1)).f20 (fun _ => rfl) (fun _ _ => rfl) (fun a j ha => ?_) ?_ ?_ ?_ rfl
    · unfold c_flt
      simp only [q_I_sf, ha, false_and, if_false]
    · rw [q_F_sf, if_pos ⟨rfl, rfl⟩]
    · unfold c_flt
      simp only [q_F_sf]
      rfl
    · unfold c_flt
      simp only [q_F_sf]
      rfl
  · rw [q_F_sf, if_neg (by decide)]
    exact c_flt_0
  · have h5 := e2.2.2.2.1
    refine ⟨?_, ?_, ?_⟩
    · unfold c_flt
      simp only [q_F_sf]
      exact h5
    · unfold c_flt
      simp only [q_F_sf]
      rfl
    · unfold c_flt
      simp only [q_F_sf]
      rfl
theorem CEn.fin (h : CEn Ps szs ths rc nP sec sig s c room G s') (hg : GW Ps szs nP sec G) (hsec : sec + 1 ≤ 100000000) : SH s' ∧ (∃ rw wt, q_T s' 20 = some (sh20 rw wt)) ∧ q_F s' 20 3 = sec ∧ ∃ c1 room1, KC s c room (q_sf s' 20 3 (sec + 1)) c1 room1 ∧ CR Ps szs ths rc nP sig (q_sf s' 20 3 (sec + 1)) c1 room1 0 (sec + 1) G t al := by
  obtain ⟨s2, c2, room2, v2, e1, e2, e3, e4, e5, e6, e7⟩ := h
  subst e1
  have h3 : q_F (q_sf s2 20 0 0) 20 3 = sec := by
    rw [q_F_sf, if_neg (by decide)]
    exact e2.2.2.2.1
  refine ⟨e2.1, ⟨_, _, e2.2.1⟩, h3, c2, room2, e7.tr (KC.f20.tr KC.f20), ⟨G_bg G, ?_⟩, ?_, Or.inl rfl, e5, hg.sc hsec, ⟨v2, e3.f20.f20, e4, e6, fun z => by omega⟩, fun z => by omega, fun z => by omega⟩
  · refine (e2.sc (sec' := sec + 1)).f20 (fun _ => rfl) (fun _ _ => rfl) (fun a j ha => ?_) ?_ ?_ ?_ rfl
    · simp only [q_I_sf, ha, false_and, if_false]
    · rw [q_F_sf, if_pos ⟨rfl, rfl⟩]
    · simp only [q_F_sf]
      rfl
    · simp only [q_F_sf]
      rfl
  · rw [q_F_sf, if_neg (by decide), q_F_sf, if_pos ⟨rfl, rfl⟩]
theorem CTr.fin (h : CTr Ps szs ths rc nP sec sig G s' c' room' v none 0 (-1) false (-1) K t it []) (k : KC s c room s' c' room') (hg : GW Ps szs nP sec G) (hsec : sec + 1 ≤ 100000000) (hv : VT (Ps (G_pg G)) (szs (G_pg G)) sec (G_ph G) K none 0 t) (hx : XT (Ps (G_pg G)) K none false t) (hn : NB K t) (hm : ¬ modeB K t = 0) (hsd : sidesB K t = G_sd G) : SH s' ∧ (∃ rw wt, q_T s' 20 = some (sh20 rw wt)) ∧ q_F s' 20 3 = sec ∧ ∃ c1 room1, KC s c room (q_sf s' 20 3 (sec + 1)) c1 room1 ∧ CR Ps szs ths rc nP sig (q_sf s' 20 3 (sec + 1)) c1 room1 1 (sec + 1) G t al := by
  obtain ⟨g1, g2, g3, g4, g5, g6, g7, g8⟩ := h
  have hu : v_u v ≤ 6500 := by
    obtain ⟨fl, w1, w2, w3, w4, w5⟩ := g7
    exact w5
  rw [List.append_nil] at g7
  refine ⟨g1.1, ⟨_, _, g1.2.1⟩, g1.2.2.2.1, c', room', k.tr KC.f20, ⟨G_bg G, ?_⟩, ?_, Or.inr (Or.inl rfl), g4, hg.sc hsec, ⟨v, g2.f20, g3, hu, fun _ => ⟨g5, it, g6, g7⟩⟩, fun _ => ⟨VT.sec (by omega) K _ _ _ hv, hx, hn, hm, hsd⟩, fun z => by omega⟩
  · exact (g1.sc (sec' := sec + 1)).s1
  · rw [q_F_sf, if_neg (by decide)]
    exact g1.2.2.1
set_option maxHeartbeats 2000000 in
/-- one second -/
theorem c_second (ho : o 2 = some (10, fun i => x_TABLE.getD i 0)) (hT : ∀ k, 0 ≤ k → k < nP → TH (Ps k) (ths k)) (hK : 61 ≤ K) {F : Nat} (hF : (600000000 : Int) ≤ F) (h : CR Ps szs ths rc nP sig s c room 1 sec G t al) (hsec : sec + 1 ≤ 100000000) {Q : Q_S × Int → Prop} {i1 i2 : Int}
    (k : ∀ s' c' room', KC s c room s' c' room' → CR Ps szs ths rc nP sig s' c' room' (secA Ps sig F sec G t).1 (sec + 1) (secA Ps sig F sec G t).2.1 (secA Ps sig F sec G t).2.2.1 (match (secA Ps sig F sec G t).2.2.2 with | some x => (sec, x.1, x.2) | none => al) → QW (fun n => g_8 o n 2 s' 0 i1 (i2 + 1)) Q) :
    QW (fun n => (q_gv s 0 (.ref 0) 6).bind fun v17 => (q_rcv s 6 v17).bind fun b23 => (g_61 o n 0 s b23 0 0).bind fun q22 => (q_gv q22.1 0 (.ref 0) 6).bind fun v27 => (q_rcv q22.1 6 v27).bind fun b33 => (g_68 o n 0 q22.1 b33 0 0).bind fun q32 => (q_gv q32.1 0 (.ref 0) 5).bind fun v37 => (q_gi q32.1 4 v37 3).bind fun v39 => (q_pi q32.1 4 v37 3 (v39 + 1)).bind fun s41 => g_8 o n 2 s41 0 (i1) ((i2 + 1))) Q := by
  obtain ⟨⟨b, g1'⟩, h0, -, g4, hg, ⟨v, g2, g3, hu, hst⟩, h1, -⟩ := h
  have g1 := g1'.back1 h0
  obtain ⟨g5, it, g6, g7⟩ := hst rfl
  obtain ⟨hv, hx, hn, hm, hsd⟩ := h1 rfl
  have hW := hg.2.2.2.2.1 _ hg.2.2.2.2.2.1 hg.2.2.2.2.2.2.1
  have hs := g1.1
  have hC : CTr Ps szs ths rc nP sec sig (G_bgb G b) s c room v none 0 (-1) false (-1) K t it [] := ⟨g1, g2, g3, g4, g5, g6, by rw [List.append_nil]; exact g7, CX.root⟩
  -- behind goOn: the second is counted
  have FIN : ∀ (s1 : Q_S), (SH s1 ∧ (∃ rw wt, q_T s1 20 = some (sh20 rw wt)) ∧ q_F s1 20 3 = sec ∧ ∃ c1 room1, KC s c room (q_sf s1 20 3 (sec + 1)) c1 room1 ∧ CR Ps szs ths rc nP sig (q_sf s1 20 3 (sec + 1)) c1 room1 (secA Ps sig F sec G t).1 (sec + 1) (secA Ps sig F sec G t).2.1 (secA Ps sig F sec G t).2.2.1 (match (secA Ps sig F sec G t).2.2.2 with | some x => (sec, x.1, x.2) | none => al)) → QW (fun n => (q_gv s1 0 (.ref 0) 5).bind fun v37 => (q_gi s1 4 v37 3).bind fun v39 => (q_pi s1 4 v37 3 (v39 + 1)).bind fun s41 => g_8 o n 2 s41 0 (i1) ((i2 + 1))) Q := by
    intro s1 ⟨hs1, ⟨rw, wt, h20⟩, h3, c1, room1, kc, hCR⟩
    refine QW_p (k_gv (hs1 _ _ rfl) rfl rfl) ?_
    refine QW_p (k_gi h20 rfl) ?_
    rw [h3]
    refine QW_p (k_pi h20 rfl rfl) ?_
    exact k _ _ _ kc hCR
  have hgB : GW Ps szs nP sec (G_bgb (G_bgb G b) 0) := hg.bg0
  have eL : lookA Ps sig (G_bg0 G) K t = lookA Ps sig G K t := lookA_bgb 0 K t
  refine QW_p (k_gv (hs _ _ rfl) rfl rfl) ?_
  refine QW_p (k_rc (hs _ _ rfl)) ?_
  refine QW_c (d_61 ho hgB hC hv hn hm (by show sidesB K t ≤ G_sd G; omega)) (fun q hq => ?_)
  rw [lookA_bgb] at hq
  cases hl : lookA Ps sig G K t with
  | inr x =>
    rw [hl] at hq
    have esec : secA Ps sig F sec G t = (2, G_bg0 G, t, some x) := by unfold secA; rw [eL, hl]
    rw [esec] at FIN
    have hq : CF Ps szs ths rc nP sec sig s c room (G_bg0 G) x q.1 := hq
    have hsq := (hq.fin (t := t) hg.bg0 hsec).1
    refine QW_p (k_gv (hsq _ _ rfl) rfl rfl) ?_
    refine QW_p (k_rc (hsq _ _ rfl)) ?_
    exact QW_c (d_68f hq) (fun q2 hq2 => FIN q2.1 (CF.fin hq2 hg.bg0 hsec))
  | inl y =>
    obtain ⟨t1, n⟩ := y
    rw [hl] at hq
    obtain ⟨v1, it1, kc1, ct1⟩ := hq
    obtain ⟨i1', i2', i3'⟩ := look_inv hg K none 0 t t1 n hv hl
    obtain ⟨j1, j2, j3⟩ := look_xt rfl hW K none false 0 t t1 n hv hx hn hl
    have hm1 : ¬ modeB K t1 = 0 := fun z => hm (j3.mp z)
    have hs1 := sides0 K t1
    have hg1 : GW Ps szs nP sec (G_bgb (G_side (G_bgb G b) (-n)) 0) := hgB.sideN i3' (by show n ≤ G_sd G; omega)
    have hsq := ct1.1.1
    refine QW_p (k_gv (hsq _ _ rfl) rfl rfl) ?_
    refine QW_p (k_rc (hsq _ _ rfl)) ?_
    refine QW_c (d_68 ho hT hK hF hg1 ct1 i1' j1 j2 hm1 (by show sidesB K t1 ≤ G_sd G + -n; omega)) (fun q2 hq2 => ?_)
    have e : G_bgb (G_side (G_bgb G b) (-n)) 0 = G_side (G_bg0 G) (-n) := rfl
    rw [e] at hq2
    have hg0 : GW Ps szs nP sec (G_side (G_bg0 G) (-n)) := hg.bg0.sideN i3' (by show n ≤ G_sd G; omega)
    cases hr : runA Ps sig sec F K 0 (G_side (G_bg0 G) (-n)) t1 with
    | none => rw [hr] at hq2; exact hq2.elim
    | some res =>
      rw [hr] at hq2
      have hri := run_inv hr hg0 i1' (by omega) (by show sidesB K t1 ≤ G_sd G + -n; omega)
      cases res with
      | inr y =>
        obtain ⟨G2, x⟩ := y
        have esec : secA Ps sig F sec G t = (2, G2, t1, some x) := by
          unfold secA
          rw [eL, hl]
          dsimp only
          rw [hr]
        rw [esec] at FIN
        refine FIN q2.1 ?_
        obtain ⟨s2, c2, room2, v2, b2, e1, e2, e3, e4, e5, e6, e7⟩ := hq2
        exact CF.fin ⟨s2, c2, room2, v2, b2, e1, e2, e3, e4, e5, e6, kc1.tr e7⟩ hri.1 hsec
      | inl y =>
        obtain ⟨G2, t2⟩ := y
        obtain ⟨r1, r2, r3, r4, r5, r6, r7⟩ := hri
        have esec : secA Ps sig F sec G t = (if modeB K t2 = 0 then 0 else 1, G2, t2, none) := by
          unfold secA
          rw [eL, hl]
          dsimp only
          rw [hr]
        rw [esec] at FIN
        refine FIN q2.1 ?_
        obtain ⟨p1, p2⟩ := hq2
        by_cases mz : modeB K t2 = 0
        · simp only [if_pos mz]
          obtain ⟨s2, c2, room2, v2, e1, e2, e3, e4, e5, e6, e7⟩ := p1 mz
          exact CEn.fin ⟨s2, c2, room2, v2, e1, e2, e3, e4, e5, e6, kc1.tr e7⟩ r1 hsec
        · simp only [if_neg mz]
          obtain ⟨c', room', v', it', kc, ct⟩ := p2 mz
          obtain ⟨x1, x2⟩ := run_xt F K 0 none false _ _ _ _ hr hg0 i1' (by omega) (by show sidesB K t1 ≤ G_sd G + -n; omega) j1
          have r3 : G_sd G2 - sidesB K t2 = G_sd G + -n - sidesB K t1 := r3
          exact CTr.fin ct (kc1.tr kc) r1 hsec r2 x1 x2 mz (by omega)
/-- the seconds of a tick -/
theorem c_ticks (ho : o 2 = some (10, fun i => x_TABLE.getD i 0)) (hT : ∀ k, 0 ≤ k → k < nP → TH (Ps k) (ths k)) (hK : 61 ≤ K) {F : Nat} (hF : (600000000 : Int) ≤ F) {i : Int} (hi : 0 ≤ i ∧ i ≤ 10000) : ∀ (n : Nat) (j st sec : Int) (G : GT) (t : BT K) (al : Int × Int × Int) (s : Q_S) (c room : Nat), j + n = i → 0 ≤ j → sec + n ≤ 100000000 → CR Ps szs ths rc nP sig s c room st sec G t al →
    QW (fun m => g_8 o m 2 s 0 i j) (fun q => (∃ c' room', CR Ps szs ths rc nP sig q.1 c' room' (tickA Ps sig F n st sec G t al).1 (tickA Ps sig F n st sec G t al).2.1 (tickA Ps sig F n st sec G t al).2.2.1 (tickA Ps sig F n st sec G t al).2.2.2.1 (tickA Ps sig F n st sec G t al).2.2.2.2 ∧ KC s c room q.1 c' room') ∧ q.2 = (tickA Ps sig F n st sec G t al).1) := by
  have e3 : ∀ (s : Q_S) (c room : Nat) (st sec : Int) (G : GT) (t : BT K) (al : Int × Int × Int), CR Ps szs ths rc nP sig s c room st sec G t al → QW (fun m => g_8 o m 3 s 0 0 0) (fun q => q = (s, st)) := by
    intro s c room st sec G t al h
    obtain ⟨⟨b, g1'⟩, h0, -⟩ := h
    have hs : SH s := g1'.1
    have h20 : q_T s 20 = _ := g1'.2.1
    refine QW_s ?_
    simp only [g_8]
    refine QW_p (k_gv (hs _ _ rfl) rfl rfl) ?_
    refine QW_p (k_gi h20 rfl) ?_
    rw [h0]
    exact QW_ret rfl
  intro n
  induction n with
  | zero =>
    intro j st sec G t al s c room hj h0 hsec h
    refine QW_s ?_
    simp only [g_8]
    refine QW_g (by omega) ?_
    refine QW_it (by omega) ?_
    refine QW_m (e3 s c room st sec G t al h) (fun q hq => ?_)
    subst hq
    exact ⟨⟨c, room, h, KC.rf s c room⟩, rfl⟩
  | succ n ih =>
    intro j st sec G t al s c room hj h0 hsec h
    have h' := h
    obtain ⟨⟨b, g1'⟩, hst0, hstr, -⟩ := h'
    have hs : SH s := g1'.1
    have h20 : q_T s 20 = _ := g1'.2.1
    refine QW_s ?_
    simp only [g_8]
    refine QW_g (by omega) ?_
    refine QW_if (by omega) ?_
    refine QW_p (k_gv (hs _ _ rfl) rfl rfl) ?_
    refine QW_p (k_rc h20) ?_
    refine QW_e (d_43 h20 (by omega)) ?_
    dsimp only
    simp only [tickA]
    by_cases c1 : st = 1
    · subst c1
      rw [if_pos hst0]
      refine QW_g (by decide) ?_
      refine QW_if (by decide) ?_
      simp only [if_true]
      refine c_second ho hT hK hF h (by omega) (fun s' c' room' kc hCR => ?_)
      refine QW_m (ih (j + 1) _ _ _ _ _ s' c' room' (by omega) (by omega) (by omega) hCR) (fun q2 hq2 => ?_)
      obtain ⟨⟨c2, room2, k1, k2⟩, k3⟩ := hq2
      exact ⟨⟨c2, room2, k1, kc.tr k2⟩, k3⟩
    · rw [if_neg (by omega)]
      refine QW_g (by decide) ?_
      refine QW_it rfl ?_
      simp only [if_neg c1]
      refine QW_m (e3 s c room st sec G t al h) (fun q hq => ?_)
      subst hq
      exact ⟨⟨c, room, h, KC.rf s c room⟩, rfl⟩
end CTK
