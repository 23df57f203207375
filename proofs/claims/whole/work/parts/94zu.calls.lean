/-! EACH CALL: swap, start, tick, save, back -/
section CALD
variable {o : X_O} {K : Nat} {T T' : PT} {Ps : Int → PT} {szs ths : Int → Int → Int} {rc : Int → Nat} {nP : Int} {sig sig' : Int → Int64} {c room c' room' : Nat} {ru : Option (RU K)} {nS : Int} {sv : Int → Nat} {R : Int → RU K} {m : Int} {s s' s2 : Q_S} {st sec : Int} {G : GT} {t : BT K} {al : Int × Int × Int}
theorem GM.swp (g : GM Ps nP sec sig G s) {k : Int} : GM Ps nP sec sig (G_swp G k) (q_sf s 38 21 k) := by
  obtain ⟨g1, g2, g3, g4, g5, g6, g7, g8, g9, g10, g11, g12⟩ := g
  have e : ∀ f : Nat, f ≠ 21 → q_F (q_sf s 38 21 k) 38 f = q_F s 38 f := fun f hf => by rw [q_F_sf, if_neg (fun z => hf z.2)]
  refine ⟨⟨(e 8 (by decide)).trans g1.1, by rw [e 47 (by decide), e 22 (by decide), e 36 (by decide)]; exact g1.2⟩, (e 19 (by decide)).trans g2, fun i i0 i1 => (m_P0 i).trans (g3 i i0 i1), g4, g5, g6, fun j j0 j1 => by rw [q_I_sf, if_neg (fun z => absurd z.1 (by decide))]; exact g7 j j0 j1, (e 20 (by decide)).trans g8, by rw [q_F_sf, if_pos ⟨rfl, rfl⟩]; rfl, (e 18 (by decide)).trans g10, (e 46 (by decide)).trans g11, (e 45 (by decide)).trans g12⟩
theorem GW.swp (g : GW Ps szs nP sec G) {k : Int} (k0 : 0 ≤ k) (k1 : k < nP) : GW Ps szs nP sec (G_swp G k) := by
  obtain ⟨w1, w2, w3, w4, w5, w6, w7, w8, w9⟩ := g
  exact ⟨w1, w2, w3, w4, w5, w6, w7, Or.inr ⟨k0, k1⟩, w9⟩
theorem MR.swp (h : MR Ps szs nP sig s st sec G t al) {k : Int} (k0 : 0 ≤ k) (k1 : k < nP) : MR Ps szs nP sig (q_sf s 38 21 k) st sec (G_swp G k) t al := by
  obtain ⟨h1, h2, h3, ⟨G2, ge, gm⟩, h5, h6, h7, h8, h9⟩ := h
  have e : ∀ f : Nat, f ≠ 21 → q_F (q_sf s 38 21 k) 38 f = q_F s 38 f := fun f hf => by rw [q_F_sf, if_neg (fun z => hf z.2)]
  have eI : ∀ a j, a ≠ 38 → q_I (q_sf s 38 21 k) a j = q_I s a j := fun a j ha => by rw [q_I_sf, if_neg (fun z => ha z.1)]
  refine ⟨h1, (e 17 (by decide)).trans h2, h3, ⟨G_swp G2 k, ⟨ge.1, ge.2.1, ge.2.2.1, ge.2.2.2.1, rfl, ge.2.2.2.2.2⟩, gm.swp⟩, h5.swp k0 k1, fun z => ?_, fun z => ?_, fun z => ?_, ?_⟩
  · obtain ⟨⟨it, b, hR, hit⟩, hv, hsd⟩ := h6 z
    refine ⟨⟨it, b, ?_, hit⟩, hv, hsd⟩
    exact hR.glob (G' := G_swp (G_bgb G b) k) h1 hR.2.1.swp rfl (fun a a0 a1 j => ⟨eI a j (by omega), rfl⟩) (e 47 (by decide)) (e 36 (by decide))
  · rw [e 47 (by decide), e 22 (by decide), e 23 (by decide), e 24 (by decide), e 25 (by decide)]
    exact h7 z
  · rw [e 47 (by decide), e 22 (by decide)]
    exact h8 z
  · exact ⟨fun x x0 x1 => by rw [eI 61 _ (by decide)]; exact h9.1 x x0 x1, fun x x0 x1 => by rw [eI 69 _ (by decide)]; exact h9.2 x x0 x1⟩
theorem sh20_n {s : Q_S} {y : Y_T} (h : SH s) : SH (q_st s 20 y) := fun a t e => by
  rw [q_T_st, if_neg (fun z => by subst z; cases e)]
  exact h a t e
/-- swap -/
theorem e_swp (h : TP K m s) {k : Int} (hk : q_in k) : PRI K m (fun n => g_14 o n 0 s 0 k) (fun s1 n => g_140 o n 0 s1 38 k) := by
  obtain ⟨T, Ps, szs, ths, rc, nP, sig, c, room, ru, nS, sv, R, H⟩ := h
  have hs := H.sh
  have hW := H.wp
  obtain ⟨h1, h2, h3, h4, h5⟩ := id H
  obtain ⟨-, rw', wt', h20⟩ := h1.2.2.2.2.2.vw
  obtain ⟨t1, t2, t3⟩ := stU_c h1.2.2.2.2.2
  have t4 := stU_r h3.2.2.2
  have h8 : q_F s 38 8 = nP := h3.1.2.1
  by_cases z : (0 ≤ k ∧ k < nP) ∧ stU ru = 1
  · cases ru with
    | none => exact absurd z.2 (show ¬ (3 : Int) = 1 by decide)
    | some x =>
      refine QW_m (d_14 hs h20 (by omega) h2 hk) (fun q e => ?_)
      rw [if_pos ⟨z.1, by omega⟩] at e
      subst e
      have hs1 : SH (q_st s 20 (sh20 rw' (.ref (rc k)))) := sh20_n hs
      have f : FRc s (q_st s 20 (sh20 rw' (.ref (rc k)))) := ⟨hs1, fun a ha j => ⟨rfl, rfl⟩⟩
      have h3' := h3.cl f hW h4.1.2
      have eT : ∀ a, a ≠ 20 → q_T (q_st s 20 (sh20 rw' (.ref (rc k)))) a = q_T s a := fun a ha => by rw [q_T_st, if_neg ha]
      refine ⟨hs1, (by decide : q_in 0), QW_m (m_140 hs1 hk (show 0 ≤ q_F s 38 8 ∧ q_F s 38 8 ≤ 20 by have := h4.1; omega) (show 0 ≤ q_F s 38 17 ∧ q_F s 38 17 ≤ 3 by omega)) (fun r e => ?_)⟩
      have c1 : (0 ≤ k ∧ k < q_F (q_st s 20 (sh20 rw' (.ref (rc k)))) 38 8) ∧ q_F (q_st s 20 (sh20 rw' (.ref (rc k)))) 38 17 = 1 := ⟨⟨z.1.1, by show k < q_F s 38 8; omega⟩, by show q_F s 38 17 = 1; omega⟩
      rw [if_pos c1] at e
      subst e
      obtain ⟨a1, a2, a3, a4, a5, a6⟩ := h1
      obtain ⟨hC, hR, h9⟩ := CR.rn a6
      have h80 := a1.2.2.2.1
      have hcc := a1.2.2.1
      have hC' : CP Ps szs ths rc nP sig (q_st s 20 (sh20 rw' (.ref (rc k)))) c := a1.ext (Nat.le_refl _) hs1 (fun _ => rfl) (fun a a0 _ _ => ⟨eT a (by omega), fun _ => ⟨rfl, rfl⟩⟩)
      have hrw : rw' = .ref (rc (G_pg x.2.2.1)) := by
        have := hR.1
        have h20' : q_T s 20 = some (sh20 (.ref (rc (G_pg x.2.2.1))) (if G_sw x.2.2.1 = -1 then .null else .ref (rc (G_sw x.2.2.1)))) := this
        rw [h20] at h20'
        have := Option.some.inj h20'
        unfold sh20 at this
        simp only [Sum.inr.injEq, Prod.mk.injEq, List.cons.injEq, Option.some.injEq] at this
        exact this.2.2.1
      have hR' : RNm Ps szs rc nP (q_st s 20 (sh20 rw' (.ref (rc k)))) 20 c room room x.1 x.2.1 (G_swp x.2.2.1 k) x.2.2.2.1 x.2.2.2.2 := by
        obtain ⟨u1, ⟨ua, ub, uc⟩, ⟨u3, u4, u5⟩, u6, u7, u8, u9, u10, ⟨v, w1, w2, w3, w4, w5⟩, u12, u13⟩ := hR
        refine ⟨?_, ⟨(eT _ (by decide)).trans ua, (eT _ (by decide)).trans ub, (eT _ (by decide)).trans uc⟩, ⟨u3, u4, u5⟩, u6, u7, u8, u9, u10.swp z.1.1 z.1.2, ⟨v, w1.same (fun a ha => ⟨eT a (by omega), fun _ => ⟨rfl, rfl⟩⟩) (Nat.le_refl _), w2, w3, w4, w5⟩, u12, u13⟩
        rw [q_T_st, if_pos rfl, hrw]
        show some (sh20 (.ref (rc (G_pg x.2.2.1))) (.ref (rc k))) = some (shU 20 (.ref (rc (G_pg x.2.2.1))) (if k = -1 then .null else .ref (rc k)))
        rw [if_neg (by omega)]
        rfl
      have h1' : CLc K T Ps szs ths rc nP sig c room (some (x.1, x.2.1, G_swp x.2.2.1 k, x.2.2.2.1, x.2.2.2.2)) nS sv R (q_st s 20 (sh20 rw' (.ref (rc k)))) := by
        refine ⟨hC', a2.mv (fun _ _ _ => ⟨rfl, rfl⟩), a3.old (X := fun a => a < 81) ⟨Nat.le_refl _, fun a h0 h1 => ⟨eT a (by omega), fun _ => ⟨rfl, rfl⟩⟩⟩ (fun a h => Or.inl h) rfl (eT 37 (by decide)) (Nat.le_refl _) (Or.inl rfl), a4, a5, RNm.cr hC' hR' h9⟩
      have fr : FRr (q_st s 20 (sh20 rw' (.ref (rc k)))) (q_sf (q_sf (q_st s 20 (sh20 rw' (.ref (rc k)))) 38 0 0) 38 21 k) := FRr.sf.tr FRr.sf
      refine ⟨rfl, T, Ps, szs, ths, rc, nP, sig, c, room, some (x.1, x.2.1, G_swp x.2.2.1 k, x.2.2.2.1, x.2.2.2.2), nS, sv, R, h1'.rf fr, (PA.mv (s' := q_st s 20 (sh20 rw' (.ref (rc k)))) h2 (eT 18 (by decide)) rfl).rf fr, ?_, ?_, h5.up⟩
      · have g := (h3'.s0 (f := 0) (v := 0) (Or.inl rfl))
        obtain ⟨b1, b2, b3, b4⟩ := g
        have hm := MR.swp b4 z.1.1 z.1.2
        refine ⟨hm.gl, ?_, b3.mv (fun a ha j => ⟨by rw [q_I_sf, if_neg (fun y => by omega)], rfl⟩) (by rw [q_F_sf, if_neg (by decide)]), hm⟩
        obtain ⟨n0, n1, d1, d2⟩ := b2
        refine ⟨n0, n1, by rw [q_F_sf, if_neg (by decide)]; exact d1, fun i i0 i1 => ?_⟩
        obtain ⟨x0, x1, x2, x3, x4, x5⟩ := d2 i i0 i1
        have eI : ∀ a j, a ≠ 38 → q_I (q_sf (q_sf (q_st s 20 (sh20 rw' (.ref (rc k)))) 38 0 0) 38 21 k) a j = q_I (q_sf (q_st s 20 (sh20 rw' (.ref (rc k)))) 38 0 0) a j := fun a j ha => by rw [q_I_sf, if_neg (fun y => ha y.1)]
        exact ⟨x0, (eI 39 _ (by decide)).trans x1, x2, (eI 41 _ (by decide)).trans x3, (eI 42 _ (by decide)).trans x4, (eI 43 _ (by decide)).trans x5⟩
      · obtain ⟨d1, d2, d3, d4, d5⟩ := h4.up
        refine ⟨d1, d2, d3, fun y hy => ?_, d5⟩
        cases hy
        exact d4 x rfl
  · refine e_read H (x := 1) (by decide) (QW_m (d_14 hs h20 (by omega) h2 hk) (fun q e => ?_)) (QW_m (m_140 hs hk (by have := h4.1; omega) (by omega)) (fun q e => ?_))
    · rw [e, if_neg (fun w => z ⟨w.1, by omega⟩)]
    · rw [e, if_neg (fun w => z ⟨by omega, by omega⟩)]
/-- start -/
theorem e_stt {K : Nat} {m : Int} {s : Q_S} (h : TP (K + 1) m s) (hm : 0 ≤ m) {k : Int} (hk : q_in k) : PRI (K + 1) m (fun n => g_6 o n 0 s 0 k) (fun s1 n => g_106 o n 0 s1 38 k 0) := by
  obtain ⟨T, Ps, szs, ths, rc, nP, sig, c, room, ru, nS, sv, R, H⟩ := h
  have hs := H.sh
  have hW := H.wp
  obtain ⟨h1, h2, h3, h4, h5⟩ := id H
  obtain ⟨⟨v, w⟩, rw', wt', h20⟩ := h1.2.2.2.2.2.vw
  have h80 := h1.1.2.2.2.1
  have hcc := h1.1.2.2.1
  by_cases z : 0 ≤ k ∧ k < nP
  · refine QW_m (d_6 (al := (0, 0, 0)) (m := K) h1.1 h20 w h1.2.2.2.1 h2 hW hk) (fun q e => ?_)
    rw [if_pos z] at e
    obtain ⟨e1, c', room', e2, e3⟩ := e
    have hs1 : SH q.1 := (CR.rn e2).1.1
    have f := FRc.kc e3 hs1 h80 hcc
    have h3' := h3.cl f hW h4.1.2
    refine ⟨hs1, by rw [e1]; decide, QW_m (m_106 hs1 h4.1 h3'.1.2.1 hk) (fun r e => ?_)⟩
    rw [if_pos z] at e
    subst e
    have fr := FRr.kt (start_kt (s := q.1) (k := k))
    refine ⟨e1.symm, T, Ps, szs, ths, rc, nP, sig, c', room', some (1, 0, G0 k, newB K 0, (0, 0, 0)), nS, sv, R, (CLc.kc (x := (1, 0, G0 k, newB K 0, (0, 0, 0))) h1 e3 e2).rf fr, (h2.kc e3 h80 hcc).rf fr, RFs.kt (x := (1, 0, G0 k, newB K 0, (0, 0, 0))) h3' start_kt (start_mr h3'.1 h4.1 hW z.1 z.2), ?_, (h5.kc e3).rf fr⟩
    obtain ⟨d1, d2, d3, d4, d5⟩ := h4.up
    refine ⟨d1, d2, d3, fun y hy => ?_, d5⟩
    cases hy
    exact ⟨by show (0 : Int) ≤ _; omega, fun y => absurd (show (1 : Int) = 2 from y) (by decide)⟩
  · exact e_read H (x := -1) (by decide) (QW_m (d_6 (al := (0, 0, 0)) (m := K) h1.1 h20 w h1.2.2.2.1 h2 hW hk) (fun q e => by rw [if_neg z] at e; exact e)) (QW_m (m_106 hs h4.1 h3.1.2.1 hk) (fun q e => by rw [if_neg z] at e; exact e))
/-- tick -/
theorem e_tck (ho : o 2 = some (10, fun i => x_TABLE.getD i 0)) (hK : 61 ≤ K) {F : Nat} (hF : (600000000 : Int) ≤ F) (h : TP K m s) (hm : 0 ≤ m ∧ m ≤ 1000) {i : Int} (hi : q_in i) : PRI K m (fun n => g_8 o n 0 s 0 i 0) (fun s1 n => g_108 o n 0 s1 38 i 0) := by
  obtain ⟨T, Ps, szs, ths, rc, nP, sig, c, room, ru, nS, sv, R, H⟩ := h
  have hs := H.sh
  have hW := H.wp
  obtain ⟨h1, h2, h3, h4, h5⟩ := id H
  have h80 := h1.1.2.2.2.1
  have hcc := h1.1.2.2.1
  by_cases z : i < 0 ∨ 10000 < i
  · exact e_read H (x := -1) (by decide) (d_8n hi z) (m_108n hs hi z)
  · cases ru with
    | none =>
      obtain ⟨x1, x2, x3, -⟩ := h1.2.2.2.2.2
      have r3 : q_F s 38 17 = 3 := h3.2.2.2.1
      have K3 : QW (fun n => g_8 o n 3 s 0 0 0) (fun q => q = (s, 3)) := by
        refine QW_s ?_
        simp only [g_8]
        refine QW_p (k_gv (hs _ _ rfl) rfl rfl) ?_
        refine QW_p (k_gi x1 rfl) ?_
        rw [x3]
        exact QW_ret rfl
      have L3 : QW (fun n => g_108 o n 3 (q_sf s 38 0 0) 38 0 0) (fun q => q = (q_sf s 38 0 0, 3)) := by
        refine QW_s ?_
        simp only [g_108]
        refine QW_p (k_gi (hs _ _ rfl) rfl) ?_
        rw [show q_F (q_sf s 38 0 0) 38 17 = 3 by rw [q_F_sf, if_neg (by decide)]; exact r3]
        exact QW_ret rfl
      refine e_read H (x := 3) (by decide) (d_8y (by omega) ?_) (m_108y hs (by omega) ?_)
      · refine QW_s ?_
        simp only [g_8]
        refine QW_g (by unfold q_in; omega) ?_
        refine QW_by (fun _ => K3) (fun _ => ?_)
        refine QW_p (k_gv (hs _ _ rfl) rfl rfl) ?_
        refine QW_p (k_rc x1) ?_
        refine QW_e (d_43 x1 (by omega)) ?_
        rw [x3]
        dsimp only
        refine QW_g (by decide) ?_
        refine QW_it (by decide) ?_
        exact K3
      · refine QW_s ?_
        simp only [g_108]
        refine QW_g (by unfold q_in; omega) ?_
        refine QW_by (fun _ => L3) (fun _ => ?_)
        refine QW_p (k_gi (hs _ _ rfl) rfl) ?_
        rw [show q_F (q_sf s 38 0 0) 38 17 = 3 by rw [q_F_sf, if_neg (by decide)]; exact r3]
        refine QW_g (by decide) ?_
        refine QW_it (by decide) ?_
        exact L3
    | some x =>
      have hT : ∀ k, 0 ≤ k → k < nP → TH (Ps k) (ths k) := fun k k0 k1 => (h4.2.2.1 k k0 k1).2
      have hx := h4.2.2.2.1 x rfl
      have ta := tick_al (o := o) hK hF i.toNat x.1 x.2.1 x.2.2.1 x.2.2.2.1 x.2.2.2.2 s (by omega) h3.2.2.2 hx.2
      refine QW_m (d_8y (by omega) (c_ticks ho hT hK hF (i := i) (by omega) i.toNat 0 x.1 x.2.1 x.2.2.1 x.2.2.2.1 x.2.2.2.2 s c room (by omega) (Int.le_refl _) (by omega) h1.2.2.2.2.2)) (fun q e => ?_)
      obtain ⟨⟨c', room', e2, e3⟩, e1⟩ := e
      have hs1 : SH q.1 := (CR.rn e2).1.1
      have f := FRc.kc e3 hs1 h80 hcc
      have h3' := h3.cl f hW h4.1.2
      have h3'' := h3'.s0 (f := 0) (v := 0) (Or.inl rfl)
      have rt := r_ticks (o := o) (szs := szs) hK hF (i := i) (by omega) i.toNat 0 x.1 x.2.1 x.2.2.1 x.2.2.2.1 x.2.2.2.2 (q_sf q.1 38 0 0) (by omega) (Int.le_refl _) (by omega) h3''.2.2.2
      refine ⟨hs1, by rw [e1]; unfold q_in; omega, QW_m (m_108y hs1 (by omega) rt) (fun r hr => ?_)⟩
      obtain ⟨r1, r2, r3⟩ := hr
      have fr : FRr q.1 r.1 := FRr.sf.tr (FRr.kt r2)
      refine ⟨r3.trans e1.symm, T, Ps, szs, ths, rc, nP, sig, c', room', some (tickA Ps sig F i.toNat x.1 x.2.1 x.2.2.1 x.2.2.2.1 x.2.2.2.2), nS, sv, R, (CLc.kc (x := tickA Ps sig F i.toNat x.1 x.2.1 x.2.2.1 x.2.2.2.1 x.2.2.2.2) h1 e3 e2).rf fr, (h2.kc e3 h80 hcc).rf fr, RFs.kt (x := tickA Ps sig F i.toNat x.1 x.2.1 x.2.2.1 x.2.2.2.1 x.2.2.2.2) h3'' r2 r1, ?_, (h5.kc e3).rf fr⟩
      obtain ⟨d1, d2, d3, d4, d5⟩ := h4.up
      refine ⟨d1, d2, d3, fun y hy => ?_, d5⟩
      cases hy
      exact ⟨by have := ta.2.1; omega, ta.1⟩
/-- save -/
theorem e_sav (h : TP K m s) : PRI K m (fun n => g_12 o n 0 s 0) (fun s1 n => g_143 o n 0 s1 38) := by
  obtain ⟨T, Ps, szs, ths, rc, nP, sig, c, room, ru, nS, sv, R, H⟩ := h
  have hs := H.sh
  have hW := H.wp
  obtain ⟨h1, h2, h3, h4, h5⟩ := id H
  have h80 := h1.1.2.2.2.1
  have hcc := h1.1.2.2.1
  cases ru with
  | none =>
    obtain ⟨x1, x2, x3, -⟩ := h1.2.2.2.2.2
    have r3 : q_F s 38 17 = 3 := h3.2.2.2.1
    refine e_read H (x := -1) (by decide) ?_ ?_
    · refine QW_s ?_
      simp only [g_12]
      refine QW_p (k_gv (hs _ _ rfl) rfl rfl) ?_
      refine QW_p (k_gi x1 rfl) ?_
      rw [x3]
      refine QW_g (by decide) ?_
      refine QW_if (by decide) ?_
      exact QW_ret rfl
    · refine QW_s ?_
      simp only [g_143]
      refine QW_p (k_pi (hs _ _ rfl) rfl rfl) ?_
      refine QW_p (k_gi (show q_T (q_sf s 38 0 0) 38 = _ from hs _ _ rfl) rfl) ?_
      rw [show q_F (q_sf s 38 0 0) 38 17 = 3 by rw [q_F_sf, if_neg (by decide)]; exact r3]
      refine QW_g (by decide) ?_
      refine QW_if (by decide) ?_
      exact QW_ret rfl
  | some x =>
    have n8 := h1.2.2.1.2.1
    have n0 := h1.2.2.1.1
    by_cases z : nS < 8
    · refine QW_m (d_12 h1.2.2.2.2.2 h1.2.2.1) (fun q e => ?_)
      rw [if_pos z] at e
      obtain ⟨e1, e2, e3, e4, e5, e6, e7, e8⟩ := e
      have hC := (CR.rn e2).1
      have hs1 : SH q.1 := hC.1
      have f : FRc s q.1 := ⟨hs1, fun a ha j => (e6.2 a (by omega) (by omega)).2 j⟩
      have h3' := h3.cl f hW h4.1.2
      refine ⟨hs1, by rw [e1]; unfold q_in; omega, QW_m (m_143 h3'.2.2.2 h3'.2.2.1) (fun r e => ?_)⟩
      rw [if_pos z] at e
      obtain ⟨r1, r2, r3, ⟨r4, r5, r6⟩, r7, r8, r9⟩ := e
      have fr : FRr q.1 r.1 := ⟨r4, r5, r6, fun a ha j => ⟨r7 a (by omega) (by omega) j, r8 a (by omega) j⟩⟩
      have h1' : CLc K T Ps szs ths rc nP sig c room (some x) (nS + 1) (upN sv nS s.1) (upN R nS x) q.1 := by
        obtain ⟨a1, a2, a3, a4, a5, a6⟩ := h1
        refine ⟨hC, a2.mv (fun a ha j => (e6.2 a (by omega) (by omega)).2 j), e3, a4, fun i i0 i1 => ?_, e2⟩
        obtain ⟨b1, b2, b3, b4⟩ := a1.2.2.2.2 i i0 i1
        exact ((e6.2 (rc i) (by omega) (by omega)).2 9).1.trans (a5 i i0 i1)
      refine ⟨r1.trans e1.symm, T, Ps, szs, ths, rc, nP, sig, c, room, some x, nS + 1, upN sv nS s.1, upN R nS x, h1'.rf fr, (PA.mv (s' := q.1) h2 (e7 18 (by omega) (by decide)) (e8 3 (by decide))).rf fr, ⟨r2.gl, ?_, r3, r2⟩, ?_, ?_⟩
      · obtain ⟨k0, k1, d1, d2⟩ := h3'.2.1
        refine ⟨k0, k1, (r9 1 (by decide) (by decide)).trans d1, fun i i0 i1 => ?_⟩
        obtain ⟨x0, x1, x2, x3, x4, x5⟩ := d2 i i0 i1
        exact ⟨x0, (r7 39 (by omega) (by omega) i).trans x1, (r8 40 (by omega) i).trans x2, (r7 41 (by omega) (by omega) i).trans x3, (r7 42 (by omega) (by omega) i).trans x4, (r7 43 (by omega) (by omega) i).trans x5⟩
      · obtain ⟨d1, d2, d3, d4, d5⟩ := h4.up
        refine ⟨d1, d2, d3, d4, fun k k0 k1 => ?_⟩
        unfold upN
        by_cases y : k = nS
        · rw [if_pos y]
          exact d4 x rfl
        · rw [if_neg y]
          exact d5 k k0 (by omega)
      · unfold SZq at h5 ⊢
        rw [r4, r5, e4]
        omega
    · exact e_read H (x := -2) (by decide) (QW_m (d_12 h1.2.2.2.2.2 h1.2.2.1) (fun q e => by rw [if_neg z] at e; exact e)) (QW_m (m_143 h3.2.2.2 h3.2.2.1) (fun q e => by rw [if_neg z] at e; exact e))
/-- back -/
theorem e_bck (h : TP K m s) {k : Int} (hk : q_in k) : PRI K m (fun n => g_13 o n 0 s 0 k) (fun s1 n => g_147 o n 0 s1 38 k) := by
  obtain ⟨T, Ps, szs, ths, rc, nP, sig, c, room, ru, nS, sv, R, H⟩ := h
  have hs := H.sh
  have hW := H.wp
  obtain ⟨h1, h2, h3, h4, h5⟩ := id H
  obtain ⟨⟨v, w⟩, rw', wt', h20⟩ := h1.2.2.2.2.2.vw
  have h80 := h1.1.2.2.2.1
  have hcc := h1.1.2.2.1
  by_cases z : 0 ≤ k ∧ k < nS
  · refine QW_m (d_13 h1.1 h20 w h1.2.2.2.1 h1.2.2.1 hk) (fun q e => ?_)
    rw [if_pos z] at e
    obtain ⟨e1, e2, e3⟩ := e
    have hs1 : SH q.1 := (CR.rn e2).1.1
    have f := FRc.kc e3 hs1 h80 hcc
    have h3' := h3.cl f hW h4.1.2
    refine ⟨hs1, by rw [e1]; decide, QW_m (m_147 h3'.1 h4.1.2 hW h3'.2.2.1 hk) (fun r e => ?_)⟩
    rw [if_pos z] at e
    obtain ⟨r1, r2, ⟨r4, r5, r6⟩, r7, r8⟩ := e
    have fr : FRr q.1 r.1 := ⟨r4, r5, r6, fun a ha j => r7 a (by omega) j⟩
    refine ⟨r1.trans e1.symm, T, Ps, szs, ths, rc, nP, sig, c, room, some (R k), nS, sv, R, (CLc.kc (x := R k) h1 e3 e2).rf fr, (h2.kc e3 h80 hcc).rf fr, ⟨r2.gl, ?_, h3'.2.2.1.mv (fun a ha j => r7 a (by omega) j) (r8 50 (by decide)), r2⟩, ?_, (h5.kc e3).rf fr⟩
    · obtain ⟨k0, k1, d1, d2⟩ := h3'.2.1
      refine ⟨k0, k1, (r8 1 (by decide)).trans d1, fun i i0 i1 => ?_⟩
      obtain ⟨x0, x1, x2, x3, x4, x5⟩ := d2 i i0 i1
      exact ⟨x0, (r7 39 (by omega) i).1.trans x1, (r7 40 (by omega) i).2.trans x2, (r7 41 (by omega) i).1.trans x3, (r7 42 (by omega) i).1.trans x4, (r7 43 (by omega) i).1.trans x5⟩
    · obtain ⟨d1, d2, d3, d4, d5⟩ := h4.up
      refine ⟨d1, d2, d3, fun y hy => ?_, d5⟩
      cases hy
      exact d5 k z.1 z.2
  · exact e_read H (x := 0) (by decide) (QW_m (d_13 h1.1 h20 w h1.2.2.2.1 h1.2.2.1 hk) (fun q e => by rw [if_neg z] at e; exact e)) (QW_m (m_147 h3.1 h4.1.2 hW h3.2.2.1 hk) (fun q e => by rw [if_neg z] at e; exact e))
end CALD
