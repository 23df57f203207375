/-! EACH CALL: signal, swap, start, tick, save, back -/
def G_swp (G : GT) (k : Int) : GT := (G.1, G.2.1, G.2.2.1, G.2.2.2.1, k, G.2.2.2.2.2.1, G.2.2.2.2.2.2.1, G.2.2.2.2.2.2.2)
section CALC
variable {o : X_O} {K : Nat} {T T' : PT} {Ps : Int → PT} {szs ths : Int → Int → Int} {rc : Int → Nat} {nP : Int} {sig sig' : Int → Int64} {c room c' room' : Nat} {ru : Option (RU K)} {nS : Int} {sv : Int → Nat} {R : Int → RU K} {m : Int} {s s' s2 : Q_S} {st sec : Int} {G : GT} {t : BT K} {al : Int × Int × Int}
theorem MR.gl (h : MR Ps szs nP sig s st sec G t al) : RGl Ps nP sig s := by
  obtain ⟨h1, -, -, ⟨G2, ge, gm⟩, -⟩ := h
  obtain ⟨g1, g2, g3, g4, -⟩ := gm
  exact ⟨h1, g1.1, g3, g4, g1.2.2.1, g1.2.2.2⟩
theorem CLr.cc (h : CLr K Ps szs ths rc nP sig s c room ru) : c + 10 < s.1 ∧ room ≤ 20000 := by
  obtain ⟨⟨v, w⟩, -⟩ := h.vw
  exact ⟨w.2.2.2.2.2.2.2.2.2.2.2.2.1, w.2.2.2.2.2.2.2.2.2.2.1⟩
/-- the class behind a start, a tick, a back -/
theorem CLc.kc (h : CLc K T Ps szs ths rc nP sig c room ru nS sv R s) (k : KC s c room s' c' room') {x : RU K} (hx : CR Ps szs ths rc nP sig s' c' room' x.1 x.2.1 x.2.2.1 x.2.2.2.1 x.2.2.2.2) : CLc K T Ps szs ths rc nP sig c' room' (some x) nS sv R s' := by
  obtain ⟨a1, a2, a3, a4, a5, a6⟩ := h
  obtain ⟨k1, k2, k3, k4, k5, k6, k7⟩ := k
  have h80 := a1.2.2.2.1
  have hcc := a1.2.2.1
  have e : ∀ a, a < s.1 → ¬ (20 ≤ a ∧ a ≤ 24) → ¬ a = 35 → ¬ a = 36 → ¬ (c < a ∧ a ≤ c + 10) → q_T s' a = q_T s a ∧ ∀ j, q_I s' a j = q_I s a j ∧ q_L s' a j = q_L s a j := k6
  refine ⟨(CR.rn hx).1, a2.mv (fun a ha j => (e a (by omega) (by omega) (by omega) (by omega) (by omega)).2 j), a3.old (X := fun a => (20 ≤ a ∧ a ≤ 24) ∨ a = 35 ∨ a = 36 ∨ (c < a ∧ a ≤ c + 10)) ⟨k1, fun a h0 h1 => e a h0 (by omega) (by omega) (by omega) (by omega)⟩ (fun a h => by omega) ((e 0 (by omega) (by omega) (by omega) (by omega) (by omega)).2 8).1 (e 37 (by omega) (by omega) (by omega) (by omega) (by omega)).1 k2 (by omega), by omega, fun i i0 i1 => ?_, hx⟩
  obtain ⟨b1, b2, b3, b4⟩ := a1.2.2.2.2 i i0 i1
  exact ((e (rc i) (by omega) (by omega) (by omega) (by omega) (by omega)).2 9).1.trans (a5 i i0 i1)
theorem FRc.kc (k : KC s c room s' c' room') (hs : SH s') (h80 : 80 < s.1) (hc : c = 24 ∨ 80 ≤ c) : FRc s s' := ⟨hs, fun a ha j => (k.2.2.2.2.2.1 a (by omega) (by omega) (by omega) (by omega) (by omega)).2 j⟩
theorem PA.kc (h : PA s nP rc) (k : KC s c room s' c' room') (h80 : 80 < s.1) (hc : c = 24 ∨ 80 ≤ c) : PA s' nP rc := h.mv (k.2.2.2.2.2.1 18 (by omega) (by omega) (by omega) (by omega) (by omega)).1 ((k.2.2.2.2.2.1 0 (by omega) (by omega) (by omega) (by omega) (by omega)).2 3).1
theorem SZq.kc {nP nS m : Int} (h : SZq s room nP nS m) (k : KC s c room s' c' room') : SZq s' room' nP nS m := by
  unfold SZq at h ⊢
  obtain ⟨k1, k2, k3, k4, -⟩ := k
  omega
/-- the reference behind a start, a tick -/
theorem RFs.kt (h : RFs K T Ps szs nP sig ru nS R s) (k : KT s s') {x : RU K} (hx : MR Ps szs nP sig s' x.1 x.2.1 x.2.2.1 x.2.2.2.1 x.2.2.2.2) : RFs K T Ps szs nP sig (some x) nS R s' := by
  obtain ⟨a1, a2, a3, a4⟩ := h
  obtain ⟨k1, k2, k3, k4, k5, k6, k7, k8, k9⟩ := k
  refine ⟨hx.gl, ?_, a3.mv (fun a ha j => k4 a (by omega) j) k9, hx⟩
  obtain ⟨n0, n1, h1, g⟩ := a2
  refine ⟨n0, n1, k5.trans h1, fun i i0 i1 => ?_⟩
  obtain ⟨b0, b1, b2, b3, b4, b5⟩ := g i i0 i1
  exact ⟨b0, (k4 39 (by omega) i).1.trans b1, (k4 40 (by omega) i).2.trans b2, (k4 41 (by omega) i).1.trans b3, (k4 42 (by omega) i).1.trans b4, (k4 43 (by omega) i).1.trans b5⟩
/-- signal -/
theorem e_sig (h : TP K m s) {k : Int} {v : Int64} (hk : q_in k) : PRI K m (fun n => g_5 o n 0 s 0 k v) (fun s1 n => g_105 o n 0 s1 38 k v) := by
  obtain ⟨T, Ps, szs, ths, rc, nP, sig, c, room, ru, nS, sv, R, H⟩ := h
  have hs := H.sh
  have hW := H.wp
  obtain ⟨h1, h2, h3, h4, h5⟩ := id H
  by_cases z : 0 ≤ k ∧ k ≤ 15
  · refine QW_m (d_5 hs hk) (fun q e => ?_)
    rw [if_pos z] at e
    subst e
    have hs1 : SH (q_sl s 19 k v) := hs
    have eL : ∀ a j, a ≠ 19 → q_L (q_sl s 19 k v) a j = q_L s a j := fun a j ha => by rw [q_L_sl, if_neg (fun y => ha y.1)]
    have f : FRc s (q_sl s 19 k v) := ⟨hs1, fun a ha j => ⟨rfl, eL a j (by omega)⟩⟩
    refine ⟨hs1, (by decide : q_in 1), QW_m (m_105 hs1 hk) (fun r e => ?_)⟩
    rw [if_pos z] at e
    subst e
    have h3' := (h3.cl f hW h4.1.2).s0 (f := 0) (v := 0) (Or.inl rfl)
    have eI : ∀ a j, ¬ a = 19 → q_L (q_sl (q_sf (q_sl s 19 k v) 38 0 0) 44 k v) a j = if a = 44 ∧ j = k then v else q_L s a j := fun a j ha => by
      rw [q_L_sl]
      by_cases y : a = 44 ∧ j = k
      · rw [if_pos y, if_pos y]
      · rw [if_neg y, if_neg y]
        exact eL a j ha
    have fr : FRr (q_sl s 19 k v) (q_sl (q_sf (q_sl s 19 k v) 38 0 0) 44 k v) := ⟨rfl, rfl, rfl, fun a ha j => ⟨by rw [q_I_sl, q_I_sf, if_neg (fun y => by omega)], by rw [q_L_sl, if_neg (fun y => by omega)]; rfl⟩⟩
    refine ⟨rfl, T, Ps, szs, ths, rc, nP, (fun j => if j = k then v else sig j), c, room, ru, nS, sv, R, CLc.rf ?_ fr, (PA.mv (s' := q_sl s 19 k v) h2 rfl rfl).rf fr, ?_, h4.up, h5.up⟩
    · obtain ⟨a1, a2, a3, a4, a5, a6⟩ := h1
      have hC : CP Ps szs ths rc nP (fun j => if j = k then v else sig j) (q_sl s 19 k v) c := by
        obtain ⟨b1, b2, b3, b4, b5⟩ := a1
        refine ⟨hs1, fun j j0 j1 => ?_, b3, b4, fun i i0 i1 => ?_⟩
        · rw [q_L_sl]
          by_cases y : j = k
          · rw [if_pos ⟨rfl, y⟩]
            exact (if_pos y).symm
          · rw [if_neg (fun w => y w.2)]
            exact (b2 j j0 j1).trans (if_neg y).symm
        · obtain ⟨d1, d2, d3, d4⟩ := b5 i i0 i1
          exact ⟨d1.same (fun x hx => ⟨rfl, fun j => ⟨rfl, eL _ j (by omega)⟩⟩), d2, d3, d4⟩
      refine ⟨hC, a2.mv (fun a ha j => ⟨rfl, eL a j (by omega)⟩), a3.old (X := fun a => a < 81) ⟨Nat.le_refl _, fun a h0 h1 => ⟨rfl, fun j => ⟨rfl, eL a j (by omega)⟩⟩⟩ (fun a h => Or.inl h) rfl rfl (Nat.le_refl _) (Or.inl rfl), a4, a5, a6.mv a4 hC (Nat.le_refl _) a1.2.2.1 (fun a ha => ⟨rfl, fun j => ⟨rfl, eL a j (by omega)⟩⟩)⟩
    · obtain ⟨b1, b2, b3, b4⟩ := h3'
      have jL : ∀ a j, ¬ a = 44 → q_L (q_sl (q_sf (q_sl s 19 k v) 38 0 0) 44 k v) a j = q_L (q_sf (q_sl s 19 k v) 38 0 0) a j := fun a j ha => by rw [q_L_sl, if_neg (fun y => ha y.1)]
      have g : RGl Ps nP (fun j => if j = k then v else sig j) (q_sl (q_sf (q_sl s 19 k v) 38 0 0) 44 k v) := by
        obtain ⟨d1, d2, d3, d4, d5, d6⟩ := b1
        refine ⟨d1, d2, fun i i0 i1 => (d3 i i0 i1), fun j j0 j1 => ?_, d5, d6⟩
        rw [q_L_sl]
        by_cases y : j = k
        · rw [if_pos ⟨rfl, y⟩]
          exact (if_pos y).symm
        · rw [if_neg (fun w => y w.2)]
          exact (d4 j j0 j1).trans (if_neg y).symm
      refine ⟨g, b2.mv (fun a ha j => ⟨rfl, jL a j (by omega)⟩), b3.mv (fun a ha j => ⟨rfl, jL a j (by omega)⟩) rfl, ?_⟩
      cases ru with
      | none => exact b4
      | some x => exact MR.copy b4 ⟨fun _ _ => rfl, fun x _ _ => jL _ _ (by decide), fun x _ _ => jL _ _ (by decide), fun x _ _ => rfl, fun x _ _ => ⟨rfl, jL _ _ (by decide), rfl, rfl, rfl, rfl, rfl⟩, fun x _ _ => ⟨rfl, rfl, rfl, rfl, rfl, jL _ _ (by decide), jL _ _ (by decide), jL _ _ (by decide)⟩⟩ g ⟨Int.le_refl _, h4.1.2⟩ (fun _ _ _ => ⟨rfl, rfl⟩) hW
  · exact e_read H (x := 0) (by decide) (QW_m (d_5 hs hk) (fun q e => by rw [e, if_neg z])) (QW_m (m_105 hs hk) (fun q e => by rw [e, if_neg z]))
end CALC
