/-! THE CLASS'S save AND back -/
/-- a run, wherever it lies -/
def RNm {K : Nat} (Ps : Int → PT) (szs : Int → Int → Int) (rc : Int → Nat) (nP : Int) (s : Q_S) (A c room : Nat) (ub : Int) (st sec : Int) (G : GT) (t : BT K) (al : Int × Int × Int) : Prop :=
  q_T s A = some (shU A (.ref (rc (G_pg G))) (if G_sw G = -1 then .null else .ref (rc (G_sw G)))) ∧ UA s A ∧ (q_F s A 0 = st ∧ q_F s A 3 = sec ∧ q_F s A 4 = G_ph G) ∧ (∀ j, 0 ≤ j → j < 16 → q_L s (A + 1) j = G_v G j) ∧ (∀ j, 0 ≤ j → j < 8 → q_L s (A + 2) j = G_o G j) ∧ (∀ j, 0 ≤ j → j < 8 → q_I s (A + 3) j = G_n G j) ∧ (st = 0 ∨ st = 1 ∨ st = 2) ∧ GW Ps szs nP sec G ∧
  (∃ v, VW s (A + 4) c room v ∧ VB v ∧ v_u v ≤ 6500 ∧ v_u v ≤ ub ∧ (st = 1 → v_s v = G_sd G ∧ (∃ it, CB v (Ps (G_pg G)) K 0 (-1) false t it ∧ CWd v (flC K it)))) ∧
  (st = 1 → VT (Ps (G_pg G)) (szs (G_pg G)) sec (G_ph G) K none 0 t ∧ XT (Ps (G_pg G)) K none false t ∧ NB K t ∧ ¬ modeB K t = 0 ∧ sidesB K t = G_sd G) ∧
  (st = 2 → q_F s A 5 = al.1 ∧ q_F s A 6 = al.2.1 ∧ q_F s A 7 = al.2.2)
section CSV
variable {o : X_O} {K : Nat} {Ps : Int → PT} {szs ths : Int → Int → Int} {rc : Int → Nat} {nP sec : Int} {sig : Int → Int64} {s s' : Q_S} {c room : Nat} {st : Int} {G : GT} {t : BT K} {al : Int × Int × Int}
theorem CR.rn (h : CR Ps szs ths rc nP sig s c room st sec G t al) : CP Ps szs ths rc nP sig s c ∧ RNm Ps szs rc nP s 20 c room room st sec G t al ∧ 9 ≤ room := by
  obtain ⟨⟨b, g1⟩, h0, hst, g4, hg, ⟨v, g2, g3, hu, h5⟩, h6, h7⟩ := h
  obtain ⟨a1, a2, a3, a4, a5, a6, a7, a8, a9, a10, a11, a12, a13⟩ := g1
  have hs : SH s := a1
  refine ⟨⟨hs, a10, a11, a12, fun k k0 k1 => ?_⟩, ⟨a2, ⟨hs 21 _ rfl, hs 22 _ rfl, hs 23 _ rfl⟩, ⟨h0, ?_, ?_⟩, a6, a7, fun j j0 j1 => ?_, hst, hg, ⟨v, g2, g3, hu, g2.2.2.2.2.2.2.2.2.2.1, h5⟩, h6, h7⟩, g4⟩
  · obtain ⟨b1, b2, b3, b4⟩ := a13 k k0 k1
    exact ⟨b1.same (fun i hi => ⟨rfl, fun j => ⟨by rw [q_I_sf, if_neg (by omega)], rfl⟩⟩), b2, b3, b4⟩
  · rw [q_F_sf, if_neg (by decide)] at a4
    exact a4
  · rw [q_F_sf, if_neg (by decide)] at a5
    exact a5
  · have := a8 j j0 j1
    rw [q_I_sf, if_neg (by omega)] at this
    exact this
theorem RNm.cr (hC : CP Ps szs ths rc nP sig s c) {ub : Int} (h : RNm Ps szs rc nP s 20 c room ub st sec G t al) (h9 : 9 ≤ room) : CR Ps szs ths rc nP sig s c room st sec G t al := by
  obtain ⟨hs, hsig, hcc, hn, hr⟩ := hC
  obtain ⟨h1, h2, ⟨h3, h4, h5⟩, h6, h7, h8, h9', h10, ⟨v, v1, v2, v3, v4, v5⟩, h12, h13⟩ := h
  refine ⟨⟨q_F s 35 6, hs, h1, by rw [q_F_sf, if_pos ⟨rfl, rfl⟩], by rw [q_F_sf, if_neg (by decide)]; exact h4, by rw [q_F_sf, if_neg (by decide)]; exact h5, h6, h7, fun j j0 j1 => by rw [q_I_sf, if_neg (by omega)]; exact h8 j j0 j1, by rw [q_F_sf, if_neg (by decide)]; rfl, hsig, hcc, hn, fun k k0 k1 => ?_⟩, h3, h9', h9, h10, ⟨v, v1, v2, v3, v5⟩, h12, h13⟩
  obtain ⟨b1, b2, b3, b4⟩ := hr k k0 k1
  exact ⟨b1.same (fun i hi => ⟨rfl, fun j => ⟨by rw [q_I_sf, if_neg (by omega)], rfl⟩⟩), b2, b3, b4⟩
/-- where nothing of it is touched -/
theorem RNm.ext {A : Nat} {ub ub' : Int} (h : RNm Ps szs rc nP s A c room ub st sec G t al) (hu : ub ≤ ub') (hn : s.1 ≤ s'.1) (e : ∀ a, (A ≤ a ∧ a ≤ A + 4) ∨ (c < a ∧ a ≤ c + 10) → q_T s' a = q_T s a ∧ ∀ j, q_I s' a j = q_I s a j ∧ q_L s' a j = q_L s a j) : RNm Ps szs rc nP s' A c room ub' st sec G t al := by
  obtain ⟨h1, ⟨u1, u2, u3⟩, ⟨h3, h4, h5⟩, h6, h7, h8, h9', h10, ⟨v, v1, v2, v3, v4, v5⟩, h12, h13⟩ := h
  have eA := e A (Or.inl (by omega))
  have e1 := e (A + 1) (Or.inl (by omega))
  have e2 := e (A + 2) (Or.inl (by omega))
  have e3 := e (A + 3) (Or.inl (by omega))
  refine ⟨eA.1.trans h1, ⟨e1.1.trans u1, e2.1.trans u2, e3.1.trans u3⟩, ⟨(eA.2 _).1.trans h3, (eA.2 _).1.trans h4, (eA.2 _).1.trans h5⟩, fun j j0 j1 => (e1.2 j).2.trans (h6 j j0 j1), fun j j0 j1 => (e2.2 j).2.trans (h7 j j0 j1), fun j j0 j1 => (e3.2 j).1.trans (h8 j j0 j1), h9', h10, ⟨v, v1.same (fun a ha => e a (by omega)) hn, v2, v3, by omega, v5⟩, h12, fun z => ?_⟩
  obtain ⟨z1, z2, z3⟩ := h13 z
  exact ⟨(eA.2 _).1.trans z1, (eA.2 _).1.trans z2, (eA.2 _).1.trans z3⟩
theorem CP.ext (h : CP Ps szs ths rc nP sig s c) (hn : s.1 ≤ s'.1) (hs : SH s') (e19 : ∀ j, q_L s' 19 j = q_L s 19 j) (e : ∀ a, 80 < a → a < s.1 → ¬ (c < a ∧ a ≤ c + 10) → q_T s' a = q_T s a ∧ ∀ j, q_I s' a j = q_I s a j ∧ q_L s' a j = q_L s a j) : CP Ps szs ths rc nP sig s' c := by
  obtain ⟨a1, a2, a3, a4, a5⟩ := h
  refine ⟨hs, fun j j0 j1 => (e19 j).trans (a2 j j0 j1), a3, by omega, fun k k0 k1 => ?_⟩
  obtain ⟨b1, b2, b3, b4⟩ := a5 k k0 k1
  exact ⟨b1.same (fun i hi => e _ (by omega) (by omega) (by omega)), b2, b3, by omega⟩
/-- the runs that are saved -/
def SVs (K : Nat) (Ps : Int → PT) (szs : Int → Int → Int) (rc : Int → Nat) (nP : Int) (s : Q_S) (c room : Nat) (nS : Int) (sv : Int → Nat) (R : Int → Int × Int × GT × BT K × (Int × Int × Int)) : Prop :=
  0 ≤ nS ∧ nS ≤ 8 ∧ q_F s 0 8 = nS ∧ (∃ g, q_T s 37 = some (.inl (.object "StepRows$Run", 8, g)) ∧ ∀ k, 0 ≤ k → k < nS → g k.toNat = some (sv k)) ∧
  (∀ k, 0 ≤ k → k < nS → (∃ rm, RNm Ps szs rc nP s (sv k) (sv k + 4) rm room (R k).1 (R k).2.1 (R k).2.2.1 (R k).2.2.2.1 (R k).2.2.2.2) ∧ 80 < sv k ∧ sv k + 14 < s.1 ∧ (sv k + 14 ≤ c ∨ c + 10 < sv k))
theorem y_rc (x : Int) (n : Nat) : y_rv (if x = -1 then .null else .ref n) = true := by split <;> rfl
/-- back -/
theorem d_13 {nS : Int} {sv : Int → Nat} {R : Int → Int × Int × GT × BT K × (Int × Int × Int)} {rw wt : Value} {v : CV} (hC : CP Ps szs ths rc nP sig s c) (h20 : q_T s 20 = some (sh20 rw wt)) (h2 : VW s 24 c room v) (h9 : 9 ≤ room) (hS : SVs K Ps szs rc nP s c room nS sv R) {k : Int} (hk : q_in k) :
    QW (fun n => g_13 o n 0 s 0 k) (fun q => if 0 ≤ k ∧ k < nS then q.2 = 1 ∧ CR Ps szs ths rc nP sig q.1 c room (R k).1 (R k).2.1 (R k).2.2.1 (R k).2.2.2.1 (R k).2.2.2.2 ∧ KC s c room q.1 c room else q = (s, 0)) := by
  have hs := hC.1
  have hcc := hC.2.2.1
  obtain ⟨n0, n8, f8, ⟨g, t37, hg⟩, hr⟩ := hS
  have K1 : QW (fun n => g_13 o n 1 s 0 0) (fun q => q = (s, 0)) := by
    refine QW_s ?_
    simp only [g_13]
    exact QW_ret rfl
  refine QW_s ?_
  simp only [g_13]
  refine QW_g hk ?_
  refine QW_by (fun z => ?_) (fun z => ?_)
  · have zn : ¬ (0 ≤ k ∧ k < nS) := by omega
    simp only [if_neg zn]
    exact K1
  · refine QW_p (k_gi (hs _ _ rfl) rfl) ?_
    rw [f8]
    refine QW_g ⟨hk, by unfold q_in; omega⟩ ?_
    refine QW_by (fun y => ?_) (fun y => ?_)
    · have zp : 0 ≤ k ∧ k < nS := by omega
      simp only [if_pos zp]
      obtain ⟨⟨rm, hR⟩, r1, r2, r3⟩ := hr k zp.1 zp.2
      obtain ⟨u1, u2, ⟨u3, u4, u5⟩, u6, u7, u8, u9, u10, ⟨w, w1, w2, w3, w4, w5⟩, u12, u13⟩ := hR
      refine QW_p (k_gv (hs _ _ rfl) rfl rfl) ?_
      refine QW_p (k_gv (hs _ _ rfl) rfl rfl) ?_
      refine QW_p (k_aa t37 zp.1 (by omega) (by decide) (by decide)) ?_
      rw [hg k zp.1 zp.2]
      refine QW_p (k_rc h20) ?_
      have h2' := h2
      obtain ⟨hF0, hFa, _, _, _, _, _, _, _, _, x9, x10, x11, _⟩ := h2'
      refine QW_c (d_46 (A := 20) (B := sv k) (cA := c) (RA := room) (v := w) h20 u1 ⟨hs 21 _ rfl, hs 22 _ rfl, hs 23 _ rfl⟩ u2 w1 hF0 hFa (by omega) (by omega) (by omega) (by omega) (by omega) w4 x9 x10 x11 rfl (y_rc _ _) rfl (by split <;> rfl)) (fun q hq => ?_)
      obtain ⟨p1, p2, p3, p4, p5, p6, p7, p8, p9, p10⟩ := hq
      have hsq : SH q.1 := fun a tt e => by
        have ha : a ≠ 20 := fun z => by subst z; cases e
        rw [p4 a ha]
        exact hs a tt e
      have kc : KC s c room q.1 c room := ⟨Nat.le_of_eq p1.symm, Nat.le_refl _, by rw [p1]; exact Nat.le_refl _, by rw [p2]; exact Nat.le_refl _, Or.inl rfl, fun a _ h1 h2 h3 h4 => ⟨p4 a (by omega), p10 a (by omega) h4⟩, fun a _ ha => p4 a (by omega)⟩
      have hCq : CP Ps szs ths rc nP sig q.1 c := hC.ext (Nat.le_of_eq p1.symm) hsq (fun j => (p10 19 (by omega) (by omega) j).2) (fun a h1 h2 h3 => ⟨p4 a (by omega), p10 a (by omega) h3⟩)
      refine QW_ret ⟨rfl, RNm.cr (ub := room) hCq ⟨p3, ⟨hsq 21 _ rfl, hsq 22 _ rfl, hsq 23 _ rfl⟩, ⟨(p5 0 (by omega)).trans u3, (p5 3 (by omega)).trans u4, (p5 4 (by omega)).trans u5⟩, fun j j0 j1 => (p6 j j0 j1).trans (u6 j j0 j1), fun j j0 j1 => (p7 j j0 j1).trans (u7 j j0 j1), fun j j0 j1 => (p8 j j0 j1).trans (u8 j j0 j1), u9, u10, ⟨w, p9, w2, w3, w4, w5⟩, u12, fun z => ?_⟩ h9, kc⟩
      obtain ⟨z1, z2, z3⟩ := u13 z
      exact ⟨(p5 5 (by omega)).trans z1, (p5 6 (by omega)).trans z2, (p5 7 (by omega)).trans z3⟩
    · have zn : ¬ (0 ≤ k ∧ k < nS) := by omega
      simp only [if_neg zn]
      exact K1
end CSV
