/-! THE ABSTRACT RUN ENDS, AND KEEPS ITS INVARIANTS -/
def RnI (Ps : Int → PT) (szs : Int → Int → Int) (nP sec : Int) (side : Option Int) (base : Int) (G : GT) (k : Nat) (t : BT k) (res : (GT × BT k) ⊕ (GT × Int × Int)) : Prop := match res with
  | .inl (G', t') => GW Ps szs nP sec G' ∧ VT (Ps (G_pg G')) (szs (G_pg G')) sec (G_ph G') k side base t' ∧ G_sd G' - sidesB k t' = G_sd G - sidesB k t ∧ G_bg G ≤ G_bg G' ∧ (G_sw G' = G_sw G ∨ G_sw G' = -1) ∧ (∀ z, side = some z → G_pg G' = G_pg G ∧ G_ph G' = G_ph G ∧ G_sw G' = G_sw G) ∧ (modeB k t' = 0 ∨ modeB k t' = 1 ∨ modeB k t' = 4)
  | .inr (G', _) => GW Ps szs nP sec G' ∧ (∀ z, side = some z → G_pg G' = G_pg G ∧ G_ph G' = G_ph G ∧ G_sw G' = G_sw G)
theorem sides0 : ∀ (k : Nat) (t : BT k), 0 ≤ sidesB k t := by
  intro k
  induction k with
  | zero => intro t; exact Int.le_refl _
  | succ k ih =>
    intro t
    obtain ⟨m, p, d, st, sub⟩ := t
    cases sub with
    | none => exact Int.le_refl _
    | some lr =>
      obtain ⟨l, r⟩ := lr
      have := ih l
      have := ih r
      simp only [sidesB]
      omega
section RT
variable {Ps : Int → PT} {szs : Int → Int → Int} {nP sec : Int} {sig : Int → Int64}
/-- a step ahead of the rest -/
theorem RnI.step {side : Option Int} {base : Int} {G G1 : GT} {k : Nat} {t t1 : BT k} {res : (GT × BT k) ⊕ (GT × Int × Int)} (h : RnI Ps szs nP sec side base G1 k t1 res) (h1 : G_sd G1 - sidesB k t1 = G_sd G - sidesB k t) (h2 : G_bg G ≤ G_bg G1) (h3 : G_sw G1 = G_sw G ∨ G_sw G1 = -1) (h4 : ∀ z, side = some z → G_pg G1 = G_pg G ∧ G_ph G1 = G_ph G ∧ G_sw G1 = G_sw G) : RnI Ps szs nP sec side base G k t res := by
  cases res with
  | inl x =>
    obtain ⟨G', t'⟩ := x
    obtain ⟨a1, a2, a3, a4, a5, a6, a7⟩ := h
    refine ⟨a1, a2, by omega, by omega, by omega, fun z hz => ?_, a7⟩
    obtain ⟨b1, b2, b3⟩ := a6 z hz
    obtain ⟨c1, c2, c3⟩ := h4 z hz
    exact ⟨b1.trans c1, b2.trans c2, b3.trans c3⟩
  | inr x =>
    obtain ⟨G', x⟩ := x
    obtain ⟨a1, a6⟩ := h
    refine ⟨a1, fun z hz => ?_⟩
    obtain ⟨b1, b2, b3⟩ := a6 z hz
    obtain ⟨c1, c2, c3⟩ := h4 z hz
    exact ⟨b1.trans c1, b2.trans c2, b3.trans c3⟩
theorem subB_VT {P : PT} {sz : Int → Int} {sec ph z base : Int} {k : Nat} {q : Int} (b0 : 0 ≤ base) (b1 : base ≤ 60) (p0 : 0 ≤ ph) (p1 : ph ≤ 500) (h0 : 0 ≤ q) (h1 : q < P_n P) (hs : isS (P_w P q)) (hc : CNS P (some z) q []) : VT P sz sec ph (k + 1) (some z) base (subB (k + 1) q) :=
  ⟨VC.of2 b0 (by simpa using b1) p0 p1 h0 h1 hs hc (fun e => by cases e), by simp⟩
theorem VT.sub0 {P : PT} {sz : Int → Int} {sec ph base : Int} {side : Option Int} {k : Nat} {t : BT k} (h : VT P sz sec ph k side base t) (hm : modeB k t = 0) : sidesB k t = 0 := by
  cases k with
  | zero => exact h.elim
  | succ k =>
    obtain ⟨m, p, d, st, sub⟩ := t
    have e : m = 0 := hm
    cases sub with
    | none => rfl
    | some lr => have := h.2.1; omega
set_option maxHeartbeats 2000000 in
theorem run_tot : ∀ (f : Nat) (k : Nat) (base : Int) (side : Option Int) (G : GT) (t : BT k), (500 - G_bg G) * 1000000 + wtB (G_sw G) k t < f → GW Ps szs nP sec G → VT (Ps (G_pg G)) (szs (G_pg G)) sec (G_ph G) k side base t → 61 ≤ k + base → sidesB k t ≤ G_sd G →
    ∃ res, runA Ps sig sec f k base G t = some res ∧ RnI Ps szs nP sec side base G k t res := by
  intro f
  induction f with
  | zero =>
    intro k base side G t hm hg hv
    have hW := hg.2.2.2.2.1 _ hg.2.2.2.2.2.1 hg.2.2.2.2.2.2.1
    have := (hv.wt (sw := G_sw G) hW.2.1).1
    have := hg.2.2.2.2.2.2.2.2.2.1
    omega
  | succ f ih =>
    intro k base side G t hm hg hv hk hsd
    cases k with
    | zero => exact hv.elim
    | succ k =>
      obtain ⟨m, p, d, st, sub⟩ := t
      have hW := hg.2.2.2.2.1 _ hg.2.2.2.2.2.1 hg.2.2.2.2.2.2.1
      have hn := hW.2.1
      have hbr : 0 ≤ G_bg G ∧ G_bg G ≤ 500 := ⟨hg.2.2.2.2.2.2.2.2.1, hg.2.2.2.2.2.2.2.2.2.1⟩
      obtain ⟨hV, hsub⟩ := hv
      have hV' := hV
      obtain ⟨b0, b1, p0, p1, hmd⟩ := hV'
      have b1' : base + (st.length : Int) ≤ 60 := b1
      have nosub : ¬ m = 4 → sub = none := by
        intro z
        cases sub with
        | none => rfl
        | some lr => exact absurd hsub.1 z
      by_cases m2 : m = 2
      · have es := nosub (by omega)
        subst es
        subst m2
        simp only [runA, if_true]
        cases hb : beginA Ps sig sec base G p d st with
        | inr x => exact ⟨_, rfl, hg, fun z hz => ⟨rfl, rfl, rfl⟩⟩
        | inl x =>
          obtain ⟨G', c⟩ := x
          obtain ⟨i1, i2, i3, i4, i5, i6, i7⟩ := begin_inv hg rfl hV hb
          have hw := i5.wt (sw := G_sw G) hn
          dsimp only
          have hwt2 : wtC (G_sw G) (2, p, d, st) = 501 - p := by simp [wtC]
          have hm' : (500 - G_bg G) * 1000000 + (501 - p) < f + 1 := by
            have := hm
            simp only [wtB] at this
            rw [hwt2] at this
            push_cast at this
            omega
          obtain ⟨_, p500, _⟩ := hV.ok2
          have hp0 := hV.ok2.1
          rcases i7 with ⟨c4, s1, w18, cp⟩ | ⟨c4, s1⟩
          · obtain ⟨cm, cq, cd, cst⟩ := c
            have c4' : cm = 4 := c4
            subst c4'
            have cp' : cq = p := cp
            subst cp'
            have hlen : base + (cst.length : Int) ≤ 60 := i5.2.1
            obtain ⟨t', et, hct, _⟩ : ∃ t', cst = (cq, 0) :: t' ∧ CNS (Ps (G_pg G)) side cq t' ∧ True := by
              rcases i5.2.2.2.2 with z | z | z
              · exact absurd z.1 (by simp)
              · exact absurd z.1 (by simp)
              · obtain ⟨t', e1, e2, _⟩ := z.2.2.2.2
                exact ⟨t', e1, e2, trivial⟩
            subst et
            have hk1 : ∃ k', k = k' + 1 := ⟨k - 1, by simp at hlen; omega⟩
            obtain ⟨k', rfl⟩ := hk1
            have hkk := hW.2.2.2.2.2.1 cq hp0 p500
            have hC2 : C2 (Ps (G_pg G)) (szs (G_pg G)) cq ∧ isS (P_w (Ps (G_pg G)) (cq + 1)) ∧ isS (P_w (Ps (G_pg G)) (cq + 1 + szs (G_pg G) (cq + 1))) := by
              rcases WK_S hkk.2.2 (by unfold isS; omega) with k | k | k | k | k | k | k | k
              · omega
              · omega
              · omega
              · omega
              · omega
              · exact ⟨k.2.1, k.2.2.1, k.2.2.2⟩
              · omega
              · omega
            obtain ⟨hc2, hS1, hS2⟩ := hC2
            have z1 := (hW.2.2.2.2.2.1 (cq + 1) (by omega) hc2.1.2.2).1
            have hne : ¬ cq = -1 := by omega
            have v1 : VT (Ps (G_pg G)) (szs (G_pg G)) sec (G_ph G) (k' + 1) (some cq) (base + (((cq, (0 : Int64)) :: t').length : Int)) (subB (k' + 1) (P_1 (Ps (G_pg G)) cq)) := by
              rw [hc2.1.1]
              exact subB_VT (by omega) hlen p0 p1 (by omega) hc2.1.2.2 hS1 (CNS.sid hc2.1.2.1 hne w18)
            have v2 : VT (Ps (G_pg G)) (szs (G_pg G)) sec (G_ph G) (k' + 1) (some cq) (base + (((cq, (0 : Int64)) :: t').length : Int)) (subB (k' + 1) (P_2 (Ps (G_pg G)) cq)) := by
              rw [hc2.2.1]
              exact subB_VT (by omega) hlen p0 p1 (by omega) hc2.2.2.2 hS2 (CNS.sid hc2.2.2.1 hne w18)
            obtain ⟨res, r1, r2⟩ := ih (k' + 1 + 1) base side G' (4, cq, cd, (cq, 0) :: t', some (subB (k' + 1) (P_1 (Ps (G_pg G)) cq), subB (k' + 1) (P_2 (Ps (G_pg G)) cq))) (by
                have hbg : G_bg G' = G_bg G + 1 := by
                  rcases i6 with ⟨_, z⟩ | z
                  · rw [hwt2] at z
                    simp [wtC] at z
                    have : (0 : Int) ≤ (if G_sw G = -1 then 0 else 1000) := by split <;> omega
                    omega
                  · exact z
                rw [i4, hbg]
                have e1 : P_1 (Ps (G_pg G)) cq = cq + 1 := hc2.1.1
                have e2 : P_2 (Ps (G_pg G)) cq = cq + 1 + szs (G_pg G) (cq + 1) := hc2.2.1
                have hw1 : wtC (G_sw G) (4, cq, cd, (cq, 0) :: t') ≤ 70000 := hw.2
                simp only [wtB, subB, newB]
                simp only [e1, e2]
                have q1 : wtC (G_sw G) (2, cq + 1, (0, 0, 0, 0), []) ≤ 501 := by simp [wtC]; omega
                have q2 : wtC (G_sw G) (2, cq + 1 + szs (G_pg G) (cq + 1), (0, 0, 0, 0), []) ≤ 501 := by simp [wtC]; omega
                omega) i1 (by rw [i2, i3]; exact ⟨i5, rfl, v1, v2⟩) hk (by simp only [sidesB, subB, newB]; have : 0 ≤ G_sd G := hg.2.2.2.2.2.2.2.2.2.2.1; omega)
            refine ⟨res, r1, r2.step ?_ (by omega) (Or.inl i4) (fun z hz => ⟨i2, i3, i4⟩)⟩
            simp only [sidesB, subB, newB]
            omega
          · simp only [if_neg c4]
            obtain ⟨res, r1, r2⟩ := ih (k + 1) base side G' (c.1, c.2.1, c.2.2.1, c.2.2.2, none) (by
                rw [i4]
                simp only [wtB]
                have : wtC (G_sw G) (c.1, c.2.1, c.2.2.1, c.2.2.2) = wtC (G_sw G) c := rfl
                rw [this]
                rcases i6 with ⟨z1, z2⟩ | z
                · rw [hwt2] at z2; omega
                · omega) i1 (by rw [i2, i3]; exact ⟨i5, c4⟩) hk (by simp only [sidesB] at hsd ⊢; omega)
            exact ⟨res, r1, r2.step (by simp only [sidesB]; omega) (by omega) (Or.inl i4) (fun z hz => ⟨i2, i3, i4⟩)⟩
      by_cases m3 : m = 3
      · have es := nosub (by omega)
        subst es
        subst m3
        obtain ⟨i1, i2, i3, i4, i5, i6, i7, i8⟩ := behind_inv hg rfl hV
        simp only [runA]
        rw [if_neg (by decide), if_pos trivial]
        have hW2 := i1.2.2.2.2.1 _ i1.2.2.2.2.2.1 i1.2.2.2.2.2.2.1
        obtain ⟨res, r1, r2⟩ := ih (k + 1) base side (behindA Ps G p d st).1 ((behindA Ps G p d st).2.1, (behindA Ps G p d st).2.2.1, (behindA Ps G p d st).2.2.2.1, (behindA Ps G p d st).2.2.2.2, none) (by
            have := hm
            simp only [wtB] at this ⊢
            have e : wtC (G_sw (behindA Ps G p d st).1) ((behindA Ps G p d st).2.1, (behindA Ps G p d st).2.2.1, (behindA Ps G p d st).2.2.2.1, (behindA Ps G p d st).2.2.2.2) = wtC (G_sw (behindA Ps G p d st).1) (behindA Ps G p d st).2 := rfl
            rw [e, i3]
            push_cast at this
            omega) i1 ⟨i2, by show ¬ (behindA Ps G p d st).2.1 = 4; omega⟩ hk (by simp only [sidesB] at hsd ⊢; omega)
        exact ⟨res, r1, r2.step (by simp only [sidesB]; omega) (by omega) i6 i7⟩
      by_cases m1 : m = 1
      · have es := nosub (by omega)
        subst es
        subst m1
        simp only [runA]
        rw [if_neg (by decide), if_neg (by decide), if_pos trivial]
        have hgs : GW Ps szs nP sec (standA Ps sec G p d).1 := by
          unfold standA
          split
          · exact hg
          · exact hg
        have e1 : G_pg (standA Ps sec G p d).1 = G_pg G := by unfold standA; split <;> rfl
        have e2 : G_ph (standA Ps sec G p d).1 = G_ph G := by unfold standA; split <;> rfl
        have e3 : G_sw (standA Ps sec G p d).1 = G_sw G := by unfold standA; split <;> rfl
        have e4 : G_bg (standA Ps sec G p d).1 = G_bg G := by unfold standA; split <;> rfl
        have e5 : G_sd (standA Ps sec G p d).1 = G_sd G := by unfold standA; split <;> rfl
        by_cases c : (standA Ps sec G p d).2 = true
        · rw [if_pos c]
          have hV3 : VC (Ps (G_pg G)) (szs (G_pg G)) sec (G_ph G) side base (3, p, d, st) := by
            rcases hmd with z | z | z
            · exact absurd z.1 (by simp)
            · refine VC.of3 b0 b1 p0 p1 z.2.1 z.2.2.1 z.2.2.2.1 z.2.2.2.2.1 (fun y => ?_)
              have y2 := z.2.2.2.2.2.1 y
              rcases y2 with ⟨y3, _⟩ | y3
              · exact absurd y3 (by simp)
              · exact Or.inr y3
            · exact absurd z.1 (by simp)
          obtain ⟨res, r1, r2⟩ := ih (k + 1) base side (standA Ps sec G p d).1 (3, p, d, st, none) (by
              have := hm
              simp only [wtB] at this ⊢
              rw [e3, e4]
              have q1 : wtC (G_sw G) (1, p, d, st) = wtC (G_sw G) (3, p, d, st) + 1 := by simp [wtC]; omega
              push_cast at this
              omega) hgs (by rw [e1, e2]; exact ⟨hV3, by simp⟩) hk (by simp only [sidesB] at hsd ⊢; omega)
          exact ⟨res, r1, r2.step (by simp only [sidesB]; omega) (by omega) (Or.inl e3) (fun z hz => ⟨e1, e2, e3⟩)⟩
        · rw [if_neg c]
          exact ⟨_, rfl, hgs, (by rw [e1, e2]; exact ⟨hV, by simp⟩), (by simp only [sidesB]; omega), (by omega), Or.inl e3, fun z hz => ⟨e1, e2, e3⟩, Or.inr (Or.inl rfl)⟩
      by_cases m4 : m = 4
      · subst m4
        cases sub with
        | none => exact absurd rfl hsub
        | some lr =>
          obtain ⟨l, r⟩ := lr
          obtain ⟨_, v1, v2⟩ := hsub
          obtain ⟨w18, h0, h1, t', et, hct, hphi⟩ : P_w (Ps (G_pg G)) p = 18 ∧ 0 ≤ p ∧ p < P_n (Ps (G_pg G)) ∧ ∃ t', st = (p, 0) :: t' ∧ CNS (Ps (G_pg G)) side p t' ∧ (side = none → PHI (Ps (G_pg G)) (szs (G_pg G)) (G_ph G) (4, p, d, st)) := by
            rcases hmd with z | z | z
            · exact absurd z.1 (by simp)
            · exact absurd z.1 (by simp)
            · obtain ⟨_, z1, z2, z3, t', z4, z5, z6⟩ := z
              exact ⟨z3, z1, z2, t', z4, z5, z6⟩
          subst et
          have hwl := (v1.wt (sw := G_sw G) hn).1
          have hwr := (v2.wt (sw := G_sw G) hn).1
          have hwc : wtC (G_sw G) (4, p, d, (p, 0) :: t') = 503 + 1000 * (t'.length + 1) + p + (if G_sw G = -1 then 0 else 1000) := by simp [wtC]
          have hsw0 : (0 : Int) ≤ (if G_sw G = -1 then 0 else 1000) := by split <;> omega
          have hm' : (500 - G_bg G) * 1000000 + (wtC (G_sw G) (4, p, d, (p, 0) :: t') + (wtB (G_sw G) k l + wtB (G_sw G) k r)) < (f : Int) + 1 := by
            have := hm
            simp only [wtB] at this
            push_cast at this
            exact this
          have hsl := sides0 k l
          have hsr := sides0 k r
          have hsd' : 1 + sidesB k l + sidesB k r ≤ G_sd G := by simpa only [sidesB] using hsd
          have hlen : ((((p, (0 : Int64)) :: t').length : Nat) : Int) = t'.length + 1 := by simp
          simp only [runA]
          rw [if_neg (by decide), if_neg (by decide), if_neg (by decide), if_pos trivial]
          obtain ⟨res1, q1, I1⟩ := ih k (base + (((p, (0 : Int64)) :: t').length : Int)) (some p) G l (by omega) hg v1 (by omega) (by omega)
          rw [q1]
          cases res1 with
          | inr x => exact ⟨_, rfl, I1.1, fun z hz => I1.2 p rfl⟩
          | inl x =>
            obtain ⟨G1, l1⟩ := x
            obtain ⟨a1, a2, a3, a4, a5, a6, a7⟩ := I1
            obtain ⟨c1, c2, c3⟩ := a6 p rfl
            dsimp only
            obtain ⟨res2, q2, I2⟩ := ih k (base + (((p, (0 : Int64)) :: t').length : Int)) (some p) G1 r (by rw [c3]; omega) a1 (by rw [c1, c2]; exact v2) (by omega) (by have := sides0 k l1; omega)
            rw [q2]
            cases res2 with
            | inr x =>
              obtain ⟨y1, y2⟩ := I2
              obtain ⟨z1, z2, z3⟩ := y2 p rfl
              exact ⟨_, rfl, y1, fun z hz => ⟨z1.trans c1, z2.trans c2, z3.trans c3⟩⟩
            | inl x =>
              obtain ⟨G2, r1⟩ := x
              obtain ⟨d1, d2, d3, d4, d5, d6, d7⟩ := I2
              obtain ⟨e1, e2, e3⟩ := d6 p rfl
              dsimp only
              by_cases hov : modeB k l1 = 0 ∧ modeB k r1 = 0
              · rw [if_pos hov]
                have s1 := a2.sub0 hov.1
                have s2 := d2.sub0 hov.2
                have hg2 : GW Ps szs nP sec (G_side G2 (-1)) := by
                  obtain ⟨w1, w2, w3, w4, w5, w6, w7, w8, w9, w10, w11, w12, w13⟩ := d1
                  exact ⟨w1, w2, w3, w4, w5, w6, w7, w8, w9, w10, (by show 0 ≤ G_sd G2 + -1; omega), (by show G_sd G2 + -1 ≤ 49; omega), w13⟩
                have hV3 : VC (Ps (G_pg G)) (szs (G_pg G)) sec (G_ph G) side base (3, p, d, t') := by
                  refine VC.of3 b0 (by omega) p0 p1 h0 h1 (by unfold isS; omega) hct (fun y => ?_)
                  rcases hphi y with ⟨y3, _⟩ | ⟨y4, y5, y6, y7, y8, y9⟩
                  · exact absurd y3 (by simp)
                  · exact Or.inr ⟨y4, y5, y6, y7, y8, y9⟩
                obtain ⟨res, r1', r2'⟩ := ih (k + 1) base side (G_side G2 (-1)) (3, p, d, t', none) (by
                    have q3 : wtC (G_sw G) (3, p, d, t') = 502 + 1000 * t'.length + p + (if G_sw G = -1 then 0 else 1000) := by simp [wtC]
                    show (500 - G_bg G2) * 1000000 + wtB (G_sw G2) (k + 1) (3, p, d, t', none) < f
                    rw [e3, c3]
                    simp only [wtB]
                    omega) hg2 (by show VT (Ps (G_pg G2)) (szs (G_pg G2)) sec (G_ph G2) (k + 1) side base _; rw [e1, e2, c1, c2]; exact ⟨hV3, by simp⟩) hk (by simp only [sidesB]; show 0 ≤ G_sd G2 + -1; omega)
                refine ⟨res, r1', r2'.step ?_ ?_ ?_ ?_⟩
                · simp only [sidesB]
                  show G_sd G2 + -1 - 0 = _
                  omega
                · show G_bg G ≤ G_bg G2
                  omega
                · exact Or.inl (e3.trans c3)
                · exact fun z hz => ⟨e1.trans c1, e2.trans c2, e3.trans c3⟩
              · rw [if_neg hov]
                refine ⟨_, rfl, d1, ?_, ?_, by omega, Or.inl (e3.trans c3), fun z hz => ⟨e1.trans c1, e2.trans c2, e3.trans c3⟩, Or.inr (Or.inr rfl)⟩
                · rw [c1, c2] at a2
                  rw [e1, e2, c1, c2] at d2 ⊢
                  exact ⟨hV, rfl, a2, d2⟩
                · simp only [sidesB]
                  omega
      · have m0 : m = 0 := by
          rcases hmd with z | z | z
          · exact z.1
          · have : m = 1 ∨ m = 2 ∨ m = 3 := z.1
            omega
          · have : m = 4 := z.1
            omega
        have es := nosub (by omega)
        subst es
        subst m0
        simp only [runA]
        rw [if_neg (by decide), if_neg (by decide), if_neg (by decide), if_neg (by decide)]
        exact ⟨_, rfl, hg, ⟨hV, by simp⟩, rfl, Int.le_refl _, Or.inl rfl, fun z hz => ⟨rfl, rfl, rfl⟩, Or.inl rfl⟩
end RT
