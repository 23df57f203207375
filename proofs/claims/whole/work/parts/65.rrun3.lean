/-! run does what the abstract run says -/
section RR3
variable {o : X_O} {Ps : Int → PT} {szs : Int → Int → Int} {nP sec : Int} {sig : Int → Int64}
theorem RF.toRS {s : Q_S} {G : GT} {k : Nat} {base u : Int} {m p : Int} {d : DT} {st : List FR} {it : IT (k + 1)} {RX RB : List Int} (h : RF Ps nP sec sig s G (k + 1) base u (m, p, d, st, none) it RX RB) : ∃ xs, it = (itB (k + 1) it, xs, none) ∧ RS Ps nP sec sig s G base u (itB (k + 1) it) (m, p, d, st) xs RX RB := by
  obtain ⟨b, xs, isub⟩ := it
  cases isub with
  | none => exact ⟨xs, rfl, h.rs⟩
  | some z => exact h.2.2.1.2.elim
theorem rn_6 {s : Q_S} {e : Nat} (hs : SH s) {b x i : Int} (hf : q_F s 38 47 = 1) : QW (fun n => g_121 o n e 6 s 38 b i x 0 .null 0 0) (fun q => q = (s, ())) := by
  refine QW_s ?_
  simp only [g_121]
  refine QW_p (k_gi (hs _ _ rfl) rfl) ?_
  rw [hf]
  refine QW_g (by omega) ?_
  refine QW_it (by decide) ?_
  refine QW_s ?_
  simp only [g_121]
  refine QW_s ?_
  simp only [g_121]
  refine QW_g (by omega) ?_
  refine QW_it (by decide) ?_
  refine QW_s ?_
  simp only [g_121]
  exact rn_end hs (Or.inl rfl)
theorem rn_7 {s : Q_S} {e : Nat} (hs : SH s) {b x i : Int} : QW (fun n => g_121 o n e 7 s 38 b i x 0 .null 0 0) (fun q => q = (s, ())) := by
  refine QW_s ?_
  simp only [g_121]
  refine QW_s ?_
  simp only [g_121]
  refine QW_g (by omega) ?_
  refine QW_it (by decide) ?_
  refine QW_s ?_
  simp only [g_121]
  exact rn_end hs (Or.inl rfl)
theorem RM_mode {s : Q_S} {P : PT} {k : Nat} {base u : Int} {t : BT k} {it : IT k} (h : RM s P k base u t it) : q_I s 62 (itB k it) = modeB k t ∧ 0 ≤ itB k it ∧ itB k it < 104 := by
  cases k with
  | zero => exact h.elim
  | succ k =>
    obtain ⟨m, p, d, st, sub⟩ := t
    obtain ⟨b, xs, isub⟩ := it
    exact ⟨h.1.2.2.1, h.1.1, h.1.2.1⟩
set_option maxHeartbeats 4000000 in
theorem r_run2 : ∀ (f : Nat) (k : Nat) (base u : Int) (side : Option Int) (G : GT) (t : BT k) (s : Q_S) (it : IT k) (RX RB : List Int) (e : Nat) (res : (GT × BT k) ⊕ (GT × Int × Int)), runA Ps sig sec f k base G t = some res →
    (500 - G_bg G) * 1000000 + wtB (G_sw G) k t < f → GW Ps szs nP sec G → VT (Ps (G_pg G)) (szs (G_pg G)) sec (G_ph G) k side base t → 61 ≤ k + base → 60 ≤ e + base → RF Ps nP sec sig s G k base u t it RX RB → (RB.length : Int) + 2 * sidesB k t = 2 * G_sd G → (RX.length : Int) ≤ 60 * RB.length →
    QW (fun n => g_121 o n e 2 s 38 (itB k it) 1 0 0 .null 0 0) (fun q => RnP Ps nP sec sig s k base u (itB k it) RX RB res q.1) ∧
    QW (fun n => g_121 o n e 0 s 38 (itB k it) 0 0 0 .null 0 0) (fun q => RnP Ps nP sec sig s k base u (itB k it) RX RB res q.1) := by
  intro f
  induction f with
  | zero => intro k base u side G t s it RX RB e res h; cases h
  | succ f ih =>
    intro k base u side G t s it RX RB e res h hm hg hv hk he hR hrb hrx
    cases k with
    | zero => exact hv.elim
    | succ k =>
      have hsd : sidesB (k + 1) t ≤ G_sd G := by omega
      obtain ⟨res', hres', hI⟩ := run_tot (sig := sig) (f + 1) (k + 1) base side G t hm hg hv hk hsd
      rw [h] at hres'
      cases hres'
      obtain ⟨m, p, d, st, sub⟩ := t
      obtain ⟨b, xs, isub⟩ := it
      have hR' := hR
      obtain ⟨hs, hG, ⟨⟨b1, b2, b3, b4, b5, b6⟩, hsb⟩, h4, h5, h6, h7, hud, hux, hf, hnx⟩ := hR
      have e62 : q_I s 62 b = m := b3
      have hW := hg.2.2.2.2.1 _ hg.2.2.2.2.2.1 hg.2.2.2.2.2.2.1
      have hn := hW.2.1
      have hbr : 0 ≤ G_bg G ∧ G_bg G ≤ 500 := ⟨hg.2.2.2.2.2.2.2.2.1, hg.2.2.2.2.2.2.2.2.2.1⟩
      have hsr : 0 ≤ G_sd G ∧ G_sd G ≤ 49 := ⟨hg.2.2.2.2.2.2.2.2.2.2.1, hg.2.2.2.2.2.2.2.2.2.2.2.1⟩
      obtain ⟨hV, hsub⟩ := hv
      have hV' := hV
      obtain ⟨vb0, vb1, vp0, vp1, hmd⟩ := hV'
      have vb1' : base + (st.length : Int) ≤ 60 := vb1
      have hmr : 0 ≤ m ∧ m ≤ 4 := by
        rcases hmd with z | z | z
        · have : m = 0 := z.1; omega
        · have : m = 1 ∨ m = 2 ∨ m = 3 := z.1; omega
        · have : m = 4 := z.1; omega
      have htop := rpS_top hud (show rpS s base u st xs (q_I s 64 b) from b6)
      have nosub : ¬ m = 4 → sub = none := by
        intro z
        cases sub with
        | none => rfl
        | some lr => exact absurd hsub.1 z
      show QW (fun n => g_121 o n e 2 s 38 b 1 0 0 .null 0 0) (fun q => RnP Ps nP sec sig s (k + 1) base u b RX RB res q.1) ∧ QW (fun n => g_121 o n e 0 s 38 b 0 0 0 .null 0 0) (fun q => RnP Ps nP sec sig s (k + 1) base u b RX RB res q.1)
      have main : QW (fun n => g_121 o n e 2 s 38 b 1 0 0 .null 0 0) (fun q => RnP Ps nP sec sig s (k + 1) base u b RX RB res q.1) := by
        refine QW_s ?_
        simp only [g_121]
        refine QW_g (by omega) ?_
        refine QW_if (by omega) ?_
        refine QW_p (k_gi (hs _ _ rfl) rfl) ?_
        rw [hf]
        refine QW_g (by omega) ?_
        refine QW_if (by omega) ?_
        refine QW_p (k_gv (hs _ _ rfl) rfl rfl) ?_
        refine QW_p (k_ia (hs _ _ rfl) b1 b2 (by decide)) ?_
        rw [e62]
        refine QW_g (by omega) ?_
        by_cases m2 : m = 2
        · have es := nosub (by omega)
          subst es
          subst m2
          refine QW_if (by omega) ?_
          refine QW_p (k_rc (hs _ _ rfl)) ?_
          obtain ⟨xs', ei, hRS⟩ := hR'.toRS
          cases ei
          have hRS' : RS Ps nP sec sig s G base u b (2, p, d, st) xs RX RB := hRS
          obtain ⟨q0, q1, q2, q3, q4⟩ := hV.ok2
          have hl : (xs ++ RX).length < 6144 := by
            have hrb' : (RB.length : Int) = 2 * G_sd G := by simpa [sidesB] using hrb
            rw [List.length_append]
            omega
          have hrb' : (RB.length : Int) = 2 * G_sd G := by simpa [sidesB] using hrb
          simp only [runA, if_true] at h
          cases hb : beginA Ps sig sec base G p d st with
          | inr x =>
            rw [hb] at h
            cases h
            refine QW_c (r_begin (k := 0) hRS' hg rfl q0 q1 q2 ⟨vb0, vb1'⟩ hl hrb') (fun q hq => ?_)
            rw [hb] at hq
            have hq' : FltP Ps nP sec sig G s q.1 x := hq
            refine QW_m (rn_end (hq'.1.sh hs) (Or.inr ⟨rfl, hq'.2.2.1⟩)) (fun q2 hq2 => ?_)
            subst hq2
            exact hq'
          | inl y =>
            obtain ⟨G', c⟩ := y
            rw [hb] at h
            dsimp only at h
            obtain ⟨i1, i2, i3, i4, i5, i6, i7⟩ := begin_inv hg rfl hV hb
            have hw := i5.wt (sw := G_sw G) hn
            have hwt2 : wtC (G_sw G) (2, p, d, st) = 501 - p := by simp [wtC]
            have hm' : (500 - G_bg G) * 1000000 + (501 - p) < f + 1 := by
              have := hm
              simp only [wtB] at this
              rw [hwt2] at this
              push_cast at this
              omega
            rcases i7 with ⟨c4, s1, w18, cp⟩ | ⟨c4, s1⟩
            · obtain ⟨cm, cq, cd, cst⟩ := c
              have c4' : cm = 4 := c4
              subst c4'
              have cp' : cq = p := cp
              subst cp'
              have hlen : base + (cst.length : Int) ≤ 60 := i5.2.1
              obtain ⟨t', et, hct, _⟩ : ∃ t', cst = (cq, 0) :: t' ∧ CNS (Ps (G_pg G)) side cq t' ∧ True := by
                rcases i5.2.2.2.2 with z | z | z
                · exact absurd z.1 (by simp)
                · exact absurd z.1 (by simp)
                · obtain ⟨t', e1, e2, _⟩ := z.2.2.2.2
                  exact ⟨t', e1, e2, trivial⟩
              subst et
              have hk1 : ∃ k', k = k' + 1 := ⟨k - 1, by simp at hlen; omega⟩
              obtain ⟨k', rfl⟩ := hk1
              have hkk := hW.2.2.2.2.2.1 cq q0 q1
              have hC2 : C2 (Ps (G_pg G)) (szs (G_pg G)) cq ∧ isS (P_w (Ps (G_pg G)) (cq + 1)) ∧ isS (P_w (Ps (G_pg G)) (cq + 1 + szs (G_pg G) (cq + 1))) := by
                rcases WK_S hkk.2.2 (by unfold isS; omega) with k | k | k | k | k | k | k | k
                · omega
                · omega
                · omega
                · omega
                · omega
                · exact ⟨k.2.1, k.2.2.1, k.2.2.2⟩
                · omega
                · omega
              obtain ⟨hc2, hS1, hS2⟩ := hC2
              have z1 := (hW.2.2.2.2.2.1 (cq + 1) (by omega) hc2.1.2.2).1
              have hne : ¬ cq = -1 := by omega
              have v1 : VT (Ps (G_pg G)) (szs (G_pg G)) sec (G_ph G) (k' + 1) (some cq) (base + (((cq, (0 : Int64)) :: t').length : Int)) (subB (k' + 1) (P_1 (Ps (G_pg G)) cq)) := by
                rw [hc2.1.1]
                exact subB_VT (by omega) hlen vp0 vp1 (by omega) hc2.1.2.2 hS1 (CNS.sid hc2.1.2.1 hne w18)
              have v2 : VT (Ps (G_pg G)) (szs (G_pg G)) sec (G_ph G) (k' + 1) (some cq) (base + (((cq, (0 : Int64)) :: t').length : Int)) (subB (k' + 1) (P_2 (Ps (G_pg G)) cq)) := by
                rw [hc2.2.1]
                exact subB_VT (by omega) hlen vp0 vp1 (by omega) hc2.2.2.2 hS2 (CNS.sid hc2.2.2.1 hne w18)
              rw [if_pos c4] at h
              refine QW_c (r_begin (k := k') hRS' hg rfl q0 q1 q2 ⟨vb0, vb1'⟩ hl hrb') (fun q hq => ?_)
              rw [hb] at hq
              obtain ⟨it', hq1, hq2, hq3⟩ := hq
              rw [if_pos c4] at hq1
              have z := (ih (k' + 1 + 1) base u side G' (4, cq, cd, (cq, 0) :: t', some (subB (k' + 1) (P_1 (Ps (G_pg G)) cq), subB (k' + 1) (P_2 (Ps (G_pg G)) cq))) q.1 it' RX RB e res h (by
                  have hbg : G_bg G' = G_bg G + 1 := by
                    rcases i6 with ⟨_, z⟩ | z
                    · rw [hwt2] at z
                      simp [wtC] at z
                      have : (0 : Int) ≤ (if G_sw G = -1 then 0 else 1000) := by split <;> omega
                      omega
                    · exact z
                  rw [i4, hbg]
                  have e1 : P_1 (Ps (G_pg G)) cq = cq + 1 := hc2.1.1
                  have e2 : P_2 (Ps (G_pg G)) cq = cq + 1 + szs (G_pg G) (cq + 1) := hc2.2.1
                  have hw1 : wtC (G_sw G) (4, cq, cd, (cq, 0) :: t') ≤ 70000 := hw.2
                  simp only [wtB, subB, newB]
                  simp only [e1, e2]
                  have q1 : wtC (G_sw G) (2, cq + 1, (0, 0, 0, 0), []) ≤ 501 := by simp [wtC]; omega
                  have q2 : wtC (G_sw G) (2, cq + 1 + szs (G_pg G) (cq + 1), (0, 0, 0, 0), []) ≤ 501 := by simp [wtC]; omega
                  omega) i1 (by rw [i2, i3]; exact ⟨i5, rfl, v1, v2⟩) hk he hq1 (by simp only [sidesB, subB, newB] at hrb ⊢; omega) hrx).1
              rw [hq2] at z
              exact QW_m z (fun q3 hq4 => hq4.step hq3)
            · simp only [if_neg c4] at h
              refine QW_c (r_begin (k := 0) hRS' hg rfl q0 q1 q2 ⟨vb0, vb1'⟩ hl hrb') (fun q hq => ?_)
              rw [hb] at hq
              obtain ⟨it', hq1, hq2, hq3⟩ := hq
              rw [if_neg c4] at hq1
              obtain ⟨xs2, ei2, hRS2⟩ := hq1.toRS
              rw [hq2] at hRS2
              have hRF2 : RF Ps nP sec sig q.1 G' (k + 1) base u (c.1, c.2.1, c.2.2.1, c.2.2.2, none) (b, xs2, none) RX RB := hRS2.rf c4
              have z := (ih (k + 1) base u side G' (c.1, c.2.1, c.2.2.1, c.2.2.2, none) q.1 (b, xs2, none) RX RB e res h (by
                  rw [i4]
                  simp only [wtB]
                  have : wtC (G_sw G) (c.1, c.2.1, c.2.2.1, c.2.2.2) = wtC (G_sw G) c := rfl
                  rw [this]
                  rcases i6 with ⟨z1, z2⟩ | z
                  · rw [hwt2] at z2; omega
                  · omega) i1 (by rw [i2, i3]; exact ⟨i5, c4⟩) hk he hRF2 (by simp only [sidesB] at hrb ⊢; omega) hrx).1
              exact QW_m z (fun q3 hq4 => hq4.step hq3)
        refine QW_it m2 ?_
        refine QW_p (k_gv (hs _ _ rfl) rfl rfl) ?_
        refine QW_p (k_ia (hs _ _ rfl) b1 b2 (by decide)) ?_
        rw [e62]
        refine QW_g (by omega) ?_
        by_cases m3 : m = 3
        · have es := nosub (by omega)
          subst es
          subst m3
          refine QW_if (by omega) ?_
          refine QW_p (k_rc (hs _ _ rfl)) ?_
          obtain ⟨xs', ei, hRS⟩ := hR'.toRS
          cases ei
          have hRS' : RS Ps nP sec sig s G base u b (3, p, d, st) xs RX RB := hRS
          obtain ⟨q0, q1, q2, q3, q4⟩ := hV.ok3
          obtain ⟨i1, i2, i3, i4, i5, i6, i7, i8⟩ := behind_inv hg rfl hV
          simp only [runA] at h
          rw [if_neg (by decide), if_pos trivial] at h
          refine QW_c (r_behind hRS' hg rfl q0 q1 q3.ne) (fun q hq => ?_)
          obtain ⟨xs2, hRS2, hst2⟩ := hq
          have c4 : ¬ (behindA Ps G p d st).2.1 = 4 := by omega
          have hRF2 : RF Ps nP sec sig q.1 (behindA Ps G p d st).1 (k + 1) base u ((behindA Ps G p d st).2.1, (behindA Ps G p d st).2.2.1, (behindA Ps G p d st).2.2.2.1, (behindA Ps G p d st).2.2.2.2, none) (b, xs2, none) RX RB := RS.rf hRS2 c4
          have z := (ih (k + 1) base u side (behindA Ps G p d st).1 ((behindA Ps G p d st).2.1, (behindA Ps G p d st).2.2.1, (behindA Ps G p d st).2.2.2.1, (behindA Ps G p d st).2.2.2.2, none) q.1 (b, xs2, none) RX RB e res h (by
              have := hm
              simp only [wtB] at this ⊢
              have e : wtC (G_sw (behindA Ps G p d st).1) ((behindA Ps G p d st).2.1, (behindA Ps G p d st).2.2.1, (behindA Ps G p d st).2.2.2.1, (behindA Ps G p d st).2.2.2.2) = wtC (G_sw (behindA Ps G p d st).1) (behindA Ps G p d st).2 := rfl
              rw [e, i3]
              push_cast at this
              omega) i1 ⟨i2, c4⟩ hk he hRF2 (by simp only [sidesB] at hrb ⊢; omega) hrx).1
          exact QW_m z (fun q3 hq4 => hq4.step hst2)
        refine QW_it m3 ?_
        refine QW_p (k_gv (hs _ _ rfl) rfl rfl) ?_
        refine QW_p (k_ia (hs _ _ rfl) b1 b2 (by decide)) ?_
        rw [e62]
        refine QW_g (by omega) ?_
        by_cases m1 : m = 1
        · have es := nosub (by omega)
          subst es
          subst m1
          refine QW_if (by omega) ?_
          refine QW_p (k_rc (hs _ _ rfl)) ?_
          obtain ⟨xs', ei, hRS⟩ := hR'.toRS
          cases ei
          have hRS' : RS Ps nP sec sig s G base u b (1, p, d, st) xs RX RB := hRS
          have hz : (0 ≤ p ∧ p < P_n (Ps (G_pg G)) ∧ isS (P_w (Ps (G_pg G)) p) ∧ CNS (Ps (G_pg G)) side p st ∧ (side = none → PHI (Ps (G_pg G)) (szs (G_pg G)) (G_ph G) (1, p, d, st)) ∧ (P_w (Ps (G_pg G)) p = 12 ∨ P_w (Ps (G_pg G)) p = 13) ∧ 0 ≤ d.1 ∧ d.1 ≤ sec ∧ 1 ≤ d.2.1) := by
            rcases hmd with z | z | z
            · exact absurd z.1 (by simp)
            · exact ⟨z.2.1, z.2.2.1, z.2.2.2.1, z.2.2.2.2.1, z.2.2.2.2.2.1, z.2.2.2.2.2.2 rfl⟩
            · exact absurd z.1 (by simp)
          obtain ⟨q0, q1, q2, q3, q4, q5, q6⟩ := hz
          simp only [runA] at h
          rw [if_neg (by decide), if_neg (by decide), if_pos trivial] at h
          have hgs : GW Ps szs nP sec (standA Ps sec G p d).1 := by
            unfold standA
            split
            · exact hg
            · exact hg
          have e1 : G_pg (standA Ps sec G p d).1 = G_pg G := by unfold standA; split <;> rfl
          have e2 : G_ph (standA Ps sec G p d).1 = G_ph G := by unfold standA; split <;> rfl
          have e3 : G_sw (standA Ps sec G p d).1 = G_sw G := by unfold standA; split <;> rfl
          have e4 : G_bg (standA Ps sec G p d).1 = G_bg G := by unfold standA; split <;> rfl
          have e5 : G_sd (standA Ps sec G p d).1 = G_sd G := by unfold standA; split <;> rfl
          refine QW_c (r_over hRS' hg rfl q0 q1 q5 q6) (fun q hq => ?_)
          obtain ⟨a1, a2, a3⟩ := hq
          have hs2 := a2.1
          have m62 : q_I q.1 62 b = 1 := a2.2.2.1.2.2.1
          rw [a1]
          by_cases c : (standA Ps sec G p d).2 = true
          · rw [if_pos c] at h ⊢
            refine QW_g (by omega) ?_
            refine QW_it (by decide) ?_
            refine QW_s ?_
            simp only [g_121]
            refine QW_p (k_gv (hs2 _ _ rfl) rfl rfl) ?_
            refine QW_g (by omega) ?_
            refine QW_it (by decide) ?_
            refine QW_s ?_
            simp only [g_121]
            refine QW_p (k_is (hs2 _ _ rfl) b1 b2 (by decide)) ?_
            refine QW_g (by omega) ?_
            refine QW_if (by decide) ?_
            refine QW_s ?_
            simp only [g_121]
            have e6 : q_si q.1 62 b 3 = m_go q.1 b 3 p := by
              unfold m_go
              rw [show p = q_I (q_si q.1 62 b 3) 63 b by have : q_I q.1 63 b = p := a2.2.2.1.2.2.2.1; simp [q_I_si, this]]
              exact q_si_self.symm
            rw [e6]
            obtain ⟨r2, t2⟩ := a2.go (how := 3) (p := p) (d := d) (fun z => absurd z (by decide))
            have hV3 : VC (Ps (G_pg G)) (szs (G_pg G)) sec (G_ph G) side base (3, p, d, st) := by
              refine VC.of3 vb0 vb1 vp0 vp1 q0 q1 q2 q3 (fun y => ?_)
              rcases q4 y with ⟨y3, _⟩ | y3
              · exact absurd y3 (by simp)
              · exact Or.inr y3
            have hRF2 : RF Ps nP sec sig (m_go q.1 b 3 p) (standA Ps sec G p d).1 (k + 1) base u (3, p, d, st, none) (b, xs, none) RX RB := RS.rf r2 (by decide)
            have z := (ih (k + 1) base u side (standA Ps sec G p d).1 (3, p, d, st, none) (m_go q.1 b 3 p) (b, xs, none) RX RB e res h (by
                have := hm
                simp only [wtB] at this ⊢
                rw [e3, e4]
                have q1 : wtC (G_sw G) (1, p, d, st) = wtC (G_sw G) (3, p, d, st) + 1 := by simp [wtC]; omega
                push_cast at this
                omega) hgs (by rw [e1, e2]; exact ⟨hV3, by simp⟩) hk he hRF2 (by simp only [sidesB] at hrb ⊢; omega) hrx).1
            exact QW_m z (fun q3 hq4 => hq4.step (a3.tr t2))
          · rw [if_neg c] at h ⊢
            cases h
            refine QW_g (by omega) ?_
            refine QW_if (by decide) ?_
            refine QW_s ?_
            simp only [g_121]
            refine QW_p (k_gv (hs2 _ _ rfl) rfl rfl) ?_
            refine QW_g (by omega) ?_
            refine QW_if (by decide) ?_
            refine QW_s ?_
            simp only [g_121]
            refine QW_p (k_is (hs2 _ _ rfl) b1 b2 (by decide)) ?_
            refine QW_g (by omega) ?_
            refine QW_it (by decide) ?_
            refine QW_s ?_
            simp only [g_121]
            have e6 : q_si q.1 62 b 1 = q.1 := by
              rw [← m62]
              exact q_si_self
            rw [e6]
            refine QW_m (rn_end hs2 (Or.inl rfl)) (fun q2 hq2 => ?_)
            subst hq2
            exact ⟨(b, xs, none), RS.rf a2 (by decide), rfl, a3⟩
        refine QW_it m1 ?_
        refine QW_p (k_gv (hs _ _ rfl) rfl rfl) ?_
        refine QW_p (k_ia (hs _ _ rfl) b1 b2 (by decide)) ?_
        rw [e62]
        refine QW_g (by omega) ?_
        by_cases m4 : m = 4
        · subst m4
          cases sub with
          | none => exact absurd rfl hsub
          | some lr =>
          cases isub with
          | none => exact hsb.elim
          | some ilr =>
          obtain ⟨l, r⟩ := lr
          obtain ⟨il, ir⟩ := ilr
          obtain ⟨_, v1, v2⟩ := hsub
          obtain ⟨_, x, ys, exs, g3, g4, g5, g6, g7⟩ := hsb
          subst exs
          obtain ⟨w18, h0, h1, t', et, hct, hphi⟩ : P_w (Ps (G_pg G)) p = 18 ∧ 0 ≤ p ∧ p < P_n (Ps (G_pg G)) ∧ ∃ t', st = (p, 0) :: t' ∧ CNS (Ps (G_pg G)) side p t' ∧ (side = none → PHI (Ps (G_pg G)) (szs (G_pg G)) (G_ph G) (4, p, d, st)) := by
            rcases hmd with z | z | z
            · exact absurd z.1 (by simp)
            · exact absurd z.1 (by simp)
            · obtain ⟨_, z1, z2, z3, t', z4, z5, z6⟩ := z
              exact ⟨z3, z1, z2, t', z4, z5, z6⟩
          subst et
          have hB0 : rpB s (Ps (G_pg G)) base u b (4, p, d, (p, 0) :: t') (x :: ys) := ⟨b1, b2, b3, b4, b5, b6⟩
          obtain ⟨x1, x2, x3, x4, x5, x6, x7, x8⟩ := b6
          have hlen : ((((p, (0 : Int64)) :: t').length : Nat) : Int) = t'.length + 1 := by simp
          have hyl : ((x :: ys).length : Int) = t'.length + 1 := by rw [htop.2.2]; exact hlen
          have hwl := (v1.wt (sw := G_sw G) hn).1
          have hwr := (v2.wt (sw := G_sw G) hn).1
          have hwc : wtC (G_sw G) (4, p, d, (p, 0) :: t') = 503 + 1000 * (t'.length + 1) + p + (if G_sw G = -1 then 0 else 1000) := by simp [wtC]
          have hsw0 : (0 : Int) ≤ (if G_sw G = -1 then 0 else 1000) := by split <;> omega
          have hm' : (500 - G_bg G) * 1000000 + (wtC (G_sw G) (4, p, d, (p, 0) :: t') + (wtB (G_sw G) k l + wtB (G_sw G) k r)) < (f : Int) + 1 := by
            have := hm
            simp only [wtB] at this
            push_cast at this
            exact this
          have hsl := sides0 k l
          have hsr2 := sides0 k r
          have hsd' : (RB.length : Int) + 2 * (1 + sidesB k l + sidesB k r) = 2 * G_sd G := by simpa only [sidesB] using hrb
          have hudx : UD s x (base + (((p, (0 : Int64)) :: t').length : Int)) := Or.inr ⟨x2, x3, by rw [x6]; simp; omega⟩
          have hLr := RM_len k (some p) _ _ r ir hudx v2 g7
          have hLl := RM_len k (some p) _ _ l il hudx v1 g6
          obtain ⟨e', rfl⟩ : ∃ e', e = e' + 1 := ⟨e - 1, by omega⟩
          simp only [runA] at h
          rw [if_neg (by decide), if_neg (by decide), if_neg (by decide), if_pos trivial] at h
          obtain ⟨res1, q1, I1⟩ := run_tot (sig := sig) f k (base + (((p, (0 : Int64)) :: t').length : Int)) (some p) G l (by omega) hg v1 (by omega) (by omega)
          rw [q1] at h
          have hRl := hR'.left
          have QL := (ih k (base + (((p, (0 : Int64)) :: t').length : Int)) x (some p) G l s il ((x :: ys ++ fxI k ir) ++ RX) ((b :: fbI k ir) ++ RB) e' res1 q1 (by omega) hg v1 (by omega) (by omega) hRl (by simp only [List.length_append, List.length_cons]; push_cast; omega) (by simp only [List.length_append, List.length_cons] at hyl ⊢; push_cast at hyl ⊢; omega)).2
          refine QW_if (by decide) ?_
          refine QW_p (k_gv (hs _ _ rfl) rfl rfl) ?_
          refine QW_p (k_ia (hs _ _ rfl) b1 b2 (by decide)) ?_
          rw [x1]
          refine QW_p (k_gv (hs _ _ rfl) rfl rfl) ?_
          refine QW_p (k_ia (hs _ _ rfl) x2 x3 (by decide)) ?_
          rw [g3]
          refine QW_p (v := e') rfl ?_
          refine QW_p (k_rc (hs _ _ rfl)) ?_
          refine QW_c QL (fun q hq => ?_)
          cases res1 with
          | inr z =>
            obtain ⟨Gz, xz⟩ := z
            cases h
            have hq' : FltP Ps nP sec sig Gz s q.1 xz := hq
            have hs2 := hq'.1.sh hs
            refine QW_p (k_gi (hs2 _ _ rfl) rfl) ?_
            rw [hq'.2.2.1]
            refine QW_g (by omega) ?_
            refine QW_it (by decide) ?_
            refine QW_m (rn_6 hs2 hq'.2.2.1) (fun q2 hq2 => ?_)
            subst hq2
            exact hq'
          | inl z =>
            obtain ⟨G1, l1⟩ := z
            obtain ⟨a1, a2, a3, a4, a5, a6, a7⟩ := I1
            obtain ⟨c1, c2, c3⟩ := a6 p rfl
            dsimp only at h
            obtain ⟨il1, hF1, hib1, hst1⟩ := hq
            have hs1 := hF1.1
            have hf1 := hF1.2.2.2.2.2.2.2.2.2.1
            have hxm : x ∈ (x :: ys ++ fxI k ir) ++ RX := by simp
            have hX1 := hst1.2.1 x hxm
            obtain ⟨res2, q2, I2⟩ := run_tot (sig := sig) f k (base + (((p, (0 : Int64)) :: t').length : Int)) (some p) G1 r (by rw [c3]; omega) a1 (by rw [c1, c2]; exact v2) (by omega) (by have := sides0 k l1; omega)
            rw [q2] at h
            have hRMr : RM q.1 (Ps (G_pg G1)) k (base + (((p, (0 : Int64)) :: t').length : Int)) x r ir := by
              rw [c1]
              exact RM_same k _ _ r ir (fun y hy => hst1.2.1 y (by simp [hy])) (fun y hy => hst1.2.2 y (by simp [hy])) g7
            have hFr := hF1.swap hRMr
            have hL1 := RM_len k (some p) _ _ l1 il1 hF1.2.2.2.2.2.2.2.1 a2 hF1.2.2.1
            have QR := (ih k (base + (((p, (0 : Int64)) :: t').length : Int)) x (some p) G1 r q.1 ir ((x :: ys ++ fxI k il1) ++ RX) ((b :: fbI k il1) ++ RB) e' res2 q2 (by rw [c3]; omega) a1 (by rw [c1, c2]; exact v2) (by omega) (by omega) hFr (by simp only [List.length_append, List.length_cons]; push_cast; omega) (by simp only [List.length_append, List.length_cons] at hyl ⊢; push_cast at hyl ⊢; omega)).2
            refine QW_p (k_gi (hs1 _ _ rfl) rfl) ?_
            rw [hf1]
            refine QW_g (by omega) ?_
            refine QW_if (by decide) ?_
            refine QW_p (k_gv (hs1 _ _ rfl) rfl rfl) ?_
            refine QW_p (k_ia (hs1 _ _ rfl) x2 x3 (by decide)) ?_
            rw [hX1.2.2.2.2.1, g4]
            refine QW_p (v := e') rfl ?_
            refine QW_p (k_rc (hs1 _ _ rfl)) ?_
            have hstO : ST s q.1 RX RB := hst1.sub (fun y hy => by simp [hy]) (fun y hy => by simp [hy])
            refine QW_c QR (fun q' hq' => ?_)
            cases res2 with
            | inr z =>
              obtain ⟨Gz, xz⟩ := z
              cases h
              have hq2 : FltP Ps nP sec sig Gz q.1 q'.1 xz := hq'
              have hs2 := hq2.1.sh hs1
              refine QW_m (rn_6 hs2 hq2.2.2.1) (fun q3 hq3 => ?_)
              subst hq3
              exact ⟨hstO.1.tr hq2.1, hq2.2⟩
            | inl z =>
              obtain ⟨G2, r1⟩ := z
              obtain ⟨d1, d2, d3, d4, d5, d6, d7⟩ := I2
              obtain ⟨f1, f2, f3⟩ := d6 p rfl
              dsimp only at h
              obtain ⟨ir1, hF2, hib2, hst2⟩ := hq'
              have hs2 := hF2.1
              have hf2 := hF2.2.2.2.2.2.2.2.2.2.1
              have hX2 := hst2.2.1 x (by simp)
              have hRMl : RM q'.1 (Ps (G_pg G2)) k (base + (((p, (0 : Int64)) :: t').length : Int)) x l1 il1 := by
                rw [f1]
                exact RM_same k _ _ l1 il1 (fun y hy => hst2.2.1 y (by simp [hy])) (fun y hy => hst2.2.2 y (by simp [hy])) hF1.2.2.1
              have hB2 : rpB q'.1 (Ps (G_pg G2)) base u b (4, p, d, (p, 0) :: t') (x :: ys) := by
                rw [f1, c1]
                exact rpB_same (rpB_same hB0 (fun y hy => hst1.2.1 y (by rw [List.append_assoc]; exact List.mem_append_left _ hy)) (fun y hy => hst1.2.2 y (by simp at hy; simp [hy]))) (fun y hy => hst2.2.1 y (by rw [List.append_assoc]; exact List.mem_append_left _ hy)) (fun y hy => hst2.2.2 y (by simp at hy; simp [hy]))
              have hstO2 : ST q.1 q'.1 RX RB := hst2.sub (fun y hy => by simp [hy]) (fun y hy => by simp [hy])
              have g3' : q_I q'.1 59 x = itB k il1 := by rw [hX2.2.2.2.1, hX1.2.2.2.1, g3, hib1]
              have g4' : q_I q'.1 60 x = itB k ir1 := by rw [hX2.2.2.2.2.1, hX1.2.2.2.2.1, g4, hib2]
              have hud2 : UD q'.1 u base := by
                rcases hud with z | z
                · exact Or.inl z
                · rcases hux with y | y
                  · omega
                  · refine Or.inr ⟨z.1, z.2.1, ?_⟩
                    rw [(hstO2.2.1 u y).2.2.1, (hstO.2.1 u y).2.2.1]
                    exact z.2.2
              have hJ : RF Ps nP sec sig q'.1 G2 (k + 1) base u (4, p, d, (p, 0) :: t', some (l1, r1)) (b, x :: ys, some (il1, ir1)) RX RB := hF2.join rfl hRMl hB2 g3' g4' (fun y hy => by rw [(hst2.2.1 y (by simp [hy])).2.2.2.1, (hst1.2.1 y (by simp [hy])).2.2.2.1]; exact g5 y hy) hud2 hux
              have hml := RM_mode hRMl
              have hmr2 := RM_mode hF2.2.2.1
              refine QW_s ?_
              simp only [g_121]
              refine QW_p (k_gi (hs2 _ _ rfl) rfl) ?_
              rw [hf2]
              refine QW_g (by omega) ?_
              refine QW_if (by decide) ?_
              refine QW_p (k_gv (hs2 _ _ rfl) rfl rfl) ?_
              refine QW_p (k_gv (hs2 _ _ rfl) rfl rfl) ?_
              refine QW_p (k_ia (hs2 _ _ rfl) x2 x3 (by decide)) ?_
              rw [g3']
              refine QW_p (k_ia (hs2 _ _ rfl) hml.2.1 hml.2.2 (by decide)) ?_
              rw [hml.1]
              refine QW_g (by omega) ?_
              have stay : ¬ (modeB k l1 = 0 ∧ modeB k r1 = 0) → RnP Ps nP sec sig s (k + 1) base u b RX RB res q'.1 := by
                intro hno
                rw [if_neg hno] at h
                cases h
                exact ⟨_, hJ, rfl, hstO.tr hstO2⟩
              by_cases ml : modeB k l1 = 0
              · refine QW_if (by omega) ?_
                refine QW_p (k_gv (hs2 _ _ rfl) rfl rfl) ?_
                refine QW_p (k_gv (hs2 _ _ rfl) rfl rfl) ?_
                refine QW_p (k_ia (hs2 _ _ rfl) x2 x3 (by decide)) ?_
                rw [g4']
                refine QW_p (k_ia (hs2 _ _ rfl) hmr2.2.1 hmr2.2.2 (by decide)) ?_
                rw [hmr2.1]
                refine QW_g (by omega) ?_
                by_cases mr : modeB k r1 = 0
                · refine QW_if (by omega) ?_
                  rw [if_pos ⟨ml, mr⟩] at h
                  cases k with
                  | zero => exact v1.elim
                  | succ k' =>
                  obtain ⟨c1b, e1b, e2b, e3b⟩ := RM_over a2 ml hF1.2.2.1
                  obtain ⟨c2b, e4b, e5b, e6b⟩ := RM_over d2 mr hF2.2.2.1
                  subst e1b
                  subst e4b
                  obtain ⟨rS, tS, y1, y2, y3, y4⟩ := hJ.close ⟨e2b, e3b⟩ ⟨e5b, e6b⟩
                  have s1 := a2.sub0 ml
                  have s2 := d2.sub0 mr
                  refine QW_s ?_
                  simp only [g_121]
                  refine QW_g (by omega) ?_
                  refine QW_if (by decide) ?_
                  refine QW_p (k_gv (hs2 _ _ rfl) rfl rfl) ?_
                  refine QW_p (k_gv (hs2 _ _ rfl) rfl rfl) ?_
                  refine QW_p (k_ia (hs2 _ _ rfl) x2 x3 (by decide)) ?_
                  rw [g3']
                  refine QW_p (k_bs (hs2 _ _ rfl) e2b e3b (by decide) (by decide)) ?_
                  have hs3 : SH (q_si q'.1 69 c1b 0) := hs2
                  refine QW_p (k_gv (hs3 _ _ rfl) rfl rfl) ?_
                  refine QW_p (k_gv (hs3 _ _ rfl) rfl rfl) ?_
                  refine QW_p (k_ia (hs3 _ _ rfl) x2 x3 (by decide)) ?_
                  rw [show q_I (q_si q'.1 69 (itB (k' + 1) (c1b, [], none)) 0) 60 x = c2b from (by simp only [q_I_si]; rw [if_neg (by omega)]; exact g4')]
                  refine QW_p (k_bs (hs3 _ _ rfl) e5b e6b (by decide) (by decide)) ?_
                  have hs4 : SH (q_si (q_si q'.1 69 c1b 0) 69 c2b 0) := hs2
                  refine QW_p (k_gi (hs4 _ _ rfl) rfl) ?_
                  refine QW_p (k_pi (hs4 _ _ rfl) rfl rfl) ?_
                  have hs5 : SH (m_cls q'.1 c1b c2b) := hs2
                  refine QW_p (k_gv (hs5 _ _ rfl) rfl rfl) ?_
                  refine QW_p (k_ia (hs5 _ _ rfl) x2 x3 (by decide)) ?_
                  refine QW_p (k_rc (hs5 _ _ rfl)) ?_
                  refine QW_e (m_118 (s := m_cls q'.1 c1b c2b) hs5 b1 b2 (by rw [y1]; exact x2) (by rw [y1]; exact x3)) ?_
                  have hs6 : SH (m_pop (m_cls q'.1 c1b c2b) b) := hs2
                  refine QW_p (k_rc (hs6 _ _ rfl)) ?_
                  refine QW_e (m_120 (s := m_pop (m_cls q'.1 c1b c2b) b) hs6 b1 b2) ?_
                  refine QW_s ?_
                  simp only [g_121]
                  have y4' : q_I (q_sf (q_si (q_si q'.1 69 (itB (k' + 1) (c1b, [], none)) 0) 69 c2b 0) 38 45 (q_F (q_si (q_si q'.1 69 (itB (k' + 1) (c1b, [], none)) 0) 69 c2b 0) 38 45 - 1)) 55 x = p := y4
                  rw [y4']
                  obtain ⟨r3, t3⟩ := rS.go (how := 3) (p := p) (d := d) (fun z => absurd z (by decide))
                  have hg2 : GW Ps szs nP sec (G_side G2 (-1)) := by
                    obtain ⟨w1, w2, w3, w4, w5, w6, w7, w8, w9, w10, w11, w12, w13⟩ := d1
                    exact ⟨w1, w2, w3, w4, w5, w6, w7, w8, w9, w10, (by show 0 ≤ G_sd G2 + -1; omega), (by show G_sd G2 + -1 ≤ 49; omega), w13⟩
                  have hV3 : VC (Ps (G_pg G)) (szs (G_pg G)) sec (G_ph G) side base (3, p, d, t') := by
                    refine VC.of3 vb0 (by omega) vp0 vp1 h0 h1 (by unfold isS; omega) hct (fun y => ?_)
                    rcases hphi y with ⟨y3, _⟩ | ⟨y4, y5, y6, y7, y8, y9⟩
                    · exact absurd y3 (by simp)
                    · exact Or.inr ⟨y4, y5, y6, y7, y8, y9⟩
                  have hRF2 : RF Ps nP sec sig (m_go (m_pop (m_cls q'.1 c1b c2b) b) b 3 p) (G_side G2 (-1)) (k' + 1 + 1) base u (3, p, d, t', none) (b, ys, none) RX RB := RS.rf r3 (by decide)
                  have z := (ih (k' + 1 + 1) base u side (G_side G2 (-1)) (3, p, d, t', none) _ (b, ys, none) RX RB (e' + 1) res h (by
                      have q3 : wtC (G_sw G) (3, p, d, t') = 502 + 1000 * t'.length + p + (if G_sw G = -1 then 0 else 1000) := by simp [wtC]
                      show (500 - G_bg G2) * 1000000 + wtB (G_sw G2) (k' + 1 + 1) (3, p, d, t', none) < f
                      rw [f3, c3]
                      simp only [wtB]
                      omega) hg2 (by show VT (Ps (G_pg G2)) (szs (G_pg G2)) sec (G_ph G2) (k' + 1 + 1) side base _; rw [f1, f2, c1, c2]; exact ⟨hV3, by simp⟩) hk he hRF2 (by simp only [sidesB]; show (RB.length : Int) + 2 * 0 = 2 * (G_sd G2 + -1); omega) hrx).1
                  exact QW_m z (fun q3 hq4 => hq4.step (((hstO.tr hstO2).tr tS).tr t3))
                · refine QW_it mr ?_
                  refine QW_m (rn_7 hs2) (fun q3 hq3 => ?_)
                  subst hq3
                  exact stay (fun z => mr z.2)
              · refine QW_it ml ?_
                refine QW_m (rn_7 hs2) (fun q3 hq3 => ?_)
                subst hq3
                exact stay (fun z => ml z.1)
        · refine QW_it m4 ?_
          refine QW_m (rn_end hs (Or.inl rfl)) (fun q hq => ?_)
          subst hq
          have m0 : m = 0 := by omega
          have es := nosub (by omega)
          subst es
          subst m0
          simp only [runA] at h
          rw [if_neg (by decide), if_neg (by decide), if_neg (by decide), if_neg (by decide)] at h
          cases h
          exact ⟨_, hR', rfl, ST.rf _ _ _⟩
      refine ⟨main, ?_⟩
      refine QW_s ?_
      simp only [g_121]
      refine QW_p (k_gv (hs _ _ rfl) rfl rfl) ?_
      refine QW_p (k_ia (hs _ _ rfl) b1 b2 (by decide)) ?_
      rw [e62]
      refine QW_g (by omega) ?_
      by_cases m0 : m = 0
      · refine QW_it m0 ?_
        refine QW_s ?_
        simp only [g_121]
        refine QW_m (rn_end hs (Or.inl rfl)) (fun q hq => ?_)
        subst hq
        have es := nosub (by omega)
        subst es
        subst m0
        simp only [runA] at h
        rw [if_neg (by decide), if_neg (by decide), if_neg (by decide), if_neg (by decide)] at h
        cases h
        exact ⟨_, hR', rfl, ST.rf _ _ _⟩
      · refine QW_if m0 ?_
        refine QW_s ?_
        simp only [g_121]
        exact main
end RR3
