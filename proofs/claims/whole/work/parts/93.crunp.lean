/-! THE ABSTRACT RUN ONCE MORE: more fuel, what it keeps, where branches lie -/
section CRP
variable {Ps : Int → PT} {szs : Int → Int → Int} {nP sec : Int} {sig : Int → Int64}
theorem runA_mono : ∀ (f : Nat) (k : Nat) (base : Int) (G : GT) (t : BT k) (res : (GT × BT k) ⊕ (GT × Int × Int)), runA Ps sig sec f k base G t = some res → ∀ g, f ≤ g → runA Ps sig sec g k base G t = some res := by
  intro f
  induction f with
  | zero => intro k base G t res h; simp only [runA] at h; cases h
  | succ f ih =>
    intro k base G t res h g' hg
    obtain ⟨g, rfl⟩ : ∃ g, g' = g + 1 := ⟨g' - 1, by omega⟩
    have hfg : f ≤ g := by omega
    cases k with
    | zero => simp only [runA] at h; cases h
    | succ k =>
      obtain ⟨m, p, d, st, sub⟩ := t
      simp only [runA] at h ⊢
      by_cases m2 : m = 2
      · rw [if_pos m2] at h ⊢
        cases hb : beginA Ps sig sec base G p d st with
        | inr x => rw [hb] at h; exact h
        | inl x =>
          rw [hb] at h
          exact ih _ _ _ _ _ h g hfg
      rw [if_neg m2] at h ⊢
      by_cases m3 : m = 3
      · rw [if_pos m3] at h ⊢
        exact ih _ _ _ _ _ h g hfg
      rw [if_neg m3] at h ⊢
      by_cases m1 : m = 1
      · rw [if_pos m1] at h ⊢
        by_cases c : (standA Ps sec G p d).2 = true
        · rw [if_pos c] at h ⊢
          exact ih _ _ _ _ _ h g hfg
        · rw [if_neg c] at h ⊢
          exact h
      rw [if_neg m1] at h ⊢
      by_cases m4 : m = 4
      · rw [if_pos m4] at h ⊢
        cases sub with
        | none => exact h
        | some lr =>
          obtain ⟨l, r⟩ := lr
          dsimp only at h ⊢
          cases hl : runA Ps sig sec f k (base + st.length) G l with
          | none => rw [hl] at h; cases h
          | some rl =>
            rw [hl] at h
            rw [ih _ _ _ _ _ hl g hfg]
            cases rl with
            | inr x => exact h
            | inl x =>
              obtain ⟨G1, l1⟩ := x
              dsimp only at h ⊢
              cases hr : runA Ps sig sec f k (base + st.length) G1 r with
              | none => rw [hr] at h; cases h
              | some rr =>
                rw [hr] at h
                rw [ih _ _ _ _ _ hr g hfg]
                cases rr with
                | inr x => exact h
                | inl x =>
                  obtain ⟨G2, r1⟩ := x
                  dsimp only at h ⊢
                  by_cases c : modeB k l1 = 0 ∧ modeB k r1 = 0
                  · rw [if_pos c] at h ⊢
                    exact ih _ _ _ _ _ h g hfg
                  · rw [if_neg c] at h ⊢
                    exact h
      · rw [if_neg m4] at h ⊢
        exact h
theorem run_inv {f k : Nat} {base : Int} {side : Option Int} {G : GT} {t : BT k} {res : (GT × BT k) ⊕ (GT × Int × Int)} (h : runA Ps sig sec f k base G t = some res) (hg : GW Ps szs nP sec G) (hv : VT (Ps (G_pg G)) (szs (G_pg G)) sec (G_ph G) k side base t) (hk : 61 ≤ k + base) (hs : sidesB k t ≤ G_sd G) : RnI Ps szs nP sec side base G k t res := by
  obtain ⟨res', e, hi⟩ := run_tot (Ps := Ps) (szs := szs) (nP := nP) (sec := sec) (sig := sig) (f + ((500 - G_bg G) * 1000000 + wtB (G_sw G) k t + 1).toNat) k base side G t (by omega) hg hv hk hs
  rw [runA_mono _ _ _ _ _ _ h _ (Nat.le_add_right _ _)] at e
  cases e
  exact hi
def XT (P : PT) : (k : Nat) → Option Int → Bool → BT k → Prop
  | 0, _, _, _ => True
  | k + 1, side, r, (m, p, _, st, sub) => (¬ m = 0 → XC P side r p st) ∧ (match sub with
    | none => True
    | some (l, rr) => XT P k (some p) false l ∧ XT P k (some p) true rr)
theorem isPh_side {P : PT} {side : Option Int} {p : Int} {st : List FR} (h : isPh P p = true) (hc : CNS P side p st) : st = [] ∧ side = none := by
  obtain ⟨_, g, hg⟩ := isPh_RA h
  exact RA.nil g p hg hc
/-- how the place moves when a statement is over -/
theorem XC.bh {P : PT} {sz : Int → Int} {G : GT} {side : Option Int} {r : Bool} {p : Int} {d : DT} {st : List FR} (hP : Ps (G_pg G) = P) (hW : WP P sz) (p0 : 0 ≤ p) (p1 : p < P_n P) (h : XC P side r p st) (hc : CNS P side p st) (hm : ¬ (behindA Ps G p d st).2.1 = 0) : XC P side r (behindA Ps G p d st).2.2.1 (behindA Ps G p d st).2.2.2.2 := by
  intro q hq
  obtain ⟨q0, q1, q18, f, hf⟩ := h q hq
  refine ⟨q0, q1, q18, ?_⟩
  have hpart : P_u P (if r = true then P_2 P q else P_1 P q) = q := by
    have hk := (hW.2.2.2.2.2.1 q q0 q1).2.2
    rcases WK_S hk (by unfold isS; omega) with k | k | k | k | k | k | k | k
    · omega
    · omega
    · omega
    · omega
    · omega
    · split
      · rw [k.2.1.2.1]; exact k.2.1.2.2.1
      · rw [k.2.1.1.1]; exact k.2.1.1.2.1
    · omega
    · omega
  generalize hg : (if r = true then P_2 P q else P_1 P q) = part at *
  -- up, or beside
  have up : ¬ P_u P p = -1 → ¬ P_w P (P_u P p) = 18 → (∃ f, AN P part f (lastP st (P_u P p))) ∧ (∀ z, P_u P z = P_u P p → ∃ f, AN P part f (lastP st z)) := by
    intro hu hw
    cases st with
    | cons x t => exact ⟨⟨f, hf⟩, fun z _ => ⟨f, hf⟩⟩
    | nil =>
      have hne : ¬ part = p := fun e => hw (by rw [← e, hpart]; exact q18)
      have hA : ∃ g, AN P part g (P_u P p) := by
        cases f with
        | zero => exact absurd hf hne
        | succ f =>
          rcases hf with e | ⟨_, e⟩
          · exact absurd e hne
          · exact ⟨f, e⟩
      obtain ⟨g, hA⟩ := hA
      exact ⟨⟨g, hA⟩, fun z hz => ⟨g + 1, Or.inr ⟨(by show ¬ P_u P z = -1; rw [hz]; exact hu), (by show AN P part g (P_u P z); rw [hz]; exact hA)⟩⟩⟩
  unfold behindA at hm ⊢
  rw [hP] at hm ⊢
  rcases hc.inv with ⟨a1, a2, a3⟩ | ⟨a1, a2, a3⟩ | ⟨a1, a2, a3, x, t, a4, a5⟩ | ⟨a1, a2, x, t, a4, a5, a6⟩ | ⟨a1, a2, a3, a4⟩ | ⟨a1, a2, y, x, t, a4, a5, a6, a7, a8⟩
  · rw [a3] at hq; cases hq
  · rw [if_neg a1]
    have hu := fun w => up a1 w
    have hp0 : 0 < p := by
      rcases Int.lt_or_eq_of_le p0 with z | z
      · exact z
      · rw [← z] at a1; exact absurd hW.2.2.2.1 a1
    obtain ⟨u0, u1, u2, u3⟩ := hW.2.2.2.2.2.2 p hp0 p1
    have hk := (hW.2.2.2.2.2.1 (P_u P p) u0 (by omega)).2.2
    by_cases w14 : P_w P (P_u P p) = 14
    · rw [if_pos w14]
      have hsb : P_u P (P_2 P (P_u P p)) = P_u P p := by
        rcases WK_S hk (by unfold isS; omega) with k | k | k | k | k | k | k | k
        · omega
        · rw [k.2.1.2.1]; exact k.2.1.2.2.1
        all_goals omega
      split
      · exact (hu (by omega)).2 _ hsb
      · exact (hu (by omega)).1
    · rw [if_neg w14]
      by_cases w16 : P_w P (P_u P p) = 16
      · rw [if_pos w16]
        have np : ¬ p = P_2 P (P_u P p) := by
          rcases a2 with z | z
          · omega
          · exact z.2
        rw [if_neg np]
        exact (hu (by omega)).1
      · rw [if_neg w16, if_neg (by omega), if_neg (by omega), if_neg (by omega)]
        by_cases w21 : P_w P (P_u P p) = 21
        · rw [if_pos w21]
          by_cases c : isPh P (P_u P p) = true
          · obtain ⟨_, z⟩ := isPh_side c a3
            rw [z] at hq; cases hq
          · rw [if_neg c]
            exact (hu (by omega)).1
        · rw [if_neg w21]
          exact (hu (by omega)).1
  · rw [if_neg a1, if_neg (by omega), if_pos a2, if_pos a3, a4]
    rw [a4] at hf
    exact ⟨f, hf⟩
  · rw [if_neg a1, if_neg (by omega), if_neg (by omega), if_pos a2, a4]
    rw [a4] at hf
    dsimp only
    split
    · exact ⟨f, hf⟩
    · exact ⟨f, hf⟩
  · rw [if_neg a1, if_neg (by omega), if_neg (by omega), if_neg (by omega), if_pos a2] at hm
    exact absurd rfl hm
  · rw [if_neg a1, if_neg (by omega), if_neg (by omega), if_neg (by omega), if_neg (by omega), if_pos a2, a4]
    rw [a4] at hf
    exact ⟨f, hf⟩
theorem subB_XC {P : PT} {sz : Int → Int} {p : Int} (p0 : 0 ≤ p) (p1 : p < P_n P) (hw : P_w P p = 18) : XC P (some p) false (P_1 P p) [] ∧ XC P (some p) true (P_2 P p) [] := by
  refine ⟨fun q hq => ?_, fun q hq => ?_⟩
  · injection hq with hq
    subst hq
    exact ⟨p0, p1, hw, 0, by rw [if_neg (by decide)]; rfl⟩
  · injection hq with hq
    subst hq
    exact ⟨p0, p1, hw, 0, by rw [if_pos rfl]; rfl⟩
set_option maxHeartbeats 1000000 in
/-- the run keeps the places; never both branches of a side are over -/
theorem run_xt : ∀ (f : Nat) (k : Nat) (base : Int) (side : Option Int) (rt : Bool) (G : GT) (t : BT k) (G' : GT) (t' : BT k), runA Ps sig sec f k base G t = some (.inl (G', t')) → GW Ps szs nP sec G → VT (Ps (G_pg G)) (szs (G_pg G)) sec (G_ph G) k side base t → 61 ≤ k + base → sidesB k t ≤ G_sd G → XT (Ps (G_pg G)) k side rt t → XT (Ps (G_pg G')) k side rt t' ∧ NB k t' := by
  intro f
  induction f with
  | zero => intro k base side rt G t G' t' h; simp only [runA] at h; cases h
  | succ f ih =>
    intro k base side rt G t G' t' h hg hv hk hsd hx
    cases k with
    | zero => exact hv.elim
    | succ k =>
      have hres := run_inv h hg hv hk hsd
      obtain ⟨m, p, d, st, sub⟩ := t
      have hv' := hv
      obtain ⟨hV, hsub⟩ := hv'
      have hW := hg.2.2.2.2.1 _ hg.2.2.2.2.2.1 hg.2.2.2.2.2.2.1
      have nosub : ¬ m = 4 → sub = none := by
        intro z
        cases sub with
        | none => rfl
        | some lr => exact absurd hsub.1 z
      have none0 : ∀ side, side = none → ∀ (P : PT) (z : Int) (y : List FR), XC P side rt z y := fun side e P z y q hq => by rw [e] at hq; cases hq
      simp only [runA] at h
      by_cases m2 : m = 2
      · rw [if_pos m2] at h
        have es := nosub (by omega)
        subst es
        subst m2
        obtain ⟨p0, p1, hS, hC, hI⟩ := hV.ok2
        cases hb : beginA Ps sig sec base G p d st with
        | inr x => rw [hb] at h; cases h
        | inl x =>
          obtain ⟨G1, c⟩ := x
          rw [hb] at h
          dsimp only at h
          obtain ⟨i1, i2, i3, i4, i5, i6, i7⟩ := begin_inv hg rfl hV hb
          have hx1 := (hx.1 (by decide)).mv (beg_cases rfl hW p0 p1 hS (fun _ _ _ => trivial) hb).1
          rcases i7 with ⟨c4, s1, w18, cp⟩ | ⟨c4, s1⟩
          · rw [if_pos c4] at h
            obtain ⟨cm, cq, cd, cst⟩ := c
            have c4' : cm = 4 := c4
            subst c4'
            have cp' : cq = p := cp
            subst cp'
            have hb60 : base + (cst.length : Int) ≤ 60 := i5.2.1
            have hcl : 1 ≤ cst.length := by
              rcases i5.2.2.2.2 with z | z | z
              · exact absurd z.1 (by simp)
              · exact absurd z.1 (by simp)
              · obtain ⟨t', e1, e2, _⟩ := z.2.2.2.2
                have e1 : cst = (cq, 0) :: t' := e1
                rw [e1]; simp
            obtain ⟨k', rfl⟩ : ∃ k', k = k' + 1 := ⟨k - 1, by omega⟩
            have hC2 : C2 (Ps (G_pg G)) (szs (G_pg G)) cq ∧ isS (P_w (Ps (G_pg G)) (cq + 1)) ∧ isS (P_w (Ps (G_pg G)) (cq + 1 + szs (G_pg G) (cq + 1))) := by
              rcases WK_S (hW.2.2.2.2.2.1 cq p0 p1).2.2 hS with k | k | k | k | k | k | k | k
              · omega
              · omega
              · omega
              · omega
              · omega
              · exact ⟨k.2.1, k.2.2.1, k.2.2.2⟩
              · omega
              · omega
            obtain ⟨hc2, hS1, hS2⟩ := hC2
            have z1 := (hW.2.2.2.2.2.1 (cq + 1) (by omega) hc2.1.2.2).1
            have hne : ¬ cq = -1 := by omega
            have v1 : VT (Ps (G_pg G)) (szs (G_pg G)) sec (G_ph G) (k' + 1) (some cq) (base + (cst.length : Int)) (subB (k' + 1) (P_1 (Ps (G_pg G)) cq)) := by
              rw [hc2.1.1]
              exact subB_VT (by have := hV.1; omega) hb60 hV.2.2.1 hV.2.2.2.1 (by omega) hc2.1.2.2 hS1 (CNS.sid hc2.1.2.1 hne w18)
            have v2 : VT (Ps (G_pg G)) (szs (G_pg G)) sec (G_ph G) (k' + 1) (some cq) (base + (cst.length : Int)) (subB (k' + 1) (P_2 (Ps (G_pg G)) cq)) := by
              rw [hc2.2.1]
              exact subB_VT (by have := hV.1; omega) hb60 hV.2.2.1 hV.2.2.2.1 (by omega) hc2.2.2.2 hS2 (CNS.sid hc2.2.2.1 hne w18)
            have sx := subB_XC (sz := szs (G_pg G)) p0 p1 w18
            refine ih _ _ side rt _ _ _ _ h i1 (by rw [i2, i3]; exact ⟨i5, rfl, v1, v2⟩) hk ?_ ?_
            · simp only [sidesB, subB, newB]
              have : 0 ≤ G_sd G := hg.2.2.2.2.2.2.2.2.2.2.1
              omega
            · rw [i2]
              exact ⟨fun _ => hx1, ⟨fun _ => sx.1, trivial⟩, ⟨fun _ => sx.2, trivial⟩⟩
          · rw [if_neg c4] at h
            refine ih _ _ side rt _ _ _ _ h i1 (by rw [i2, i3]; exact ⟨i5, c4⟩) hk (by simp only [sidesB]; have := i1.2.2.2.2.2.2.2.2.2.2.1; omega) ?_
            rw [i2]
            exact ⟨fun _ => hx1, trivial⟩
      rw [if_neg m2] at h
      by_cases m3 : m = 3
      · rw [if_pos m3] at h
        have es := nosub (by omega)
        subst es
        subst m3
        obtain ⟨p0, p1, hS, hC, hI⟩ := hV.ok3
        obtain ⟨i1, i2, i3, i4, i5, i6, i7, i8⟩ := behind_inv hg rfl hV
        refine ih _ _ side rt _ _ _ _ h i1 ⟨i2, by show ¬ (behindA Ps G p d st).2.1 = 4; omega⟩ hk (by simp only [sidesB]; have := i1.2.2.2.2.2.2.2.2.2.2.1; omega) ⟨fun z => ?_, trivial⟩
        cases side with
        | none => exact none0 none rfl _ _ _
        | some q =>
          rw [(i7 q rfl).1]
          exact (hx.1 (by decide)).bh rfl hW p0 p1 hC z
      rw [if_neg m3] at h
      by_cases m1 : m = 1
      · rw [if_pos m1] at h
        have es := nosub (by omega)
        subst es
        subst m1
        have e1 : G_pg (standA Ps sec G p d).1 = G_pg G := by unfold standA; split <;> rfl
        have e2 : G_ph (standA Ps sec G p d).1 = G_ph G := by unfold standA; split <;> rfl
        have hgs : GW Ps szs nP sec (standA Ps sec G p d).1 := by
          unfold standA
          split
          · exact hg
          · exact hg
        by_cases c : (standA Ps sec G p d).2 = true
        · rw [if_pos c] at h
          obtain ⟨b0, b1, p0', p1', hmd⟩ := hV
          have hV3 : VC (Ps (G_pg G)) (szs (G_pg G)) sec (G_ph G) side base (3, p, d, st) := by
            rcases hmd with z | z | z
            · exact absurd z.1 (by simp)
            · refine VC.of3 b0 b1 p0' p1' z.2.1 z.2.2.1 z.2.2.2.1 z.2.2.2.2.1 (fun y => ?_)
              have y2 := z.2.2.2.2.2.1 y
              rcases y2 with ⟨y3, _⟩ | y3
              · exact absurd y3 (by simp)
              · exact Or.inr y3
            · exact absurd z.1 (by simp)
          refine ih _ _ side rt _ _ _ _ h hgs (by rw [e1, e2]; exact ⟨hV3, by simp⟩) hk (by simp only [sidesB]; exact hgs.2.2.2.2.2.2.2.2.2.2.1) ?_
          rw [e1]
          exact ⟨fun _ => hx.1 (by decide), trivial⟩
        · rw [if_neg c] at h
          cases h
          rw [e1]
          exact ⟨⟨fun _ => hx.1 (by decide), trivial⟩, trivial⟩
      rw [if_neg m1] at h
      by_cases m4 : m = 4
      · rw [if_pos m4] at h
        subst m4
        cases sub with
        | none => exact absurd rfl hsub
        | some lr =>
          obtain ⟨l, r⟩ := lr
          obtain ⟨_, v1, v2⟩ := hsub
          obtain ⟨x1, x2, x3⟩ := hx
          obtain ⟨w18, h0, h1, t1, et, hct, hphi⟩ : P_w (Ps (G_pg G)) p = 18 ∧ 0 ≤ p ∧ p < P_n (Ps (G_pg G)) ∧ ∃ t', st = (p, 0) :: t' ∧ CNS (Ps (G_pg G)) side p t' ∧ (side = none → PHI (Ps (G_pg G)) (szs (G_pg G)) (G_ph G) (4, p, d, st)) := by
            rcases hV.2.2.2.2 with z | z | z
            · exact absurd z.1 (by simp)
            · exact absurd z.1 (by simp)
            · obtain ⟨_, z1, z2, z3, t', z4, z5, z6⟩ := z
              exact ⟨z3, z1, z2, t', z4, z5, z6⟩
          subst et
          have hb60 : base + ((((p, (0 : Int64)) :: t1).length : Nat) : Int) ≤ 60 := hV.2.1
          have hlen : ((((p, (0 : Int64)) :: t1).length : Nat) : Int) = t1.length + 1 := by simp
          have hsl := sides0 k l
          have hsr := sides0 k r
          have hsd' : 1 + sidesB k l + sidesB k r ≤ G_sd G := by simpa only [sidesB] using hsd
          dsimp only at h
          cases hl : runA Ps sig sec f k (base + (((p, (0 : Int64)) :: t1).length : Int)) G l with
          | none => rw [hl] at h; cases h
          | some rl =>
            rw [hl] at h
            cases rl with
            | inr x => cases h
            | inl x =>
              obtain ⟨G1, l1⟩ := x
              dsimp only at h
              obtain ⟨a1, a2, a3, a4, a5, a6, a7⟩ := run_inv hl hg v1 (by omega) (by omega)
              obtain ⟨c1, c2, c3⟩ := a6 p rfl
              obtain ⟨y1, y2⟩ := ih _ _ _ false _ _ _ _ hl hg v1 (by omega) (by omega) x2
              have hsl1 := sides0 k l1
              cases hr : runA Ps sig sec f k (base + (((p, (0 : Int64)) :: t1).length : Int)) G1 r with
              | none => rw [hr] at h; cases h
              | some rr =>
                rw [hr] at h
                cases rr with
                | inr x => cases h
                | inl x =>
                  obtain ⟨G2, r1⟩ := x
                  dsimp only at h
                  have v2' : VT (Ps (G_pg G1)) (szs (G_pg G1)) sec (G_ph G1) k (some p) (base + (((p, (0 : Int64)) :: t1).length : Int)) r := by rw [c1, c2]; exact v2
                  obtain ⟨d1, d2, d3, d4, d5, d6, d7⟩ := run_inv hr a1 v2' (by omega) (by omega)
                  obtain ⟨e1, e2, e3⟩ := d6 p rfl
                  obtain ⟨y3, y4⟩ := ih _ _ _ true _ _ _ _ hr a1 v2' (by omega) (by omega) (by rw [c1]; exact x3)
                  by_cases hov : modeB k l1 = 0 ∧ modeB k r1 = 0
                  · rw [if_pos hov] at h
                    have s1 := a2.sub0 hov.1
                    have s2 := d2.sub0 hov.2
                    have hg2 : GW Ps szs nP sec (G_side G2 (-1)) := by
                      obtain ⟨w1, w2, w3, w4, w5, w6, w7, w8, w9, w10, w11, w12, w13⟩ := d1
                      exact ⟨w1, w2, w3, w4, w5, w6, w7, w8, w9, w10, (by show 0 ≤ G_sd G2 + -1; omega), (by show G_sd G2 + -1 ≤ 49; omega), w13⟩
                    have hV3 : VC (Ps (G_pg G)) (szs (G_pg G)) sec (G_ph G) side base (3, p, d, t1) := by
                      refine VC.of3 hV.1 (by omega) hV.2.2.1 hV.2.2.2.1 h0 h1 (by unfold isS; omega) hct (fun y => ?_)
                      rcases hphi y with ⟨y3, _⟩ | ⟨y4, y5, y6, y7, y8, y9⟩
                      · exact absurd y3 (by simp)
                      · exact Or.inr ⟨y4, y5, y6, y7, y8, y9⟩
                    refine ih _ _ side rt _ _ _ _ h hg2 (by show VT (Ps (G_pg G2)) (szs (G_pg G2)) sec (G_ph G2) (k + 1) side base _; rw [e1, e2, c1, c2]; exact ⟨hV3, by simp⟩) hk (by simp only [sidesB]; show 0 ≤ G_sd G2 + -1; omega) ?_
                    show XT (Ps (G_pg G2)) _ _ _ _
                    rw [e1, c1]
                    exact ⟨fun _ => x1 (by decide), trivial⟩
                  · rw [if_neg hov] at h
                    cases h
                    rw [e1] at y3 ⊢
                    rw [c1] at y1 y3 ⊢
                    exact ⟨⟨fun _ => x1 (by decide), y1, y3⟩, y2, y4, hov⟩
      · rw [if_neg m4] at h
        cases h
        have es := nosub m4
        subst es
        exact ⟨hx, trivial⟩
end CRP
