/-! THE WALKER GOES ON: a statement is over -/
section CGB
variable {o : X_O} {Ps : Int → PT} {szs ths : Int → Int → Int} {rc : Int → Nat} {nP sec : Int} {sig : Int → Int64}
theorem up_ok {P : PT} {sz : Int → Int} {p : Int} (hW : WP P sz) (p0 : 0 ≤ p) (p1 : p < P_n P) (hu : ¬ P_u P p = -1) : 0 ≤ P_u P p ∧ P_u P p < P_n P ∧ WK P sz (P_u P p) ∧ (p = P_1 P (P_u P p) ∨ (p = P_2 P (P_u P p) ∧ ((0 ≤ P_w P (P_u P p) ∧ P_w P (P_u P p) ≤ 5) ∨ (13 ≤ P_w P (P_u P p) ∧ P_w P (P_u P p) ≤ 18))) ∨ (p = P_3 P (P_u P p) ∧ (P_w P (P_u P p) = 15 ∨ P_w P (P_u P p) = 16))) := by
  have hp0 : 0 < p := by
    rcases Int.lt_or_eq_of_le p0 with z | z
    · exact z
    · rw [← z] at hu; exact absurd hW.2.2.2.1 hu
  obtain ⟨u0, u1, u2, u3⟩ := hW.2.2.2.2.2.2 p hp0 p1
  exact ⟨u0, by omega, (hW.2.2.2.2.2.1 (P_u P p) u0 (by omega)).2.2, u3⟩
set_option maxHeartbeats 4000000 in
theorem ga_3 (hT : ∀ k, 0 ≤ k → k < nP → TH (Ps k) (ths k)) {f : Nat} (IH : GA o Ps szs ths rc nP sec sig f)
    (k base : Nat) (side : Option Int) (r : Bool) (u N : Int) (G : GT) (p : Int) (d : DT) (st : List FR) (s : Q_S) (c room : Nat) (v : CV) (xs RX : List Int) (i : Int) (res : (GT × BT (k + 1)) ⊕ (GT × Int × Int)) (Q : Q_S × Unit → Prop)
    (hres : runA Ps sig sec (f + 1) (k + 1) base G (3, p, d, st, none) = some res) (hg : GW Ps szs nP sec G) (hV : VC (Ps (G_pg G)) (szs (G_pg G)) sec (G_ph G) side base (3, p, d, st)) (hX : XC (Ps (G_pg G)) side r p st) (hk : 61 ≤ k + 1 + base) (hRX : (RX.length : Int) ≤ 122 * G_sd G) (hA : CA Ps szs ths rc nP sec sig G s c room v side base u r N st xs RX) (hi : 0 ≤ i) (hb : i + gp G + potF 3 st ≤ 900000)
    (hGO : GO o Ps szs ths rc nP sec sig s c room v side base u r N RX (i + gp G + potF 3 st) Q (k + 1) res) : QW (fun n => g_68 o n 1 s 35 (ths (G_pg G) p) i) Q := by
  have hW := hg.2.2.2.2.1 _ hg.2.2.2.2.2.1 hg.2.2.2.2.2.2.1
  have hn5 := hW.2.1
  have hn1 := hW.1
  have hbg : 0 ≤ G_bg G ∧ G_bg G ≤ 500 := ⟨hg.2.2.2.2.2.2.2.2.1, hg.2.2.2.2.2.2.2.2.2.1⟩
  obtain ⟨p0, p1, hS, hC, hI⟩ := hV.ok3
  have hph := hV.2.2
  have hgp : 0 ≤ gp G := by
    unfold gp
    have := hph.1
    have := hph.2.1
    omega
  have epf : potF 3 st = 3 * st.length + 4 := by unfold potF; rw [if_neg (by decide)]
  have hTH := hT _ hg.2.2.2.2.2.1 hg.2.2.2.2.2.2.1 p p0 p1 hS
  have hbi := behind_inv hg rfl hV
  have hXb := fun z => hX.bh (d := d) (G := G) (Ps := Ps) rfl hW p0 p1 hC z
  simp only [runA] at hres
  rw [if_neg (by decide), if_pos trivial] at hres
  rw [hTH]
  -- a frame is left
  have LV : ∀ (x : Int) (a : Int64) (t : List FR), st = (x, a) :: t → 0 ≤ x → x < P_n (Ps (G_pg G)) → isS (P_w (Ps (G_pg G)) x) → ¬ P_w (Ps (G_pg G)) x = 18 → 0 ≤ P_u (Ps (G_pg G)) p → P_u (Ps (G_pg G)) p < P_n (Ps (G_pg G)) → (P_w (Ps (G_pg G)) (P_u (Ps (G_pg G)) p) = 16 ∨ P_w (Ps (G_pg G)) (P_u (Ps (G_pg G)) p) = 20) → behindA Ps G p d st = (G, (3, x, d, t)) → QW (fun n => g_68 o n 1 s 35 (-1 - P_u (Ps (G_pg G)) p) i) Q := by
    intro x a t est x0 x1 xS x18 u0 u1 uw hbe
    rw [hbe] at hres hbi hXb
    subst est
    obtain ⟨y, ys, rfl⟩ := ch_cons hA.2.2.2.2.2.1
    have hy0 : 0 ≤ y := hA.2.2.2.2.2.1.1.1
    have h4 : vI v 4 y = -1 := by
      have z : slotV v y false = -1 := hA.2.2.2.2.2.2.2.2.2.2
      rw [slot_l hy0] at z
      exact z
    refine go_prt hA.1 ⟨hi, by omega⟩ ⟨u0, by omega⟩ rfl (d_83k hA.1 hg u0 u1 (fun _ => d_86 hA hg ⟨x0, x1⟩ xS h4) (fun z => by omega) (fun z => by omega) (fun z => by omega) (by omega)) (fun q hq => ?_)
    obtain ⟨e1, v', e2, e3, e4⟩ := hq
    rw [if_neg x18] at e2
    simp only [List.length_cons] at epf
    have ep2 : potF 3 t = 3 * t.length + 4 := by unfold potF; rw [if_neg (by decide)]
    push_cast at epf
    have := IH k base side r u N G 3 x d t q.1 c room v' ys RX (i + 1) res Q hres (Or.inr rfl) hg hbi.2.1 (hXb (by simp)) hk hRX e2 (by omega) (by omega) (hGO.mv e4 e3 (by omega))
    rw [if_neg (by decide)] at this
    rw [e1]
    exact this
  rcases hC.inv with ⟨a1, a2, a3⟩ | ⟨a1, a2, a3⟩ | ⟨a1, a2, a3, x, t, a4, a5⟩ | ⟨a1, a2, x, t, a4, a5, a6⟩ | ⟨a1, a2, a3, a4⟩ | ⟨a1, a2, y, x, t, a4, a5, a6, a7, a8⟩
  · -- the root is over
    have hbe : behindA Ps G p d st = (G, (0, p, d, st)) := by unfold behindA; rw [if_pos a1]
    rw [hbe] at hres
    have hr := run_0 hres
    subst hr
    rw [if_pos a1]
    refine go_prt hA.1 ⟨hi, by omega⟩ ⟨by omega, by omega⟩ rfl (d_83e hA.1 hg rfl) (fun q hq => ?_)
    rw [hq]
    have hE := hA.en (KC.rf s c room)
    exact go_en hE ⟨by omega, by omega⟩ (hGO.1 rfl a3 _ hE)
  · -- up, or beside
    obtain ⟨u0, u1, uK, u3⟩ := up_ok hW p0 p1 a1
    rw [if_neg a1]
    have up3 : behindA Ps G p d st = (G, (3, P_u (Ps (G_pg G)) p, d, st)) → QW (fun n => g_68 o n 1 s 35 (ths (G_pg G) (P_u (Ps (G_pg G)) p)) i) Q := by
      intro hbe
      rw [hbe] at hres hbi hXb
      have := IH k base side r u N G 3 (P_u (Ps (G_pg G)) p) d st s c room v xs RX i res Q hres (Or.inr rfl) hg hbi.2.1 (hXb (by simp)) hk hRX hA hi hb hGO
      rw [if_neg (by decide)] at this
      exact this
    by_cases w14 : P_w (Ps (G_pg G)) (P_u (Ps (G_pg G)) p) = 14
    · rw [if_pos w14]
      by_cases z : p = P_1 (Ps (G_pg G)) (P_u (Ps (G_pg G)) p)
      · rw [if_pos z]
        have hbe : behindA Ps G p d st = (G, (2, P_2 (Ps (G_pg G)) (P_u (Ps (G_pg G)) p), d, st)) := by unfold behindA; rw [if_neg a1, if_pos w14, if_pos z]
        rw [hbe] at hres hbi hXb
        have ep2 : potF 2 st = 3 * st.length + 1 := by unfold potF; rw [if_pos rfl]
        have := IH k base side r u N G 2 (P_2 (Ps (G_pg G)) (P_u (Ps (G_pg G)) p)) d st s c room v xs RX i res Q hres (Or.inl rfl) hg hbi.2.1 (hXb (by simp)) hk hRX hA hi (by omega) (hGO.mv (KC.rf _ _ _) (SM.rf _ _ _ _) (by omega))
        rw [if_pos rfl] at this
        exact this
      · rw [if_neg z]
        exact up3 (by unfold behindA; rw [if_neg a1, if_pos w14, if_neg z])
    · rw [if_neg w14]
      by_cases w15 : P_w (Ps (G_pg G)) (P_u (Ps (G_pg G)) p) = 15
      · rw [if_pos w15]
        exact up3 (by unfold behindA; rw [if_neg a1, if_neg w14, if_neg (by omega), if_neg (by omega), if_neg (by omega), if_neg (by omega), if_neg (by omega)])
      · rw [if_neg w15]
        by_cases w16 : P_w (Ps (G_pg G)) (P_u (Ps (G_pg G)) p) = 16
        · have np : ¬ p = P_2 (Ps (G_pg G)) (P_u (Ps (G_pg G)) p) := by
            rcases a2 with z | z
            · omega
            · exact z.2
          rw [if_pos w16, if_neg np]
          exact up3 (by unfold behindA; rw [if_neg a1, if_neg w14, if_pos w16, if_neg np])
        · have w21 : P_w (Ps (G_pg G)) (P_u (Ps (G_pg G)) p) = 21 := by omega
          rw [if_neg w16, if_pos w21]
          by_cases cph : isPh (Ps (G_pg G)) (P_u (Ps (G_pg G)) p) = true
          · rw [if_pos cph]
            obtain ⟨est, esi⟩ := isPh_side cph a3
            subst est
            subst esi
            have exs := ch_nil hA.2.2.2.2.2.1
            subst exs
            have hbe : behindA Ps G p d [] = phaseA Ps G (P_u (Ps (G_pg G)) p) d [] := by unfold behindA; rw [if_neg a1, if_neg w14, if_neg w16, if_neg (by omega), if_neg (by omega), if_neg (by omega), if_pos w21, if_pos cph]
            rw [hbe] at hres hbi
            refine go_prt hA.1 ⟨hi, by omega⟩ ⟨u0, by omega⟩ rfl (d_83k hA.1 hg u0 u1 (fun z => by omega) (fun z => by omega) (fun z => by omega) (fun _ => d_88 (d := d) hA hg u0 u1 w21) (by omega)) (fun q hq => ?_)
            rcases hq with ⟨e1, e2, e3⟩ | ⟨e1, e2, e3, e4⟩
            · rw [e1] at hres
              have hr := run_0 hres
              subst hr
              exact go_en e2 ⟨by omega, by omega⟩ (hGO.1 rfl rfl _ e2)
            · have eph : G_ph (phaseA Ps G (P_u (Ps (G_pg G)) p) d []).1 = G_ph G + 1 := by
                unfold phaseA
                split
                · rfl
                · split <;> rfl
              have est2 : (phaseA Ps G (P_u (Ps (G_pg G)) p) d []).2.2.2.2 = [] := by
                unfold phaseA
                split
                · rfl
                · split <;> rfl
              rw [est2] at hres
              rw [e1] at hres
              have egp : gp (phaseA Ps G (P_u (Ps (G_pg G)) p) d []).1 = gp G - 1 := by
                unfold gp
                rw [eph, hbi.2.2.1]
                omega
              have hV2 := hbi.2.1
              have e9 : (phaseA Ps G (P_u (Ps (G_pg G)) p) d []).2 = (3, (phaseA Ps G (P_u (Ps (G_pg G)) p) d []).2.2.1, (phaseA Ps G (P_u (Ps (G_pg G)) p) d []).2.2.2.1, []) := by
                have e8 : ∀ z : CT, z.1 = 3 → z.2.2.2 = [] → z = (3, z.2.1, z.2.2.1, []) := fun z h1 h2 => by
                  obtain ⟨a, b, c, d⟩ := z
                  have h1 : a = 3 := h1
                  have h2 : d = [] := h2
                  subst h1
                  subst h2
                  rfl
                exact e8 _ e1 est2
              rw [e9] at hV2
              have := IH k base none r u N _ 3 _ _ [] q.1 c room v [] RX (i + 1) res Q hres (Or.inr rfl) hbi.1 hV2 (fun q hq => by cases hq) hk (by rw [hbi.2.2.2.1]; exact hRX) e4 (by omega) (by omega) (hGO.mv e3 (SM.rf _ _ _ _) (by omega))
              rw [if_neg (by decide)] at this
              rw [e2]
              exact this
          · rw [if_neg cph]
            exact up3 (by unfold behindA; rw [if_neg a1, if_neg w14, if_neg w16, if_neg (by omega), if_neg (by omega), if_neg (by omega), if_pos w21, if_neg cph])
  · -- a limit is left
    obtain ⟨u0, u1, uK, u3⟩ := up_ok hW p0 p1 a1
    rw [if_neg a1, if_neg (by omega), if_neg (by omega), if_pos a2, if_pos a3]
    refine LV _ _ t a4 u0 u1 (by unfold isS; omega) (by omega) u0 u1 (Or.inl a2) ?_
    unfold behindA
    rw [if_neg a1, if_neg (by omega), if_pos a2, if_pos a3, a4]
    rfl
  · -- a turn is over
    obtain ⟨u0, u1, uK, u3⟩ := up_ok hW p0 p1 a1
    rw [if_neg a1, if_neg (by omega), if_neg (by omega), if_neg (by omega), if_neg (by omega)]
    have hp2 : p = P_2 (Ps (G_pg G)) (P_u (Ps (G_pg G)) p) := by
      rcases u3 with z | z | z
      · exfalso
        have hE : isE (P_w (Ps (G_pg G)) (P_1 (Ps (G_pg G)) (P_u (Ps (G_pg G)) p))) := by
          rcases uK with k | k | k | k | k | k | k | k | k | k | k | k | k | k | k | k
          · have := k.1; omega
          · have := k.1; omega
          · have := k.2.1; omega
          · have := k.1; omega
          · have := k.1; omega
          · have := k.1; omega
          · have := k.1; omega
          · have := k.1; omega
          · have := k.1; omega
          · have := k.1; omega
          · have := k.1; omega
          · rw [k.2.1.1.1]; exact k.2.2.1
          all_goals (have := k.1; omega)
        rw [← z] at hE
        unfold isE at hE
        unfold isS at hS
        omega
      · exact z.1
      · omega
    have hbe : behindA Ps G p d st = (G, if 0 < x - 1 then (2, p, d, (P_u (Ps (G_pg G)) p, x - 1) :: t) else (3, P_u (Ps (G_pg G)) p, d, t)) := by
      unfold behindA
      rw [if_neg a1, if_neg (by omega), if_neg (by omega), if_pos a2, a4]
    rw [hbe] at hres hbi hXb
    subst a4
    obtain ⟨y, ys, rfl⟩ := ch_cons hA.2.2.2.2.2.1
    simp only [List.length_cons] at epf
    push_cast at epf
    refine go_prt hA.1 ⟨hi, by omega⟩ ⟨u0, by omega⟩ rfl (d_83k hA.1 hg u0 u1 (fun z => by omega) (fun _ => d_85 hA hg u0 u1 a2 a5) (fun z => by omega) (fun z => by omega) (by omega)) (fun q hq => ?_)
    obtain ⟨v', xs', e1, e2, e3⟩ := hq
    by_cases z : 0 < x - 1
    · rw [if_pos z] at hres hbi hXb e3
      have ep2 : potF 2 ((P_u (Ps (G_pg G)) p, x - 1) :: t) = 3 * t.length + 4 := by unfold potF; rw [if_pos rfl]; simp only [List.length_cons]; push_cast; omega
      have := IH k base side r u N G 2 p d ((P_u (Ps (G_pg G)) p, x - 1) :: t) q.1 c room v' xs' RX (i + 1) res Q hres (Or.inl rfl) hg hbi.2.1 (hXb (by simp)) hk hRX e3.2 (by omega) (by omega) (hGO.mv e2 e1 (by omega))
      rw [if_pos rfl] at this
      rw [e3.1, ← hp2]
      exact this
    · rw [if_neg z] at hres hbi hXb e3
      have ep2 : potF 3 t = 3 * t.length + 4 := by unfold potF; rw [if_neg (by decide)]
      have := IH k base side r u N G 3 (P_u (Ps (G_pg G)) p) d t q.1 c room v' xs' RX (i + 1) res Q hres (Or.inr rfl) hg hbi.2.1 (hXb (by simp)) hk hRX e3.2 (by omega) (by omega) (hGO.mv e2 e1 (by omega))
      rw [if_neg (by decide)] at this
      rw [e3.1]
      exact this
  · -- a branch of a side is over
    obtain ⟨u0, u1, uK, u3⟩ := up_ok hW p0 p1 a1
    rw [if_neg a1, if_neg (by omega), if_neg (by omega), if_neg (by omega), if_neg (by omega)]
    have hbe : behindA Ps G p d st = (G, (0, p, d, st)) := by unfold behindA; rw [if_neg a1, if_neg (by omega), if_neg (by omega), if_neg (by omega), if_pos a2]
    rw [hbe] at hres
    have hr := run_0 hres
    subst hr
    subst a3
    have exs := ch_nil hA.2.2.2.2.2.1
    subst exs
    exact hGO.2.1 rfl _ a4 s c room v i (SM.rf _ _ _ _) (KC.rf _ _ _) hA hi (by show i + 1 + gp G ≤ _; omega)
  · -- a call is over
    obtain ⟨u0, u1, uK, u3⟩ := up_ok hW p0 p1 a1
    rw [if_neg a1, if_neg (by omega), if_neg (by omega), if_neg (by omega), if_neg (by omega)]
    refine LV _ _ t a4 a5 a6 (by unfold isS; omega) (by omega) u0 u1 (Or.inr a2) ?_
    unfold behindA
    rw [if_neg a1, if_neg (by omega), if_neg (by omega), if_neg (by omega), if_neg (by omega), if_pos a2, a4]
end CGB
