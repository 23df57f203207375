/-! the invariants behind the end of a statement -/
theorem phA_big {P : PT} : ∀ (f : Nat) (p n : Int), ¬ phA P f p n = -1 → n ≤ phA P f p n - p + 1 := by
  intro f
  induction f with
  | zero => intro p n h; exact absurd rfl h
  | succ f ih =>
    intro p n h
    simp only [phA] at h ⊢
    by_cases c : P_n P ≤ p
    · rw [if_pos c] at h; exact absurd rfl h
    · rw [if_neg c] at h ⊢
      by_cases c2 : isPh P p = true
      · rw [if_pos c2] at h ⊢
        by_cases c3 : n - 1 = 0
        · rw [if_pos c3] at h ⊢; omega
        · rw [if_neg c3] at h ⊢
          have := ih (p + 1) (n - 1) h
          omega
      · rw [if_neg c2] at h ⊢
        have := ih (p + 1) n h
        omega
section AI3
variable {Ps : Int → PT} {szs : Int → Int → Int} {nP sec : Int} {sig : Int → Int64} {G G' : GT} {P : PT} {sz : Int → Int} {base ph : Int} {m p q : Int} {d d' : DT} {st : List FR} {c : CT} {side : Option Int}
theorem RA.up (hu : P_u P p = q) (hq : ¬ q = -1) (h : ∃ f, RA P f p) : P_w P q = 14 ∧ ∃ f, RA P f q := by
  obtain ⟨f, h⟩ := h
  cases f with
  | zero => exact h.elim
  | succ f =>
    rcases h with h | ⟨h1, h2⟩
    · rw [hu] at h; exact absurd h hq
    · rw [hu] at h1 h2; exact ⟨h1, f, h2⟩
theorem RA.down (hu : P_u P p = q) (hw : P_w P q = 14) (h : ∃ f, RA P f q) : ∃ f, RA P f p := by
  obtain ⟨f, h⟩ := h
  exact ⟨f + 1, Or.inr ⟨by rw [hu]; exact hw, by rw [hu]; exact h⟩⟩
/-- up, without a frame -/
theorem PHI.up (h : PHI P sz ph (3, p, d, st)) (hu : P_u P p = q) (hq : ¬ q = -1) (hs : 1 ≤ sz q) (hpq : P_w P q = 14 → p + sz p ≤ q + sz q ∧ 1 ≤ sz p) : PHI P sz ph (3, q, d', st) := by
  cases st with
  | nil =>
    rcases h with ⟨_, _, h3, h4⟩ | ⟨r, f, g, h1, h2, h3⟩
    · have h3' : ∃ f, RA P f p := h3
      have h4' : ph ≤ p + sz p - 1 := h4
      obtain ⟨w, hr⟩ := RA.up hu hq h3'
      have := hpq w
      exact Or.inl ⟨rfl, rfl, hr, (by show ph ≤ q + sz q - 1; omega)⟩
    · have h1' : AN P r f p := h1
      cases f with
      | zero =>
        have e : r = p := h1'
        subst e
        obtain ⟨w, hr⟩ := RA.up hu hq ⟨g, h2⟩
        have := hpq w
        exact Or.inl ⟨rfl, rfl, hr, (by show ph ≤ q + sz q - 1; omega)⟩
      | succ f =>
        rcases h1' with e | ⟨z1, z2⟩
        · subst e
          obtain ⟨w, hr⟩ := RA.up hu hq ⟨g, h2⟩
          have := hpq w
          exact Or.inl ⟨rfl, rfl, hr, (by show ph ≤ q + sz q - 1; omega)⟩
        · rw [hu] at z2
          exact Or.inr ⟨r, f, g, z2, h2, h3⟩
  | cons x t =>
    rcases h with ⟨_, h2, _⟩ | ⟨r, f, g, h1, h2, h3⟩
    · cases h2
    · exact Or.inr ⟨r, f, g, h1, h2, h3⟩
/-- to the next of a row -/
theorem PHI.next {o2 : Int} (h : PHI P sz ph (3, p, d, st)) (hu : P_u P p = q) (hq : ¬ q = -1) (hw : P_w P q = 14) (hu2 : P_u P o2 = q) (he : o2 = p + sz p) (hs : 1 ≤ sz p) : PHI P sz ph (2, o2, d', st) := by
  cases st with
  | nil =>
    rcases h with ⟨_, _, h3, h4⟩ | ⟨r, f, g, h1, h2, h3⟩
    · have h3' : ∃ f, RA P f p := h3
      have h4' : ph ≤ p + sz p - 1 := h4
      obtain ⟨w, hr⟩ := RA.up hu hq h3'
      obtain ⟨g, hg⟩ := RA.down hu2 hw hr
      exact Or.inr ⟨o2, 0, g, rfl, hg, by omega⟩
    · have h1' : AN P r f p := h1
      cases f with
      | zero =>
        have e : r = p := h1'
        subst e
        obtain ⟨w, hr⟩ := RA.up hu hq ⟨g, h2⟩
        obtain ⟨g', hg⟩ := RA.down hu2 hw hr
        exact Or.inr ⟨o2, 0, g', rfl, hg, by omega⟩
      | succ f =>
        rcases h1' with e | ⟨z1, z2⟩
        · subst e
          obtain ⟨w, hr⟩ := RA.up hu hq ⟨g, h2⟩
          obtain ⟨g', hg⟩ := RA.down hu2 hw hr
          exact Or.inr ⟨o2, 0, g', rfl, hg, by omega⟩
        · rw [hu] at z2
          exact Or.inr ⟨r, f + 1, g, Or.inr ⟨(by show ¬ P_u P o2 = -1; rw [hu2]; exact hq), (by show AN P r f (P_u P o2); rw [hu2]; exact z2)⟩, h2, h3⟩
  | cons x t =>
    rcases h with ⟨_, h2, _⟩ | ⟨r, f, g, h1, h2, h3⟩
    · cases h2
    · exact Or.inr ⟨r, f, g, h1, h2, h3⟩
theorem PHI.pop {x : Int} {a : Int64} (h : PHI P sz ph (3, p, d, (x, a) :: st)) : PHI P sz ph (m, x, d', st) := by
  rcases h with ⟨_, h2, _⟩ | ⟨r, f, g, h1, h2, h3⟩
  · cases h2
  · exact Or.inr ⟨r, f, g, h1, h2, h3⟩
theorem PHI.again {x : Int} {a a' : Int64} (h : PHI P sz ph (3, p, d, (x, a) :: st)) : PHI P sz ph (m, q, d', (x, a') :: st) := by
  rcases h with ⟨_, h2, _⟩ | ⟨r, f, g, h1, h2, h3⟩
  · cases h2
  · exact Or.inr ⟨r, f, g, h1, h2, h3⟩
/-- at the end of a phase there is room for one more -/
theorem PHI.phase (hW : WP P sz) (h : PHI P sz ph (3, p, d, [])) (hu : P_u P p = q) (q0 : 0 ≤ q) (q1 : q < P_n P) (hw : P_w P q = 21) : ph ≤ q := by
  have hq : ¬ q = -1 := by omega
  rcases h with ⟨_, _, h3, h4⟩ | ⟨r, f, g, h1, h2, h3⟩
  · obtain ⟨w, _⟩ := RA.up hu hq h3
    omega
  · have h1' : AN P r f p := h1
    cases f with
    | zero =>
      have e : r = p := h1'
      subst e
      obtain ⟨w, _⟩ := RA.up hu hq ⟨g, h2⟩
      omega
    | succ f =>
      rcases h1' with e | ⟨z1, z2⟩
      · subst e
        obtain ⟨w, _⟩ := RA.up hu hq ⟨g, h2⟩
        omega
      · rw [hu] at z2
        have := AN_le hW f q q0 q1 z2
        omega
theorem VC.ok3 (h : VC P sz sec ph side base (3, p, d, st)) : 0 ≤ p ∧ p < P_n P ∧ isS (P_w P p) ∧ CNS P side p st ∧ (side = none → PHI P sz ph (3, p, d, st)) := by
  obtain ⟨h1, h2, h3, h4, h5 | h5 | h5⟩ := h
  · exact absurd h5.1 (by simp)
  · exact ⟨h5.2.1, h5.2.2.1, h5.2.2.2.1, h5.2.2.2.2.1, h5.2.2.2.2.2.1⟩
  · exact absurd h5.1 (by simp)
/-- what behind needs -/
theorem CNS.ne (h : CNS P side p st) : (P_w P (P_u P p) = 16 ∧ p = P_2 P (P_u P p)) ∨ P_w P (P_u P p) = 17 ∨ P_w P (P_u P p) = 20 → ¬ P_u P p = -1 → ¬ st = [] := by
  intro hw hu he
  rcases h.inv with ⟨a, _⟩ | ⟨_, a, _⟩ | ⟨_, _, _, _, _, a, _⟩ | ⟨_, _, _, _, a, _⟩ | ⟨_, a, _⟩ | ⟨_, _, _, _, _, a, _⟩
  · exact hu a
  · rcases hw with ⟨w, w2⟩ | w | w
    · rcases a with a | ⟨a, a2⟩
      · omega
      · exact a2 w2
    · omega
    · omega
  · rw [he] at a; cases a
  · rw [he] at a; cases a
  · omega
  · rw [he] at a; cases a
/-- what the end of a statement leaves, said once -/
def BhI (Ps : Int → PT) (szs : Int → Int → Int) (nP sec : Int) (side : Option Int) (base : Int) (G : GT) (c : CT) (r : GT × CT) : Prop :=
  GW Ps szs nP sec r.1 ∧ VC (Ps (G_pg r.1)) (szs (G_pg r.1)) sec (G_ph r.1) side base r.2 ∧ G_bg r.1 = G_bg G ∧ G_sd r.1 = G_sd G ∧ wtC (G_sw r.1) r.2 < wtC (G_sw G) c ∧ (G_sw r.1 = G_sw G ∨ G_sw r.1 = -1) ∧
  (∀ z, side = some z → G_pg r.1 = G_pg G ∧ G_ph r.1 = G_ph G ∧ G_sw r.1 = G_sw G) ∧ (r.2.1 = 0 ∨ r.2.1 = 2 ∨ r.2.1 = 3)
theorem RA.nil : ∀ (f : Nat) (q : Int), RA P f q → CNS P side q st → st = [] ∧ side = none := by
  intro f
  induction f with
  | zero => intro q h; exact h.elim
  | succ f ih =>
    intro q h hc
    rcases hc.inv with ⟨a1, a2, a3⟩ | ⟨a1, a2, a3⟩ | ⟨a1, a2, a3, x, t, a4, a5⟩ | ⟨a1, a2, x, t, a4, a5, a6⟩ | ⟨a1, a2, a3, a4⟩ | ⟨a1, a2, y, x, t, a4, a5, a6, a7, a8⟩
    · exact ⟨a2, a3⟩
    · rcases h with h | ⟨h1, h2⟩
      · exact absurd h a1
      · exact ih _ h2 a3
    all_goals
      rcases h with h | ⟨h1, h2⟩
      · exact absurd h a1
      · omega
set_option maxHeartbeats 2000000 in
theorem behind_inv (hg : GW Ps szs nP sec G) (hP : Ps (G_pg G) = P) (hV : VC P (szs (G_pg G)) sec (G_ph G) side base (3, p, d, st)) : BhI Ps szs nP sec side base G (3, p, d, st) (behindA Ps G p d st) := by
  obtain ⟨h0, h1, hS, hC, hI⟩ := hV.ok3
  obtain ⟨b0, b1, p0, p1, _⟩ := hV
  have b1' : base + st.length ≤ 60 := b1
  have hW : WP P (szs (G_pg G)) := by rw [← hP]; exact hg.2.2.2.2.1 _ hg.2.2.2.2.2.1 hg.2.2.2.2.2.2.1
  have hn := hW.2.1
  have hzp := (hW.2.2.2.2.2.1 p h0 h1).1
  have wt3 : wtC (G_sw G) (3, p, d, st) = 502 + 1000 * st.length + p + (if G_sw G = -1 then 0 else 1000) := by simp [wtC]
  have hsw0 : (0 : Int) ≤ (if G_sw G = -1 then 0 else 1000) := by split <;> omega
  have fin3 : ∀ (x : Int) (t : List FR), 0 ≤ x → x < P_n P → isS (P_w P x) → CNS P side x t → (side = none → PHI P (szs (G_pg G)) (G_ph G) (3, x, d, t)) → ((t.length = st.length ∧ x < p) ∨ t.length + 1 = st.length) → BhI Ps szs nP sec side base G (3, p, d, st) (G, (3, x, d, t)) := by
    intro x t x0 x1 x2 x3 x4 x5
    refine ⟨hg, ?_, rfl, rfl, ?_, Or.inl rfl, fun z hz => ⟨rfl, rfl, rfl⟩, Or.inr (Or.inr rfl)⟩
    · rw [hP]; exact VC.of3 b0 (by omega) p0 p1 x0 x1 x2 x3 x4
    · rw [wt3]; simp only [wtC]; simp; omega
  have fin2 : ∀ (x : Int) (t : List FR), 0 ≤ x → x < P_n P → isS (P_w P x) → CNS P side x t → (side = none → PHI P (szs (G_pg G)) (G_ph G) (2, x, d, t)) → t.length = st.length → BhI Ps szs nP sec side base G (3, p, d, st) (G, (2, x, d, t)) := by
    intro x t x0 x1 x2 x3 x4 x5
    refine ⟨hg, ?_, rfl, rfl, ?_, Or.inl rfl, fun z hz => ⟨rfl, rfl, rfl⟩, Or.inr (Or.inl rfl)⟩
    · rw [hP]; exact VC.of2 b0 (by omega) p0 p1 x0 x1 x2 x3 x4
    · rw [wt3]; simp only [wtC]; simp; omega
  have fin0 : st = [] → BhI Ps szs nP sec side base G (3, p, d, st) (G, (0, p, d, st)) := by
    intro e
    refine ⟨hg, ?_, rfl, rfl, ?_, Or.inl rfl, fun z hz => ⟨rfl, rfl, rfl⟩, Or.inl rfl⟩
    · rw [hP]; exact ⟨b0, b1', p0, p1, Or.inl ⟨rfl, e⟩⟩
    · rw [wt3]; simp [wtC]; omega
  unfold behindA
  rw [hP]
  by_cases a1 : P_u P p = -1
  · rw [if_pos a1]
    rcases hC.inv with ⟨_, a2, _⟩ | ⟨a, _⟩ | ⟨a, _⟩ | ⟨a, _⟩ | ⟨a, _⟩ | ⟨a, _⟩
    · exact fin0 a2
    all_goals exact absurd a1 a
  rw [if_neg a1]
  have hp0 : ¬ p = 0 := fun z => a1 (by rw [z]; exact hW.2.2.2.1)
  obtain ⟨u0, u1, u3, u2⟩ := hW.2.2.2.2.2.2 p (by omega) h1
  have uk := hW.2.2.2.2.2.1 (P_u P p) u0 (by omega)
  have hinv := hC.inv
  generalize hqe : P_u P p = q at *
  rcases hinv with ⟨a, _⟩ | ⟨_, a2, a3⟩ | ⟨_, a2, a3, x, t, a4, a5⟩ | ⟨_, a2, x, t, a4, a5, a6⟩ | ⟨_, a2, a3, a4⟩ | ⟨_, a2, y, x, t, a4, a5, a6, a7, a8⟩
  · exact absurd a a1
  · have qS : isS (P_w P q) := by unfold isS; omega
    have up3 : BhI Ps szs nP sec side base G (3, p, d, st) (G, (3, q, d, st)) := fin3 q st u0 (by omega) qS a3 (fun z => (hI z).up hqe a1 uk.1 (fun _ => ⟨u3, hzp⟩)) (Or.inl ⟨rfl, u1⟩)
    rcases a2 with (c | c | c) | ⟨c, c2⟩
    · rw [if_pos c]
      rcases WK_S uk.2.2 qS with k | k | k | k | k | k | k | k
      · omega
      · obtain ⟨k0, k1, k2, k3, k4⟩ := k
        have z1 := (hW.2.2.2.2.2.1 (q + 1) (by omega) k1.1.2.2).1
        by_cases cp : p = P_1 P q
        · rw [if_pos cp]
          have e2 : P_2 P q = p + szs (G_pg G) p := by rw [k1.2.1, cp, k1.1.1]
          rw [e2]
          have e3 : p + szs (G_pg G) p = q + 1 + szs (G_pg G) (q + 1) := by rw [cp, k1.1.1]
          rw [e3]
          exact fin2 _ st (by omega) k1.2.2.2 k3 (a3.into k1.2.2.1 a1 (Or.inl (Or.inl c))) (fun z => (hI z).next hqe a1 c k1.2.2.1 e3.symm hzp) rfl
        · rw [if_neg cp]; exact up3
      all_goals omega
    · rw [if_neg (by omega), if_neg (by omega), if_neg (by omega), if_neg (by omega), if_neg (by omega), if_neg (by omega)]
      exact up3
    · rw [if_neg (by omega), if_neg (by omega), if_neg (by omega), if_neg (by omega), if_neg (by omega), if_pos c]
      by_cases cph : isPh P q = true
      · rw [if_pos cph]
        obtain ⟨_, g, hra⟩ := isPh_RA cph
        obtain ⟨e1, e2⟩ := RA.nil g q hra a3
        subst e1
        have hle := (hI e2).phase hW hqe u0 (by omega) c
        have hz2 : 2 ≤ szs (G_pg G) q := by
          rcases WK_S uk.2.2 qS with k | k | k | k | k | k | k | k
          · omega
          · omega
          · omega
          · omega
          · omega
          · omega
          · omega
          · have := (hW.2.2.2.2.2.1 (q + 1) (by omega) k.2.1.2.2).1
            have := k.2.2.2
            omega
        have hgp : GW Ps szs nP sec (G_phase G) := by
          obtain ⟨w1, w2, w3, w4, w5, w6, w7, w8, w9, w10, w11, w12, w13, w14, w15⟩ := hg
          exact ⟨w1, w2, w3, w4, w5, w6, w7, w8, w9, w10, w11, w12, (by show 0 ≤ G_ph G + 1; omega), (by show G_ph G + 1 ≤ 900000; omega), w15⟩
        unfold phaseA
        by_cases cs : G_sw G = -1
        · rw [if_pos cs]
          refine ⟨hgp, ?_, rfl, rfl, ?_, Or.inl rfl, fun z hz => (by rw [e2] at hz; cases hz), Or.inr (Or.inr rfl)⟩
          · show VC (Ps (G_pg G)) (szs (G_pg G)) sec (G_ph G + 1) side base (3, q, d, [])
            rw [hP]
            exact VC.of3 b0 b1' (by omega) (by omega) u0 (by omega) qS a3 (fun _ => Or.inl ⟨rfl, rfl, ⟨g, hra⟩, (by show G_ph G + 1 ≤ q + szs (G_pg G) q - 1; omega)⟩)
          · show wtC (G_sw G) (3, q, d, []) < _
            rw [wt3]; simp only [wtC]; simp; omega
        · rw [if_neg cs]
          have hgo : GW Ps szs nP sec (G_over (G_phase G)) := by
            obtain ⟨w1, w2, w3, w4, w5, w6, w7, w8, w9, w10, w11, w12, w13, w14, w15⟩ := hgp
            have w8' : G_sw G = -1 ∨ (0 ≤ G_sw G ∧ G_sw G < nP) := w8
            exact ⟨w1, w2, w3, w4, w5, (by show 0 ≤ G_sw G; omega), (by show G_sw G < nP; omega), Or.inl rfl, w9, w10, w11, w12, w13, w14, fun j _ _ => Or.inl rfl⟩
          have hW2 := hgo.2.2.2.2.1 _ hgo.2.2.2.2.2.1 hgo.2.2.2.2.2.2.1
          by_cases cp : phA (Ps (G_sw G)) 501 0 (G_ph G + 1) = -1
          · rw [if_pos cp]
            refine ⟨hgo, ?_, rfl, rfl, ?_, Or.inr rfl, fun z hz => (by rw [e2] at hz; cases hz), Or.inl rfl⟩
            · exact ⟨b0, b1', (by show 0 ≤ G_ph G + 1; omega), (by show G_ph G + 1 ≤ 500; omega), Or.inl ⟨rfl, rfl⟩⟩
            · rw [wt3]; simp [wtC]; omega
          · rw [if_neg cp]
            have hbig := phA_big 501 0 (G_ph G + 1) cp
            rcases phA_rg (P := Ps (G_sw G)) 501 0 (G_ph G + 1) (by omega) with z | ⟨z1, z2, z3, z4⟩
            · exact absurd z cp
            obtain ⟨z5, g2, hra2⟩ := isPh_RA z4
            have hW2' : WP (Ps (G_sw G)) (szs (G_sw G)) := hW2
            have hk2 := hW2'.2.2.2.2.2.1 _ z1 z3
            have hS2 : isS (P_w (Ps (G_sw G)) (phA (Ps (G_sw G)) 501 0 (G_ph G + 1))) := by unfold isS; omega
            have hz3 : 2 ≤ szs (G_sw G) (phA (Ps (G_sw G)) 501 0 (G_ph G + 1)) := by
              rcases WK_S hk2.2.2 hS2 with k | k | k | k | k | k | k | k
              · omega
              · omega
              · omega
              · omega
              · omega
              · omega
              · omega
              · have := (hW2'.2.2.2.2.2.1 _ (by omega) k.2.1.2.2).1
                have := k.2.2.2
                omega
            have hn2 := hW2'.2.1
            refine ⟨hgo, ?_, rfl, rfl, ?_, Or.inr rfl, fun z hz => (by rw [e2] at hz; cases hz), Or.inr (Or.inr rfl)⟩
            · show VC (Ps (G_sw G)) (szs (G_sw G)) sec (G_ph G + 1) side base (3, phA (Ps (G_sw G)) 501 0 (G_ph G + 1), d, [])
              rw [e2]
              exact VC.of3 b0 b1' (by omega) (by omega) z1 z3 hS2 (RA.cns g2 _ hra2) (fun _ => Or.inl ⟨rfl, rfl, ⟨g2, hra2⟩, (by show G_ph G + 1 ≤ phA (Ps (G_sw G)) 501 0 (G_ph G + 1) + szs (G_sw G) (phA (Ps (G_sw G)) 501 0 (G_ph G + 1)) - 1; omega)⟩)
            · show wtC (-1) (3, phA (Ps (G_sw G)) 501 0 (G_ph G + 1), d, []) < _
              rw [wt3, if_neg cs]; simp only [wtC]; simp; omega
      · rw [if_neg cph]; exact up3
    · rw [if_neg (by omega), if_pos c, if_neg c2]
      exact up3
  · rw [if_neg (by omega), if_pos a2, if_pos a3]
    subst a4
    exact fin3 q t u0 (by omega) (by unfold isS; omega) a5 (fun z => (hI z).pop) (Or.inr (by simp))
  · rw [if_neg (by omega), if_neg (by omega), if_pos a2]
    subst a4
    by_cases ca : 0 < x - 1
    · simp only [if_pos ca]
      refine fin2 p ((q, x - 1) :: t) h0 h1 hS (a6.rpt hqe a1 a2 ?_) (fun z => (hI z).again) (by simp)
      rw [Int64.le_iff_toInt_le]
      rw [Int64.lt_iff_toInt_lt] at ca
      have e0 : (0 : Int64).toInt = 0 := rfl
      have e1 : (1 : Int64).toInt = 1 := rfl
      omega
    · simp only [if_neg ca]
      exact fin3 q t u0 (by omega) (by unfold isS; omega) a6 (fun z => (hI z).pop) (Or.inr (by simp))
  · rw [if_neg (by omega), if_neg (by omega), if_neg (by omega), if_pos a2]
    exact fin0 a3
  · rw [if_neg (by omega), if_neg (by omega), if_neg (by omega), if_neg (by omega), if_pos a2]
    subst a4
    exact fin3 y t a5 a6 (by unfold isS; omega) a8 (fun z => (hI z).pop) (Or.inr (by simp))
end AI3
