/-! the invariants hold behind a step; what grows small -/
def wtC (sw : Int) (c : CT) : Int :=
  if c.1 = 2 then 501 - c.2.1 else if c.1 = 3 then 502 + 1000 * c.2.2.2.length + c.2.1 + (if sw = -1 then 0 else 1000) else if c.1 = 0 then 0 else 503 + 1000 * c.2.2.2.length + c.2.1 + (if sw = -1 then 0 else 1000)
section AI
variable {Ps : Int → PT} {szs : Int → Int → Int} {nP sec : Int} {sig : Int → Int64} {G G' : GT} {P : PT} {sz : Int → Int} {base ph : Int} {m p q : Int} {d d' : DT} {st : List FR} {c : CT} {side : Option Int}
theorem PHI.place (h : PHI P sz ph (m, p, d, st)) (hm : ¬ m = 3) : ∃ r f g, AN P r f (lastP st p) ∧ RA P g r ∧ ph ≤ r := by
  rcases h with ⟨h1, _⟩ | h
  · exact absurd h1 hm
  · exact h
/-- from a place that begins to a part of it -/
theorem PHI.into (h : PHI P sz ph (2, p, d, st)) (hu : P_u P q = p) (hp : ¬ p = -1) : PHI P sz ph (2, q, d', st) := by
  obtain ⟨r, f, g, h1, h2, h3⟩ := h.place (by decide)
  cases st with
  | nil => exact Or.inr ⟨r, f + 1, g, Or.inr ⟨(by show ¬ P_u P q = -1; rw [hu]; exact hp), (by show AN P r f (P_u P q); rw [hu]; exact h1)⟩, h2, h3⟩
  | cons x t => exact Or.inr ⟨r, f, g, h1, h2, h3⟩
/-- with a frame more -/
theorem PHI.frame {a : Int64} (h : PHI P sz ph (2, p, d, st)) : PHI P sz ph (m, q, d', (p, a) :: st) := by
  obtain ⟨r, f, g, h1, h2, h3⟩ := h.place (by decide)
  exact Or.inr ⟨r, f, g, h1, h2, h3⟩
theorem PHI.mode (h : PHI P sz ph (2, p, d, st)) : PHI P sz ph (m, p, d', st) := by
  obtain ⟨r, f, g, h1, h2, h3⟩ := h.place (by decide)
  exact Or.inr ⟨r, f, g, h1, h2, h3⟩
theorem VC.ok2 (h : VC P sz sec ph side base (2, p, d, st)) : 0 ≤ p ∧ p < P_n P ∧ isS (P_w P p) ∧ CNS P side p st ∧ (side = none → PHI P sz ph (2, p, d, st)) := by
  obtain ⟨h1, h2, h3, h4, h5 | h5 | h5⟩ := h
  · exact absurd h5.1 (by simp)
  · exact ⟨h5.2.1, h5.2.2.1, h5.2.2.2.1, h5.2.2.2.2.1, h5.2.2.2.2.2.1⟩
  · exact absurd h5.1 (by simp)
theorem VC.of2 (b0 : 0 ≤ base) (b1 : base + st.length ≤ 60) (p0 : 0 ≤ ph) (p1 : ph ≤ 500) (h0 : 0 ≤ q) (h1 : q < P_n P) (hs : isS (P_w P q)) (hc : CNS P side q st) (hp : side = none → PHI P sz ph (2, q, d, st)) : VC P sz sec ph side base (2, q, d, st) :=
  ⟨b0, b1, p0, p1, Or.inr (Or.inl ⟨Or.inr (Or.inl rfl), h0, h1, hs, hc, hp, fun z => absurd z (by simp)⟩)⟩
theorem VC.of3 (b0 : 0 ≤ base) (b1 : base + st.length ≤ 60) (p0 : 0 ≤ ph) (p1 : ph ≤ 500) (h0 : 0 ≤ q) (h1 : q < P_n P) (hs : isS (P_w P q)) (hc : CNS P side q st) (hp : side = none → PHI P sz ph (3, q, d, st)) : VC P sz sec ph side base (3, q, d, st) :=
  ⟨b0, b1, p0, p1, Or.inr (Or.inl ⟨Or.inr (Or.inr rfl), h0, h1, hs, hc, hp, fun z => absurd z (by simp)⟩)⟩
set_option maxHeartbeats 2000000 in
theorem begin_inv (hg : GW Ps szs nP sec G) (hP : Ps (G_pg G) = P) (hV : VC P (szs (G_pg G)) sec (G_ph G) side base (2, p, d, st)) (h : beginA Ps sig sec base G p d st = .inl (G', c)) :
    GW Ps szs nP sec G' ∧ G_pg G' = G_pg G ∧ G_ph G' = G_ph G ∧ G_sw G' = G_sw G ∧ VC P (szs (G_pg G)) sec (G_ph G) side base c ∧ ((G_bg G' = G_bg G ∧ wtC (G_sw G) c < wtC (G_sw G) (2, p, d, st)) ∨ (G_bg G' = G_bg G + 1)) ∧
    ((c.1 = 4 ∧ G_sd G' = G_sd G + 1 ∧ P_w P p = 18 ∧ c.2.1 = p) ∨ (¬ c.1 = 4 ∧ G_sd G' = G_sd G)) := by
  obtain ⟨h0, h1, hS, hC, hI⟩ := hV.ok2
  obtain ⟨b0, b1, p0, p1, _⟩ := hV
  have b1' : base + st.length ≤ 60 := b1
  have hW : WP P (szs (G_pg G)) := by rw [← hP]; exact hg.2.2.2.2.1 _ hg.2.2.2.2.2.1 hg.2.2.2.2.2.2.1
  have hk := hW.2.2.2.2.2.1 p h0 h1
  have hpn : ¬ p = -1 := by omega
  have hgb : ¬ G_bg G = 500 → GW Ps szs nP sec (G_begun G) := fun z => hg.begun z
  have hz1 : C1 P p → 1 ≤ szs (G_pg G) (p + 1) := fun z => (hW.2.2.2.2.2.1 (p + 1) (by omega) z.2.2).1
  unfold beginA at h
  rw [hP] at h
  by_cases hb5 : G_bg G = 500
  · by_cases c14 : P_w P p = 14
    · rw [if_pos c14] at h
      cases h
      rcases WK_S hk.2.2 hS with k | k | k | k | k | k | k | k
      · omega
      · obtain ⟨k0, k1, k2, k3, k4⟩ := k
        have hq : P_1 P p = p + 1 := k1.1.1
        refine ⟨hg, rfl, rfl, rfl, ?_, Or.inl ⟨rfl, ?_⟩, Or.inr ⟨by simp, rfl⟩⟩
        · rw [hq]
          exact VC.of2 b0 b1' p0 p1 (by omega) k1.1.2.2 k2 (hC.into k1.1.2.1 hpn (Or.inl (Or.inl k0))) (fun z => (hI z).into k1.1.2.1 hpn)
        · rw [hq]
          simp [wtC]
          omega
      all_goals omega
    · rw [if_neg c14, if_pos hb5] at h
      cases h
  have hg1 := hgb hb5
  rcases WK_S hk.2.2 hS with k | k | k | k | k | k | k | k
  · -- 10 11 12 13 19
    rw [if_neg (by omega), if_neg hb5] at h
    rcases k with k | k | k | k | k
    · rw [if_pos k] at h
      cases hx : evG Ps sig G (P_1 P p) with
      | inr x => rw [hx] at h; cases h
      | inl v =>
        rw [hx] at h
        cases h
        exact ⟨hg1, rfl, rfl, rfl, VC.of3 b0 b1' p0 p1 h0 h1 hS hC (fun z => (hI z).mode), Or.inr rfl, Or.inr ⟨by simp, rfl⟩⟩
    · rw [if_neg (by omega), if_pos k] at h
      cases hx : evG Ps sig G (P_1 P p) with
      | inr x => rw [hx] at h; cases h
      | inl v =>
        rw [hx] at h
        cases h
        exact ⟨hg1, rfl, rfl, rfl, VC.of3 b0 b1' p0 p1 h0 h1 hS hC (fun z => (hI z).mode), Or.inr rfl, Or.inr ⟨by simp, rfl⟩⟩
    · rw [if_neg (by omega), if_neg (by omega), if_pos k] at h
      cases hx : evG Ps sig G (P_1 P p) with
      | inr x => rw [hx] at h; cases h
      | inl v =>
        rw [hx] at h
        cases h
        by_cases cv : v < 1
        · simp only [if_pos cv]
          exact ⟨hg1, rfl, rfl, rfl, VC.of3 b0 b1' p0 p1 h0 h1 hS hC (fun z => (hI z).mode), Or.inr rfl, Or.inr ⟨by simp, rfl⟩⟩
        · simp only [if_neg cv]
          exact ⟨hg1, rfl, rfl, rfl, ⟨b0, b1', p0, p1, Or.inr (Or.inl ⟨Or.inl rfl, h0, h1, hS, hC, fun z => (hI z).mode, fun _ => ⟨Or.inl k, hg.2.2.1, Int.le_refl _, Int64.not_lt.mp cv⟩⟩)⟩, Or.inr rfl, Or.inr ⟨by simp, rfl⟩⟩
    · rw [if_neg (by omega), if_neg (by omega), if_neg (by omega), if_pos k] at h
      cases hx : evG Ps sig G (P_1 P p) with
      | inr x => rw [hx] at h; cases h
      | inl v =>
        rw [hx] at h
        cases hy : evG Ps sig G (P_2 P p) with
        | inr x => simp only [hy] at h; cases h
        | inl n =>
          simp only [hy] at h
          cases h
          by_cases cv : n < 1
          · simp only [if_pos cv]
            exact ⟨hg1, rfl, rfl, rfl, VC.of3 b0 b1' p0 p1 h0 h1 hS hC (fun z => (hI z).mode), Or.inr rfl, Or.inr ⟨by simp, rfl⟩⟩
          · simp only [if_neg cv]
            exact ⟨hg1, rfl, rfl, rfl, ⟨b0, b1', p0, p1, Or.inr (Or.inl ⟨Or.inl rfl, h0, h1, hS, hC, fun z => (hI z).mode, fun _ => ⟨Or.inr k, hg.2.2.1, Int.le_refl _, Int64.not_lt.mp cv⟩⟩)⟩, Or.inr rfl, Or.inr ⟨by simp, rfl⟩⟩
    · rw [if_neg (by omega), if_neg (by omega), if_neg (by omega), if_neg (by omega), if_neg (by omega), if_neg (by omega), if_neg (by omega), if_neg (by omega), if_pos k] at h
      have hrg : 0 ≤ (P_v P p).toInt ∧ (P_v P p).toInt < 8 := by
        rcases hk.2.2 with w | w | w | w | w | w | w | w | w | w | w | w | w | w | w | w
        all_goals first
          | (exfalso; have := w.1; have := w.2.1; omega)
          | (exfalso; have := w.1; omega)
          | exact w.2.1
      by_cases cn : G_n G (P_v P p).toInt = -1
      · rw [if_pos cn] at h; cases h
      · rw [if_neg cn] at h
        unfold pushA at h
        by_cases c60 : base + (st.length : Int) = 60
        · rw [if_pos c60] at h; cases h
        · rw [if_neg c60] at h
          cases h
          have hn := hg.2.2.2.2.2.2.2.2.2.2.2.2.2.2 _ hrg.1 hrg.2
          rw [hP] at hn
          rcases hn with hn | ⟨n0, n1, n2, n3, n4⟩
          · exact absurd hn cn
          · exact ⟨hg1, rfl, rfl, rfl, VC.of2 b0 (by simp; omega) p0 p1 n0 n1 n2 (hC.call (by omega) n4 h0 h1 k) (fun z => (hI z).frame), Or.inr rfl, Or.inr ⟨by simp, rfl⟩⟩
  · -- row
    obtain ⟨k0, k1, k2, k3, k4⟩ := k
    rw [if_pos k0] at h
    cases h
    have hq : P_1 P p = p + 1 := k1.1.1
    refine ⟨hg, rfl, rfl, rfl, ?_, Or.inl ⟨rfl, ?_⟩, Or.inr ⟨by simp, rfl⟩⟩
    · rw [hq]
      exact VC.of2 b0 b1' p0 p1 (by omega) k1.1.2.2 k2 (hC.into k1.1.2.1 hpn (Or.inl (Or.inl k0))) (fun z => (hI z).into k1.1.2.1 hpn)
    · rw [hq]
      simp [wtC]
      omega
  · -- if
    obtain ⟨k0, k1, k2, k3⟩ := k
    have z1 := hz1 k1.1
    rw [if_neg (by omega), if_neg hb5, if_neg (by omega), if_neg (by omega), if_neg (by omega), if_neg (by omega), if_pos k0] at h
    cases hx : evG Ps sig G (P_1 P p) with
    | inr x => rw [hx] at h; cases h
    | inl v =>
      rw [hx] at h
      cases h
      by_cases cv : v = 0
      · rw [if_neg (by simp [cv])]
        by_cases c3 : P_3 P p = -1
        · rw [if_pos c3]
          exact ⟨hg1, rfl, rfl, rfl, VC.of3 b0 b1' p0 p1 h0 h1 hS hC (fun z => (hI z).mode), Or.inr rfl, Or.inr ⟨by simp, rfl⟩⟩
        · rw [if_neg c3]
          rcases k3 with k3 | ⟨k3, k4⟩
          · exact absurd k3 c3
          · have z2 := (hW.2.2.2.2.2.1 (p + 1 + szs (G_pg G) (p + 1)) (by omega) k1.2.2.2).1
            rw [k3.2.1]
            exact ⟨hg1, rfl, rfl, rfl, VC.of2 b0 b1' p0 p1 (by omega) k3.2.2.2 k4 (hC.into k3.2.2.1 hpn (Or.inl (Or.inr (Or.inl k0)))) (fun z => (hI z).into k3.2.2.1 hpn), Or.inr rfl, Or.inr ⟨by simp, rfl⟩⟩
      · rw [if_pos cv, k1.2.1]
        exact ⟨hg1, rfl, rfl, rfl, VC.of2 b0 b1' p0 p1 (by omega) k1.2.2.2 k2 (hC.into k1.2.2.1 hpn (Or.inl (Or.inr (Or.inl k0)))) (fun z => (hI z).into k1.2.2.1 hpn), Or.inr rfl, Or.inr ⟨by simp, rfl⟩⟩
  · -- limit
    obtain ⟨k0, k1, k2, k3⟩ := k
    have z1 := hz1 k1.1.1
    have z2 := (hW.2.2.2.2.2.1 (p + 1 + szs (G_pg G) (p + 1)) (by omega) k1.1.2.2.2).1
    rw [if_neg (by omega), if_neg hb5, if_neg (by omega), if_neg (by omega), if_neg (by omega), if_neg (by omega), if_neg (by omega), if_pos k0] at h
    cases hx : evG Ps sig G (P_1 P p) with
    | inr x => rw [hx] at h; cases h
    | inl v =>
      rw [hx] at h
      by_cases cv : v = 0
      · simp only [if_pos cv] at h
        cases h
        rw [k1.2.1]
        exact ⟨hg1, rfl, rfl, rfl, VC.of2 b0 b1' p0 p1 (by omega) k1.2.2.2 k3 (hC.into k1.2.2.1 hpn (Or.inr ⟨k0, by rw [k1.1.2.1]; omega⟩)) (fun z => (hI z).into k1.2.2.1 hpn), Or.inr rfl, Or.inr ⟨by simp, rfl⟩⟩
      · simp only [if_neg cv, pushA] at h
        by_cases c60 : base + (st.length : Int) = 60
        · rw [if_pos c60] at h; cases h
        · rw [if_neg c60] at h
          cases h
          rw [k1.1.2.1]
          exact ⟨hg1, rfl, rfl, rfl, VC.of2 b0 (by simp; omega) p0 p1 (by omega) k1.1.2.2.2 k2 (hC.lim k1.1.2.2.1 hpn k0 k1.1.2.1.symm) (fun z => (hI z).frame), Or.inr rfl, Or.inr ⟨by simp, rfl⟩⟩
  · -- repeat
    obtain ⟨k0, k1, k2⟩ := k
    have z1 := hz1 k1.1
    rw [if_neg (by omega), if_neg hb5, if_neg (by omega), if_neg (by omega), if_neg (by omega), if_neg (by omega), if_neg (by omega), if_neg (by omega), if_pos k0] at h
    cases hx : evG Ps sig G (P_1 P p) with
    | inr x => rw [hx] at h; cases h
    | inl v =>
      rw [hx] at h
      by_cases cv : v < 1
      · simp only [if_pos cv] at h
        cases h
        exact ⟨hg1, rfl, rfl, rfl, VC.of3 b0 b1' p0 p1 h0 h1 hS hC (fun z => (hI z).mode), Or.inr rfl, Or.inr ⟨by simp, rfl⟩⟩
      · simp only [if_neg cv, pushA] at h
        by_cases c60 : base + (st.length : Int) = 60
        · rw [if_pos c60] at h; cases h
        · rw [if_neg c60] at h
          cases h
          rw [k1.2.1]
          exact ⟨hg1, rfl, rfl, rfl, VC.of2 b0 (by simp; omega) p0 p1 (by omega) k1.2.2.2 k2 (hC.rpt k1.2.2.1 hpn k0 (Int64.not_lt.mp cv)) (fun z => (hI z).frame), Or.inr rfl, Or.inr ⟨by simp, rfl⟩⟩
  · -- side
    obtain ⟨k0, k1, k2, k3⟩ := k
    rw [if_neg (by omega), if_neg hb5, if_neg (by omega), if_neg (by omega), if_neg (by omega), if_neg (by omega), if_neg (by omega), if_neg (by omega), if_neg (by omega), if_pos k0] at h
    unfold pushA at h
    by_cases c60 : base + (st.length : Int) = 60
    · rw [if_pos c60] at h; cases h
    · rw [if_neg c60] at h
      by_cases c99 : 1 + 2 * (G_sd G + 1) > 100
      · rw [if_pos c99] at h; cases h
      · rw [if_neg c99] at h
        cases h
        have hg2 : GW Ps szs nP sec (G_side (G_begun G) 1) := by
          obtain ⟨w1, w2, w3, w4, w5, w6, w7, w8, w9, w10, w11, w12, w13⟩ := hg1
          have e : G_sd (G_begun G) = G_sd G := rfl
          exact ⟨w1, w2, w3, w4, w5, w6, w7, w8, w9, w10, (by show 0 ≤ G_sd (G_begun G) + 1; omega), (by show G_sd (G_begun G) + 1 ≤ 49; omega), w13⟩
        exact ⟨hg2, rfl, rfl, rfl, ⟨b0, (by simp; omega), p0, p1, Or.inr (Or.inr ⟨rfl, h0, h1, k0, st, rfl, hC, fun z => (hI z).frame⟩)⟩, Or.inr rfl, Or.inl ⟨rfl, rfl, k0, rfl⟩⟩
  · -- bind
    obtain ⟨k0, k1, k2⟩ := k
    rw [if_neg (by omega), if_neg hb5, if_neg (by omega), if_neg (by omega), if_neg (by omega), if_neg (by omega), if_neg (by omega), if_neg (by omega), if_neg (by omega), if_neg (by omega), if_neg (by omega), if_pos k0] at h
    cases h
    have hg2 : GW Ps szs nP sec (G_setN (G_begun G) (P_v P p).toInt (P_1 P p)) := by
      obtain ⟨w1, w2, w3, w4, w5, w6, w7, w8, w9, w10, w11, w12, w13, w14, w15⟩ := hg1
      refine ⟨w1, w2, w3, w4, w5, w6, w7, w8, w9, w10, w11, w12, w13, w14, fun j j0 j1 => ?_⟩
      show upF (G_n (G_begun G)) (P_v P p).toInt (P_1 P p) j = -1 ∨ _
      show upF (G_n (G_begun G)) (P_v P p).toInt (P_1 P p) j = -1 ∨ (0 ≤ upF (G_n (G_begun G)) (P_v P p).toInt (P_1 P p) j ∧ upF (G_n (G_begun G)) (P_v P p).toInt (P_1 P p) j < P_n (Ps (G_pg G)) ∧ isS (P_w (Ps (G_pg G)) (upF (G_n (G_begun G)) (P_v P p).toInt (P_1 P p) j)) ∧ 0 ≤ P_u (Ps (G_pg G)) (upF (G_n (G_begun G)) (P_v P p).toInt (P_1 P p) j) ∧ P_w (Ps (G_pg G)) (P_u (Ps (G_pg G)) (upF (G_n (G_begun G)) (P_v P p).toInt (P_1 P p) j)) = 20)
      unfold upF
      by_cases e : j = (P_v P p).toInt
      · simp only [if_pos e, hP]
        refine Or.inr ⟨by rw [k1.1]; omega, by rw [k1.1]; exact k1.2.2, by rw [k1.1]; exact k2, by rw [k1.1, k1.2.1]; exact h0, by rw [k1.1, k1.2.1]; exact k0⟩
      · simp only [if_neg e]
        exact w15 j j0 j1
    exact ⟨hg2, rfl, rfl, rfl, VC.of3 b0 b1' p0 p1 h0 h1 hS hC (fun z => (hI z).mode), Or.inr rfl, Or.inr ⟨by simp, rfl⟩⟩
  · -- phase
    obtain ⟨k0, k1, k2, k3⟩ := k
    rw [if_neg (by omega), if_neg hb5, if_neg (by omega), if_neg (by omega), if_neg (by omega), if_neg (by omega), if_neg (by omega), if_neg (by omega), if_neg (by omega), if_neg (by omega), if_neg (by omega), if_neg (by omega)] at h
    cases h
    rw [k1.1]
    exact ⟨hg1, rfl, rfl, rfl, VC.of2 b0 b1' p0 p1 (by omega) k1.2.2 k2 (hC.into k1.2.1 hpn (Or.inl (Or.inr (Or.inr k0)))) (fun z => (hI z).into k1.2.1 hpn), Or.inr rfl, Or.inr ⟨by simp, rfl⟩⟩
end AI
