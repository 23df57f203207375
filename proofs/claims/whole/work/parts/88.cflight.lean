/-! THE WALKER, a branch in flight -/
section CFL
variable {o : X_O} {s : Q_S} {r n np : Nat} {P : PT} {sz th : Int → Int}
theorem d_37 (hR0 : q_T s r = some (shR0 r)) (hRa : ∀ i t, shRa n np i = some t → q_T s (r + i) = some t) (hn : (n : Int) = P_n P) (h5 : P_n P ≤ 500) (hk : ∀ p, 0 ≤ p → p < P_n P → q_I s (r + 3) p = sz p) {p : Int} (h0 : 0 ≤ p) (h1 : p + 1 < P_n P) : QW (fun n => g_37 o n 0 s r p) (fun q => q = (s, p + 1 + sz (p + 1))) := by
  refine QW_s ?_
  simp only [g_37]
  refine QW_p (k_gv hR0 rfl rfl) ?_
  refine QW_p (k_ia (hRa _ _ rfl) (by omega) (by omega) (by omega)) ?_
  rw [hk (p + 1) (by omega) h1]
  exact QW_ret rfl
theorem d_38 (hR0 : q_T s r = some (shR0 r)) (hRa : ∀ i t, shRa n np i = some t → q_T s (r + i) = some t) (hn : (n : Int) = P_n P) (h5 : P_n P ≤ 500) (hk : ∀ p, 0 ≤ p → p < P_n P → q_I s (r + 3) p = sz p) {p : Int} (h0 : 0 ≤ p) (h1 : p + 1 < P_n P) (h2 : 0 ≤ p + 1 + sz (p + 1)) (h3 : p + 1 + sz (p + 1) < P_n P) : QW (fun n => g_38 o n 0 s r p) (fun q => q = (s, p + 1 + sz (p + 1) + sz (p + 1 + sz (p + 1)))) := by
  refine QW_s ?_
  simp only [g_38]
  refine QW_p (k_rc hR0) ?_
  refine QW_e (d_37 hR0 hRa hn h5 hk h0 h1) ?_
  dsimp only
  refine QW_p (k_gv hR0 rfl rfl) ?_
  refine QW_p (k_ia (hRa _ _ rfl) h2 (by omega) (by omega)) ?_
  rw [hk _ h2 h3]
  exact QW_ret rfl
end CFL
/-- what is put in stands on the side that the branch is on -/
def ORt (P : PT) (sz : Int → Int) (side : Option Int) (r : Bool) (st : List FR) (p : Int) : Prop := match st with
  | (q, _) :: _ => ¬ P_w P q = 18
  | [] => ∀ q, side = some q → 0 ≤ q ∧ q + 1 < P_n P ∧ (r = true → q + 1 + sz (q + 1) ≤ p) ∧ (r = false → p < q + 1 + sz (q + 1))
/-- a branch in flight -/
def CA (Ps : Int → PT) (szs ths : Int → Int → Int) (rc : Int → Nat) (nP sec : Int) (sig : Int → Int64) (G : GT) (s : Q_S) (c room : Nat) (v : CV) (side : Option Int) (base : Nat) (u : Int) (r : Bool) (N : Int) (st : List FR) (xs RX : List Int) : Prop :=
  CG Ps szs ths rc nP sec sig G s c ∧ VW s 24 c room v ∧ VB v ∧ 9 ≤ room ∧ v_s v = G_sd G ∧ chV v (Ps (G_pg G)) base u r st xs ∧ CWd v (xs ++ RX) ∧ CX v RX base u r N side ∧ q_F s 35 4 = hdI xs u ∧ (xs ≠ [] → vI v 5 (hdI xs u) = -1) ∧ slotV v (hdI xs u) (rsI xs r) = -1
section CFA
variable {o : X_O} {Ps : Int → PT} {szs ths : Int → Int → Int} {rc : Int → Nat} {nP sec : Int} {sig : Int → Int64} {G G' : GT} {s s' : Q_S} {c room c' room' : Nat} {v v' : CV} {side : Option Int} {base : Nat} {u N : Int} {r : Bool} {st : List FR} {xs RX : List Int}
theorem CA.hd (h : CA Ps szs ths rc nP sec sig G s c room v side base u r N st xs RX) : -1 ≤ hdI xs u ∧ hdI xs u < v_u v ∧ (hdI xs u = -1 → xs = [] ∧ u = -1 ∧ r = false) := by
  obtain ⟨h1, h2, h3, h4, h5, h6, ⟨fl, w1, w2, w3, w4, w5⟩, h8, h9, h10, h11⟩ := h
  have ge := (chV_ge st xs h6).1
  cases xs with
  | nil =>
    show -1 ≤ u ∧ u < v_u v ∧ (u = -1 → _)
    rcases h8.1.depth.2 with z | z
    · have := h2.2.2.2.2.2.2.2.2.1
      refine ⟨by omega, by omega, fun _ => ⟨rfl, z, ?_⟩⟩
      cases side with
      | none => exact h8.2.2.2
      | some q => have := h8.2.2.1; omega
    · have := w3 u (List.mem_append_left _ (List.mem_append_right _ z))
      exact ⟨by omega, by omega, fun q => by omega⟩
  | cons x ys =>
    have := w3 x (List.mem_append_left _ (List.mem_append_left _ List.mem_cons_self))
    exact ⟨by show -1 ≤ x; omega, this.2, fun q => by have q : x = -1 := q; omega⟩
theorem d_74 (h : CA Ps szs ths rc nP sec sig G s c room v side base u r N st xs RX) (hg : GW Ps szs nP sec G) {p : Int} (hp : 0 ≤ p ∧ p < 500) (hO : ORt (Ps (G_pg G)) (szs (G_pg G)) side r st p) {t : Int} :
    QW (fun n => g_74 o n 0 s 35 p t) (fun q => q = (s, if rsI xs r = true then 1 else 0)) := by
  have hh := h.hd
  obtain ⟨⟨hs, h20, a3, a4, a5, a6, a7, a8, a9, a10, a11, a12, a13⟩, h2, h3, h4, h5, h6, h7, h8, h9, h10, h11⟩ := h
  obtain ⟨hF0, hFa, w1, w2, w3, w4, w5, w6, w7, w8, w9, w10, w11, w12⟩ := h2
  have hgW := hg.2.2.2.2.1 _ hg.2.2.2.2.2.1 hg.2.2.2.2.2.2.1
  obtain ⟨⟨n, np, ⟨hR0, hRa⟩, hn, hnp, f7, f8, hk, hK, hph1, hph2⟩, -⟩ := a13 _ hg.2.2.2.2.2.1 hg.2.2.2.2.2.2.1
  have K1 : QW (fun n => g_74 o n 1 s 0 0 0) (fun q => q = (s, 0)) := by
    refine QW_s ?_
    simp only [g_74]
    exact QW_ret rfl
  refine QW_s ?_
  simp only [g_74]
  refine QW_p (k_gi (hs _ _ rfl) rfl) ?_
  rw [h9]
  refine QW_g (by omega) ?_
  refine QW_by (fun z => ?_) (fun z => ?_)
  · obtain ⟨z1, z2, z3⟩ := hh.2.2 z
    have e : rsI xs r = false := by rw [z1]; exact z3
    rw [e, if_neg (by decide)]
    exact K1
  · refine QW_p (k_gv (hs _ _ rfl) rfl rfl) ?_
    refine QW_p (k_gv hF0 rfl rfl) ?_
    refine QW_p (k_gi (hs _ _ rfl) rfl) ?_
    rw [h9]
    refine QW_p (k_ia (hFa _ _ rfl) (by omega) (by omega) (by omega)) ?_
    rw [w1 1 _ (by decide) (by decide) (by omega) hh.2.1]
    have b := (h3.1 _ (by omega) hh.2.1).1
    refine QW_g (by omega) ?_
    cases xs with
    | cons x ys =>
      rw [show rsI (x :: ys) r = false from rfl, if_neg (by decide)]
      cases st with
      | nil => exact h6.elim
      | cons q t =>
        obtain ⟨q, a⟩ := q
        have e : vI v 1 x = P_w (Ps (G_pg G)) q := h6.1.2.1
        refine QW_if (by show ¬ vI v 1 x = 18; rw [e]; exact hO) ?_
        exact K1
    | nil =>
      cases st with
      | cons _ _ => exact h6.elim
      | nil =>
        cases side with
        | none => exact absurd h8.2.2.1 z
        | some q =>
          obtain ⟨g1, g2, g3, g4⟩ := h8.2.2
          obtain ⟨o1, o2, o3, o4⟩ := hO q rfl
          have hu : u < v_u v := hh.2.1
          refine QW_it g3 ?_
          refine QW_p (k_gv (hs _ _ rfl) rfl rfl) ?_
          refine QW_p (k_gv h20 rfl rfl) ?_
          refine QW_p (k_gv (hs _ _ rfl) rfl rfl) ?_
          refine QW_p (k_gv hF0 rfl rfl) ?_
          refine QW_p (k_gi (hs _ _ rfl) rfl) ?_
          rw [h9]
          refine QW_p (k_ia (hFa _ _ rfl) g1 (by show u < room; omega) (by omega)) ?_
          rw [show q_I s (c + 2) (hdI [] u) = q from (w1 2 u (by decide) (by decide) g1 hu).trans g4]
          refine QW_p (k_rc hR0) ?_
          refine QW_e (d_37 hR0 hRa hn hgW.2.1 (fun p a b => (hk p a b).2.2.1) o1 o2) ?_
          dsimp only
          have hz := hgW.2.2.2.2.2.1 (q + 1) (by omega) o2
          have hn5 := hgW.2.1
          refine QW_g (by omega) ?_
          have K2 : ∀ b : Int, b = 0 ∨ b = 1 → QW (fun n => g_74 o n 2 s 0 0 b) (fun q => q = (s, b)) := fun b hb => by
            refine QW_s ?_
            simp only [g_74]
            refine QW_g hb ?_
            exact QW_ret rfl
          cases r with
          | false =>
            refine QW_it (o4 rfl) ?_
            exact K2 0 (Or.inl rfl)
          | true =>
            refine QW_if (by have := o3 rfl; omega) ?_
            exact K2 1 (Or.inr rfl)
/-- the frame's own number set -/
theorem VW.amt (h : VW s 24 c room v) {i : Nat} {x : Int} {a : Int64} (i0 : 8 ≤ i) (i1 : i ≤ 10) (x0 : 0 ≤ x) (x1 : x < v_u v) : VW (q_sl s (c + i) x a) 24 c room (v.1, (fun j y => if j = i ∧ y = x then a else v.2.1 j y), v.2.2) := by
  obtain ⟨hF0, hFa, w1, w2, w3, w4, w5, w6, w7, w8, w9, w10, w11, w12⟩ := h
  refine ⟨hF0, hFa, w1, fun j y j0 j1 y0 y1 => ?_, w3, w4, w5, w6, w7, w8, w9, w10, w11, w12⟩
  rw [q_L_sl]
  show _ = if j = i ∧ y = x then a else v.2.1 j y
  by_cases z : j = i ∧ y = x
  · rw [if_pos ⟨by omega, z.2⟩, if_pos z]
  · rw [if_neg (fun q => z ⟨by omega, q.2⟩), if_neg z]
    exact w2 j y j0 j1 y0 y1
theorem VW.snc (h : VW s 24 c room v) {i : Nat} {x a : Int} (i0 : 1 ≤ i) (i1 : i ≤ 7) (x0 : 0 ≤ x) (x1 : x < v_u v) : VW (q_si s (c + i) x a) 24 c room ((fun j y => if j = i ∧ y = x then a else v.1 j y), v.2) := by
  obtain ⟨hF0, hFa, w1, w2, w3, w4, w5, w6, w7, w8, w9, w10, w11, w12⟩ := h
  have hf : ∀ f : Nat, q_F (q_si s (c + i) x a) 24 f = q_F s 24 f := fun f => by rw [q_F_si, if_neg (by omega)]
  refine ⟨hF0, hFa, fun j y j0 j1 y0 y1 => ?_, w2, (hf 10).trans w3, (hf 11).trans w4, (hf 12).trans w5, (hf 13).trans w6, w7, w8, w9, w10, w11, w12⟩
  rw [q_I_si]
  show _ = if j = i ∧ y = x then a else v.1 j y
  by_cases z : j = i ∧ y = x
  · rw [if_pos ⟨by omega, z.2⟩, if_pos z]
  · rw [if_neg (fun q => z ⟨by omega, q.2⟩), if_neg z]
    exact w1 j y j0 j1 y0 y1
end CFA
