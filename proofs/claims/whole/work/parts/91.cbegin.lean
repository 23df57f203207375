/-! THE WALKER BEGINS A STATEMENT: numbers, waits, ramps, choices -/
/-- the run is held: what stands then -/
def CF (Ps : Int → PT) (szs ths : Int → Int → Int) (rc : Int → Nat) (nP sec : Int) (sig : Int → Int64) (s : Q_S) (c room : Nat) (G : GT) (x : Int × Int) (s' : Q_S) : Prop :=
  ∃ s1 c1 room1 v1 b, s' = c_flt s1 x.1 x.2 ∧ CG Ps szs ths rc nP sec sig (G_bgb G b) s1 c1 ∧ VW s1 24 c1 room1 v1 ∧ VB v1 ∧ 9 ≤ room1 ∧ v_u v1 ≤ 6500 ∧ KC s c room s1 c1 room1
/-- a side's two branches, to begin -/
def CS (Ps : Int → PT) (szs ths : Int → Int → Int) (rc : Int → Nat) (nP sec : Int) (sig : Int → Int64) (G : GT) (s : Q_S) (c room : Nat) (v : CV) (side : Option Int) (base : Nat) (u : Int) (r : Bool) (N : Int) (p : Int) (st : List FR) (yl yr : Int) (xs RX : List Int) : Prop :=
  CG Ps szs ths rc nP sec sig G s c ∧ VW s 24 c room v ∧ VB v ∧ 9 ≤ room ∧ v_s v = G_sd G ∧ chV v (Ps (G_pg G)) base u r st xs ∧ CWd v (yl :: yr :: xs ++ RX) ∧ CX v RX base u r N side ∧ xs ≠ [] ∧
  lfV v (Ps (G_pg G)) (hdI xs u) false 2 (P_1 (Ps (G_pg G)) p) (0, 0, 0, 0) yl ∧ lfV v (Ps (G_pg G)) (hdI xs u) true 2 (P_2 (Ps (G_pg G)) p) (0, 0, 0, 0) yr
/-- what a begun statement leaves, and what comes next -/
def BP (Ps : Int → PT) (szs ths : Int → Int → Int) (rc : Int → Nat) (nP sec : Int) (sig : Int → Int64) (s : Q_S) (c room : Nat) (v : CV) (side : Option Int) (base : Nat) (u : Int) (r : Bool) (N : Int) (RX : List Int) (G : GT) (res : (GT × CT) ⊕ (Int × Int)) (q : Q_S × Int) : Prop := match res with
  | .inr x => CF Ps szs ths rc nP sec sig s c room G x q.1
  | .inl (G', (m', p', d', st')) => ∃ v' c' room' xs', SM v v' RX u r ∧ KC s c room q.1 c' room' ∧
     ((m' = 2 ∧ q.2 = p' ∧ CA Ps szs ths rc nP sec sig G' q.1 c' room' v' side base u r N st' xs' RX) ∨
      (m' = 3 ∧ q.2 = ths (G_pg G') p' ∧ CA Ps szs ths rc nP sec sig G' q.1 c' room' v' side base u r N st' xs' RX) ∨
      (m' = 1 ∧ q.2 = -1000000 ∧ q_F q.1 35 5 = lfb v' 61 N ∧ ∃ y, CL Ps szs ths rc nP sec sig G' q.1 c' room' v' side base u r N 1 p' d' st' y xs' RX) ∨
      (m' = 4 ∧ q.2 = -1000000 ∧ ∃ yl yr, q_F q.1 35 5 = yl ∧ CS Ps szs ths rc nP sec sig G' q.1 c' room' v' side base u r N p' st' yl yr xs' RX))
section CBG
variable {o : X_O} {Ps : Int → PT} {szs ths : Int → Int → Int} {rc : Int → Nat} {nP sec : Int} {sig : Int → Int64} {G G' : GT} {s s' : Q_S} {c room c' room' : Nat} {v v' : CV} {side : Option Int} {base : Nat} {u N : Int} {r : Bool} {st : List FR} {xs RX : List Int}
/-- what is behind a place -/
theorem k_then {rw n np : Nat} {wt : Value} (hs : SH s) (h20 : q_T s 20 = some (sh20 (.ref rw) wt)) (hR : RSh s rw n np) (hn : n ≤ 500) {p : Int} (p0 : 0 ≤ p) (p1 : p < n) :
    QW (fun _ => (q_gv s 6 (.ref 35) 0).bind fun v1 => (q_gv s 4 v1 1).bind fun v3 => (q_gv s 3 v3 3).bind fun v5 => (q_ia o s v5 p).bind fun v7 => some (s, v7)) (fun q => q = (s, q_I s (rw + 4) p)) := by
  refine QW_p (k_gv (hs _ _ rfl) rfl rfl) ?_
  refine QW_p (k_gv h20 rfl rfl) ?_
  refine QW_p (k_gv hR.1 rfl rfl) ?_
  refine QW_p (k_ia (hR.2 _ _ rfl) p0 p1 (by omega)) ?_
  exact QW_ret rfl
theorem c_flt_st {k p : Int} : q_F (c_flt s k p) 20 0 = 2 := by
  unfold c_flt
  simp only [q_F_sf]
  rfl
theorem c_flt_35 {k p : Int} {f : Nat} : q_F (c_flt s k p) 35 f = q_F s 35 f := by
  unfold c_flt
  simp only [q_F_sf]
  rfl
theorem c_flt_I {k p j : Int} {a : Nat} (h : a ≠ 20) : q_I (c_flt s k p) a j = q_I s a j := by
  unfold c_flt
  simp only [q_I_sf, h, false_and, if_false]
/-- it goes on; it doesn't -/
theorem d_43on (h : CG Ps szs ths rc nP sec sig G s c) {t : Int} : QW (fun n => g_43 o n 0 s 20 t) (fun q => q = (s, 1)) := by
  have h0 := h.2.2.1
  refine QW_m (d_43 h.2.1 (by omega)) (fun q e => ?_)
  rw [e, if_pos h0]
theorem d_43off {rw wt : Value} (h : q_T s 20 = some (sh20 rw wt)) {k p t : Int} : QW (fun n => g_43 o n 0 (c_flt s k p) 20 t) (fun q => q = (c_flt s k p, 0)) := by
  have h0 : q_F (c_flt s k p) 20 0 = 2 := c_flt_st
  refine QW_m (d_43 (s := c_flt s k p) h (by omega)) (fun q e => ?_)
  rw [e, if_neg (by omega)]
theorem CA.setK {f : Int → Int64} (h : CA Ps szs ths rc nP sec sig G s c room v side base u r N st xs RX) : CA Ps szs ths rc nP sec sig G (setK s f) c room v side base u r N st xs RX := by
  obtain ⟨h1, h2, h3, h4, h5, h6, h7, h8, h9, h10, h11⟩ := h
  exact ⟨h1.setK, h2.setK, h3, h4, h5, h6, h7, h8, h9, h10, h11⟩
theorem CA.us (h : CA Ps szs ths rc nP sec sig G s c room v side base u r N st xs RX) : v_u v ≤ 6500 := by
  obtain ⟨h1, h2, h3, h4, h5, h6, ⟨fl, w1, w2, w3, w4, w5⟩, h8, h9, h10, h11⟩ := h
  exact w5
theorem CA.cf (h : CA Ps szs ths rc nP sec sig G s c room v side base u r N st xs RX) {s0 : Q_S} {c0 room0 : Nat} (k : KC s0 c0 room0 s c room) {x : Int × Int} : CF Ps szs ths rc nP sec sig s0 c0 room0 G x (c_flt s x.1 x.2) := by
  have hu := h.us
  obtain ⟨h1, h2, h3, h4, h5, h6, h7, h8, h9, h10, h11⟩ := h
  exact ⟨s, c, room, v, G_bg G, rfl, h1, h2, h3, h4, hu, k⟩
/-- the numbers of another run, where the frames stay -/
theorem CA.upd (h : CA Ps szs ths rc nP sec sig G s c room v side base u r N st xs RX) (hG : CG Ps szs ths rc nP sec sig G' s' c) (e1 : G_pg G' = G_pg G) (e2 : G_sd G' = G_sd G) (e3 : q_F s' 35 4 = q_F s 35 4) (hn : s.1 ≤ s'.1) (e : ∀ a, a = 24 ∨ (c < a ∧ a ≤ c + 10) → q_T s' a = q_T s a ∧ ∀ j, q_I s' a j = q_I s a j ∧ q_L s' a j = q_L s a j) : CA Ps szs ths rc nP sec sig G' s' c room v side base u r N st xs RX := by
  obtain ⟨h1, h2, h3, h4, h5, h6, h7, h8, h9, h10, h11⟩ := h
  exact ⟨hG, h2.same e hn, h3, h4, h5.trans e2.symm, by rw [e1]; exact h6, h7, h8, e3.trans h9, h10, h11⟩
theorem KC.sl {a : Nat} {j : Int} {x : Int64} (ha : a = 21 ∨ a = 22) : KC s c room (q_sl s a j x) c room := by
  refine ⟨Nat.le_refl _, Nat.le_refl _, Nat.le_refl _, Nat.le_refl _, Or.inl rfl, fun b _ hb _ _ _ => ⟨rfl, fun i => ⟨rfl, ?_⟩⟩, fun _ _ _ => rfl⟩
  rw [q_L_sl, if_neg (by omega)]
theorem KC.si {j x : Int} : KC s c room (q_si s 23 j x) c room := by
  refine ⟨Nat.le_refl _, Nat.le_refl _, Nat.le_refl _, Nat.le_refl _, Or.inl rfl, fun b _ hb _ _ _ => ⟨rfl, fun i => ⟨?_, rfl⟩⟩, fun _ _ _ => rfl⟩
  rw [q_I_si, if_neg (by omega)]
theorem CG.setO (h : CG Ps szs ths rc nP sec sig G s c) {j : Int} {x : Int64} : CG Ps szs ths rc nP sec sig (G_setO G j x) (q_sl s 22 j x) c := by
  have h' := h
  obtain ⟨a1, a2, a3, a4, a5, a6, a7, a8, a9, a10, a11, a12, a13⟩ := h'
  refine h.step (room := 0) (room' := 0) (KC.sl (Or.inr rfl)) a2 a3 a4 a5 (fun i i0 i1 => ?_) (fun i i0 i1 => ?_) a8 a9
  · rw [q_L_sl, if_neg (by omega)]; exact a6 i i0 i1
  · rw [q_L_sl]
    show _ = if i = j then x else G_o G i
    by_cases z : i = j
    · rw [if_pos ⟨rfl, z⟩, if_pos z]
    · rw [if_neg (fun y => z y.2), if_neg z]; exact a7 i i0 i1
theorem CG.setV (h : CG Ps szs ths rc nP sec sig G s c) {j : Int} {x : Int64} : CG Ps szs ths rc nP sec sig (G_setV G j x) (q_sl s 21 j x) c := by
  have h' := h
  obtain ⟨a1, a2, a3, a4, a5, a6, a7, a8, a9, a10, a11, a12, a13⟩ := h'
  refine h.step (room := 0) (room' := 0) (KC.sl (Or.inl rfl)) a2 a3 a4 a5 (fun i i0 i1 => ?_) (fun i i0 i1 => ?_) a8 a9
  · rw [q_L_sl]
    show _ = if i = j then x else G_v G i
    by_cases z : i = j
    · rw [if_pos ⟨rfl, z⟩, if_pos z]
    · rw [if_neg (fun y => z y.2), if_neg z]; exact a6 i i0 i1
  · rw [q_L_sl, if_neg (by omega)]; exact a7 i i0 i1
theorem CG.setN (h : CG Ps szs ths rc nP sec sig G s c) {j x : Int} : CG Ps szs ths rc nP sec sig (G_setN G j x) (q_si s 23 j x) c := by
  have h' := h
  obtain ⟨a1, a2, a3, a4, a5, a6, a7, a8, a9, a10, a11, a12, a13⟩ := h'
  refine h.step (room := 0) (room' := 0) KC.si a2 ?_ ?_ ?_ a6 a7 (fun i i0 i1 => ?_) ?_
  · rw [q_F_si, if_neg (by omega)]; exact a3
  · rw [q_F_si, if_neg (by omega)]; exact a4
  · rw [q_F_si, if_neg (by omega)]; exact a5
  · rw [q_I_si]
    show _ = if i = j then x else G_n G i
    by_cases z : i = j
    · rw [if_pos ⟨rfl, z⟩, if_pos z]
    · rw [if_neg (fun y => z y.2), if_neg z]; exact a8 i i0 i1
  · rw [q_F_si, if_neg (by omega)]; exact a9
theorem CA.setO (h : CA Ps szs ths rc nP sec sig G s c room v side base u r N st xs RX) {j : Int} {x : Int64} : CA Ps szs ths rc nP sec sig (G_setO G j x) (q_sl s 22 j x) c room v side base u r N st xs RX := by
  have hc := h.2.1.cc
  refine h.upd h.1.setO rfl rfl rfl (Nat.le_refl _) (fun a ha => ⟨rfl, fun i => ⟨rfl, ?_⟩⟩)
  rw [q_L_sl, if_neg (by omega)]
theorem CA.setV (h : CA Ps szs ths rc nP sec sig G s c room v side base u r N st xs RX) {j : Int} {x : Int64} : CA Ps szs ths rc nP sec sig (G_setV G j x) (q_sl s 21 j x) c room v side base u r N st xs RX := by
  have hc := h.2.1.cc
  refine h.upd h.1.setV rfl rfl rfl (Nat.le_refl _) (fun a ha => ⟨rfl, fun i => ⟨rfl, ?_⟩⟩)
  rw [q_L_sl, if_neg (by omega)]
theorem CA.setN (h : CA Ps szs ths rc nP sec sig G s c room v side base u r N st xs RX) {j x : Int} : CA Ps szs ths rc nP sec sig (G_setN G j x) (q_si s 23 j x) c room v side base u r N st xs RX := by
  have hc := h.2.1.cc
  refine h.upd h.1.setN rfl rfl ?_ (Nat.le_refl _) (fun a ha => ⟨rfl, fun i => ⟨?_, rfl⟩⟩)
  · rw [q_F_si, if_neg (by omega)]
  · rw [q_I_si, if_neg (by omega)]
/-- the rows of the program that runs -/
theorem CG.rows (h : CG Ps szs ths rc nP sec sig G s c) (hg : GW Ps szs nP sec G) : WP (Ps (G_pg G)) (szs (G_pg G)) ∧ RW s (rc (G_pg G)) (Ps (G_pg G)) (szs (G_pg G)) (ths (G_pg G)) ∧ 80 < rc (G_pg G) ∧ rc (G_pg G) + 7 < s.1 := by
  obtain ⟨b1, b2, b3, b4⟩ := h.2.2.2.2.2.2.2.2.2.2.2.2 _ hg.2.2.2.2.2.1 hg.2.2.2.2.2.2.1
  exact ⟨hg.2.2.2.2.1 _ hg.2.2.2.2.2.1 hg.2.2.2.2.2.2.1, b1, b2, b4⟩
theorem th_rg {P : PT} {sz th : Int → Int} (hW : WP P sz) (hT : TH P th) : ∀ (n : Nat) (p : Int), p < n → 0 ≤ p → p < P_n P → isS (P_w P p) → -501 ≤ th p ∧ th p < P_n P := by
  intro n
  induction n with
  | zero => intro p h0 h1; omega
  | succ n ih =>
    intro p h0 h1 h2 hS
    have hn := hW.2.1
    rw [hT p h1 h2 hS]
    by_cases z : P_u P p = -1
    · rw [if_pos z]; omega
    · have hp0 : 0 < p := by
        rcases Int.lt_or_eq_of_le h1 with q | q
        · exact q
        · rw [← q] at z; exact absurd hW.2.2.2.1 z
      obtain ⟨a1, a2, a3, a4⟩ := hW.2.2.2.2.2.2 p hp0 h2
      have hq := hW.2.2.2.2.2.1 (P_u P p) a1 (by omega)
      have up : isS (P_w P (P_u P p)) → -501 ≤ th (P_u P p) ∧ th (P_u P p) < P_n P := fun y => ih (P_u P p) (by omega) a1 (by omega) y
      rw [if_neg z]
      by_cases c1 : P_w P (P_u P p) = 14
      · rw [if_pos c1]
        split
        · rcases WK_S hq.2.2 (by unfold isS; omega) with k | k | k | k | k | k | k | k
          · omega
          · obtain ⟨k0, k1, k2, k3, k4⟩ := k
            rw [k1.2.1]
            have := (hW.2.2.2.2.2.1 (P_u P p + 1) (by omega) k1.1.2.2).1
            have := k1.2.2.2
            omega
          all_goals omega
        · exact up (by unfold isS; omega)
      · rw [if_neg c1]
        by_cases c2 : P_w P (P_u P p) = 15
        · rw [if_pos c2]; exact up (by unfold isS; omega)
        · rw [if_neg c2]
          by_cases c3 : P_w P (P_u P p) = 16
          · rw [if_pos c3]
            split
            · omega
            · exact up (by unfold isS; omega)
          · rw [if_neg c3]
            by_cases c4 : P_w P (P_u P p) = 21
            · rw [if_pos c4]
              split
              · omega
              · exact up (by unfold isS; omega)
            · rw [if_neg c4]; omega
/-- put: a number into an output, into a value -/
theorem d_71 (ho : o 2 = some (10, fun i => x_TABLE.getD i 0)) (h : CA Ps szs ths rc nP sec sig G s c room v side base u r N st xs RX) (hg : GW Ps szs nP sec G) {p : Int} {d : DT} (p0 : 0 ≤ p) (p1 : p < P_n (Ps (G_pg G))) {a : Nat} (hw : (P_w (Ps (G_pg G)) p = 10 ∧ a = 22) ∨ (P_w (Ps (G_pg G)) p = 11 ∧ a = 21)) :
    QW (fun n => g_71 o n 0 s 35 (.ref a) p) (BP Ps szs ths rc nP sec sig s c room v side base u r N RX G (match evG Ps sig G (P_1 (Ps (G_pg G)) p) with
      | .inr x => .inr x
      | .inl x => .inl (if a = 22 then G_setO G (P_v (Ps (G_pg G)) p).toInt x else G_setV G (P_v (Ps (G_pg G)) p).toInt x, (3, p, d, st)))) := by
  obtain ⟨hW, hR, hr80, hr7⟩ := h.1.rows hg
  have hn5 := hW.2.1
  have hk := (hW.2.2.2.2.2.1 p p0 p1).2.2
  have hS : isS (P_w (Ps (G_pg G)) p) := by unfold isS; omega
  have hC : C1 (Ps (G_pg G)) p ∧ isE (P_w (Ps (G_pg G)) (p + 1)) ∧ 0 ≤ (P_v (Ps (G_pg G)) p).toInt ∧ (P_v (Ps (G_pg G)) p).toInt < (if a = 22 then 8 else 16) := by
    rcases hk with k | k | k | k | k | k | k | k | k | k | k | k | k | k | k | k
    · have := k.1; omega
    · have := k.1; omega
    · have := k.2.1; omega
    · obtain ⟨k1, k2, k3, k4, k5⟩ := k
      unfold rgI at k4
      rw [if_pos (by omega)]
      exact ⟨k2, k3, k4⟩
    · obtain ⟨k1, k2, k3, k4, k5⟩ := k
      unfold rgI at k4
      rw [if_neg (by omega)]
      exact ⟨k2, k3, k4⟩
    all_goals (have := k.1; omega)
  obtain ⟨hC1, hE, hv0, hv1⟩ := hC
  rw [hC1.1]
  have hs := h.1.1
  refine QW_s ?_
  simp only [g_71]
  refine QW_p (k_rc (hs _ _ rfl)) ?_
  refine QW_c (d_rk ho h.1 hg (by omega) hC1.2.2 hE) (fun q hq => ?_)
  obtain ⟨f, hq⟩ := hq
  obtain ⟨n, np, hRS, hn, hnp, f7, f8, hkk, hK, hph1, hph2⟩ := hR
  cases he : evG Ps sig G (p + 1) with
  | inr x =>
    rw [he] at hq
    have hq : q = (c_flt (setK s f) x.1 x.2, 0) := hq
    subst hq
    have h20 : q_T (c_flt (setK s f) x.1 x.2) 20 = some (sh20 (.ref (rc (G_pg G))) (if G_sw G = -1 then .null else .ref (rc (G_sw G)))) := h.1.2.1
    have hs1 : SH (c_flt (setK s f) x.1 x.2) := hs
    dsimp only
    refine QW_p (k_gv (hs1 _ _ rfl) rfl rfl) ?_
    refine QW_p (k_rc h20) ?_
    refine QW_e (d_43off (s := setK s f) h.1.2.1) ?_
    dsimp only
    refine QW_g (by decide) ?_
    refine QW_it rfl ?_
    refine QW_s ?_
    simp only [g_71]
    refine QW_m (k_then hs1 h20 hRS (by omega) p0 (by omega)) (fun q e => ?_)
    rw [e]
    exact h.setK.cf KC.setK
  | inl x =>
    rw [he] at hq
    have hq : q = (setK s f, x) := hq
    subst hq
    have h1 := h.setK (f := f)
    have hs1 := h1.1.1
    have h20 := h1.1.2.1
    dsimp only
    refine QW_p (k_gv (hs1 _ _ rfl) rfl rfl) ?_
    refine QW_p (k_rc h20) ?_
    refine QW_e (d_43on h1.1) ?_
    dsimp only
    refine QW_g (by decide) ?_
    refine QW_if (by decide) ?_
    have hRS1 : RSh (setK s f) (rc (G_pg G)) n np := hRS
    refine QW_p (k_gv (hs1 _ _ rfl) rfl rfl) ?_
    refine QW_p (k_gv h20 rfl rfl) ?_
    refine QW_p (k_gv hRS1.1 rfl rfl) ?_
    refine QW_p (k_la (hRS1.2 _ _ rfl) p0 (by omega) (by omega)) ?_
    have ev : q_L (setK s f) (rc (G_pg G) + 2) p = P_v (Ps (G_pg G)) p := by
      rw [setK_L, if_neg (by omega), (hkk p p0 p1).2.1]
      unfold numC
      rw [if_neg (by omega)]
    rw [ev]
    rcases hw with ⟨hw, ha⟩ | ⟨hw, ha⟩
    · subst ha
      refine QW_p (k_ls (hs1 _ _ rfl) hv0 hv1 (by decide)) ?_
      have h2 := h1.setO (j := (P_v (Ps (G_pg G)) p).toInt) (x := x)
      refine QW_s ?_
      simp only [g_71]
      refine QW_m (k_then (s := q_sl (setK s f) 22 (P_v (Ps (G_pg G)) p).toInt x) h2.1.1 h2.1.2.1 hRS (by omega) p0 (by omega)) (fun q e => ?_)
      rw [e, if_pos trivial]
      refine ⟨v, c, room, xs, SM.rf _ _ _ _, KC.setK.tr (KC.sl (Or.inr rfl)), Or.inr (Or.inl ⟨rfl, ?_, h2⟩)⟩
      exact (hkk p p0 p1).2.2.2 hS
    · subst ha
      refine QW_p (k_ls (hs1 _ _ rfl) hv0 hv1 (by decide)) ?_
      have h2 := h1.setV (j := (P_v (Ps (G_pg G)) p).toInt) (x := x)
      refine QW_s ?_
      simp only [g_71]
      refine QW_m (k_then (s := q_sl (setK s f) 21 (P_v (Ps (G_pg G)) p).toInt x) h2.1.1 h2.1.2.1 hRS (by omega) p0 (by omega)) (fun q e => ?_)
      rw [e, if_neg (by decide)]
      refine ⟨v, c, room, xs, SM.rf _ _ _ _, KC.setK.tr (KC.sl (Or.inl rfl)), Or.inr (Or.inl ⟨rfl, ?_, h2⟩)⟩
      exact (hkk p p0 p1).2.2.2 hS
end CBG
