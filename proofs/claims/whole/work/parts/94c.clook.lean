/-! THE CLASS'S LOOK AT THE LIMITS: one limit -/
theorem CWd.col {v v' : CV} {l : List Int} (h3 : ∀ z, vI v' 3 z = vI v 3 z) (hf : v_f v' = v_f v) (hu : v_u v' = v_u v) (h : CWd v l) : CWd v' l := by
  obtain ⟨fl, w1, w2, w3, w4, w5⟩ := h
  refine ⟨fl, ?_, w2, by rw [hu]; exact w3, by rw [hu]; exact w4, by rw [hu]; exact w5⟩
  rw [hf]
  exact flV_same fl _ (fun z _ => h3 z) w1
section CLK
variable {o : X_O} {Ps : Int → PT} {szs ths : Int → Int → Int} {rc : Int → Nat} {nP sec : Int} {sig : Int → Int64}
theorem lookA_bgb {G : GT} (x : Int) : ∀ (k : Nat) (t : BT k), lookA Ps sig (G_bgb G x) k t = lookA Ps sig G k t := by
  intro k
  induction k with
  | zero => intro t; rfl
  | succ k ih =>
    intro t
    obtain ⟨m, p, d, st, sub⟩ := t
    have e1 : G_pg (G_bgb G x) = G_pg G := rfl
    have e2 : G_v (G_bgb G x) = G_v G := rfl
    cases sub with
    | none => simp only [lookA, e1, e2]
    | some lr =>
      obtain ⟨l, r⟩ := lr
      simp only [lookA, e1, e2, ih]
/-- whatever has begun -/
theorem CG.any {G : GT} {s : Q_S} {c : Nat} (h : CG Ps szs ths rc nP sec sig G s c) (hg : GW Ps szs nP sec (G_bgb G 0)) : WP (Ps (G_pg G)) (szs (G_pg G)) ∧ RW s (rc (G_pg G)) (Ps (G_pg G)) (szs (G_pg G)) (ths (G_pg G)) ∧ 80 < rc (G_pg G) ∧ rc (G_pg G) + 7 < s.1 := by
  have w6 : 0 ≤ G_pg G := hg.2.2.2.2.2.1
  have w7 : G_pg G < nP := hg.2.2.2.2.2.2.1
  obtain ⟨b1, b2, b3, b4⟩ := h.2.2.2.2.2.2.2.2.2.2.2.2 _ w6 w7
  exact ⟨hg.2.2.2.2.1 _ w6 w7, b1, b2, b4⟩
theorem c_rk0 {β : Type} {G : GT} {s : Q_S} {c : Nat} {K : Nat → Q_S × Int64 → Option β} {Q : β → Prop} (ho : o 2 = some (10, fun i => x_TABLE.getD i 0)) (h : CG Ps szs ths rc nP sec sig G s c) (hg : GW Ps szs nP sec (G_bgb G 0)) {p : Int} (h0 : 0 ≤ p) (h1 : p < P_n (Ps (G_pg G))) (he : isE (P_w (Ps (G_pg G)) p))
    (k1 : ∀ f x, evG Ps sig G p = .inl x → QW (fun n => K n (setK s f, x)) Q) (k2 : ∀ f x, evG Ps sig G p = .inr x → QW (fun n => K n (c_flt (setK s f) x.1 x.2, 0)) Q) :
    QW (fun n => (g_63 o n 0 s 35 p .null 0 0 0 0 0 0).bind (K n)) Q := by
  obtain ⟨hW, hR, hr80, hr7⟩ := h.any hg
  obtain ⟨a1, a2, a3, a4, a5, a6, a7, a8, a9, a10, a11, a12, a13⟩ := h
  have ee := ev_same hW a10 a6 500 p h0 h1 he
  refine QW_c (d_63 a1 ho a2 hr80 hW hR a3 h0 h1 he) (fun q hq => ?_)
  obtain ⟨f, hq⟩ := hq
  rw [ee] at hq
  cases e : evG Ps sig G p with
  | inl x =>
    have e' : ev (Ps (G_pg G)) sig (G_v G) 500 p = .inl x := e
    rw [e'] at hq
    have hq : q = (setK s f, x) := hq
    rw [hq]
    exact k1 f x e
  | inr x =>
    have e' : ev (Ps (G_pg G)) sig (G_v G) 500 p = .inr x := e
    rw [e'] at hq
    have hq : q = (c_flt (setK s f) x.1 x.2, 0) := hq
    rw [hq]
    exact k2 f x e
set_option maxHeartbeats 4000000 in
theorem d_62 (ho : o 2 = some (10, fun i => x_TABLE.getD i 0)) {G : GT} {s : Q_S} {c room : Nat} {v : CV} {side : Option Int} {base : Nat} {u N : Int} {r : Bool} {k : Nat} {m p : Int} {d : DT} {st1 acc : List FR} {q : Int} {a : Int64} {sub : Option (BT k × BT k)} {b y : Int} {xs1 ya RX : List Int} {isub : Option (IT k × IT k)}
    (hC : CTr Ps szs ths rc nP sec sig G s c room v side base u r N (k + 1) (m, p, d, st1 ++ (q, a) :: acc, sub) (b, xs1 ++ y :: ya, isub) RX) (hg : GW Ps szs nP sec (G_bgb G 0)) (hk : KD (Ps (G_pg G)) (k + 1) (m, p, d, st1 ++ (q, a) :: acc, sub)) (hm : ¬ m = 0) (hl : st1.length = xs1.length) (hw : P_w (Ps (G_pg G)) q = 16) (q0 : 0 ≤ q) (q1 : q < P_n (Ps (G_pg G))) (hsd : sidesB (k + 1) (m, p, d, st1 ++ (q, a) :: acc, sub) ≤ G_sd G) :
    QW (fun n => g_62 o n 0 s 35 y) (fun z => match evG Ps sig G (P_1 (Ps (G_pg G)) q) with
      | .inr x => ∃ f, z.1 = c_flt (setK s f) x.1 x.2
      | .inl w => if w = 0 then ∃ v', SM v v' RX u r ∧ KC s c room z.1 c room ∧ CL Ps szs ths rc nP sec sig (G_side G (-(sidesB (k + 1) (m, p, d, st1 ++ (q, a) :: acc, sub)))) z.1 c room v' side base u r N 2 (P_3 (Ps (G_pg G)) q) d acc y ya RX else ∃ f, z.1 = setK s f) := by
  obtain ⟨g1, g2, g3, g4, g5, g6, g7, g8⟩ := hC
  have hW := (g1.any hg).1
  have hn5 := hW.2.1
  obtain ⟨l1, l2, l3, l4, l5, l6, l7, l8⟩ := limP hW q0 q1 hw
  have hKK := (hW.2.2.2.2.2.1 q q0 q1).2.2
  have hC3 : C3 (Ps (G_pg G)) (szs (G_pg G)) q := by
    rcases WK_S hKK (by unfold isS; omega) with k | k | k | k | k | k | k | k
    · omega
    · omega
    · omega
    · exact k.2.1
    · omega
    · omega
    · omega
    · omega
  have hz1 := (hW.2.2.2.2.2.1 (q + 1) (by omega) l7).1
  have hs := g1.1
  obtain ⟨n, D, dS, dP, dN⟩ := CB_cut hl (by omega) hk hm g6
  have hwd : CWd v (y :: D ++ (ya ++ RX)) := g7.perm (l_perm (fun z => by
    have := dP.count_eq z
    simp only [List.count_append] at this ⊢
    omega))
  obtain ⟨⟨c1, c2, c3, c4, c5, c6, c7, c8⟩, c9⟩ := chV_drop st1 xs1 hl g6.1
  have nd : (y :: D ++ (ya ++ RX)).Nodup := by
    obtain ⟨fl, w1, w2, w3, w4, w5⟩ := hwd
    exact (List.nodup_append.mp w2).1
  have yu : y < v_u v ∧ v_u v ≤ 6500 := by
    obtain ⟨fl, w1, w2, w3, w4, w5⟩ := hwd
    exact ⟨(w3 y (List.mem_append_left _ List.mem_cons_self)).2, w5⟩
  have hyD : y ∉ D := fun z => (List.nodup_cons.mp nd).1 (List.mem_append_left _ z)
  have hyR : y ∉ ya ++ RX := fun z => (List.nodup_cons.mp nd).1 (List.mem_append_right _ z)
  have hsd2 : 0 ≤ G_sd G ∧ G_sd G ≤ 49 := ⟨hg.2.2.2.2.2.2.2.2.2.2.1, hg.2.2.2.2.2.2.2.2.2.2.2.1⟩
  have g2' := g2
  obtain ⟨hF0, hFa, w1, w2, w3, w4, w5, w6, w7, w8, w9, w10, w11, w12⟩ := g2'
  have e2 := (w1 2 y (by decide) (by decide) c1 yu.1).trans c3
  have K1 : ∀ s1 : Q_S, QW (fun n => g_62 o n 1 s1 0 0) (fun z => z.1 = s1) := fun s1 => by
    refine QW_s ?_
    simp only [g_62]
    exact QW_ret rfl
  rw [l6]
  refine QW_s ?_
  simp only [g_62]
  refine QW_p (k_gv (hs _ _ rfl) rfl rfl) ?_
  refine QW_p (k_gv hF0 rfl rfl) ?_
  refine QW_p (k_ia (hFa _ _ rfl) c1 (by omega) (by omega)) ?_
  rw [e2]
  refine QW_p (k_rc (hs _ _ rfl)) ?_
  refine c_rk0 ho g1 hg (by omega) l7 l8 (fun f x he => ?_) (fun f x he => ?_)
  · rw [he]
    dsimp only
    refine QW_by (fun z => ?_) (fun z => ?_)
    · simp only [if_neg z]
      exact QW_m (K1 _) (fun q e => ⟨f, e⟩)
    · have z := Decidable.of_not_not z
      simp only [if_pos z]
      have h1 := g1.setK (f := f)
      have h2 := g2.setK (f := f)
      have hs1 := h1.1
      refine QW_p (k_gv (hs1 _ _ rfl) rfl rfl) ?_
      refine QW_p (k_rc h1.2.1) ?_
      refine QW_e (d_43on h1) ?_
      dsimp only
      refine QW_g (by decide) ?_
      refine QW_if (by decide) ?_
      refine QW_p (k_gv (hs1 _ _ rfl) rfl rfl) ?_
      refine QW_p (k_rc h2.1) ?_
      refine QW_c (d_52 dS hyD ⟨c1, by omega⟩ h2 g3 hwd (by rw [dN, g5]; exact hsd) (by omega)) (fun z9 hz9 => ?_)
      obtain ⟨v1, k2, k3, k4, k5, k6, k7, k8, k9⟩ := hz9
      have h3 := h1.fk k5
      have hs3 := h3.1
      have y1 : y < v_u v1 := by
        obtain ⟨fl, w1, w2, w3, w4, w5⟩ := k4
        exact (w3 y (List.mem_append_left _ List.mem_cons_self)).2
      have hu1 : v_u v1 ≤ room := k2.2.2.2.2.2.2.2.2.2.1
      have q2 := (k2.snc (i := 1) (x := y) (a := 40) (by decide) (by decide) c1 y1)
      have q3 := q2.snc (i := 2) (x := y) (a := P_3 (Ps (G_pg G)) q) (by decide) (by decide) c1 y1
      have fk2 : FK z9.1 c room (q_si (q_si z9.1 (c + 1) y 40) (c + 2) y (P_3 (Ps (G_pg G)) q)) c room := (FK.si (by decide) (by decide)).tr (FK.si (by decide) (by decide))
      have fk1 : FK z9.1 c room (q_si z9.1 (c + 1) y 40) c room := FK.si (by decide) (by decide)
      have h4 := h3.fk fk1
      have hs4 := h4.1
      obtain ⟨kF0, kFa, -⟩ := k2
      refine QW_p (k_gv (hs3 _ _ rfl) rfl rfl) ?_
      refine QW_p (k_gv kF0 rfl rfl) ?_
      refine QW_p (k_is (kFa _ _ rfl) c1 (by omega) (by omega)) ?_
      obtain ⟨mF0, mFa, -⟩ := q2
      obtain ⟨_, ⟨n', np', hRS', hn', hnp', f7', f8', hkk', hK', hph1', hph2'⟩, hr80', hr7'⟩ := h4.any hg
      refine QW_p (k_gv (hs4 _ _ rfl) rfl rfl) ?_
      refine QW_p (k_gv mF0 rfl rfl) ?_
      refine QW_p (k_gv (hs4 _ _ rfl) rfl rfl) ?_
      refine QW_p (k_gv h4.2.1 rfl rfl) ?_
      refine QW_p (k_rc hRS'.1) ?_
      refine QW_e (d_38 hRS'.1 hRS'.2 hn' hn5 (fun p a b => (hkk' p a b).2.2.1) q0 l7 (by omega) hC3.1.2.2.2) ?_
      dsimp only
      rw [← hC3.2.1]
      refine QW_p (k_is (mFa _ _ rfl) c1 (by omega) (by omega)) ?_
      refine QW_m (K1 _) (fun q9 e9 => ?_)
      rw [e9]
      -- the view as it is now
      have eI : ∀ j x, vI ((fun j z => if j = 2 ∧ z = y then P_3 (Ps (G_pg G)) q else if j = 1 ∧ z = y then 40 else v1.1 j z), v1.2) j x = if j = 2 ∧ x = y then P_3 (Ps (G_pg G)) q else if j = 1 ∧ x = y then 40 else vI v1 j x := fun j x => rfl
      generalize hv3 : ((fun j z => if j = 2 ∧ z = y then P_3 (Ps (G_pg G)) q else if j = 1 ∧ z = y then 40 else v1.1 j z), v1.2) = v3 at eI
      have q3 : VW (q_si (q_si z9.1 (c + 1) y 40) (c + 2) y (P_3 (Ps (G_pg G)) q)) 24 c room v3 := by rw [← hv3]; exact q3
      have eL : ∀ j x, vL v3 j x = vL v1 j x := fun j x => by rw [← hv3]; rfl
      have et : v_t v3 = v_t v1 := by rw [← hv3]; rfl
      have ef : v_f v3 = v_f v1 := by rw [← hv3]; rfl
      have eu : v_u v3 = v_u v1 := by rw [← hv3]; rfl
      have es : v_s v3 = v_s v1 := by rw [← hv3]; rfl
      have eo : ∀ j x, ¬ j = 1 → ¬ j = 2 → vI v3 j x = vI v1 j x := fun j x a1 a2 => by rw [eI, if_neg (fun z => a2 z.1), if_neg (fun z => a1 z.1)]
      have ex : ∀ x, ¬ x = y → EqX v1 v3 x 0 := fun x hx => ⟨fun j _ _ _ => by rw [eI, if_neg (fun z => hx z.2), if_neg (fun z => hx z.2)], fun j _ _ => eL j x⟩
      have exx : ∀ z ∈ ya ++ RX, EqX v v3 z 0 := fun z hz => (k6 z hz).tr (ex z (fun e => hyR (by rw [← e]; exact hz)))
      have sm : SM v v3 RX u r := ⟨fun z hz => (exx z (List.mem_append_right _ hz)).wk, fun _ => et.trans k8⟩
      have esl : ∀ w rb, (w = -1 ∨ w ∈ ya ++ RX) → slotV v3 w rb = slotV v w rb := fun w rb hw => by
        by_cases zu : w = -1
        · unfold slotV
          rw [if_pos zu, if_pos zu]
          exact et.trans k8
        · rcases hw with z | z
          · exact absurd z zu
          · exact slot_same zu (exx w z)
      have hum : u = -1 ∨ u ∈ ya ++ RX := by
        rcases g8.1.depth.2 with z | z
        · exact Or.inl z
        · exact Or.inr (List.mem_append_right _ z)
      have hhm : hdI ya u = -1 ∨ hdI ya u ∈ ya ++ RX := by
        cases ya with
        | nil => exact hum
        | cons w ws => exact Or.inr (List.mem_append_left _ List.mem_cons_self)
      refine ⟨v3, sm, ?_, ?_⟩
      · exact KC.setK.tr ((k5.tr fk2).kc g2.cc)
      · refine ⟨h3.fk fk2, q3, ?_, g4, ?_, ?_, ?_, g8.same sm, fun z => ?_, ?_⟩
        · obtain ⟨b1, b2, b3, b4⟩ := k3
          unfold VB
          rw [et, ef, eu, es]
          refine ⟨fun x x0 x1 => ?_, b2, b3, b4⟩
          obtain ⟨t1, t2, t3, t4, t5, t6⟩ := b1 x x0 x1
          rw [eo 3 x (by decide) (by decide), eo 4 x (by decide) (by decide), eo 5 x (by decide) (by decide), eo 6 x (by decide) (by decide), eI 1 x, eI 2 x]
          refine ⟨?_, ?_, t3, t4, t5, t6⟩
          · rw [if_neg (by omega)]
            split
            · omega
            · exact t1
          · split
            · omega
            · rw [if_neg (by omega)]; exact t2
        · rw [es, k9, g5, dN]
          rfl
        · exact chV_same acc ya (fun z hz => exx z (List.mem_append_left _ hz)) (fun _ => esl u r hum) c9
        · exact k4.col (fun z => eo 3 z (by decide) (by decide)) ef eu
        · have hz := exx _ (List.mem_append_left _ (hdI_mem (u := u) z))
          exact (hz.1 5 (by decide) (by decide) (by decide)).trans (c8 z)
        · refine ⟨c1, (esl _ _ hhm).trans c7, ?_, ?_, ?_, ?_, Or.inl ⟨rfl, ?_⟩⟩
          · rw [eI, if_pos ⟨rfl, rfl⟩]
          · rw [eo 3 y (by decide) (by decide), k7.1 3 (by decide) (by decide) (by decide) (by decide)]
            exact c4
          · rw [eo 4 y (by decide) (by decide)]
            exact k7.2.2.1
          · rw [eo 5 y (by decide) (by decide)]
            exact k7.2.2.2
          · rw [eI, if_neg (by omega), if_pos ⟨rfl, rfl⟩]
  · rw [he]
    have h20 : q_T (c_flt (setK s f) x.1 x.2) 20 = some (sh20 (.ref (rc (G_pg G))) (if G_sw G = -1 then .null else .ref (rc (G_sw G)))) := g1.2.1
    have hs1 : SH (c_flt (setK s f) x.1 x.2) := hs
    dsimp only
    refine QW_if (by simp) ?_
    refine QW_p (k_gv (hs1 _ _ rfl) rfl rfl) ?_
    refine QW_p (k_rc h20) ?_
    refine QW_e (d_43off (s := setK s f) g1.2.1) ?_
    dsimp only
    refine QW_g (by decide) ?_
    refine QW_it rfl ?_
    refine QW_m (K1 _) (fun q9 e9 => ?_)
    rw [e9]
    exact ⟨f, rfl⟩
end CLK
