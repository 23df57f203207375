/-! THE WALKER BEGINS: waits, ramps, choices -/
section CBW
variable {o : X_O} {Ps : Int → PT} {szs ths : Int → Int → Int} {rc : Int → Nat} {nP sec : Int} {sig : Int → Int64} {G G' : GT} {s s' : Q_S} {c room c' room' : Nat} {v v' : CV} {side : Option Int} {base : Nat} {u N : Int} {r : Bool} {st : List FR} {xs RX : List Int}
theorem c_rk {β : Type} {K : Nat → Q_S × Int64 → Option β} {Q : β → Prop} (ho : o 2 = some (10, fun i => x_TABLE.getD i 0)) (h : CG Ps szs ths rc nP sec sig G s c) (hg : GW Ps szs nP sec G) {p : Int} (h0 : 0 ≤ p) (h1 : p < P_n (Ps (G_pg G))) (he : isE (P_w (Ps (G_pg G)) p))
    (k1 : ∀ f x, evG Ps sig G p = .inl x → QW (fun n => K n (setK s f, x)) Q) (k2 : ∀ f x, evG Ps sig G p = .inr x → QW (fun n => K n (c_flt (setK s f) x.1 x.2, 0)) Q) :
    QW (fun n => (g_63 o n 0 s 35 p .null 0 0 0 0 0 0).bind (K n)) Q := by
  refine QW_c (d_rk ho h hg h0 h1 he) (fun q hq => ?_)
  obtain ⟨f, hq⟩ := hq
  cases e : evG Ps sig G p with
  | inl x =>
    rw [e] at hq
    have hq : q = (setK s f, x) := hq
    rw [hq]
    exact k1 f x e
  | inr x =>
    rw [e] at hq
    have hq : q = (c_flt (setK s f) x.1 x.2, 0) := hq
    rw [hq]
    exact k2 f x e
theorem CL.f35 {m p y : Int} {d : DT} (h : CL Ps szs ths rc nP sec sig G s c room v side base u r N m p d st y xs RX) {f : Nat} {x : Int} (hf : f ≠ 6) : CL Ps szs ths rc nP sec sig G (q_sf s 35 f x) c room v side base u r N m p d st y xs RX := by
  obtain ⟨h1, h2, h3, h4, h5, h6, h7, h8, h9, h10⟩ := h
  exact ⟨h1.f35 hf, h2.f35, h3, h4, h5, h6, h7, h8, h9, h10⟩
theorem CL.yu {m p y : Int} {d : DT} (h : CL Ps szs ths rc nP sec sig G s c room v side base u r N m p d st y xs RX) : 0 ≤ y ∧ y < v_u v := by
  obtain ⟨h1, h2, h3, h4, h5, h6, ⟨fl, w1, w2, w3, w4, w5⟩, h8, h9, h10⟩ := h
  exact w3 y (List.mem_append_left _ List.mem_cons_self)
/-- a leaf that stands: the walker goes to the right -/
theorem d_75s {m p y : Int} {d : DT} (h : CL Ps szs ths rc nP sec sig G s c room v side base u r N m p d st y xs RX) (hb : (base : Int) + st.length ≤ 60) :
    QW (fun n => g_75 o n 0 s 35 y) (fun q => q = (q_sf s 35 5 (lfb v 61 N), -1000000)) := by
  have e := h.right hb
  have := d_75 (o := o) h.2.1 h.2.2.1 h.1.1 h.yu.1 h.yu.2
  rw [e] at this
  exact this
/-- wait -/
theorem d_72 (ho : o 2 = some (10, fun i => x_TABLE.getD i 0)) (h : CA Ps szs ths rc nP sec sig G s c room v side base u r N st xs RX) (hg : GW Ps szs nP sec G) {p : Int} {d : DT} (p0 : 0 ≤ p) (p1 : p < P_n (Ps (G_pg G))) (hw : P_w (Ps (G_pg G)) p = 12) (hd : (base : Int) + st.length ≤ 60) (hO : ORt (Ps (G_pg G)) (szs (G_pg G)) side r st p) (hl : ((xs ++ RX).length : Int) ≤ 6400) :
    QW (fun n => g_72 o n 0 s 35 p) (BP Ps szs ths rc nP sec sig s c room v side base u r N RX G (match evG Ps sig G (P_1 (Ps (G_pg G)) p) with
      | .inr x => .inr x
      | .inl x => .inl (G, (if x < 1 then 3 else 1, p, (sec, x, d.2.2.1, d.2.2.2), st)))) := by
  obtain ⟨hW, hR, hr80, hr7⟩ := h.1.rows hg
  have hn5 := hW.2.1
  have hk := (hW.2.2.2.2.2.1 p p0 p1).2.2
  have hS : isS (P_w (Ps (G_pg G)) p) := by unfold isS; omega
  have hC : C1 (Ps (G_pg G)) p ∧ isE (P_w (Ps (G_pg G)) (p + 1)) := by
    rcases hk with k | k | k | k | k | k | k | k | k | k | k | k | k | k | k | k
    · have := k.1; omega
    · have := k.1; omega
    · have := k.2.1; omega
    · have := k.1; omega
    · have := k.1; omega
    · exact ⟨k.2.1, k.2.2.1⟩
    all_goals (have := k.1; omega)
  obtain ⟨hC1, hE⟩ := hC
  rw [hC1.1]
  have hs := h.1.1
  obtain ⟨n, np, hRS, hn, hnp, f7, f8, hkk, hK, hph1, hph2⟩ := hR
  refine QW_s ?_
  simp only [g_72]
  refine QW_p (k_rc (hs _ _ rfl)) ?_
  refine c_rk ho h.1 hg (by omega) hC1.2.2 hE (fun f x he => ?_) (fun f x he => ?_)
  · rw [he]
    have h1 := h.setK (f := f)
    have hs1 := h1.1.1
    have h20 := h1.1.2.1
    dsimp only
    refine QW_p (k_gv (hs1 _ _ rfl) rfl rfl) ?_
    refine QW_p (k_rc h20) ?_
    refine QW_e (d_43on h1.1) ?_
    dsimp only
    refine QW_g (by decide) ?_
    refine QW_if (by decide) ?_
    refine QW_by (fun z => ?_) (fun z => ?_)
    · have zn : ¬ x < 1 := fun q => by
        rw [Int64.le_iff_toInt_le] at z
        rw [Int64.lt_iff_toInt_lt] at q
        omega
      rw [if_neg zn]
      refine QW_p (k_rc (hs1 _ _ rfl)) ?_
      refine QW_c (d_73 h1 hg (by omega) ⟨p0, by omega⟩ (Or.inl rfl) hw hO hl) (fun q hq => ?_)
      obtain ⟨v', c', room', e1, e2, e3, e4⟩ := hq
      have hs2 := e1.1.1
      refine QW_p (k_rc (hs2 _ _ rfl)) ?_
      refine QW_e (d_75s e1 hd) ?_
      refine QW_ret ?_
      refine ⟨v', c', room', xs, e2, KC.setK.tr (e3.tr KC.f35), Or.inr (Or.inr (Or.inl ⟨rfl, rfl, ?_, q.2, ?_⟩))⟩
      · show q_F (q_sf q.1 35 5 _) 35 5 = _
        rw [q_F_sf, if_pos ⟨rfl, rfl⟩]
      · have e5 := e1.f35 (f := 5) (x := lfb v' 61 N) (by decide)
        obtain ⟨b1, b2, b3, b4, b5, b6, b7, b8, b9, b10⟩ := e5
        refine ⟨b1, b2, b3, b4, b5, b6, b7, b8, b9, ?_⟩
        obtain ⟨c1, c2, c3, c4, c5, c6, c7⟩ := b10
        refine ⟨c1, c2, c3, c4, c5, c6, ?_⟩
        rcases c7 with ⟨y1, y2⟩ | ⟨y1, y2, y3, y4, y5⟩
        · exact absurd y1 (by decide)
        · exact Or.inr ⟨y1, y2, y3, y4, fun q => by omega⟩
    · have zn : x < 1 := by
        rw [Int64.le_iff_toInt_le] at z
        rw [Int64.lt_iff_toInt_lt]
        omega
      rw [if_pos zn]
      refine QW_s ?_
      simp only [g_72]
      refine QW_m (k_then hs1 h20 hRS (by omega) p0 (by omega)) (fun q e => ?_)
      rw [e]
      exact ⟨v, c, room, xs, SM.rf _ _ _ _, KC.setK, Or.inr (Or.inl ⟨rfl, (hkk p p0 p1).2.2.2 hS, h1⟩)⟩
  · rw [he]
    have h20 : q_T (c_flt (setK s f) x.1 x.2) 20 = some (sh20 (.ref (rc (G_pg G))) (if G_sw G = -1 then .null else .ref (rc (G_sw G)))) := h.1.2.1
    have hs1 : SH (c_flt (setK s f) x.1 x.2) := hs
    dsimp only
    refine QW_p (k_gv (hs1 _ _ rfl) rfl rfl) ?_
    refine QW_p (k_rc h20) ?_
    refine QW_e (d_43off (s := setK s f) h.1.2.1) ?_
    dsimp only
    refine QW_g (by decide) ?_
    refine QW_it rfl ?_
    refine QW_s ?_
    simp only [g_72]
    refine QW_m (k_then hs1 h20 hRS (by omega) p0 (by omega)) (fun q e => ?_)
    rw [e]
    exact h.setK.cf KC.setK
/-- where a ramp begins and where it goes -/
theorem CL.ramp {p y sc0 : Int} {sc e1 e2 a b : Int64} (h : CL Ps szs ths rc nP sec sig G s c room v side base u r N 1 p (sc0, sc, e1, e2) st y xs RX) :
    ∃ v2, CL Ps szs ths rc nP sec sig G (q_sl (q_sl s (c + 9) y a) (c + 10) y b) c room v2 side base u r N 1 p (sc0, sc, a, b) st y xs RX ∧ SM v v2 RX u r ∧ KC s c room (q_sl (q_sl s (c + 9) y a) (c + 10) y b) c room := by
  have hy := h.yu
  obtain ⟨h1, h2, h3, h4, h5, h6, h7, h8, h9, h10⟩ := h
  have q2 := (h2.amt (i := 9) (x := y) (a := a) (by decide) (by decide) hy.1 hy.2).amt (i := 10) (x := y) (a := b) (by decide) (by decide) hy.1 hy.2
  have ro : RO v (v.1, (fun j z => if j = 10 ∧ z = y then b else if j = 9 ∧ z = y then a else v.2.1 j z), v.2.2) y := (RO.amt (i := 9) (x := y) (a := a)).tr (RO.amt (i := 10) (x := y) (a := b))
  have fk2 : FK s c room (q_sl (q_sl s (c + 9) y a) (c + 10) y b) c room := (FK.sl (by decide) (by decide)).tr (FK.sl (by decide) (by decide))
  have nd : (y :: (xs ++ RX)).Nodup := by
    obtain ⟨fl, w1, w2, w3, w4, w5⟩ := h7
    exact (List.nodup_append.mp w2).1
  have hn := (List.nodup_cons.mp nd).1
  have hnx : y ∉ xs := fun z => hn (List.mem_append_left _ z)
  have hnr : y ∉ RX := fun z => hn (List.mem_append_right _ z)
  have sm := ro.sm hnr (u := u) (r := r)
  refine ⟨_, ⟨h1.fk fk2, q2, ro.vb h3, h4, h5, ro.ch hnx h6, ro.cwd h7, h8.same sm, fun z => (ro.i (by decide) (by decide)).trans (h9 z), ?_⟩, sm, fk2.kc h2.cc⟩
  obtain ⟨c1, c2, c3, c4, c5, c6, c7⟩ := h10
  refine ⟨c1, ro.slot.trans c2, (ro.i (by decide) (by decide)).trans c3, (ro.i (by decide) (by decide)).trans c4, (ro.i (by decide) (by decide)).trans c5, (ro.i (by decide) (by decide)).trans c6, ?_⟩
  rcases c7 with ⟨y1, y2⟩ | ⟨y1, y2, y3, y4, y5⟩
  · exact absurd y1 (by decide)
  · refine Or.inr ⟨y1, (ro.i (by decide) (by decide)).trans y2, y3, ?_, fun _ => ⟨?_, ?_⟩⟩
    · show (if (8 : Nat) = 10 ∧ y = y then b else if (8 : Nat) = 9 ∧ y = y then a else v.2.1 8 y) = sc
      rw [if_neg (by omega), if_neg (by omega)]
      exact y4
    · show (if (9 : Nat) = 10 ∧ y = y then b else if (9 : Nat) = 9 ∧ y = y then a else v.2.1 9 y) = a
      rw [if_neg (by omega), if_pos ⟨rfl, rfl⟩]
    · show (if (10 : Nat) = 10 ∧ y = y then b else _) = b
      rw [if_pos ⟨rfl, rfl⟩]
set_option maxHeartbeats 1000000 in
/-- ramp -/
theorem d_76 (ho : o 2 = some (10, fun i => x_TABLE.getD i 0)) (h : CA Ps szs ths rc nP sec sig G s c room v side base u r N st xs RX) (hg : GW Ps szs nP sec G) {p : Int} (p0 : 0 ≤ p) (p1 : p < P_n (Ps (G_pg G))) (hw : P_w (Ps (G_pg G)) p = 13) (hd : (base : Int) + st.length ≤ 60) (hO : ORt (Ps (G_pg G)) (szs (G_pg G)) side r st p) (hl : ((xs ++ RX).length : Int) ≤ 6400) :
    QW (fun n => g_76 o n 0 s 35 p 0 0 0) (BP Ps szs ths rc nP sec sig s c room v side base u r N RX G (match evG Ps sig G (P_1 (Ps (G_pg G)) p) with
      | .inr x => .inr x
      | .inl x => (match evG Ps sig G (P_2 (Ps (G_pg G)) p) with
        | .inr y => .inr y
        | .inl m => .inl (if m < 1 then G_setO G (P_v (Ps (G_pg G)) p).toInt x else G, (if m < 1 then 3 else 1, p, (sec, m, G_o G (P_v (Ps (G_pg G)) p).toInt, x), st))))) := by
  obtain ⟨hW, hR, hr80, hr7⟩ := h.1.rows hg
  have hn5 := hW.2.1
  have hk := (hW.2.2.2.2.2.1 p p0 p1).2.2
  have hS : isS (P_w (Ps (G_pg G)) p) := by unfold isS; omega
  have hC : C2 (Ps (G_pg G)) (szs (G_pg G)) p ∧ isE (P_w (Ps (G_pg G)) (p + 1)) ∧ isE (P_w (Ps (G_pg G)) (p + 1 + szs (G_pg G) (p + 1))) ∧ 0 ≤ (P_v (Ps (G_pg G)) p).toInt ∧ (P_v (Ps (G_pg G)) p).toInt < 8 := by
    rcases hk with k | k | k | k | k | k | k | k | k | k | k | k | k | k | k | k
    · have := k.1; omega
    · have := k.1; omega
    · have := k.2.1; omega
    · have := k.1; omega
    · have := k.1; omega
    · have := k.1; omega
    · obtain ⟨k1, k2, k3, k4, k5, k6⟩ := k
      exact ⟨k2, k3, k4, k5⟩
    all_goals (have := k.1; omega)
  obtain ⟨hC2, hE, hE2, hv0, hv1⟩ := hC
  have hC1 := hC2.1
  have hz1 := (hW.2.2.2.2.2.1 (p + 1) (by omega) hC1.2.2).1
  rw [hC1.1, hC2.2.1]
  have hs := h.1.1
  have h20 := h.1.2.1
  obtain ⟨n, np, hRS, hn, hnp, f7, f8, hkk, hK, hph1, hph2⟩ := hR
  have ev0 : q_L s (rc (G_pg G) + 2) p = P_v (Ps (G_pg G)) p := by
    rw [(hkk p p0 p1).2.1]
    unfold numC
    rw [if_neg (by omega)]
  have K1 : ∀ (s1 : Q_S) (x y : Int64) (k q : Int), SH s1 → q_T s1 20 = some (sh20 (.ref (rc (G_pg G))) (if G_sw G = -1 then .null else .ref (rc (G_sw G)))) → CF Ps szs ths rc nP sec sig s c room G (k, q) (c_flt s1 k q) → QW (fun n => g_76 o n 1 (c_flt s1 k q) 35 p (P_v (Ps (G_pg G)) p).toInt x y) (fun z => CF Ps szs ths rc nP sec sig s c room G (k, q) z.1) := fun s1 x y k q hs1 hs20 hcf => by
    have hs2 : SH (c_flt s1 k q) := hs1
    have hs3 : q_T (c_flt s1 k q) 20 = some (sh20 (.ref (rc (G_pg G))) (if G_sw G = -1 then .null else .ref (rc (G_sw G)))) := hs20
    refine QW_s ?_
    simp only [g_76]
    refine QW_p (k_gv (hs2 _ _ rfl) rfl rfl) ?_
    refine QW_p (k_rc hs3) ?_
    refine QW_e (d_43off (s := s1) hs20) ?_
    dsimp only
    refine QW_g (by decide) ?_
    refine QW_if (by decide) ?_
    exact QW_ret hcf
  refine QW_s ?_
  simp only [g_76]
  refine QW_p (k_gv (hs _ _ rfl) rfl rfl) ?_
  refine QW_p (k_gv h20 rfl rfl) ?_
  refine QW_p (k_gv hRS.1 rfl rfl) ?_
  refine QW_p (k_la (hRS.2 _ _ rfl) p0 (by omega) (by omega)) ?_
  rw [ev0]
  refine QW_p (k_rc (hs _ _ rfl)) ?_
  refine c_rk ho h.1 hg (by omega) hC1.2.2 hE (fun f x he => ?_) (fun f x he => ?_)
  · rw [he]
    have h1 := h.setK (f := f)
    have hs1 := h1.1.1
    have h201 := h1.1.2.1
    have hRS1 : RSh (setK s f) (rc (G_pg G)) n np := hRS
    dsimp only
    refine QW_p (k_gv (hs1 _ _ rfl) rfl rfl) ?_
    refine QW_p (k_rc h201) ?_
    refine QW_e (d_43on h1.1) ?_
    dsimp only
    refine QW_g (by decide) ?_
    refine QW_if (by decide) ?_
    refine QW_p (k_gv (hs1 _ _ rfl) rfl rfl) ?_
    refine QW_p (k_gv h201 rfl rfl) ?_
    refine QW_p (k_rc hRS1.1) ?_
    refine QW_e (d_37 hRS1.1 hRS1.2 hn hn5 (fun p a b => (hkk p a b).2.2.1) p0 hC1.2.2) ?_
    dsimp only
    refine QW_p (k_rc (hs1 _ _ rfl)) ?_
    refine c_rk ho h1.1 hg (by omega) hC2.2.2.2 hE2 (fun f2 m he2 => ?_) (fun f2 y he2 => ?_)
    · rw [he2]
      have h2 := h1.setK (f := f2)
      have hs2 := h2.1.1
      have h202 := h2.1.2.1
      refine QW_s ?_
      simp only [g_76]
      refine QW_p (k_gv (hs2 _ _ rfl) rfl rfl) ?_
      refine QW_p (k_rc h202) ?_
      refine QW_e (d_43on h2.1) ?_
      dsimp only
      refine QW_g (by decide) ?_
      refine QW_it (by decide) ?_
      refine QW_by (fun z => ?_) (fun z => ?_)
      · have zn : ¬ m < 1 := fun q => by
          rw [Int64.le_iff_toInt_le] at z
          rw [Int64.lt_iff_toInt_lt] at q
          omega
        rw [if_neg zn, if_neg zn]
        refine QW_p (k_rc (hs2 _ _ rfl)) ?_
        refine QW_c (d_73 h2 hg (by omega) ⟨p0, by omega⟩ (Or.inr rfl) hw hO hl) (fun q hq => ?_)
        obtain ⟨v', c', room', e1, e2, e3, e4⟩ := hq
        have hs3 := e1.1.1
        have h203 := e1.1.2.1
        have hy := e1.yu
        obtain ⟨hF0, hFa, w1, w2, w3, w4, w5, w6, w7, w8, w9, w10, w11, w12⟩ := e1.2.1
        refine QW_p (k_gv (hs3 _ _ rfl) rfl rfl) ?_
        refine QW_p (k_gv hF0 rfl rfl) ?_
        refine QW_p (k_gv (hs3 _ _ rfl) rfl rfl) ?_
        refine QW_p (k_gv h203 rfl rfl) ?_
        refine QW_p (k_la (hs3 _ _ rfl) hv0 hv1 (by decide)) ?_
        have eo : q_L q.1 22 (P_v (Ps (G_pg G)) p).toInt = G_o G (P_v (Ps (G_pg G)) p).toInt := by
          rw [e4]
          exact h2.1.2.2.2.2.2.2.1 _ hv0 hv1
        rw [eo]
        refine QW_p (k_ls (hFa _ _ rfl) hy.1 (by omega) (by omega)) ?_
        refine QW_p (k_gv (hs3 _ _ rfl) rfl rfl) ?_
        refine QW_p (k_gv (show q_T (q_sl q.1 (c' + 9) q.2 (G_o G (P_v (Ps (G_pg G)) p).toInt)) 24 = some (shF0 c') from hF0) rfl rfl) ?_
        refine QW_p (k_ls (show q_T (q_sl q.1 (c' + 9) q.2 (G_o G (P_v (Ps (G_pg G)) p).toInt)) (c' + 10) = _ from hFa 10 _ rfl) hy.1 (by omega) (by omega)) ?_
        obtain ⟨v2, g1, g2, g3⟩ := e1.ramp (a := G_o G (P_v (Ps (G_pg G)) p).toInt) (b := x)
        have hs4 := g1.1.1
        refine QW_p (k_rc (hs4 _ _ rfl)) ?_
        refine QW_e (d_75s g1 hd) ?_
        refine QW_ret ?_
        refine ⟨v2, c', room', xs, e2.tr g2, KC.setK.tr (KC.setK.tr (e3.tr (g3.tr KC.f35))), Or.inr (Or.inr (Or.inl ⟨rfl, rfl, ?_, q.2, g1.f35 (by decide)⟩))⟩
        show q_F (q_sf _ 35 5 _) 35 5 = _
        rw [q_F_sf, if_pos ⟨rfl, rfl⟩]
      · have zn : m < 1 := by
          rw [Int64.le_iff_toInt_le] at z
          rw [Int64.lt_iff_toInt_lt]
          omega
        rw [if_pos zn, if_pos zn]
        refine QW_p (k_gv (hs2 _ _ rfl) rfl rfl) ?_
        refine QW_p (k_gv h202 rfl rfl) ?_
        refine QW_p (k_ls (hs2 _ _ rfl) hv0 hv1 (by decide)) ?_
        have h3 := h2.setO (j := (P_v (Ps (G_pg G)) p).toInt) (x := x)
        refine QW_m (k_then h3.1.1 h3.1.2.1 hRS (by omega) p0 (by omega)) (fun q e => ?_)
        rw [e]
        exact ⟨v, c, room, xs, SM.rf _ _ _ _, KC.setK.tr (KC.setK.tr (KC.sl (Or.inr rfl))), Or.inr (Or.inl ⟨rfl, (hkk p p0 p1).2.2.2 hS, h3⟩)⟩
    · rw [he2]
      exact K1 (setK (setK s f) f2) x 0 y.1 y.2 hs h20 (h1.setK.cf (KC.setK.tr KC.setK))
  · rw [he]
    have h201 : q_T (c_flt (setK s f) x.1 x.2) 20 = some (sh20 (.ref (rc (G_pg G))) (if G_sw G = -1 then .null else .ref (rc (G_sw G)))) := h20
    have hs1 : SH (c_flt (setK s f) x.1 x.2) := hs
    dsimp only
    refine QW_p (k_gv (hs1 _ _ rfl) rfl rfl) ?_
    refine QW_p (k_rc h201) ?_
    refine QW_e (d_43off (s := setK s f) h20) ?_
    dsimp only
    refine QW_g (by decide) ?_
    refine QW_it rfl ?_
    exact K1 (setK s f) 0 0 x.1 x.2 hs h20 (h.setK.cf KC.setK)
/-- if -/
theorem d_77 (ho : o 2 = some (10, fun i => x_TABLE.getD i 0)) (h : CA Ps szs ths rc nP sec sig G s c room v side base u r N st xs RX) (hg : GW Ps szs nP sec G) {p : Int} {d : DT} (p0 : 0 ≤ p) (p1 : p < P_n (Ps (G_pg G))) (hw : P_w (Ps (G_pg G)) p = 15) :
    QW (fun n => g_77 o n 0 s 35 p 0) (BP Ps szs ths rc nP sec sig s c room v side base u r N RX G (match evG Ps sig G (P_1 (Ps (G_pg G)) p) with
      | .inr x => .inr x
      | .inl x => .inl (G, if ¬ x = 0 then (2, P_2 (Ps (G_pg G)) p, d, st) else if P_3 (Ps (G_pg G)) p = -1 then (3, p, d, st) else (2, P_3 (Ps (G_pg G)) p, d, st)))) := by
  obtain ⟨hW, hR, hr80, hr7⟩ := h.1.rows hg
  have hn5 := hW.2.1
  have hk := (hW.2.2.2.2.2.1 p p0 p1).2.2
  have hS : isS (P_w (Ps (G_pg G)) p) := by unfold isS; omega
  have hC : C2 (Ps (G_pg G)) (szs (G_pg G)) p ∧ isE (P_w (Ps (G_pg G)) (p + 1)) ∧ (P_3 (Ps (G_pg G)) p = -1 ∨ (¬ P_3 (Ps (G_pg G)) p = -1 ∧ C3 (Ps (G_pg G)) (szs (G_pg G)) p)) := by
    rcases hk with k | k | k | k | k | k | k | k | k | k | k | k | k | k | k | k
    · have := k.1; omega
    · have := k.1; omega
    · have := k.2.1; omega
    · have := k.1; omega
    · have := k.1; omega
    · have := k.1; omega
    · have := k.1; omega
    · have := k.1; omega
    · obtain ⟨k1, k2, k3, k4, k5, k6⟩ := k
      exact ⟨k2, k3, Or.inl k5⟩
    · obtain ⟨k1, k2, k3, k4, k5, k6⟩ := k
      refine ⟨k2.1, k3, Or.inr ⟨?_, k2⟩⟩
      have z1 := (hW.2.2.2.2.2.1 (p + 1) (by omega) k2.1.1.2.2).1
      have z2 := (hW.2.2.2.2.2.1 (p + 1 + szs (G_pg G) (p + 1)) (by omega) k2.1.2.2.2).1
      rw [k2.2.1]
      omega
    all_goals (have := k.1; omega)
  obtain ⟨hC2, hE, h3⟩ := hC
  have hC1 := hC2.1
  have hz1 := (hW.2.2.2.2.2.1 (p + 1) (by omega) hC1.2.2).1
  rw [hC1.1]
  have hs := h.1.1
  have h20 := h.1.2.1
  obtain ⟨n, np, hRS, hn, hnp, f7, f8, hkk, hK, hph1, hph2⟩ := hR
  have hnum : q_L s (rc (G_pg G) + 2) p = if P_3 (Ps (G_pg G)) p = -1 then 0 else 1 := by
    rw [(hkk p p0 p1).2.1]
    unfold numC
    rw [if_pos hw]
  -- the second choice, in any state with these rows
  have K2 : ∀ (s1 : Q_S) (Q : Q_S × Int → Prop), RSh s1 (rc (G_pg G)) n np → (∀ i j, i ≤ 7 → q_I s1 (rc (G_pg G) + i) j = q_I s (rc (G_pg G) + i) j) → q_L s1 (rc (G_pg G) + 2) p = q_L s (rc (G_pg G) + 2) p → (Q (s1, if P_3 (Ps (G_pg G)) p = -1 then ths (G_pg G) p else P_3 (Ps (G_pg G)) p)) →
      QW (fun n => (q_gv s1 3 (.ref (rc (G_pg G))) 1).bind fun v14 => (q_la s1 v14 p).bind fun v16 => if v16 = 0 then (q_gv s1 3 (.ref (rc (G_pg G))) 3).bind fun v19 => (q_ia o s1 v19 p).bind fun v21 => g_77 o n 1 s1 0 0 (v21) else (q_rcv s1 3 (.ref (rc (G_pg G)))).bind fun b27 => (g_38 o n 0 s1 b27 (p)).bind fun q26 => g_77 o n 1 q26.1 0 0 (q26.2)) Q := fun s1 Q hRS1 eI eL hQ => by
    refine QW_p (k_gv hRS1.1 rfl rfl) ?_
    refine QW_p (k_la (hRS1.2 _ _ rfl) p0 (by omega) (by omega)) ?_
    rw [eL, hnum]
    rcases h3 with z | ⟨z, z3⟩
    · rw [if_pos z] at hQ ⊢
      refine QW_it rfl ?_
      refine QW_p (k_gv hRS1.1 rfl rfl) ?_
      refine QW_p (k_ia (hRS1.2 _ _ rfl) p0 (by omega) (by omega)) ?_
      refine QW_s ?_
      simp only [g_77]
      refine QW_ret ?_
      rw [eI 4 p (by decide), (hkk p p0 p1).2.2.2 hS]
      exact hQ
    · rw [if_neg z] at hQ ⊢
      refine QW_if (by decide) ?_
      refine QW_p (k_rc hRS1.1) ?_
      refine QW_e (d_38 hRS1.1 hRS1.2 hn hn5 (fun p a b => (eI 3 p (by decide)).trans (hkk p a b).2.2.1) p0 hC1.2.2 (by omega) hC2.2.2.2) ?_
      refine QW_s ?_
      simp only [g_77]
      refine QW_ret ?_
      rw [z3.2.1] at hQ
      exact hQ
  refine QW_s ?_
  simp only [g_77]
  refine QW_p (k_gv (hs _ _ rfl) rfl rfl) ?_
  refine QW_p (k_gv h20 rfl rfl) ?_
  refine QW_p (k_rc (hs _ _ rfl)) ?_
  refine c_rk ho h.1 hg (by omega) hC1.2.2 hE (fun f x he => ?_) (fun f x he => ?_)
  · rw [he]
    have h1 := h.setK (f := f)
    dsimp only
    refine QW_by (fun z => ?_) (fun z => ?_)
    · rw [if_neg (fun q => q z)]
      refine K2 (setK s f) _ hRS (fun _ _ _ => rfl) (by rw [setK_L, if_neg (by omega)]) ?_
      rcases h3 with y | ⟨y, y3⟩
      · rw [if_pos y, if_pos y]
        exact ⟨v, c, room, xs, SM.rf _ _ _ _, KC.setK, Or.inr (Or.inl ⟨rfl, rfl, h1⟩)⟩
      · rw [if_neg y, if_neg y]
        exact ⟨v, c, room, xs, SM.rf _ _ _ _, KC.setK, Or.inl ⟨rfl, rfl, h1⟩⟩
    · rw [if_pos z]
      have hRS1 : RSh (setK s f) (rc (G_pg G)) n np := hRS
      refine QW_p (k_rc hRS1.1) ?_
      refine QW_e (d_37 hRS1.1 hRS1.2 hn hn5 (fun p a b => (hkk p a b).2.2.1) p0 hC1.2.2) ?_
      refine QW_ret ?_
      rw [hC2.2.1]
      exact ⟨v, c, room, xs, SM.rf _ _ _ _, KC.setK, Or.inl ⟨rfl, rfl, h1⟩⟩
  · rw [he]
    dsimp only
    refine QW_it rfl ?_
    refine K2 (c_flt (setK s f) x.1 x.2) _ hRS (fun i j hi => c_flt_I (by omega)) (by show q_L (setK s f) _ p = _; rw [setK_L, if_neg (by omega)]) ?_
    exact h.setK.cf KC.setK
end CBW
