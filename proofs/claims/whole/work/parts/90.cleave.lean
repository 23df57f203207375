/-! THE WALKER: leaves put in, frames left -/
/-- only since, amount, from and goal of one row change -/
def RO (v v' : CV) (y : Int) : Prop := (∀ x, x ≠ y → EqX v v' x 0) ∧ (∀ i, 1 ≤ i → i ≤ 6 → vI v' i y = vI v i y) ∧ v_t v' = v_t v ∧ v_f v' = v_f v ∧ v_u v' = v_u v ∧ v_s v' = v_s v
theorem RO.rf (v : CV) (y : Int) : RO v v y := ⟨fun _ _ => EqX.rf _ _ _, fun _ _ _ => rfl, rfl, rfl, rfl, rfl⟩
theorem RO.tr {v v1 v2 : CV} {y : Int} (h : RO v v1 y) (g : RO v1 v2 y) : RO v v2 y := by
  obtain ⟨a1, a2, a3, a4, a5, a6⟩ := h
  obtain ⟨b1, b2, b3, b4, b5, b6⟩ := g
  exact ⟨fun x hx => (a1 x hx).tr (b1 x hx), fun i h0 h1 => (b2 i h0 h1).trans (a2 i h0 h1), b3.trans a3, b4.trans a4, b5.trans a5, b6.trans a6⟩
theorem RO.amt {v : CV} {i : Nat} {x : Int} {a : Int64} : RO v (v.1, (fun j y => if j = i ∧ y = x then a else v.2.1 j y), v.2.2) x := by
  refine ⟨fun y hy => ⟨fun _ _ _ _ => rfl, fun j _ _ => ?_⟩, fun _ _ _ => rfl, rfl, rfl, rfl, rfl⟩
  show (if j = i ∧ y = x then a else v.2.1 j y) = v.2.1 j y
  rw [if_neg (fun z => hy z.2)]
theorem RO.snc {v : CV} {x a : Int} : RO v ((fun j y => if j = 7 ∧ y = x then a else v.1 j y), v.2) x := by
  refine ⟨fun y hy => ⟨fun j _ _ _ => ?_, fun _ _ _ => rfl⟩, fun j j0 j1 => ?_, rfl, rfl, rfl, rfl⟩
  · show (if j = 7 ∧ y = x then a else v.1 j y) = v.1 j y
    rw [if_neg (fun z => hy z.2)]
  · show (if j = 7 ∧ x = x then a else v.1 j x) = v.1 j x
    rw [if_neg (by omega)]
section CRO
variable {v v' : CV} {y : Int}
theorem RO.vb (h : RO v v' y) (b : VB v) : VB v' := by
  obtain ⟨a1, a2, a3, a4, a5, a6⟩ := h
  obtain ⟨b1, b2, b3, b4⟩ := b
  unfold VB
  rw [a3, a4, a5, a6]
  refine ⟨fun x x0 x1 => ?_, b2, b3, b4⟩
  have e : ∀ i, 1 ≤ i → i ≤ 6 → vI v' i x = vI v i x := fun i h0 h1 => by
    by_cases z : x = y
    · rw [z]; exact a2 i h0 h1
    · exact (a1 x z).1 i h0 (by omega) (by omega)
  rw [e 1 (by decide) (by decide), e 2 (by decide) (by decide), e 3 (by decide) (by decide), e 4 (by decide) (by decide), e 5 (by decide) (by decide), e 6 (by decide) (by decide)]
  exact b1 x x0 x1
theorem RO.cwd (h : RO v v' y) {l : List Int} (b : CWd v l) : CWd v' l := by
  obtain ⟨a1, a2, a3, a4, a5, a6⟩ := h
  obtain ⟨fl, w1, w2, w3, w4, w5⟩ := b
  refine ⟨fl, ?_, w2, by rw [a5]; exact w3, by rw [a5]; exact w4, by rw [a5]; exact w5⟩
  rw [a4]
  refine flV_same fl _ (fun z _ => ?_) w1
  by_cases q : z = y
  · rw [q]; exact a2 3 (by decide) (by decide)
  · exact (a1 z q).1 3 (by decide) (by decide) (by decide)
theorem RO.sm (h : RO v v' y) {RX : List Int} (hy : y ∉ RX) {u : Int} {r : Bool} : SM v v' RX u r := ⟨fun x hx => (h.1 x (fun z => hy (by rw [← z]; exact hx))).wk, fun _ => h.2.2.1⟩
theorem RO.slot (h : RO v v' y) {u : Int} {r : Bool} : slotV v' u r = slotV v u r := by
  have c45 := colV_45 r
  unfold slotV
  by_cases z : u = -1
  · rw [if_pos z, if_pos z]; exact h.2.2.1
  · rw [if_neg z, if_neg z]
    by_cases q : u = y
    · rw [q]; exact h.2.1 _ (by omega) (by omega)
    · exact (h.1 u q).1 _ (by omega) (by omega) (by omega)
theorem RO.ch (h : RO v v' y) {P : PT} {base u : Int} {r : Bool} {st : List FR} {xs : List Int} (hy : y ∉ xs) (b : chV v P base u r st xs) : chV v' P base u r st xs :=
  chV_same st xs (fun x hx => h.1 x (fun z => hy (by rw [← z]; exact hx))) (fun _ => h.slot) b
theorem RO.i (h : RO v v' y) {x : Int} {i : Nat} (h0 : 1 ≤ i) (h1 : i ≤ 6) : vI v' i x = vI v i x := by
  by_cases z : x = y
  · rw [z]; exact h.2.1 i h0 h1
  · exact (h.1 x z).1 i h0 (by omega) (by omega)
end CRO
section CLV
variable {o : X_O} {Ps : Int → PT} {szs ths : Int → Int → Int} {rc : Int → Nat} {nP sec : Int} {sig : Int → Int64} {G G' : GT} {s s' : Q_S} {c room c' room' : Nat} {v v' : CV} {side : Option Int} {base : Nat} {u N : Int} {r : Bool} {st : List FR} {xs RX : List Int}
theorem CA.new (h : CA Ps szs ths rc nP sec sig G s c room v side base u r N st xs RX) : (if v_f v = -1 then v_u v else v_f v) ≠ hdI xs u := by
  obtain ⟨h1, h2, h3, h4, h5, h6, h7, h8, h9, h10, h11⟩ := h
  have hnew := h7.new
  intro z
  rw [z] at hnew
  cases xs with
  | nil =>
    rcases h8.1.depth.2 with q | q
    · have := hnew.2
      have e : hdI [] u = u := rfl
      omega
    · exact hnew.1 q
  | cons y ys => exact hnew.1 List.mem_cons_self
set_option maxHeartbeats 1000000 in
/-- a leaf that stands -/
theorem d_73 (h : CA Ps szs ths rc nP sec sig G s c room v side base u r N st xs RX) (hg : GW Ps szs nP sec G) {kd p : Int} {sc : Int64} (hd : base + st.length ≤ 60) (hp : 0 ≤ p ∧ p < 500) (hkd : kd = 12 ∨ kd = 13) (hw : P_w (Ps (G_pg G)) p = kd) (hO : ORt (Ps (G_pg G)) (szs (G_pg G)) side r st p) (hl : ((xs ++ RX).length : Int) ≤ 6400) :
    QW (fun n => g_73 o n 0 s 35 kd p sc) (fun q => ∃ v' c' room', CL Ps szs ths rc nP sec sig G q.1 c' room' v' side base u r N 1 p (sec, sc, vL v' 9 q.2, vL v' 10 q.2) st q.2 xs RX ∧ SM v v' RX u r ∧ KC s c room q.1 c' room' ∧ (∀ j, q_L q.1 22 j = q_L s 22 j)) := by
  have hh := h.hd
  have hxu := h.new
  have h' := h
  obtain ⟨h1, h2, h3, h4, h5, h6, h7, h8, h9, h10, h11⟩ := h'
  have hs := h1.1
  have hdep := chV_depth h8.1 h6
  have hsd := hg.2.2.2.2.2.2.2.2.2.2
  have hu65 : v_u v ≤ 6500 := by obtain ⟨fl, w1, w2, w3, w4, w5⟩ := h7; exact w5
  refine QW_s ?_
  simp only [g_73]
  refine QW_p (k_gv (hs _ _ rfl) rfl rfl) ?_
  refine QW_p (k_gi (hs _ _ rfl) rfl) ?_
  rw [h9]
  refine QW_p (k_rc (hs _ _ rfl)) ?_
  refine QW_e (d_74 h hg hp hO) ?_
  dsimp only
  refine QW_p (k_rc h2.1) ?_
  refine QW_c (d_49 (r := rsI xs r) h2 h3 (by omega) h4 rfl hxu (by omega) hp ⟨hh.1, hh.2.1⟩ (by omega) (by omega) rfl) (fun a ha => ?_)
  obtain ⟨e1, v', c', room', e2, e3, e4, e5⟩ := ha
  have g1 := h1.fk e5
  have hs1 := g1.1
  obtain ⟨t1, t2, t3, t4, t5, t6, t7, t8⟩ := t_add h6 h10 h7 h8 e4 hl
  rw [← e1] at e4 t3 t6 t7 t8
  generalize a.2 = y at *
  generalize a.1 = s1 at *
  have y1 : y < v_u v' := by
    obtain ⟨fl, w1, w2, w3, w4, w5⟩ := t6
    exact (w3 y (List.mem_append_left _ List.mem_cons_self)).2
  have e2' := e2
  obtain ⟨hF0, hFa, w1, w2, w3, w4, w5, w6, w7, w8, w9, w10, w11, w12⟩ := e2'
  refine QW_p (k_gv (hs1 _ _ rfl) rfl rfl) ?_
  refine QW_p (k_gv hF0 rfl rfl) ?_
  refine QW_p (k_gv (hs1 _ _ rfl) rfl rfl) ?_
  refine QW_p (k_gi g1.2.1 rfl) ?_
  rw [g1.2.2.2.1]
  refine QW_p (k_is (hFa _ _ rfl) t7 (by omega) (by omega)) ?_
  refine QW_p (k_gv (hs1 _ _ rfl) rfl rfl) ?_
  refine QW_p (k_gv hF0 rfl rfl) ?_
  refine QW_p (k_ls (hFa _ _ rfl) t7 (by omega) (by omega)) ?_
  have q2 := (e2.snc (i := 7) (x := y) (a := sec) (by decide) (by decide) t7 y1).amt (i := 8) (x := y) (a := sc) (by decide) (by decide) t7 y1
  have ro : RO v' ((fun j z => if j = 7 ∧ z = y then sec else v'.1 j z), (fun j z => if j = 8 ∧ z = y then sc else v'.2.1 j z), v'.2.2) y := RO.snc.tr RO.amt
  have fk2 : FK s1 c' room' (q_sl (q_si s1 (c' + 7) y sec) (c' + 8) y sc) c' room' := (FK.si (by decide) (by decide)).tr (FK.sl (by decide) (by decide))
  have hnx : y ∉ xs := fun z => t8 (List.mem_append_left _ z)
  have hnr : y ∉ RX := fun z => t8 (List.mem_append_right _ z)
  have sm2 := ro.sm hnr (u := u) (r := r)
  refine QW_ret ⟨((fun j z => if j = 7 ∧ z = y then sec else v'.1 j z), (fun j z => if j = 8 ∧ z = y then sc else v'.2.1 j z), v'.2.2), c', room', ⟨g1.fk fk2, q2, ro.vb e3, by have := e5.2.1; omega, ?_, ro.ch hnx t2, ro.cwd t6, t5.same sm2, fun z => (ro.i (by decide) (by decide)).trans (t4 z), ?_⟩, t1.tr sm2, (e5.tr fk2).kc h2.cc, fun j => ?_⟩
  · show v_s v' = G_sd G
    rw [e4.2.2.2.2.2.2.2.2.2.2.2.2, h5, if_neg (by omega)]
  · refine ⟨t7, ro.slot.trans t3, (ro.i (by decide) (by decide)).trans e4.2.2.1, (ro.i (by decide) (by decide)).trans e4.2.2.2.1, (ro.i (by decide) (by decide)).trans e4.2.2.2.2.1, (ro.i (by decide) (by decide)).trans e4.2.2.2.2.2.1, Or.inr ⟨rfl, (ro.i (by decide) (by decide)).trans (e4.2.1.trans hw.symm), ?_, ?_, fun _ => ⟨rfl, rfl⟩⟩⟩
    · show (if (7 : Nat) = 7 ∧ y = y then sec else v'.1 7 y) = sec
      rw [if_pos ⟨rfl, rfl⟩]
    · show (if (8 : Nat) = 8 ∧ y = y then sc else v'.2.1 8 y) = sc
      rw [if_pos ⟨rfl, rfl⟩]
  · have k := (e5.tr fk2).2.2.2.2.2 22 (by have := h1.2.2.2.2.2.2.2.2.2.2.2.1; omega) (by decide) (by have := h2.cc; omega)
    exact (k.2 j).2
/-- the run is over -/
theorem d_84 (hs : SH s) {rw wt : Value} (h20 : q_T s 20 = some (sh20 rw wt)) : QW (fun n => g_84 o n 0 s 35) (fun q => q = (q_sf s 20 0 0, -1000000)) := by
  refine QW_s ?_
  simp only [g_84]
  refine QW_p (k_gv (hs _ _ rfl) rfl rfl) ?_
  refine QW_p (k_pi h20 rfl rfl) ?_
  exact QW_ret rfl
set_option maxHeartbeats 1000000 in
/-- the innermost frame is left -/
theorem d_86 {p : Int} {a : Int64} {t : List FR} {x : Int} {ys : List Int} (h : CA Ps szs ths rc nP sec sig G s c room v side base u r N ((p, a) :: t) (x :: ys) RX) (hg : GW Ps szs nP sec G) (hp : 0 ≤ p ∧ p < P_n (Ps (G_pg G))) (hS : isS (P_w (Ps (G_pg G)) p)) (h4 : vI v 4 x = -1) :
    QW (fun n => g_86 o n 0 s 35) (fun q => q.2 = ths (G_pg G) p ∧ ∃ v', CA Ps szs ths rc nP sec sig (if P_w (Ps (G_pg G)) p = 18 then G_side G (-1) else G) q.1 c room v' side base u r N t ys RX ∧ SM v v' RX u r ∧ KC s c room q.1 c room) := by
  obtain ⟨h1, h2, h3, h40, h5, h6, h7, h8, h9, h10, h11⟩ := h
  obtain ⟨⟨c1, c2, c3, c4, c5, c6, c7, c8⟩, c9⟩ := h6
  have h9 : q_F s 35 4 = x := h9
  have hs := h1.1
  have hgW := hg.2.2.2.2.1 _ hg.2.2.2.2.2.1 hg.2.2.2.2.2.2.1
  have hn5 := hgW.2.1
  have hsd := hg.2.2.2.2.2.2.2.2.2.2
  have x1 : x < v_u v := by
    obtain ⟨fl, w1, w2, w3, w4, w5⟩ := h7
    exact (w3 x (List.mem_append_left _ List.mem_cons_self)).2
  have hu65 : v_u v ≤ 6500 := by obtain ⟨fl, w1, w2, w3, w4, w5⟩ := h7; exact w5
  have h2' := h2
  obtain ⟨hF0, hFa, w1, w2, w3, w4, w5, w6, w7, w8, w9, w10, w11, w12⟩ := h2'
  have hup : vI v 3 x ≠ x := by
    rw [c4]
    intro z
    have nd : (x :: (ys ++ RX)).Nodup := by
      obtain ⟨fl, q1, q2, q3, q4, q5⟩ := h7
      exact (List.nodup_append.mp q2).1
    have nx := (List.nodup_cons.mp nd).1
    cases ys with
    | nil =>
      have z : u = x := z
      rcases h8.1.depth.2 with q | q
      · omega
      · exact nx (by rw [← z]; exact q)
    | cons y zs =>
      have z : y = x := z
      exact nx (by rw [← z]; exact List.mem_cons_self)
  refine QW_s ?_
  simp only [g_86]
  refine QW_p (k_gi (hs _ _ rfl) rfl) ?_
  rw [h9]
  refine QW_g (by omega) ?_
  refine QW_it (by omega) ?_
  refine QW_p (k_gi (hs _ _ rfl) rfl) ?_
  rw [h9]
  refine QW_p (k_gv (hs _ _ rfl) rfl rfl) ?_
  refine QW_p (k_gv hF0 rfl rfl) ?_
  refine QW_p (k_ia (hFa _ _ rfl) c1 (by omega) (by omega)) ?_
  rw [w1 2 x (by decide) (by decide) c1 x1, c3]
  refine QW_p (k_gv (hs _ _ rfl) rfl rfl) ?_
  refine QW_p (k_gv hF0 rfl rfl) ?_
  refine QW_p (k_ia (hFa _ _ rfl) c1 (by omega) (by omega)) ?_
  rw [w1 3 x (by decide) (by decide) c1 x1, c4]
  refine QW_p (k_pi (hs _ _ rfl) rfl rfl) ?_
  refine QW_p (k_gv (hs _ _ rfl) rfl rfl) ?_
  refine QW_p (k_rc hF0) ?_
  refine QW_c (d_54 (h2.f35 (f := 4) (x := hdI ys u)) h3 c1 x1 hup (by omega)) (fun b hb => ?_)
  obtain ⟨v', e2, e3, e4, e5⟩ := hb
  have g1 := (h1.f35 (f := 4) (x := hdI ys u) (by decide)).fk e5
  obtain ⟨t1, t2, t3, t4, t5, t6⟩ := t_rem c9 c8 c7 c4 h7 h8 e4
  have hs1 := g1.1
  obtain ⟨⟨n, np, ⟨hR0, hRa⟩, hn, hnp, f7, f8, hk, hK, hph1, hph2⟩, -⟩ := g1.2.2.2.2.2.2.2.2.2.2.2.2 _ hg.2.2.2.2.2.1 hg.2.2.2.2.2.2.1
  refine QW_p (k_gv (hs1 _ _ rfl) rfl rfl) ?_
  refine QW_p (k_gv g1.2.1 rfl rfl) ?_
  refine QW_p (k_gv hR0 rfl rfl) ?_
  refine QW_p (k_ia (hRa _ _ rfl) hp.1 (by omega) (by omega)) ?_
  rw [(hk p hp.1 hp.2).2.2.2 hS]
  have q1 : CG Ps szs ths rc nP sec sig (if P_w (Ps (G_pg G)) p = 18 then G_side G (-1) else G) b.1 c := by
    split
    · exact (g1 : CG Ps szs ths rc nP sec sig G b.1 c)
    · exact g1
  have ep : G_pg (if P_w (Ps (G_pg G)) p = 18 then G_side G (-1) else G) = G_pg G := by split <;> rfl
  refine QW_ret ⟨rfl, v', ⟨q1, e2, e3, h40, ?_, by rw [ep]; exact t2, t6, t5, ?_, t4, t3⟩, t1, KC.f35.tr (e5.kc h2.cc)⟩
  · rw [e4.2.2.2.2.2.2, h5, c2]
    split
    · show G_sd G - 1 = G_sd (G_side G (-1))
      rfl
    · rfl
  · have k := e5.2.2.2.2.2 35 (by show 35 < s.1; omega) (by decide) (by have := h2.cc; omega)
    refine ((k.2 4).1).trans ?_
    show q_F (q_sf s 35 4 (hdI ys u)) 35 4 = _
    rw [q_F_sf, if_pos ⟨rfl, rfl⟩]
end CLV
