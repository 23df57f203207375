/-! THE WALKER BEGINS: frames put around -/
theorem chV_sameK {v v' : CV} {P : PT} {base u : Int} {r : Bool} {st : List FR} {xs : List Int} {kc : Nat} (hkc : kc = 4 ∨ kc = 5) (hn : xs.Nodup) (e : ∀ x ∈ xs, EqX v v' x (if x = hdI xs u then kc else 0)) (es : xs ≠ [] → slotV v' u r = slotV v u r) (h : chV v P base u r st xs) : chV v' P base u r st xs := by
  cases st with
  | nil =>
    cases xs with
    | nil => exact h
    | cons _ _ => exact h.elim
  | cons f t =>
    obtain ⟨p, a⟩ := f
    cases xs with
    | nil => exact h.elim
    | cons x xs =>
      obtain ⟨⟨h1, h2, h3, h4, h5, h6, h7, h8⟩, h9⟩ := h
      have ex := e x List.mem_cons_self
      rw [show hdI (x :: xs) u = x from rfl, if_pos rfl] at ex
      have et : ∀ y ∈ xs, EqX v v' y 0 := fun y hy => by
        have := e y (List.mem_cons_of_mem _ hy)
        rw [show hdI (x :: xs) u = x from rfl, if_neg (fun q => (List.nodup_cons.mp hn).1 (by rw [← q]; exact hy))] at this
        exact this
      have ge := (chV_ge t xs h9).1
      refine ⟨⟨h1, (ex.1 1 (by decide) (by decide) (by omega)).trans h2, (ex.1 2 (by decide) (by decide) (by omega)).trans h3, (ex.1 3 (by decide) (by decide) (by omega)).trans h4, (ex.1 6 (by decide) (by decide) (by omega)).trans h5, fun z => (ex.2 8 (by decide) (by decide)).trans (h6 z), ?_, fun z => ?_⟩, chV_same t xs et (fun _ => es (by simp)) h9⟩
      · cases xs with
        | nil => exact (es (by simp)).trans h7
        | cons y ys => exact (slot_same (by have := ge y List.mem_cons_self; show ¬ y = -1; omega) (et y List.mem_cons_self)).trans h7
      · exact ((et _ (hdI_mem z)).1 5 (by decide) (by decide) (by decide)).trans (h8 z)
theorem chV_mem {v : CV} {P : PT} {base u : Int} {r : Bool} : ∀ (st : List FR) (xs : List Int), chV v P base u r st xs → xs ≠ [] → slotV v u r ∈ xs := by
  intro st
  induction st with
  | nil =>
    intro xs h hn
    cases xs with
    | nil => exact absurd rfl hn
    | cons _ _ => exact h.elim
  | cons f t ih =>
    intro xs h hn
    obtain ⟨p, a⟩ := f
    cases xs with
    | nil => exact h.elim
    | cons x xs =>
      cases xs with
      | nil =>
        have e : slotV v u r = x := h.1.2.2.2.2.2.2.1
        rw [e]
        exact List.mem_cons_self
      | cons z zs => exact List.mem_cons_of_mem _ (ih (z :: zs) h.2 (by simp))
/-- the branches below a side -/
theorem CX.sub {v : CV} {P : PT} {RX RY : List Int} {base : Nat} {u N : Int} {r : Bool} {side : Option Int} {p : Int} {a : Int64} {t : List FR} {x : Int} {ys : List Int} (h : CX v RX base u r N side) (hc : chV v P base u r ((p, a) :: t) (x :: ys)) (hw : P_w P p = 18) (nd : (x :: ys ++ RX).Nodup) (hs : ∀ z ∈ x :: ys ++ RX, z ∈ RY) :
    CX v RY (base + (t.length + 1)) x false (if vI v 5 x = -1 then N else vI v 5 x) (some p) ∧ ((vI v 4 x = -1 ∨ vI v 4 x ∈ RY) → CX v RY (base + (t.length + 1)) x true N (some p)) := by
  have hr : r = true → ¬ vI v 4 u = slotV v u r := fun z q => by
    have hin := chV_in hc (by simp)
    have hm := chV_mem _ _ hc (by simp)
    rcases h.2.1 z with e | e
    · omega
    · rw [← q] at hm
      exact nd_app nd hm e
  have hl : ys.length = t.length := (chV_ge t ys hc.2).2
  have dn := fun rr z => NXT.mono hs _ _ _ _ (h.1.down hr _ _ hc (by simp) rr z)
  have el : base + (x :: ys).length = base + (t.length + 1) := by simp [hl]
  rw [el] at dn
  have hx : x ∈ RY := hs x List.mem_cons_self
  obtain ⟨⟨c1, c2, c3, c4, c5, c6, c7, c8⟩, c9⟩ := hc
  refine ⟨⟨?_, (fun z => by cases z), c1, hx, c2.trans hw, c3⟩, fun z => ⟨dn true (Or.inl rfl), fun _ => z, c1, hx, c2.trans hw, c3⟩⟩
  by_cases z : vI v 5 x = -1
  · rw [if_pos z]
    exact dn false (Or.inr z)
  · rw [if_neg z]
    exact ⟨hx, c1, (by show vI v 6 x = ((base + t.length : Nat) : Int) + 1; rw [c5]; push_cast; omega), Or.inl ⟨rfl, z, rfl⟩⟩
section CBF
variable {o : X_O} {Ps : Int → PT} {szs ths : Int → Int → Int} {rc : Int → Nat} {nP sec : Int} {sig : Int → Int64} {G G' : GT} {s s' : Q_S} {c room c' room' : Nat} {v v' : CV} {side : Option Int} {base : Nat} {u N : Int} {r : Bool} {st : List FR} {xs RX : List Int}
theorem d_70 (hs : SH s) {rw wt : Value} (h20 : q_T s 20 = some (sh20 rw wt)) {k p : Int} : QW (fun n => g_70 o n 0 s 35 k p) (fun q => q = (c_flt s k p, -1000000)) := by
  refine QW_s ?_
  simp only [g_70]
  refine QW_p (k_gv (hs _ _ rfl) rfl rfl) ?_
  refine QW_p (k_rc h20) ?_
  refine QW_e (d_44 h20) ?_
  exact QW_ret rfl
theorem CA.zero {p x : Int} {a b : Int64} (h : CA Ps szs ths rc nP sec sig G s c room v side base u r N ((p, a) :: st) (x :: xs) RX) (hw : ¬ P_w (Ps (G_pg G)) p = 17) : CA Ps szs ths rc nP sec sig G s c room v side base u r N ((p, b) :: st) (x :: xs) RX := by
  obtain ⟨h1, h2, h3, h4, h5, ⟨⟨c1, c2, c3, c4, c5, c6, c7, c8⟩, c9⟩, h7, h8, h9, h10, h11⟩ := h
  exact ⟨h1, h2, h3, h4, h5, ⟨⟨c1, c2, c3, c4, c5, fun z => absurd z hw, c7, c8⟩, c9⟩, h7, h8, h9, h10, h11⟩
/-- how often still -/
theorem CA.amt8 {p x : Int} {a b : Int64} (h : CA Ps szs ths rc nP sec sig G s c room v side base u r N ((p, a) :: st) (x :: xs) RX) :
    ∃ v2, CA Ps szs ths rc nP sec sig G (q_sl s (c + 8) x b) c room v2 side base u r N ((p, b) :: st) (x :: xs) RX ∧ SM v v2 RX u r ∧ KC s c room (q_sl s (c + 8) x b) c room := by
  obtain ⟨h1, h2, h3, h4, h5, ⟨⟨c1, c2, c3, c4, c5, c6, c7, c8⟩, c9⟩, h7, h8, h9, h10, h11⟩ := h
  have nd : (x :: (xs ++ RX)).Nodup := by
    obtain ⟨fl, w1, w2, w3, w4, w5⟩ := h7
    exact (List.nodup_append.mp w2).1
  have x1 : x < v_u v := by
    obtain ⟨fl, w1, w2, w3, w4, w5⟩ := h7
    exact (w3 x (List.mem_append_left _ List.mem_cons_self)).2
  have hn := (List.nodup_cons.mp nd).1
  have hnx : x ∉ xs := fun z => hn (List.mem_append_left _ z)
  have hnr : x ∉ RX := fun z => hn (List.mem_append_right _ z)
  have q2 := h2.amt (i := 8) (x := x) (a := b) (by decide) (by decide) c1 x1
  have ro := RO.amt (v := v) (i := 8) (x := x) (a := b)
  have fk2 : FK s c room (q_sl s (c + 8) x b) c room := FK.sl (by decide) (by decide)
  have sm := ro.sm hnr (u := u) (r := r)
  have i6 := fun i (a1 : 1 ≤ i) (a2 : i ≤ 6) y => ro.i (x := y) a1 a2
  refine ⟨_, ⟨h1.fk fk2, q2, ro.vb h3, h4, h5, ⟨⟨c1, (i6 1 (by decide) (by decide) _).trans c2, (i6 2 (by decide) (by decide) _).trans c3, (i6 3 (by decide) (by decide) _).trans c4, (i6 6 (by decide) (by decide) _).trans c5, fun _ => ?_, ro.slot.trans c7, fun z => (i6 5 (by decide) (by decide) _).trans (c8 z)⟩, ro.ch hnx c9⟩, ro.cwd h7, h8.same sm, ?_, fun z => (i6 5 (by decide) (by decide) _).trans (h10 z), ro.slot.trans h11⟩, sm, fk2.kc h2.cc⟩
  · show (if (8 : Nat) = 8 ∧ x = x then b else v.2.1 8 x) = b
    rw [if_pos ⟨rfl, rfl⟩]
  · rw [q_F_sl]
    exact h9
set_option maxHeartbeats 1000000 in
/-- limit -/
theorem d_78 (ho : o 2 = some (10, fun i => x_TABLE.getD i 0)) (h : CA Ps szs ths rc nP sec sig G s c room v side base u r N st xs RX) (hg : GW Ps szs nP sec G) {p : Int} {d : DT} (p0 : 0 ≤ p) (p1 : p < P_n (Ps (G_pg G))) (hw : P_w (Ps (G_pg G)) p = 16) (hd : (base : Int) + st.length ≤ 60) (hO : ORt (Ps (G_pg G)) (szs (G_pg G)) side r st p) (hl : ((xs ++ RX).length : Int) ≤ 6400) :
    QW (fun n => g_78 o n 0 s 35 p 0) (BP Ps szs ths rc nP sec sig s c room v side base u r N RX G (match evG Ps sig G (P_1 (Ps (G_pg G)) p) with
      | .inr x => .inr x
      | .inl x => if x = 0 then .inl (G, (2, P_3 (Ps (G_pg G)) p, d, st)) else pushA base p st (.inl (G, (2, P_2 (Ps (G_pg G)) p, d, (p, 0) :: st))))) := by
  obtain ⟨hW, hR, hr80, hr7⟩ := h.1.rows hg
  have hn5 := hW.2.1
  have hk := (hW.2.2.2.2.2.1 p p0 p1).2.2
  have hC : C3 (Ps (G_pg G)) (szs (G_pg G)) p ∧ isE (P_w (Ps (G_pg G)) (p + 1)) := by
    rcases hk with k | k | k | k | k | k | k | k | k | k | k | k | k | k | k | k
    · have := k.1; omega
    · have := k.1; omega
    · have := k.2.1; omega
    · have := k.1; omega
    · have := k.1; omega
    · have := k.1; omega
    · have := k.1; omega
    · have := k.1; omega
    · have := k.1; omega
    · have := k.1; omega
    · exact ⟨k.2.1, k.2.2.1⟩
    all_goals (have := k.1; omega)
  obtain ⟨hC3, hE⟩ := hC
  have hC2 := hC3.1
  have hC1 := hC2.1
  have hz1 := (hW.2.2.2.2.2.1 (p + 1) (by omega) hC1.2.2).1
  rw [hC1.1]
  have hs := h.1.1
  have h20 := h.1.2.1
  obtain ⟨n, np, hRS, hn, hnp, f7, f8, hkk, hK, hph1, hph2⟩ := hR
  refine QW_s ?_
  simp only [g_78]
  refine QW_p (k_rc (hs _ _ rfl)) ?_
  refine c_rk ho h.1 hg (by omega) hC1.2.2 hE (fun f x he => ?_) (fun f x he => ?_)
  · rw [he]
    have h1 := h.setK (f := f)
    have hs1 := h1.1.1
    have h201 := h1.1.2.1
    have hRS1 : RSh (setK s f) (rc (G_pg G)) n np := hRS
    have K2 : ∀ (s1 : Q_S) (t : Int), QW (fun n => g_78 o n 2 s1 0 0 t) (fun q => q = (s1, t)) := fun s1 t => by
      refine QW_s ?_
      simp only [g_78]
      exact QW_ret rfl
    dsimp only
    refine QW_by (fun z => ?_) (fun z => ?_)
    · rw [if_pos z]
      refine QW_s ?_
      simp only [g_78]
      refine QW_p (k_gv (hs1 _ _ rfl) rfl rfl) ?_
      refine QW_p (k_rc h201) ?_
      refine QW_e (d_43on h1.1) ?_
      dsimp only
      refine QW_g (by decide) ?_
      refine QW_it (by decide) ?_
      refine QW_g (by decide) ?_
      refine QW_if (by decide) ?_
      refine QW_p (k_gv (hs1 _ _ rfl) rfl rfl) ?_
      refine QW_p (k_gv h201 rfl rfl) ?_
      refine QW_p (k_rc hRS1.1) ?_
      refine QW_e (d_38 hRS1.1 hRS1.2 hn hn5 (fun p a b => (hkk p a b).2.2.1) p0 hC1.2.2 (by omega) hC2.2.2.2) ?_
      refine QW_ret ?_
      rw [hC3.2.1]
      exact ⟨v, c, room, xs, SM.rf _ _ _ _, KC.setK, Or.inl ⟨rfl, rfl, h1⟩⟩
    · rw [if_neg z]
      refine QW_s ?_
      simp only [g_78]
      refine QW_p (k_gv (hs1 _ _ rfl) rfl rfl) ?_
      refine QW_p (k_rc h201) ?_
      refine QW_e (d_43on h1.1) ?_
      dsimp only
      refine QW_g (by decide) ?_
      refine QW_it (by decide) ?_
      refine QW_g (by decide) ?_
      refine QW_it (by decide) ?_
      refine QW_p (k_rc (hs1 _ _ rfl)) ?_
      unfold pushA
      by_cases y : (base : Int) + st.length = 60
      · rw [if_pos y]
        refine QW_e (d_79f h1 y) ?_
        dsimp only
        refine QW_g (by decide) ?_
        refine QW_it rfl ?_
        refine QW_m (K2 _ _) (fun q e => ?_)
        rw [e]
        exact h1.cf (x := (4, p)) KC.setK
      · rw [if_neg y]
        refine QW_c (d_79 h1 hg (by omega) ⟨p0, by omega⟩ (by decide) hw hO hl) (fun q hq => ?_)
        obtain ⟨e1, v', c', room', xx, e2, e3, e4, e5⟩ := hq
        rw [if_neg (by decide)] at e2
        rw [e1]
        refine QW_g (by decide) ?_
        refine QW_if (by decide) ?_
        obtain ⟨hW', hR', hr80', hr7'⟩ := e2.1.rows hg
        obtain ⟨n', np', hRS', hn', hnp', f7', f8', hkk', hK', hph1', hph2'⟩ := hR'
        refine QW_p (k_gv (e2.1.1 _ _ rfl) rfl rfl) ?_
        refine QW_p (k_gv e2.1.2.1 rfl rfl) ?_
        refine QW_p (k_rc hRS'.1) ?_
        refine QW_e (d_37 hRS'.1 hRS'.2 hn' hn5 (fun p a b => (hkk' p a b).2.2.1) p0 hC1.2.2) ?_
        refine QW_m (K2 _ _) (fun q9 e => ?_)
        rw [e, hC2.2.1]
        exact ⟨v', c', room', xx :: xs, e3, KC.setK.tr e4, Or.inl ⟨rfl, rfl, e2.zero (by omega)⟩⟩
  · rw [he]
    have h201 : q_T (c_flt (setK s f) x.1 x.2) 20 = some (sh20 (.ref (rc (G_pg G))) (if G_sw G = -1 then .null else .ref (rc (G_sw G)))) := h20
    have hs1 : SH (c_flt (setK s f) x.1 x.2) := hs
    dsimp only
    refine QW_it rfl ?_
    refine QW_s ?_
    simp only [g_78]
    refine QW_p (k_gv (hs1 _ _ rfl) rfl rfl) ?_
    refine QW_p (k_rc h201) ?_
    refine QW_e (d_43off (s := setK s f) h20) ?_
    dsimp only
    refine QW_g (by decide) ?_
    refine QW_if (by decide) ?_
    exact QW_ret (h.setK.cf KC.setK)
set_option maxHeartbeats 1000000 in
/-- repeat -/
theorem d_80 (ho : o 2 = some (10, fun i => x_TABLE.getD i 0)) (h : CA Ps szs ths rc nP sec sig G s c room v side base u r N st xs RX) (hg : GW Ps szs nP sec G) {p : Int} {d : DT} (p0 : 0 ≤ p) (p1 : p < P_n (Ps (G_pg G))) (hw : P_w (Ps (G_pg G)) p = 17) (hd : (base : Int) + st.length ≤ 60) (hO : ORt (Ps (G_pg G)) (szs (G_pg G)) side r st p) (hl : ((xs ++ RX).length : Int) ≤ 6400) :
    QW (fun n => g_80 o n 0 s 35 p) (BP Ps szs ths rc nP sec sig s c room v side base u r N RX G (match evG Ps sig G (P_1 (Ps (G_pg G)) p) with
      | .inr x => .inr x
      | .inl x => if x < 1 then .inl (G, (3, p, d, st)) else pushA base p st (.inl (G, (2, P_2 (Ps (G_pg G)) p, d, (p, x) :: st))))) := by
  obtain ⟨hW, hR, hr80, hr7⟩ := h.1.rows hg
  have hn5 := hW.2.1
  have hk := (hW.2.2.2.2.2.1 p p0 p1).2.2
  have hS : isS (P_w (Ps (G_pg G)) p) := by unfold isS; omega
  have hC : C2 (Ps (G_pg G)) (szs (G_pg G)) p ∧ isE (P_w (Ps (G_pg G)) (p + 1)) := by
    rcases hk with k | k | k | k | k | k | k | k | k | k | k | k | k | k | k | k
    · have := k.1; omega
    · have := k.1; omega
    · have := k.2.1; omega
    · have := k.1; omega
    · have := k.1; omega
    · have := k.1; omega
    · have := k.1; omega
    · have := k.1; omega
    · have := k.1; omega
    · have := k.1; omega
    · have := k.1; omega
    · exact ⟨k.2.1, k.2.2.1⟩
    all_goals (have := k.1; omega)
  obtain ⟨hC2, hE⟩ := hC
  have hC1 := hC2.1
  rw [hC1.1]
  have hs := h.1.1
  have h20 := h.1.2.1
  obtain ⟨n, np, hRS, hn, hnp, f7, f8, hkk, hK, hph1, hph2⟩ := hR
  refine QW_s ?_
  simp only [g_80]
  refine QW_p (k_rc (hs _ _ rfl)) ?_
  refine c_rk ho h.1 hg (by omega) hC1.2.2 hE (fun f x he => ?_) (fun f x he => ?_)
  · rw [he]
    have h1 := h.setK (f := f)
    have hs1 := h1.1.1
    have h201 := h1.1.2.1
    have hRS1 : RSh (setK s f) (rc (G_pg G)) n np := hRS
    dsimp only
    refine QW_p (k_gv (hs1 _ _ rfl) rfl rfl) ?_
    refine QW_p (k_rc h201) ?_
    refine QW_e (d_43on h1.1) ?_
    dsimp only
    refine QW_g (by decide) ?_
    refine QW_if (by decide) ?_
    refine QW_by (fun z => ?_) (fun z => ?_)
    · have zn : ¬ x < 1 := fun q => by
        rw [Int64.le_iff_toInt_le] at z
        rw [Int64.lt_iff_toInt_lt] at q
        omega
      rw [if_neg zn]
      refine QW_p (k_rc (hs1 _ _ rfl)) ?_
      unfold pushA
      by_cases y : (base : Int) + st.length = 60
      · rw [if_pos y]
        refine QW_e (d_79f h1 y) ?_
        dsimp only
        refine QW_g (by decide) ?_
        refine QW_if (by decide) ?_
        exact QW_ret (h1.cf (x := (4, p)) KC.setK)
      · rw [if_neg y]
        refine QW_c (d_79 h1 hg (by omega) ⟨p0, by omega⟩ (by decide) hw hO hl) (fun q hq => ?_)
        obtain ⟨e1, v', c', room', xx, e2, e3, e4, e5⟩ := hq
        rw [if_neg (by decide)] at e2
        rw [e1]
        refine QW_g (by decide) ?_
        refine QW_it (by decide) ?_
        have hF := e2.2.1
        obtain ⟨hF0, hFa, w1, w2, w3, w4, w5, w6, w7, w8, w9, w10, w11, w12⟩ := hF
        have hh := e2.hd
        have hx0 : 0 ≤ xx := e2.2.2.2.2.2.1.1.1
        have hx1 : xx < v_u v' := hh.2.1
        have ha : q_F q.1 35 4 = xx := e2.2.2.2.2.2.2.2.2.1
        refine QW_p (k_gv (e2.1.1 _ _ rfl) rfl rfl) ?_
        refine QW_p (k_gv hF0 rfl rfl) ?_
        refine QW_p (k_gi (e2.1.1 _ _ rfl) rfl) ?_
        rw [ha]
        refine QW_p (k_ls (hFa _ _ rfl) hx0 (by omega) (by omega)) ?_
        obtain ⟨v2, g1, g2, g3⟩ := e2.amt8 (b := x)
        obtain ⟨hW', hR', hr80', hr7'⟩ := g1.1.rows hg
        obtain ⟨n', np', hRS', hn', hnp', f7', f8', hkk', hK', hph1', hph2'⟩ := hR'
        refine QW_p (k_gv (g1.1.1 _ _ rfl) rfl rfl) ?_
        refine QW_p (k_gv g1.1.2.1 rfl rfl) ?_
        refine QW_p (k_rc hRS'.1) ?_
        refine QW_e (d_37 hRS'.1 hRS'.2 hn' hn5 (fun p a b => (hkk' p a b).2.2.1) p0 hC1.2.2) ?_
        refine QW_ret ?_
        rw [hC2.2.1]
        exact ⟨v2, c', room', xx :: xs, e3.tr g2, KC.setK.tr (e4.tr g3), Or.inl ⟨rfl, rfl, g1⟩⟩
    · have zn : x < 1 := by
        rw [Int64.le_iff_toInt_le] at z
        rw [Int64.lt_iff_toInt_lt]
        omega
      rw [if_pos zn]
      refine QW_s ?_
      simp only [g_80]
      refine QW_m (k_then hs1 h201 hRS (by omega) p0 (by omega)) (fun q e => ?_)
      rw [e]
      exact ⟨v, c, room, xs, SM.rf _ _ _ _, KC.setK, Or.inr (Or.inl ⟨rfl, (hkk p p0 p1).2.2.2 hS, h1⟩)⟩
  · rw [he]
    have h201 : q_T (c_flt (setK s f) x.1 x.2) 20 = some (sh20 (.ref (rc (G_pg G))) (if G_sw G = -1 then .null else .ref (rc (G_sw G)))) := h20
    have hs1 : SH (c_flt (setK s f) x.1 x.2) := hs
    dsimp only
    refine QW_p (k_gv (hs1 _ _ rfl) rfl rfl) ?_
    refine QW_p (k_rc h201) ?_
    refine QW_e (d_43off (s := setK s f) h20) ?_
    dsimp only
    refine QW_g (by decide) ?_
    refine QW_it rfl ?_
    refine QW_s ?_
    simp only [g_80]
    refine QW_m (k_then hs1 h201 hRS (by omega) p0 (by omega)) (fun q e => ?_)
    rw [e]
    exact h.setK.cf KC.setK
set_option maxHeartbeats 1000000 in
/-- call -/
theorem d_82 (h : CA Ps szs ths rc nP sec sig G s c room v side base u r N st xs RX) (hg : GW Ps szs nP sec G) {p : Int} {d : DT} (p0 : 0 ≤ p) (p1 : p < P_n (Ps (G_pg G))) (hw : P_w (Ps (G_pg G)) p = 19) (hd : (base : Int) + st.length ≤ 60) (hO : ORt (Ps (G_pg G)) (szs (G_pg G)) side r st p) (hl : ((xs ++ RX).length : Int) ≤ 6400) :
    QW (fun n => g_82 o n 0 s 35 p 0) (BP Ps szs ths rc nP sec sig s c room v side base u r N RX G (if G_n G (P_v (Ps (G_pg G)) p).toInt = -1 then .inr (3, p) else pushA base p st (.inl (G, (2, G_n G (P_v (Ps (G_pg G)) p).toInt, d, (p, 0) :: st))))) := by
  obtain ⟨hW, hR, hr80, hr7⟩ := h.1.rows hg
  have hn5 := hW.2.1
  have hk := (hW.2.2.2.2.2.1 p p0 p1).2.2
  have hC : 0 ≤ (P_v (Ps (G_pg G)) p).toInt ∧ (P_v (Ps (G_pg G)) p).toInt < 8 := by
    rcases hk with k | k | k | k | k | k | k | k | k | k | k | k | k | k | k | k
    · have := k.1; omega
    · have := k.1; omega
    · have := k.2.1; omega
    · have := k.1; omega
    · have := k.1; omega
    · have := k.1; omega
    · have := k.1; omega
    · have := k.1; omega
    · have := k.1; omega
    · have := k.1; omega
    · have := k.1; omega
    · have := k.1; omega
    · have := k.1; omega
    · exact k.2.1
    all_goals (have := k.1; omega)
  have hs := h.1.1
  have h20 := h.1.2.1
  obtain ⟨n, np, hRS, hn, hnp, f7, f8, hkk, hK, hph1, hph2⟩ := hR
  have ev0 : q_L s (rc (G_pg G) + 2) p = P_v (Ps (G_pg G)) p := by
    rw [(hkk p p0 p1).2.1]
    unfold numC
    rw [if_neg (by omega)]
  have hnm := hg.2.2.2.2.2.2.2.2.2.2.2.2.2.2 _ hC.1 hC.2
  have K2 : ∀ (s1 : Q_S) (t : Int), QW (fun n => g_82 o n 1 s1 0 0 t) (fun q => q = (s1, t)) := fun s1 t => by
    refine QW_s ?_
    simp only [g_82]
    exact QW_ret rfl
  refine QW_s ?_
  simp only [g_82]
  refine QW_p (k_gv (hs _ _ rfl) rfl rfl) ?_
  refine QW_p (k_gv h20 rfl rfl) ?_
  refine QW_p (k_gv (hs _ _ rfl) rfl rfl) ?_
  refine QW_p (k_gv h20 rfl rfl) ?_
  refine QW_p (k_gv hRS.1 rfl rfl) ?_
  refine QW_p (k_la (hRS.2 _ _ rfl) p0 (by omega) (by omega)) ?_
  rw [ev0]
  refine QW_p (k_ia (hs _ _ rfl) hC.1 hC.2 (by decide)) ?_
  rw [h.1.2.2.2.2.2.2.2.1 _ hC.1 hC.2]
  refine QW_g (by omega) ?_
  refine QW_by (fun z => ?_) (fun z => ?_)
  · rw [if_neg z]
    refine QW_p (k_rc (hs _ _ rfl)) ?_
    unfold pushA
    by_cases y : (base : Int) + st.length = 60
    · rw [if_pos y]
      refine QW_e (d_79f h y) ?_
      dsimp only
      refine QW_g (by decide) ?_
      refine QW_it rfl ?_
      refine QW_m (K2 _ _) (fun q e => ?_)
      rw [e]
      exact h.cf (x := (4, p)) (KC.rf _ _ _)
    · rw [if_neg y]
      refine QW_c (d_79 h hg (by omega) ⟨p0, by omega⟩ (by decide) hw hO hl) (fun q hq => ?_)
      obtain ⟨e1, v', c', room', xx, e2, e3, e4, e5⟩ := hq
      rw [if_neg (by decide)] at e2
      rw [e1]
      refine QW_g (by decide) ?_
      refine QW_if (by decide) ?_
      refine QW_m (K2 _ _) (fun q9 e => ?_)
      rw [e]
      exact ⟨v', c', room', xx :: xs, e3, e4, Or.inl ⟨rfl, rfl, e2.zero (by omega)⟩⟩
  · rw [if_pos (Decidable.of_not_not z)]
    refine QW_p (k_rc (hs _ _ rfl)) ?_
    refine QW_e (d_70 hs h20) ?_
    exact QW_ret (h.cf (x := (3, p)) (KC.rf _ _ _))
set_option maxHeartbeats 2000000 in
/-- side -/
theorem d_81 (h : CA Ps szs ths rc nP sec sig G s c room v side base u r N st xs RX) (hg : GW Ps szs nP sec G) {p : Int} {d : DT} (p0 : 0 ≤ p) (p1 : p < P_n (Ps (G_pg G))) (hw : P_w (Ps (G_pg G)) p = 18) (hd : (base : Int) + st.length ≤ 60) (hO : ORt (Ps (G_pg G)) (szs (G_pg G)) side r st p) (hl : ((xs ++ RX).length : Int) ≤ 6300) :
    QW (fun n => g_81 o n 0 s 35 p) (BP Ps szs ths rc nP sec sig s c room v side base u r N RX G (pushA base p st (if 1 + 2 * (G_sd G + 1) > 100 then .inr (4, p) else .inl (G_side G 1, (4, p, d, (p, 0) :: st))))) := by
  obtain ⟨hW, hR, hr80, hr7⟩ := h.1.rows hg
  have hn5 := hW.2.1
  have hk := (hW.2.2.2.2.2.1 p p0 p1).2.2
  have hC2 : C2 (Ps (G_pg G)) (szs (G_pg G)) p := by
    rcases WK_S hk (by unfold isS; omega) with k | k | k | k | k | k | k | k
    · omega
    · omega
    · omega
    · omega
    · omega
    · exact k.2.1
    · omega
    · omega
  have hC1 := hC2.1
  have hlt := hC1.2.2
  have hlt2 := hC2.2.2.2
  have hz1 := (hW.2.2.2.2.2.1 (p + 1) (by omega) hC1.2.2).1
  have hs := h.1.1
  have h20 := h.1.2.1
  have hsd := hg.2.2.2.2.2.2.2.2.2.2
  refine QW_s ?_
  simp only [g_81]
  refine QW_p (k_rc (hs _ _ rfl)) ?_
  unfold pushA
  by_cases y : (base : Int) + st.length = 60
  · rw [if_pos y]
    refine QW_e (d_79f h y) ?_
    dsimp only
    refine QW_g (by decide) ?_
    refine QW_if (by decide) ?_
    exact QW_ret (h.cf (x := (4, p)) (KC.rf _ _ _))
  · rw [if_neg y]
    refine QW_c (d_79 h hg (by omega) ⟨p0, by omega⟩ (by decide) hw hO (by omega)) (fun q hq => ?_)
    obtain ⟨e1, v', c', room', x, e2, e3, e4, e5⟩ := hq
    rw [if_pos rfl] at e2
    rw [e1]
    refine QW_g (by decide) ?_
    refine QW_it (by decide) ?_
    replace e2 := e2.zero (b := 0) (show ¬ P_w (Ps (G_pg G)) p = 17 by omega)
    have hh := e2.hd
    have hnewx := e2.new
    have hu1 := e2.us
    have e2' := e2
    obtain ⟨b1, b2, b3, b4, b5, b6, b7, b8, b9, b10, b11⟩ := e2'
    have hs1 := b1.1
    have b9 : q_F q.1 35 4 = x := b9
    have b2' := b2
    obtain ⟨hF0, hFa, w1, w2, w3, w4, w5, w6, w7, w8, w9, w10, w11, w12⟩ := b2'
    have b5 : v_s v' = G_sd G + 1 := b5
    refine QW_p (k_gv (hs1 _ _ rfl) rfl rfl) ?_
    refine QW_p (k_gi hF0 rfl) ?_
    rw [w6, b5]
    refine QW_g (by omega) ?_
    refine QW_by (fun z => ?_) (fun z => ?_)
    · rw [if_neg (by omega)]
      have hx0 : 0 ≤ x := b6.1.1
      have hx1 : x < v_u v' := hh.2.1
      refine QW_p (k_gv (hs1 _ _ rfl) rfl rfl) ?_
      refine QW_p (k_gi (hs1 _ _ rfl) rfl) ?_
      rw [b9]
      refine QW_p (k_rc hF0) ?_
      have hdep : depthV v' x = base + (st.length + 1) := by
        have := chV_depth b8.1 b6
        rw [show hdI (x :: xs) u = x from rfl] at this
        rw [this]
        simp
      refine QW_c (d_49 (r := false) b2 b3 (by omega) b4 rfl hnewx (by decide) ⟨by omega, by omega⟩ ⟨by show (-1 : Int) ≤ x; omega, hx1⟩ (by show depthV v' x ≤ 999; omega) (by omega) rfl) (fun q2 hq2 => ?_)
      obtain ⟨f1, v2, c2, room2, f2, f3, f4, f5⟩ := hq2
      have g1 := b1.fk f5
      have hl1 : (((x :: xs) ++ RX).length : Int) ≤ 6400 := by
        simp only [List.cons_append, List.length_cons]
        omega
      obtain ⟨t1, t2, t3, t4, t5, t6, t7, t8⟩ := t_add (xs := x :: xs) b6 b10 b7 b8 f4 hl1
      rw [← f1] at f4 t3 t6 t7 t8
      generalize q2.2 = yl at *
      generalize q2.1 = s2 at *
      have t3 : slotV v2 x false = yl := t3
      have t4 : vI v2 5 x = -1 := t4 (by simp)
      have hs2 := g1.1
      refine QW_p (k_pi (hs2 _ _ rfl) rfl rfl) ?_
      have g2 : CG Ps szs ths rc nP sec sig G (q_sf s2 35 5 yl) c2 := g1.f35 (f := 5) (x := yl) (by decide)
      have hs3 := g2.1
      have f2' := f2.f35 (f := 5) (x := yl)
      obtain ⟨hW', hR', hr80', hr7'⟩ := g2.rows hg
      obtain ⟨n', np', hRS', hn', hnp', f7', f8', hkk', hK', hph1', hph2'⟩ := hR'
      refine QW_p (k_gv (hs3 _ _ rfl) rfl rfl) ?_
      refine QW_p (k_gv (hs3 _ _ rfl) rfl rfl) ?_
      refine QW_p (k_gv g2.2.1 rfl rfl) ?_
      refine QW_p (k_rc hRS'.1) ?_
      refine QW_e (d_37 hRS'.1 hRS'.2 hn' hn5 (fun p a b => (hkk' p a b).2.2.1) p0 hC1.2.2) ?_
      dsimp only
      refine QW_p (k_gi (hs3 _ _ rfl) rfl) ?_
      have ea : q_F (q_sf s2 35 5 yl) 35 4 = x := by
        rw [q_F_sf, if_neg (by decide)]
        have k := f5.2.2.2.2.2 35 (by omega) (by decide) (by have := b2.cc; omega)
        exact ((k.2 4).1).trans b9
      rw [ea]
      refine QW_p (k_rc f2'.1) ?_
      -- the right branch: a leaf below the side itself
      have nd2 : (yl :: (x :: xs ++ RX)).Nodup := by
        obtain ⟨fl, w1, w2, w3, w4, w5⟩ := t6
        exact (List.nodup_append.mp w2).1
      have hu2 : v_u v2 ≤ 6500 := by
        obtain ⟨fl, w1, w2, w3, w4, w5⟩ := t6
        exact w5
      have hsub := t5.sub (RY := yl :: (x :: xs ++ RX)) t2 hw (List.nodup_cons.mp nd2).2 (fun z hz => List.mem_cons_of_mem _ hz)
      have hCR := hsub.2 (Or.inr (by rw [← slot_l hx0, t3]; exact List.mem_cons_self))
      have hx2 : x < v_u v2 := by
        obtain ⟨fl, w1, w2, w3, w4, w5⟩ := t6
        exact (w3 x (List.mem_append_left _ (List.mem_cons_of_mem _ List.mem_cons_self))).2
      have hnew2 := t6.new
      have hxu2 : (if v_f v2 = -1 then v_u v2 else v_f v2) ≠ x := fun z => hnew2.1 (by rw [z]; exact List.mem_cons_of_mem _ List.mem_cons_self)
      have hdep2 : depthV v2 x = base + (st.length + 1) := by
        have := chV_depth t5.1 t2
        rw [show hdI (x :: xs) u = x from rfl] at this
        rw [this]
        simp
      have hvs2 : v_s v2 = G_sd G + 1 := by
        rw [f4.2.2.2.2.2.2.2.2.2.2.2.2, b5, if_neg (by decide)]
      refine QW_c (d_49 (r := true) f2' f3 (by omega) (by have := f5.2.1; omega) rfl hxu2 (by decide) ⟨by omega, by omega⟩ ⟨by omega, hx2⟩ (by omega) (by omega) rfl) (fun q3 hq3 => ?_)
      obtain ⟨j1, v3, c3, room3, j2, j3, j4, j5⟩ := hq3
      have g3 := g2.fk j5
      have hl2 : ((([] : List Int) ++ (yl :: (x :: xs ++ RX))).length : Int) ≤ 6400 := by
        simp only [List.nil_append, List.cons_append, List.length_cons]
        omega
      obtain ⟨r1, r2, r3, r4, r5, r6, r7, r8⟩ := t_add (st := []) (xs := []) (P := Ps (G_pg G)) (base := base + (st.length + 1)) (u := x) (r := true) (RX := yl :: (x :: xs ++ RX)) trivial (fun z => absurd rfl z) t6 hCR j4 hl2
      rw [← j1] at j4 r3 r6 r7 r8
      have r3 : slotV v3 x true = q3.2 := r3
      refine QW_ret ?_
      have eqx : ∀ z, z ∈ yl :: (x :: xs ++ RX) → EqX v2 v3 z (if z = x then 5 else 0) := fun z hz => r1.1 z hz
      have nyx : yl ≠ x := fun z => (List.nodup_cons.mp nd2).1 (by rw [z]; exact List.mem_cons_self)
      have nxl := (List.nodup_cons.mp nd2).2
      have hxr : x ∉ RX := fun z => nd_app nxl List.mem_cons_self z
      have sm3 : SM v2 v3 RX u r := by
        refine ⟨fun z hz => ?_, fun _ => r1.2 (by omega)⟩
        have := eqx z (List.mem_cons_of_mem _ (List.mem_append_right _ hz))
        rw [if_neg (fun q => hxr (by rw [← q]; exact hz))] at this
        exact this.wk
      have eyl := eqx yl List.mem_cons_self
      rw [if_neg nyx] at eyl
      have eyx := eqx x (List.mem_cons_of_mem _ List.mem_cons_self)
      rw [if_pos rfl] at eyx
      have esl : slotV v3 u r = slotV v2 u r := by
        by_cases zu : u = -1
        · unfold slotV
          rw [if_pos zu, if_pos zu]
          exact r1.2 (by omega)
        · have hm : u ∈ RX := by
            rcases t5.1.depth.2 with q | q
            · exact absurd q zu
            · exact q
          have e0 := eqx u (List.mem_cons_of_mem _ (List.mem_append_right _ hm))
          rw [if_neg (fun q => hxr (by rw [← q]; exact hm))] at e0
          exact slot_same zu e0
      refine ⟨v3, c3, room3, x :: xs, e3.tr (t1.tr sm3), e4.tr ((f5.kc b2.cc).tr (KC.f35.tr (j5.kc f2'.cc))), Or.inr (Or.inr (Or.inr ⟨rfl, rfl, yl, q3.2, ?_, g3, j2, j3, ?_, ?_, ?_, ?_, t5.same sm3, by simp, ?_, ?_⟩))⟩
      · have k := j5.2.2.2.2.2 35 (by show 35 < s2.1; have := g1.2.2.2.2.2.2.2.2.2.2.2.1; omega) (by decide) (by have := f2'.cc; omega)
        refine ((k.2 5).1).trans ?_
        show q_F (q_sf s2 35 5 yl) 35 5 = _
        rw [q_F_sf, if_pos ⟨rfl, rfl⟩]
      · have := f5.2.1
        have := j5.2.1
        omega
      · rw [j4.2.2.2.2.2.2.2.2.2.2.2.2, hvs2, if_neg (by decide)]
        rfl
      · show chV v3 (Ps (G_pg G)) base u r ((p, 0) :: st) (x :: xs)
        refine chV_sameK (kc := 5) (Or.inr rfl) (List.nodup_append.mp nxl).1 (fun z hz => ?_) (fun _ => esl) t2
        exact eqx z (List.mem_cons_of_mem _ (List.mem_append_left _ hz))
      · exact r6.perm (l_perm (fun a => by simp only [List.nil_append, List.count_append, List.count_cons, List.count_nil]; omega))
      · show lfV v3 (Ps (G_pg G)) x false 2 (P_1 (Ps (G_pg G)) p) (0, 0, 0, 0) yl
        rw [hC1.1]
        refine ⟨t7, ?_, (eyl.1 2 (by decide) (by decide) (by decide)).trans f4.2.2.1, (eyl.1 3 (by decide) (by decide) (by decide)).trans f4.2.2.2.1, (eyl.1 4 (by decide) (by decide) (by decide)).trans f4.2.2.2.2.1, (eyl.1 5 (by decide) (by decide) (by decide)).trans f4.2.2.2.2.2.1, Or.inl ⟨rfl, (eyl.1 1 (by decide) (by decide) (by decide)).trans f4.2.1⟩⟩
        rw [slot_l hx0, eyx.1 4 (by decide) (by decide) (by decide), ← slot_l hx0]
        exact t3
      · show lfV v3 (Ps (G_pg G)) x true 2 (P_2 (Ps (G_pg G)) p) (0, 0, 0, 0) q3.2
        rw [hC2.2.1]
        exact ⟨r7, r3, j4.2.2.1, j4.2.2.2.1, j4.2.2.2.2.1, j4.2.2.2.2.2.1, Or.inl ⟨rfl, j4.2.1⟩⟩
    · rw [if_pos (by omega)]
      refine QW_p (k_rc (hs1 _ _ rfl)) ?_
      refine QW_e (d_70 hs1 b1.2.1) ?_
      exact QW_ret (e2.cf (x := (4, p)) e4)
end CBF
