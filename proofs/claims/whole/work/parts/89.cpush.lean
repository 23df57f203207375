/-! THE WALKER: a frame put around, a leaf put in, standing, leaving -/
section CPU
variable {o : X_O} {Ps : Int → PT} {szs ths : Int → Int → Int} {rc : Int → Nat} {nP sec : Int} {sig : Int → Int64} {G G' : GT} {s s' : Q_S} {c room c' room' : Nat} {v v' : CV} {side : Option Int} {base : Nat} {u N : Int} {r : Bool} {st : List FR} {xs RX : List Int}
theorem KC.f35 {f : Nat} {x : Int} : KC s c room (q_sf s 35 f x) c room := by
  refine ⟨Nat.le_refl _, Nat.le_refl _, Nat.le_refl _, Nat.le_refl _, Or.inl rfl, fun a _ _ h _ _ => ⟨rfl, fun j => ⟨?_, rfl⟩⟩, fun _ _ _ => rfl⟩
  rw [q_I_sf, if_neg (fun z => h z.1)]
theorem CG.f35 (h : CG Ps szs ths rc nP sec sig G s c) {f : Nat} {x : Int} (hf : f ≠ 6) : CG Ps szs ths rc nP sec sig G (q_sf s 35 f x) c := by
  have h' := h
  obtain ⟨a1, a2, a3, a4, a5, a6, a7, a8, a9, a10, a11, a12, a13⟩ := h'
  refine h.step (room := 0) (room' := 0) KC.f35 a2 ?_ ?_ ?_ a6 a7 (fun j j0 j1 => ?_) ?_
  · rw [q_F_sf, if_neg (by omega)]; exact a3
  · rw [q_F_sf, if_neg (by omega)]; exact a4
  · rw [q_F_sf, if_neg (by omega)]; exact a5
  · rw [q_I_sf, if_neg (by omega)]; exact a8 j j0 j1
  · rw [q_F_sf, if_neg (fun z => hf z.2.symm)]; exact a9
theorem VW.f35 (h : VW s 24 c room v) {f : Nat} {x : Int} : VW (q_sf s 35 f x) 24 c room v := by
  have hc := h.2.2.2.2.2.2.2.2.2.2.2.1
  refine h.same (fun a ha => ⟨rfl, fun j => ⟨?_, rfl⟩⟩) (Nat.le_refl _)
  rw [q_I_sf, if_neg (by omega)]
theorem VW.f20 (h : VW s 24 c room v) {f : Nat} {x : Int} : VW (q_sf s 20 f x) 24 c room v := by
  have hc := h.2.2.2.2.2.2.2.2.2.2.2.1
  refine h.same (fun a ha => ⟨rfl, fun j => ⟨?_, rfl⟩⟩) (Nat.le_refl _)
  rw [q_I_sf, if_neg (by omega)]
theorem VW.cc (h : VW s 24 c room v) : c = 24 ∨ 80 ≤ c := h.2.2.2.2.2.2.2.2.2.2.2.1
set_option maxHeartbeats 1000000 in
/-- a frame comes around -/
theorem d_79 (h : CA Ps szs ths rc nP sec sig G s c room v side base u r N st xs RX) (hg : GW Ps szs nP sec G) {kd p : Int} (hd : base + st.length < 60) (hp : 0 ≤ p ∧ p < 500) (hkd : 16 ≤ kd ∧ kd ≤ 19) (hw : P_w (Ps (G_pg G)) p = kd) (hO : ORt (Ps (G_pg G)) (szs (G_pg G)) side r st p) (hl : ((xs ++ RX).length : Int) ≤ 6400) :
    QW (fun n => g_79 o n 0 s 35 kd p) (fun q => q.2 = 1 ∧ ∃ v' c' room' x, CA Ps szs ths rc nP sec sig (if kd = 18 then G_side G 1 else G) q.1 c' room' v' side base u r N ((p, vL v' 8 x) :: st) (x :: xs) RX ∧ SM v v' RX u r ∧ KC s c room q.1 c' room' ∧ x ∉ xs ++ RX) := by
  have hh := h.hd
  have h' := h
  obtain ⟨h1, h2, h3, h4, h5, h6, h7, h8, h9, h10, h11⟩ := h'
  have hs := h1.1
  have hdep := chV_depth h8.1 h6
  have hsd := hg.2.2.2.2.2.2.2.2.2.2
  have hu65 : v_u v ≤ 6500 := by obtain ⟨fl, w1, w2, w3, w4, w5⟩ := h7; exact w5
  have hnew := h7.new
  refine QW_s ?_
  simp only [g_79]
  refine QW_p (k_gv (hs _ _ rfl) rfl rfl) ?_
  refine QW_p (k_gi (hs _ _ rfl) rfl) ?_
  rw [h9]
  refine QW_p (k_rc h2.1) ?_
  refine QW_e (d_51 h2 hh.1 hh.2.1) ?_
  dsimp only
  rw [hdep]
  refine QW_g (by omega) ?_
  refine QW_it (by omega) ?_
  refine QW_p (k_gv (hs _ _ rfl) rfl rfl) ?_
  refine QW_p (k_gi (hs _ _ rfl) rfl) ?_
  rw [h9]
  refine QW_p (k_rc (hs _ _ rfl)) ?_
  refine QW_e (d_74 h hg hp hO) ?_
  dsimp only
  refine QW_p (k_rc h2.1) ?_
  have hxu : (if v_f v = -1 then v_u v else v_f v) ≠ hdI xs u := by
    intro z
    rw [z] at hnew
    cases xs with
    | nil =>
      rcases h8.1.depth.2 with q | q
      · have := hnew.2
        have e : hdI [] u = u := rfl
        omega
      · exact hnew.1 q
    | cons y ys => exact hnew.1 List.mem_cons_self
  refine QW_c (d_49 (r := rsI xs r) h2 h3 (by omega) h4 rfl hxu (by omega) hp ⟨hh.1, hh.2.1⟩ (by omega) (by omega) rfl) (fun a ha => ?_)
  obtain ⟨e1, v', c', room', e2, e3, e4, e5⟩ := ha
  have g1 := h1.fk e5
  refine QW_p (k_pi (g1.1 _ _ rfl) rfl rfl) ?_
  obtain ⟨t1, t2, t3, t4, t5, t6, t7, t8⟩ := t_add h6 h10 h7 h8 e4 hl
  have xe := e1
  generalize hx : (if v_f v = -1 then v_u v else v_f v) = x at *
  have er := e5.2.1
  have q1 : CG Ps szs ths rc nP sec sig (if kd = 18 then G_side G 1 else G) (q_sf a.1 35 4 a.2) c' := by
    split
    · exact (g1.f35 (by decide) : CG Ps szs ths rc nP sec sig G (q_sf a.1 35 4 a.2) c')
    · exact g1.f35 (by decide)
  have ep : G_pg (if kd = 18 then G_side G 1 else G) = G_pg G := by split <;> rfl
  refine QW_ret ⟨rfl, v', c', room', x, ⟨q1, e2.f35, e3, by omega, ?_, ?_, t6, t5, ?_, fun _ => ?_, ?_⟩, t1, (e5.kc h2.cc).tr KC.f35, t8⟩
  · rw [e4.2.2.2.2.2.2.2.2.2.2.2.2, h5]
    split
    · show G_sd G + 1 = G_sd (G_side G 1)
      rfl
    · rfl
  · rw [ep]
    refine ⟨⟨t7, by rw [hw]; exact e4.2.1, e4.2.2.1, e4.2.2.2.1, ?_, fun _ => rfl, t3, t4⟩, t2⟩
    rw [e4.2.2.2.2.2.2.1, hdep]
  · rw [q_F_sf, if_pos ⟨rfl, rfl⟩]
    exact e1
  · exact e4.2.2.2.2.2.1
  · show slotV v' x false = -1
    rw [slot_l t7]
    exact e4.2.2.2.2.1
/-- no room for one more -/
theorem d_79f (h : CA Ps szs ths rc nP sec sig G s c room v side base u r N st xs RX) {kd p : Int} (hd : (base : Int) + st.length = 60) :
    QW (fun n => g_79 o n 0 s 35 kd p) (fun q => q = (c_flt s 4 p, 0)) := by
  have hh := h.hd
  obtain ⟨h1, h2, h3, h4, h5, h6, h7, h8, h9, h10, h11⟩ := h
  have hs := h1.1
  have hdep := chV_depth h8.1 h6
  refine QW_s ?_
  simp only [g_79]
  refine QW_p (k_gv (hs _ _ rfl) rfl rfl) ?_
  refine QW_p (k_gi (hs _ _ rfl) rfl) ?_
  rw [h9]
  refine QW_p (k_rc h2.1) ?_
  refine QW_e (d_51 h2 hh.1 hh.2.1) ?_
  dsimp only
  rw [hdep]
  refine QW_g (by omega) ?_
  refine QW_if (by omega) ?_
  refine QW_p (k_rc (hs _ _ rfl)) ?_
  have K : QW (fun n => g_70 o n 0 s 35 4 p) (fun q => q = (c_flt s 4 p, -1000000)) := by
    refine QW_s ?_
    simp only [g_70]
    refine QW_p (k_gv (hs _ _ rfl) rfl rfl) ?_
    refine QW_p (k_rc h1.2.1) ?_
    refine QW_e (d_44 h1.2.1) ?_
    exact QW_ret rfl
  refine QW_e K ?_
  exact QW_ret rfl
/-- a branch that stands, or is to begin -/
def CL (Ps : Int → PT) (szs ths : Int → Int → Int) (rc : Int → Nat) (nP sec : Int) (sig : Int → Int64) (G : GT) (s : Q_S) (c room : Nat) (v : CV) (side : Option Int) (base : Nat) (u : Int) (r : Bool) (N : Int) (m p : Int) (d : DT) (st : List FR) (y : Int) (xs RX : List Int) : Prop :=
  CG Ps szs ths rc nP sec sig G s c ∧ VW s 24 c room v ∧ VB v ∧ 9 ≤ room ∧ v_s v = G_sd G ∧ chV v (Ps (G_pg G)) base u r st xs ∧ CWd v (y :: xs ++ RX) ∧ CX v RX base u r N side ∧ (xs ≠ [] → vI v 5 (hdI xs u) = -1) ∧ lfV v (Ps (G_pg G)) (hdI xs u) (rsI xs r) m p d y
/-- to the right of a leaf -/
theorem CL.right {m p y : Int} {d : DT} (h : CL Ps szs ths rc nP sec sig G s c room v side base u r N m p d st y xs RX) (hb : (base : Int) + st.length ≤ 60) : ttr v 61 y = N := by
  obtain ⟨h1, h2, h3, h4, h5, h6, h7, h8, h9, h10⟩ := h
  obtain ⟨fl, w1, w2, w3, w4, w5⟩ := h7
  have nd : (y :: (xs ++ RX)).Nodup := (List.nodup_append.mp w2).1
  have nd2 : (xs ++ RX).Nodup := (List.nodup_cons.mp nd).2
  obtain ⟨b1, b2, b3, b4, b5, b6, b7⟩ := h10
  cases xs with
  | nil =>
    cases st with
    | cons _ _ => exact h6.elim
    | nil =>
      simp only [List.length_nil] at hb
      refine h8.1.goes base u r N y 60 b4 b2 (fun z q => ?_) (by omega)
      rcases h8.2.1 z with e | e
      · omega
      · exact (List.nodup_cons.mp nd).1 (by rw [← q]; exact e)
  | cons x ys =>
    obtain ⟨gx, glen⟩ := chV_ge st _ h6
    have hdn := h8.1.down (P := Ps (G_pg G)) (fun z q => by
      have hin := chV_in h6 (by simp)
      rcases h8.2.1 z with e | e
      · omega
      · -- the slot's frame is one of the branch's own
        have hm : ∀ (st : List FR) (xs : List Int), chV v (Ps (G_pg G)) base u r st xs → xs ≠ [] → slotV v u r ∈ xs := by
          intro st
          induction st with
          | nil =>
            intro xs h hn
            cases xs with
            | nil => exact absurd rfl hn
            | cons _ _ => exact h.elim
          | cons f t ih =>
            intro xs h hn
            obtain ⟨p, a⟩ := f
            cases xs with
            | nil => exact h.elim
            | cons x xs =>
              cases xs with
              | nil =>
                have e : slotV v u r = x := h.1.2.2.2.2.2.2.1
                rw [e]
                exact List.mem_cons_self
              | cons z zs => exact List.mem_cons_of_mem _ (ih (z :: zs) h.2 (by simp))
        have hm := hm st (x :: ys) h6 (by simp)
        rw [← q] at hm
        exact nd_app nd2 hm e) st (x :: ys) h6 (by simp) false (Or.inr (h9 (by simp)))
    have gx0 := gx x List.mem_cons_self
    refine hdn.goes _ _ _ _ y 60 b4 b2 (fun z => by cases z) ?_
    have : ((x :: ys).length : Int) = st.length := by exact_mod_cast glen
    omega
/-- it stands; the next is to the right -/
theorem d_75 (h2 : VW s 24 c room v) (hb : VB v) (hs : SH s) {y : Int} (y0 : 0 ≤ y) (y1 : y < v_u v) : QW (fun n => g_75 o n 0 s 35 y) (fun q => q = (q_sf s 35 5 (lfb v 61 (ttr v 61 y)), -1000000)) := by
  have rg := ttr_rg hb 61 y y0 y1
  refine QW_s ?_
  simp only [g_75]
  refine QW_p (k_gv (hs _ _ rfl) rfl rfl) ?_
  refine QW_p (k_gv (hs _ _ rfl) rfl rfl) ?_
  refine QW_p (k_rc h2.1) ?_
  refine QW_e (d_56 h2 hb y0 y1) ?_
  dsimp only
  refine QW_p (k_rc h2.1) ?_
  refine QW_e (d_57 h2 hb rg.1 rg.2) ?_
  dsimp only
  refine QW_p (k_pi (hs _ _ rfl) rfl rfl) ?_
  exact QW_ret rfl
end CPU
