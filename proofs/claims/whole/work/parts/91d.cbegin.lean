/-! THE WALKER BEGINS: begin itself; where a branch's places lie -/
def XC (P : PT) (side : Option Int) (r : Bool) (p : Int) (st : List FR) : Prop := ∀ q, side = some q → 0 ≤ q ∧ q < P_n P ∧ P_w P q = 18 ∧ ∃ f, AN P (if r = true then P_2 P q else P_1 P q) f (lastP st p)
theorem AN_in {P : PT} {sz : Int → Int} (hW : WP P sz) {r : Int} : ∀ (f : Nat) (p : Int), 0 ≤ p → p < P_n P → AN P r f p → r ≤ p ∧ p + sz p ≤ r + sz r := by
  intro f
  induction f with
  | zero => intro p h0 h1 h; have e : r = p := h; subst e; omega
  | succ f ih =>
    intro p h0 h1 h
    rcases h with e | ⟨h2, h3⟩
    · subst e; omega
    · by_cases z : p = 0
      · rw [z] at h2; exact absurd hW.2.2.2.1 h2
      · have := hW.2.2.2.2.2.2 p (by omega) h1
        have := ih (P_u P p) (by omega) (by omega) h3
        omega
theorem CN_head {P : PT} {side : Option Int} {q : Int} {a : Int64} {t : List FR} : ∀ (f : Nat) (p : Int), CN P side f p ((q, a) :: t) → P_w P q = 16 ∨ P_w P q = 17 ∨ P_w P q = 19 := by
  intro f
  induction f with
  | zero => intro p h; exact h.elim
  | succ f ih =>
    intro p h
    simp only [CN] at h
    split at h
    · exact absurd h.1 (by simp)
    · split at h
      · exact ih _ h
      · split at h
        · rename_i w16
          split at h
          · obtain ⟨b, t', e, _⟩ := h
            injection e with e1 e2
            injection e1 with e3 e4
            rw [e3]
            exact Or.inl w16
          · exact ih _ h
        · split at h
          · rename_i w17
            obtain ⟨b, t', e, _⟩ := h
            injection e with e1 e2
            injection e1 with e3 e4
            rw [e3]
            exact Or.inr (Or.inl w17)
          · split at h
            · exact absurd h.1 (by simp)
            · split at h
              · obtain ⟨x, b, t', e, _, _, w, _⟩ := h
                injection e with e1 e2
                injection e1 with e3 e4
                rw [e3]
                exact Or.inr (Or.inr w)
              · exact h.elim
theorem XC.ort {P : PT} {sz : Int → Int} {side : Option Int} {r : Bool} {p : Int} {st : List FR} (hW : WP P sz) (h : XC P side r p st) (hc : CNS P side p st) (p0 : 0 ≤ p) (p1 : p < P_n P) : ORt P sz side r st p := by
  cases st with
  | cons f t =>
    obtain ⟨q, a⟩ := f
    obtain ⟨n, hc⟩ := hc
    show ¬ P_w P q = 18
    have := CN_head n p hc
    omega
  | nil =>
    intro q hq
    obtain ⟨q0, q1, q18, f, hf⟩ := h q hq
    have hk := (hW.2.2.2.2.2.1 q q0 q1).2.2
    have hC2 : C2 P sz q := by
      rcases WK_S hk (by unfold isS; omega) with k | k | k | k | k | k | k | k
      · omega
      · omega
      · omega
      · omega
      · omega
      · exact k.2.1
      · omega
      · omega
    have := AN_in hW f p p0 p1 hf
    have hz := (hW.2.2.2.2.2.1 p p0 p1).1
    refine ⟨q0, hC2.1.2.2, fun z => ?_, fun z => ?_⟩
    · rw [if_pos z, hC2.2.1] at this
      omega
    · rw [if_neg (by rw [z]; decide), hC2.1.1] at this
      omega
/-- how the place moves when a statement is begun -/
theorem XC.mv {P : PT} {side : Option Int} {r : Bool} {p q : Int} {st st' : List FR} (h : XC P side r p st) (hm : (st' = st ∧ (q = p ∨ (P_u P q = p ∧ ¬ p = -1))) ∨ (∃ a, st' = (p, a) :: st)) : XC P side r q st' := by
  intro z hz
  obtain ⟨h1, h2, h3, f, h4⟩ := h z hz
  refine ⟨h1, h2, h3, ?_⟩
  rcases hm with ⟨e, e1 | ⟨e1, e2⟩⟩ | ⟨a, e⟩
  · rw [e, e1]; exact ⟨f, h4⟩
  · subst e
    cases st' with
    | nil => exact ⟨f + 1, Or.inr ⟨(by show ¬ P_u P q = -1; rw [e1]; exact e2), (by show AN P _ f (P_u P q); rw [e1]; exact h4)⟩⟩
    | cons x t => exact ⟨f, h4⟩
  · rw [e]
    exact ⟨f, h4⟩
section CBX
variable {o : X_O} {Ps : Int → PT} {szs ths : Int → Int → Int} {rc : Int → Nat} {nP sec : Int} {sig : Int → Int64} {G G' : GT} {s s' : Q_S} {c room c' room' : Nat} {v v' : CV} {side : Option Int} {base : Nat} {u N : Int} {r : Bool} {st : List FR} {xs RX : List Int}
theorem beg_cases {P : PT} {sz : Int → Int} {p b : Int} {d : DT} {cc : CT} (hP : Ps (G_pg G) = P) (hW : WP P sz) (p0 : 0 ≤ p) (p1 : p < P_n P) (hS : isS (P_w P p)) (hn : ∀ j, 0 ≤ j → j < 8 → True) (h : beginA Ps sig sec b G p d st = .inl (G', cc)) :
    ((cc.2.2.2 = st ∧ (cc.2.1 = p ∨ (P_u P cc.2.1 = p ∧ ¬ p = -1))) ∨ (∃ a, cc.2.2.2 = (p, a) :: st)) ∧ (¬ P_w P p = 14 → G_bg G' = G_bg G + 1) := by
  have hk := (hW.2.2.2.2.2.1 p p0 p1).2.2
  have pn : ¬ p = -1 := by omega
  have hC : (P_w P p = 14 ∨ P_w P p = 21 → P_u P (P_1 P p) = p) ∧ (P_w P p = 15 → P_u P (P_2 P p) = p ∧ (¬ P_3 P p = -1 → P_u P (P_3 P p) = p)) ∧ (P_w P p = 16 → P_u P (P_3 P p) = p) := by
    rcases WK_S hk hS with k | k | k | k | k | k | k | k
    · exact ⟨fun z => by omega, fun z => by omega, fun z => by omega⟩
    · exact ⟨fun z => by rw [k.2.1.1.1]; exact k.2.1.1.2.1, fun z => by omega, fun z => by omega⟩
    · refine ⟨fun z => by omega, fun z => ⟨by rw [k.2.1.2.1]; exact k.2.1.2.2.1, fun y => ?_⟩, fun z => by omega⟩
      rcases k.2.2.2 with q | q
      · exact absurd q y
      · rw [q.1.2.1]; exact q.1.2.2.1
    · exact ⟨fun z => by omega, fun z => by omega, fun z => by rw [k.2.1.2.1]; exact k.2.1.2.2.1⟩
    · exact ⟨fun z => by omega, fun z => by omega, fun z => by omega⟩
    · exact ⟨fun z => by omega, fun z => by omega, fun z => by omega⟩
    · exact ⟨fun z => by omega, fun z => by omega, fun z => by omega⟩
    · exact ⟨fun z => by rw [k.2.1.1]; exact k.2.1.2.1, fun z => by omega, fun z => by omega⟩
  obtain ⟨hc1, hc2, hc3⟩ := hC
  unfold beginA at h
  rw [hP] at h
  have fin : ∀ {G1 : GT} {c1 : CT}, (Sum.inl (G1, c1) : (GT × CT) ⊕ (Int × Int)) = .inl (G', cc) → cc = c1 ∧ G' = G1 := fun e => by
    injection e with e
    injection e with e1 e2
    exact ⟨e2.symm, e1.symm⟩
  have push : ∀ {y : (GT × CT) ⊕ (Int × Int)}, pushA b p st y = .inl (G', cc) → y = .inl (G', cc) := fun e => by
    unfold pushA at e
    split at e
    · cases e
    · exact e
  by_cases c14 : P_w P p = 14
  · rw [if_pos c14] at h
    rw [(fin h).1]
    exact ⟨Or.inl ⟨rfl, Or.inr ⟨hc1 (Or.inl c14), pn⟩⟩, fun z => absurd c14 z⟩
  rw [if_neg c14] at h
  by_cases cb : G_bg G = 500
  · rw [if_pos cb] at h; cases h
  rw [if_neg cb] at h
  by_cases c10 : P_w P p = 10
  · rw [if_pos c10] at h
    split at h
    · cases h
    · rw [(fin h).1, (fin h).2]; exact ⟨Or.inl ⟨rfl, Or.inl rfl⟩, fun _ => rfl⟩
  rw [if_neg c10] at h
  by_cases c11 : P_w P p = 11
  · rw [if_pos c11] at h
    split at h
    · cases h
    · rw [(fin h).1, (fin h).2]; exact ⟨Or.inl ⟨rfl, Or.inl rfl⟩, fun _ => rfl⟩
  rw [if_neg c11] at h
  by_cases c12 : P_w P p = 12
  · rw [if_pos c12] at h
    split at h
    · cases h
    · rw [(fin h).1, (fin h).2]; exact ⟨Or.inl ⟨rfl, Or.inl rfl⟩, fun _ => rfl⟩
  rw [if_neg c12] at h
  by_cases c13 : P_w P p = 13
  · rw [if_pos c13] at h
    split at h
    · cases h
    · split at h
      · cases h
      · rw [(fin h).1, (fin h).2]; exact ⟨Or.inl ⟨rfl, Or.inl rfl⟩, fun _ => by split <;> rfl⟩
  rw [if_neg c13] at h
  by_cases c15 : P_w P p = 15
  · rw [if_pos c15] at h
    split at h
    · cases h
    · rename_i x _
      rw [(fin h).1, (fin h).2]
      refine ⟨?_, fun _ => rfl⟩
      by_cases y : x = 0
      · rw [if_neg (fun z => z y)]
        by_cases w : P_3 P p = -1
        · rw [if_pos w]; exact Or.inl ⟨rfl, Or.inl rfl⟩
        · rw [if_neg w]; exact Or.inl ⟨rfl, Or.inr ⟨(hc2 c15).2 w, pn⟩⟩
      · rw [if_pos y]; exact Or.inl ⟨rfl, Or.inr ⟨(hc2 c15).1, pn⟩⟩
  rw [if_neg c15] at h
  by_cases c16 : P_w P p = 16
  · rw [if_pos c16] at h
    split at h
    · cases h
    · split at h
      · rw [(fin h).1, (fin h).2]; exact ⟨Or.inl ⟨rfl, Or.inr ⟨hc3 c16, pn⟩⟩, fun _ => rfl⟩
      · rw [(fin (push h)).1, (fin (push h)).2]; exact ⟨Or.inr ⟨_, rfl⟩, fun _ => rfl⟩
  rw [if_neg c16] at h
  by_cases c17 : P_w P p = 17
  · rw [if_pos c17] at h
    split at h
    · cases h
    · split at h
      · rw [(fin h).1, (fin h).2]; exact ⟨Or.inl ⟨rfl, Or.inl rfl⟩, fun _ => rfl⟩
      · rw [(fin (push h)).1, (fin (push h)).2]; exact ⟨Or.inr ⟨_, rfl⟩, fun _ => rfl⟩
  rw [if_neg c17] at h
  by_cases c18 : P_w P p = 18
  · rw [if_pos c18] at h
    have h := push h
    split at h
    · cases h
    · rw [(fin h).1, (fin h).2]; exact ⟨Or.inr ⟨_, rfl⟩, fun _ => rfl⟩
  rw [if_neg c18] at h
  by_cases c19 : P_w P p = 19
  · rw [if_pos c19] at h
    split at h
    · cases h
    · rw [(fin (push h)).1, (fin (push h)).2]; exact ⟨Or.inr ⟨_, rfl⟩, fun _ => rfl⟩
  rw [if_neg c19] at h
  by_cases c20 : P_w P p = 20
  · rw [if_pos c20] at h
    rw [(fin h).1, (fin h).2]; exact ⟨Or.inl ⟨rfl, Or.inl rfl⟩, fun _ => rfl⟩
  rw [if_neg c20] at h
  rw [(fin h).1, (fin h).2]
  unfold isS at hS
  exact ⟨Or.inl ⟨rfl, Or.inr ⟨hc1 (by omega), pn⟩⟩, fun _ => rfl⟩
/-- over the rows -/
def skR (P : PT) : Nat → Int → Int
  | 0, p => p
  | f + 1, p => if P_w P p = 14 then skR P f (p + 1) else p
theorem KC.bp {q : Q_S × Int} {s3 : Q_S} {res : (GT × CT) ⊕ (Int × Int)} (k : KC s c room s3 c room) (h : BP Ps szs ths rc nP sec sig s3 c room v side base u r N RX (G_begun G) res q) : BP Ps szs ths rc nP sec sig s c room v side base u r N RX G res q := by
  cases res with
  | inr x =>
    obtain ⟨s1, c1, room1, v1, b, e1, e2, e3, e4, e5, e6, e7⟩ := h
    exact ⟨s1, c1, room1, v1, b, e1, e2, e3, e4, e5, e6, k.tr e7⟩
  | inl x =>
    obtain ⟨G', m', p', d', st'⟩ := x
    obtain ⟨v', c', room', xs', e1, e2, e3⟩ := h
    exact ⟨v', c', room', xs', e1, k.tr e2, e3⟩
theorem CA.begun (h : CA Ps szs ths rc nP sec sig G s c room v side base u r N st xs RX) : CA Ps szs ths rc nP sec sig (G_begun G) (q_sf s 35 6 (G_bg G + 1)) c room v side base u r N st xs RX := by
  have hc := h.2.1.cc
  have h1 := h.1
  obtain ⟨a1, a2, a3, a4, a5, a6, a7, a8, a9, a10, a11, a12, a13⟩ := h1
  refine h.upd ?_ rfl rfl ?_ (Nat.le_refl _) (fun a ha => ⟨rfl, fun i => ⟨?_, rfl⟩⟩)
  · refine h.1.step (room := 0) (room' := 0) KC.f35 a2 ?_ ?_ ?_ a6 a7 (fun j j0 j1 => ?_) ?_
    · rw [q_F_sf, if_neg (by omega)]; exact a3
    · rw [q_F_sf, if_neg (by omega)]; exact a4
    · rw [q_F_sf, if_neg (by omega)]; exact a5
    · rw [q_I_sf, if_neg (by omega)]; exact a8 j j0 j1
    · rw [q_F_sf, if_pos ⟨rfl, rfl⟩]; rfl
  · rw [q_F_sf, if_neg (by omega)]
  · rw [q_I_sf, if_neg (by omega)]
set_option maxHeartbeats 2000000 in
/-- a statement that is no row -/
theorem d_69b (ho : o 2 = some (10, fun i => x_TABLE.getD i 0)) (h : CA Ps szs ths rc nP sec sig G s c room v side base u r N st xs RX) (hg : GW Ps szs nP sec G) {p : Int} {d : DT} (p0 : 0 ≤ p) (p1 : p < P_n (Ps (G_pg G))) (hS : isS (P_w (Ps (G_pg G)) p)) (h14 : ¬ P_w (Ps (G_pg G)) p = 14) (hd : (base : Int) + st.length ≤ 60) (hO : ORt (Ps (G_pg G)) (szs (G_pg G)) side r st p) (hl : ((xs ++ RX).length : Int) ≤ 6300) :
    QW (fun n => g_69 o n 2 s 35 0 (.ref (rc (G_pg G))) p) (BP Ps szs ths rc nP sec sig s c room v side base u r N RX G (beginA Ps sig sec base G p d st)) := by
  obtain ⟨hW, hR, hr80, hr7⟩ := h.1.rows hg
  have hn5 := hW.2.1
  have hk := (hW.2.2.2.2.2.1 p p0 p1).2.2
  have hs := h.1.1
  have hbg : 0 ≤ G_bg G ∧ G_bg G ≤ 500 := ⟨hg.2.2.2.2.2.2.2.2.1, hg.2.2.2.2.2.2.2.2.2.1⟩
  obtain ⟨n, np, hRS, hn, hnp, f7, f8, hkk, hK, hph1, hph2⟩ := hR
  have h1 := h.begun
  have hs1 := h1.1.1
  have h20 := h1.1.2.1
  have hRS1 : RSh (q_sf s 35 6 (G_bg G + 1)) (rc (G_pg G)) n np := hRS
  have kc1 : KC s c room (q_sf s 35 6 (G_bg G + 1)) c room := KC.f35
  refine QW_s ?_
  simp only [g_69]
  refine QW_p (k_gi (hs _ _ rfl) rfl) ?_
  rw [h.1.2.2.2.2.2.2.2.2.1]
  refine QW_p (k_pi (hs _ _ rfl) rfl rfl) ?_
  refine QW_p (k_gi (hs1 _ _ rfl) rfl) ?_
  have eb : q_F (q_sf s 35 6 (G_bg G + 1)) 35 6 = G_bg G + 1 := by rw [q_F_sf, if_pos ⟨rfl, rfl⟩]
  rw [eb]
  refine QW_g (by omega) ?_
  refine QW_by (fun z => ?_) (fun z => ?_)
  · have hb5 : ¬ G_bg G = 500 := by omega
    have hg1 : GW Ps szs nP sec (G_begun G) := hg.begun hb5
    refine QW_p (k_gv hRS1.1 rfl rfl) ?_
    refine QW_p (k_ia (hRS1.2 _ _ rfl) p0 (by omega) (by omega)) ?_
    have ek : q_I (q_sf s 35 6 (G_bg G + 1)) (rc (G_pg G) + 1) p = P_w (Ps (G_pg G)) p := by
      rw [q_I_sf, if_neg (by omega), (hkk p p0 p1).1]
      unfold ck
      unfold isS at hS
      rw [if_neg (by omega)]
    rw [ek]
    unfold isS at hS
    refine QW_g (by omega) ?_
    have hcs : P_w (Ps (G_pg G)) p = 10 ∨ P_w (Ps (G_pg G)) p = 11 ∨ P_w (Ps (G_pg G)) p = 12 ∨ P_w (Ps (G_pg G)) p = 13 ∨ P_w (Ps (G_pg G)) p = 15 ∨ P_w (Ps (G_pg G)) p = 16 ∨ P_w (Ps (G_pg G)) p = 17 ∨ P_w (Ps (G_pg G)) p = 18 ∨ P_w (Ps (G_pg G)) p = 19 ∨ P_w (Ps (G_pg G)) p = 20 ∨ P_w (Ps (G_pg G)) p = 21 := by omega
    have eB : ∀ w : Int, P_w (Ps (G_pg G)) p = w → beginA Ps sig sec base G p d st = beginA Ps sig sec base G p d st := fun _ _ => rfl
    rcases hcs with hw | hw | hw | hw | hw | hw | hw | hw | hw | hw | hw
    · refine QW_if (by omega) ?_
      refine QW_it hw ?_
      refine QW_p (k_gv (hs1 _ _ rfl) rfl rfl) ?_
      refine QW_p (k_gv h20 rfl rfl) ?_
      refine QW_p (k_rc (hs1 _ _ rfl)) ?_
      refine QW_c (d_71 (d := d) ho h1 hg1 p0 p1 (Or.inl ⟨hw, rfl⟩)) (fun q hq => ?_)
      refine QW_ret (kc1.bp ?_)
      unfold beginA
      rw [if_neg h14, if_neg hb5, if_pos hw]
      exact hq
    · refine QW_if (by omega) ?_
      refine QW_if (by omega) ?_
      refine QW_it hw ?_
      refine QW_p (k_gv (hs1 _ _ rfl) rfl rfl) ?_
      refine QW_p (k_gv h20 rfl rfl) ?_
      refine QW_p (k_rc (hs1 _ _ rfl)) ?_
      refine QW_c (d_71 (d := d) ho h1 hg1 p0 p1 (Or.inr ⟨hw, rfl⟩)) (fun q hq => ?_)
      refine QW_ret (kc1.bp ?_)
      unfold beginA
      rw [if_neg h14, if_neg hb5, if_neg (by omega), if_pos hw]
      exact hq
    · refine QW_if (by omega) ?_
      refine QW_if (by omega) ?_
      refine QW_if (by omega) ?_
      refine QW_it hw ?_
      refine QW_p (k_rc (hs1 _ _ rfl)) ?_
      refine QW_c (d_72 (d := d) ho h1 hg1 p0 p1 hw hd hO (by omega)) (fun q hq => ?_)
      refine QW_ret (kc1.bp ?_)
      unfold beginA
      rw [if_neg h14, if_neg hb5, if_neg (by omega), if_neg (by omega), if_pos hw]
      exact hq
    · refine QW_if (by omega) ?_
      refine QW_if (by omega) ?_
      refine QW_if (by omega) ?_
      refine QW_if (by omega) ?_
      refine QW_it hw ?_
      refine QW_p (k_rc (hs1 _ _ rfl)) ?_
      refine QW_c (d_76 ho h1 hg1 p0 p1 hw hd hO (by omega)) (fun q hq => ?_)
      refine QW_ret (kc1.bp ?_)
      unfold beginA
      rw [if_neg h14, if_neg hb5, if_neg (by omega), if_neg (by omega), if_neg (by omega), if_pos hw]
      exact hq
    · refine QW_if (by omega) ?_
      refine QW_if (by omega) ?_
      refine QW_if (by omega) ?_
      refine QW_if (by omega) ?_
      refine QW_if (by omega) ?_
      refine QW_if (by omega) ?_
      refine QW_it hw ?_
      refine QW_p (k_rc (hs1 _ _ rfl)) ?_
      refine QW_c (d_77 (d := d) ho h1 hg1 p0 p1 hw) (fun q hq => ?_)
      refine QW_ret (kc1.bp ?_)
      unfold beginA
      rw [if_neg h14, if_neg hb5, if_neg (by omega), if_neg (by omega), if_neg (by omega), if_neg (by omega), if_pos hw]
      exact hq
    · refine QW_if (by omega) ?_
      refine QW_if (by omega) ?_
      refine QW_if (by omega) ?_
      refine QW_if (by omega) ?_
      refine QW_if (by omega) ?_
      refine QW_if (by omega) ?_
      refine QW_if (by omega) ?_
      refine QW_it hw ?_
      refine QW_p (k_rc (hs1 _ _ rfl)) ?_
      refine QW_c (d_78 (d := d) ho h1 hg1 p0 p1 hw hd hO (by omega)) (fun q hq => ?_)
      refine QW_ret (kc1.bp ?_)
      unfold beginA
      rw [if_neg h14, if_neg hb5, if_neg (by omega), if_neg (by omega), if_neg (by omega), if_neg (by omega), if_neg (by omega), if_pos hw]
      exact hq
    · refine QW_if (by omega) ?_
      refine QW_if (by omega) ?_
      refine QW_if (by omega) ?_
      refine QW_if (by omega) ?_
      refine QW_if (by omega) ?_
      refine QW_if (by omega) ?_
      refine QW_if (by omega) ?_
      refine QW_if (by omega) ?_
      refine QW_it hw ?_
      refine QW_p (k_rc (hs1 _ _ rfl)) ?_
      refine QW_c (d_80 (d := d) ho h1 hg1 p0 p1 hw hd hO (by omega)) (fun q hq => ?_)
      refine QW_ret (kc1.bp ?_)
      unfold beginA
      rw [if_neg h14, if_neg hb5, if_neg (by omega), if_neg (by omega), if_neg (by omega), if_neg (by omega), if_neg (by omega), if_neg (by omega), if_pos hw]
      exact hq
    · refine QW_if (by omega) ?_
      refine QW_if (by omega) ?_
      refine QW_if (by omega) ?_
      refine QW_if (by omega) ?_
      refine QW_if (by omega) ?_
      refine QW_if (by omega) ?_
      refine QW_if (by omega) ?_
      refine QW_if (by omega) ?_
      refine QW_if (by omega) ?_
      refine QW_it hw ?_
      refine QW_p (k_rc (hs1 _ _ rfl)) ?_
      refine QW_c (d_81 (d := d) h1 hg1 p0 p1 hw hd hO hl) (fun q hq => ?_)
      refine QW_ret (kc1.bp ?_)
      unfold beginA
      rw [if_neg h14, if_neg hb5, if_neg (by omega), if_neg (by omega), if_neg (by omega), if_neg (by omega), if_neg (by omega), if_neg (by omega), if_neg (by omega), if_pos hw]
      exact hq
    · refine QW_if (by omega) ?_
      refine QW_if (by omega) ?_
      refine QW_if (by omega) ?_
      refine QW_if (by omega) ?_
      refine QW_if (by omega) ?_
      refine QW_if (by omega) ?_
      refine QW_if (by omega) ?_
      refine QW_if (by omega) ?_
      refine QW_if (by omega) ?_
      refine QW_if (by omega) ?_
      refine QW_it hw ?_
      refine QW_p (k_rc (hs1 _ _ rfl)) ?_
      refine QW_c (d_82 (d := d) h1 hg1 p0 p1 hw hd hO (by omega)) (fun q hq => ?_)
      refine QW_ret (kc1.bp ?_)
      unfold beginA
      rw [if_neg h14, if_neg hb5, if_neg (by omega), if_neg (by omega), if_neg (by omega), if_neg (by omega), if_neg (by omega), if_neg (by omega), if_neg (by omega), if_neg (by omega), if_pos hw]
      exact hq
    · refine QW_if (by omega) ?_
      refine QW_if (by omega) ?_
      refine QW_if (by omega) ?_
      refine QW_if (by omega) ?_
      refine QW_if (by omega) ?_
      refine QW_if (by omega) ?_
      refine QW_if (by omega) ?_
      refine QW_if (by omega) ?_
      refine QW_if (by omega) ?_
      refine QW_if (by omega) ?_
      refine QW_if (by omega) ?_
      refine QW_it hw ?_
      have hC : C1 (Ps (G_pg G)) p ∧ 0 ≤ (P_v (Ps (G_pg G)) p).toInt ∧ (P_v (Ps (G_pg G)) p).toInt < 8 := by
        rcases hk with k | k | k | k | k | k | k | k | k | k | k | k | k | k | k | k
        · have := k.1; omega
        · have := k.1; omega
        · have := k.2.1; omega
        · have := k.1; omega
        · have := k.1; omega
        · have := k.1; omega
        · have := k.1; omega
        · have := k.1; omega
        · have := k.1; omega
        · have := k.1; omega
        · have := k.1; omega
        · have := k.1; omega
        · have := k.1; omega
        · have := k.1; omega
        · exact ⟨k.2.1, k.2.2.2.1⟩
        · have := k.1; omega
      refine QW_p (k_gv (hs1 _ _ rfl) rfl rfl) ?_
      refine QW_p (k_gv h20 rfl rfl) ?_
      refine QW_p (k_gv hRS1.1 rfl rfl) ?_
      refine QW_p (k_la (hRS1.2 _ _ rfl) p0 (by omega) (by omega)) ?_
      have ev0 : q_L (q_sf s 35 6 (G_bg G + 1)) (rc (G_pg G) + 2) p = P_v (Ps (G_pg G)) p := by
        rw [q_L_sf, (hkk p p0 p1).2.1]
        unfold numC
        rw [if_neg (by omega)]
      rw [ev0]
      refine QW_p (k_is (hs1 _ _ rfl) hC.2.1 hC.2.2 (by decide)) ?_
      have h2 := h1.setN (j := (P_v (Ps (G_pg G)) p).toInt) (x := p + 1)
      refine QW_p (k_gv hRS1.1 rfl rfl) ?_
      refine QW_p (k_ia (show q_T (q_si (q_sf s 35 6 (G_bg G + 1)) 23 (P_v (Ps (G_pg G)) p).toInt (p + 1)) (rc (G_pg G) + 4) = _ from hRS1.2 4 _ rfl) p0 (by omega) (by omega)) ?_
      refine QW_ret (kc1.bp ?_)
      unfold beginA
      rw [if_neg h14, if_neg hb5, if_neg (by omega), if_neg (by omega), if_neg (by omega), if_neg (by omega), if_neg (by omega), if_neg (by omega), if_neg (by omega), if_neg (by omega), if_neg (by omega), if_pos hw, hC.1.1]
      refine ⟨v, c, room, xs, SM.rf _ _ _ _, KC.si, Or.inr (Or.inl ⟨rfl, ?_, h2⟩)⟩
      show q_I (q_si (q_sf s 35 6 (G_bg G + 1)) 23 (P_v (Ps (G_pg G)) p).toInt (p + 1)) (rc (G_pg G) + 4) p = ths (G_pg G) p
      rw [q_I_si, if_neg (by omega), q_I_sf, if_neg (by omega)]
      exact (hkk p p0 p1).2.2.2 (by unfold isS; omega)
    · refine QW_it (by omega) ?_
      have hC : C1 (Ps (G_pg G)) p := by
        rcases WK_S hk (by unfold isS; omega) with k | k | k | k | k | k | k | k
        · omega
        · omega
        · omega
        · omega
        · omega
        · omega
        · omega
        · exact k.2.1
      refine QW_ret (kc1.bp ?_)
      unfold beginA
      rw [if_neg h14, if_neg hb5, if_neg (by omega), if_neg (by omega), if_neg (by omega), if_neg (by omega), if_neg (by omega), if_neg (by omega), if_neg (by omega), if_neg (by omega), if_neg (by omega), if_neg (by omega), hC.1]
      exact ⟨v, c, room, xs, SM.rf _ _ _ _, KC.rf _ _ _, Or.inl ⟨rfl, rfl, h1⟩⟩
  · refine QW_p (k_rc (hs1 _ _ rfl)) ?_
    refine QW_e (d_70 hs1 h20) ?_
    refine QW_ret ?_
    unfold beginA
    rw [if_neg h14, if_pos (by omega)]
    exact h1.cf (x := (4, p)) kc1
/-- begin: rows are passed over -/
theorem d_69 (ho : o 2 = some (10, fun i => x_TABLE.getD i 0)) (h : CA Ps szs ths rc nP sec sig G s c room v side base u r N st xs RX) (hg : GW Ps szs nP sec G) {p : Int} (p0 : 0 ≤ p) (p1 : p < P_n (Ps (G_pg G))) (hS : isS (P_w (Ps (G_pg G)) p)) {Q : Q_S × Int → Prop} (hq : QW (fun n => g_69 o n 2 s 35 0 (.ref (rc (G_pg G))) (skR (Ps (G_pg G)) 500 p)) Q) : QW (fun n => g_69 o n 0 s 35 p .null 0) Q := by
  obtain ⟨hW, hR, hr80, hr7⟩ := h.1.rows hg
  have hn5 := hW.2.1
  have hs := h.1.1
  obtain ⟨n, np, hRS, hn, hnp, f7, f8, hkk, hK, hph1, hph2⟩ := hR
  have L : ∀ (f : Nat) (p : Int), 0 ≤ p → p < P_n (Ps (G_pg G)) → isS (P_w (Ps (G_pg G)) p) → 500 ≤ p + f → QW (fun n => g_69 o n 2 s 35 0 (.ref (rc (G_pg G))) (skR (Ps (G_pg G)) f p)) Q → QW (fun n => g_69 o n 1 s 35 0 (.ref (rc (G_pg G))) p) Q := by
    intro f
    induction f with
    | zero => intro p p0 p1 _ hf; omega
    | succ f ih =>
      intro p p0 p1 hS hf hq
      have hk := (hW.2.2.2.2.2.1 p p0 p1).2.2
      refine QW_s ?_
      simp only [g_69]
      refine QW_p (k_gv hRS.1 rfl rfl) ?_
      refine QW_p (k_ia (hRS.2 _ _ rfl) p0 (by omega) (by omega)) ?_
      have ek : q_I s (rc (G_pg G) + 1) p = P_w (Ps (G_pg G)) p := by
        rw [(hkk p p0 p1).1]
        unfold ck
        unfold isS at hS
        rw [if_neg (by omega)]
      rw [ek]
      have hS' := hS
      unfold isS at hS'
      refine QW_g (by omega) ?_
      simp only [skR] at hq
      refine QW_by (fun z => ?_) (fun z => ?_)
      · rw [if_neg z] at hq
        exact hq
      · have z := Decidable.of_not_not z
        rw [if_pos z] at hq
        have hC : C2 (Ps (G_pg G)) (szs (G_pg G)) p ∧ isS (P_w (Ps (G_pg G)) (p + 1)) := by
          rcases WK_S hk hS with k | k | k | k | k | k | k | k
          · omega
          · exact ⟨k.2.1, k.2.2.1⟩
          all_goals omega
        have hlt := hC.1.1.2.2
        refine QW_p (k_gi hRS.1 rfl) ?_
        rw [f7]
        refine QW_g (by omega) ?_
        refine QW_if (by omega) ?_
        exact ih (p + 1) (by omega) hlt hC.2 (by omega) hq
  refine QW_s ?_
  simp only [g_69]
  refine QW_p (k_gv (hs _ _ rfl) rfl rfl) ?_
  refine QW_p (k_gv h.1.2.1 rfl rfl) ?_
  exact L 500 p p0 p1 hS (by omega) hq
end CBX
