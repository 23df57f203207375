/-! drop, with sides -/
theorem G_side_0 (G : GT) : G_side G 0 = G := by
  obtain ⟨a, b, c, d, e, f, g, h⟩ := G
  simp [G_side]
theorem G_side_2 (G : GT) (x y : Int) : G_side (G_side G x) y = G_side G (x + y) := by
  obtain ⟨a, b, c, d, e, f, g, h⟩ := G
  simp [G_side]
  omega
section RD2
variable {o : X_O} {Ps : Int → PT} {nP sec : Int} {sig : Int → Int64}
theorem RS.swapR {s : Q_S} {G : GT} {base b bl x : Int} {c : CT} {ys RX RB : List Int} {k : Nat} {r : BT k} {ir : IT k} (h : RS Ps nP sec sig s G base x bl c [] ((x :: ys ++ fxI k ir) ++ RX) ((b :: fbI k ir) ++ RB)) (hr : RM s (Ps (G_pg G)) k base x r ir) : RF Ps nP sec sig s G k base x r ir (x :: ys ++ RX) (b :: bl :: RB) := by
  obtain ⟨h1, h2, _, _, h4, h5, h6, h7, h8, h9, h10⟩ := h
  refine ⟨h1, h2, hr, ?_, ?_, ?_, ?_, h8, Or.inr (by simp), h10⟩
  · refine (l_perm fun a => ?_).nodup h4
    simp only [List.count_append, List.count_cons, List.count_nil]
    omega
  · refine h5.perm (l_perm fun a => ?_)
    simp only [List.count_append, List.count_cons, List.count_nil]
    omega
  · refine (l_perm fun a => ?_).nodup h6
    simp only [List.count_append, List.count_cons]
    omega
  · refine h7.perm (l_perm fun a => ?_)
    simp only [List.count_append, List.count_cons]
    omega
set_option maxHeartbeats 4000000 in
theorem r_drop {P : PT} {sz : Int → Int} {ph : Int} : ∀ (k : Nat) (side : Option Int) (base u : Int) (m p : Int) (d : DT) (st1 st2 : List FR) (sub : Option (BT k × BT k)) (b : Int) (xs1 xs2 : List Int) (isub : Option (IT k × IT k)) (s : Q_S) (G : GT) (RX RB : List Int) (e : Nat), Ps (G_pg G) = P → VT P sz sec ph (k + 1) side base (m, p, d, st1 ++ st2, sub) → RF Ps nP sec sig s G (k + 1) base u (m, p, d, st1 ++ st2, sub) (b, xs1 ++ xs2, isub) RX RB → xs1.length = st1.length → (m = 4 → ¬ st1 = []) → 60 ≤ e + base →
    QW (fun n => g_117 o n e 0 s 38 b (xs2.headD u)) (fun q => RS Ps nP sec sig q.1 (G_side G (-(sidesB (k + 1) (m, p, d, st1 ++ st2, sub)))) base u b (m, p, d, st2) xs2 RX RB ∧ ST s q.1 RX RB) := by
  intro k
  induction k with
  | zero =>
    intro side base u m p d st1 st2 sub b xs1 xs2 isub s G RX RB e hP hv h hl hne he
    cases sub with
    | none =>
      cases isub with
      | some _ => exact h.2.2.1.2.elim
      | none =>
        simp only [sidesB]
        rw [show (-(0 : Int)) = 0 from rfl, G_side_0]
        exact r_dropS e st1 xs1 s G m p d st2 xs2 h.rs hl
    | some lr => exact hv.2.2.1.elim
  | succ k ih =>
    intro side base u m p d st1 st2 sub b xs1 xs2 isub s G RX RB e hP hv h hl hne he
    cases sub with
    | none =>
      cases isub with
      | some _ => exact h.2.2.1.2.elim
      | none =>
        simp only [sidesB]
        rw [show (-(0 : Int)) = 0 from rfl, G_side_0]
        exact r_dropS e st1 xs1 s G m p d st2 xs2 h.rs hl
    | some lr =>
    cases isub with
    | none => exact h.2.2.1.2.elim
    | some ilr =>
    obtain ⟨l, r⟩ := lr
    obtain ⟨il, ir⟩ := ilr
    obtain ⟨hV, m4, v1, v2⟩ := hv
    subst m4
    cases st1 with
    | nil => exact absurd rfl (hne rfl)
    | cons f t1 =>
    cases xs1 with
    | nil => cases hl
    | cons x ys1 =>
    have h' : RF Ps nP sec sig s G (k + 2) base u (4, p, d, f :: (t1 ++ st2), some (l, r)) (b, x :: (ys1 ++ xs2), some (il, ir)) RX RB := h
    have hRl := h'.left
    obtain ⟨hs, hG, ⟨hB, hsb⟩, hnX, hUS, hnB, hUB, hud, hux, hf, hnx⟩ := h'
    obtain ⟨_, x', ys', exs, g3, g4, g5, g6, g7⟩ := hsb
    cases exs
    have hB0 := hB
    obtain ⟨b1, b2, b3, b4, b5, b6⟩ := hB
    obtain ⟨f1, f2⟩ := f
    obtain ⟨x1, x2, x3, x4, x5, x6, x7, x8⟩ := b6
    have hbl : base + ((((f1, f2) :: (t1 ++ st2)).length : Nat) : Int) ≤ 60 := hV.2.1
    have hb0 : 0 ≤ base := hV.1
    have hml := RM_mode g6
    have hmr := RM_mode g7
    obtain ⟨e', rfl⟩ : ∃ e', e = e' + 1 := ⟨e - 1, by simp at hbl; omega⟩
    have hudx : UD s x (base + (((f1, f2) :: (t1 ++ st2)).length : Int)) := Or.inr ⟨x2, x3, by rw [x6]; simp; omega⟩
    have hne2 : ¬ x = xs2.headD u ∧ q_in (xs2.headD u) := by
      have hudr : q_in u := by
        rcases hud with z | z
        · rw [z.1]; omega
        · omega
      cases xs2 with
      | nil => exact ⟨x4, hudr⟩
      | cons w ws =>
        have hw : w ∈ x :: (ys1 ++ w :: ws) := by simp
        refine ⟨fun z => ?_, ?_⟩
        · have : x = w := z
          subst this
          simp [fxI] at hnX
        · have key : ∀ (st : List FR) (xs : List Int) (z : Int), rpS s base u st xs z → ∀ y ∈ xs, 0 ≤ y ∧ y < 6144 := by
            intro st
            induction st with
            | nil =>
              intro xs z g y hy
              cases xs with
              | nil => cases hy
              | cons _ _ => exact g.elim
            | cons f t ih2 =>
              intro xs z g y hy
              obtain ⟨fp, fa⟩ := f
              cases xs with
              | nil => exact g.elim
              | cons w2 ws2 =>
                obtain ⟨_, g2, g3, _, _, _, _, g8⟩ := g
                rcases List.mem_cons.mp hy with e | e
                · subst e; exact ⟨g2, g3⟩
                · exact ih2 ws2 _ g8 y e
          have := key _ _ _ hB0.2.2.2.2.2 w hw
          show q_in w
          omega
    obtain ⟨ml, pl, dl, stl, subl⟩ := l
    obtain ⟨bl, xsl, isubl⟩ := il
    obtain ⟨mr, pr, dr, str, subr⟩ := r
    obtain ⟨br, xsr, isubr⟩ := ir
    have hll : xsl.length = stl.length := (rpS_top hudx (show rpS s _ x stl xsl (q_I s 64 bl) from g6.1.2.2.2.2.2)).2.2
    have hlr : xsr.length = str.length := (rpS_top hudx (show rpS s _ x str xsr (q_I s 64 br) from g7.1.2.2.2.2.2)).2.2
    have hnel : ∀ {mm pp : Int} {dd : DT} {ss : List FR} {zz : Option Int} {bb : Int}, VC P sz sec ph zz bb (mm, pp, dd, ss) → mm = 4 → ¬ ss = [] := by
      intro mm pp dd ss zz bb hv4 h4 hss
      rcases hv4.2.2.2.2 with z | z | z
      · have : mm = 0 := z.1; omega
      · have : mm = 1 ∨ mm = 2 ∨ mm = 3 := z.1; omega
      · obtain ⟨t', z4, _⟩ := z.2.2.2.2
        have z4' : ss = (pp, 0) :: t' := z4
        rw [hss] at z4'
        cases z4'
    have QL := ih (some p) (base + (((f1, f2) :: (t1 ++ st2)).length : Int)) x ml pl dl stl [] subl bl xsl [] isubl s G ((x :: (ys1 ++ xs2) ++ fxI (k + 1) (br, xsr, isubr)) ++ RX) ((b :: fbI (k + 1) (br, xsr, isubr)) ++ RB) e' hP (by rw [List.append_nil]; exact v1) (by rw [List.append_nil, List.append_nil]; exact hRl) hll (fun z => hnel v1.1 z) (by simp; omega)
    refine QW_s ?_
    simp only [g_117]
    refine QW_p (k_gv (hs _ _ rfl) rfl rfl) ?_
    refine QW_p (k_ia (hs _ _ rfl) b1 b2 (by decide)) ?_
    rw [x1]
    refine QW_g ⟨by omega, hne2.2⟩ ?_
    refine QW_if hne2.1 ?_
    refine QW_p (k_gv (hs _ _ rfl) rfl rfl) ?_
    refine QW_p (k_ia (hs _ _ rfl) b1 b2 (by decide)) ?_
    rw [x1]
    refine QW_p (k_gv (hs _ _ rfl) rfl rfl) ?_
    refine QW_p (k_ia (hs _ _ rfl) x2 x3 (by decide)) ?_
    rw [g3]
    refine QW_g (by omega) ?_
    refine QW_if (by omega) ?_
    refine QW_p (k_gv (hs _ _ rfl) rfl rfl) ?_
    refine QW_p (k_ia (hs _ _ rfl) x2 x3 (by decide)) ?_
    rw [g3]
    refine QW_p (v := e') rfl ?_
    refine QW_p (k_rc (hs _ _ rfl)) ?_
    refine QW_c QL (fun q hq => ?_)
    obtain ⟨hR1, hst1⟩ := hq
    rw [List.append_nil] at hR1
    have hs1 := hR1.1
    have hX1 := hst1.2.1 x (by simp)
    have hRMr : RM q.1 (Ps (G_pg (G_side G (-(sidesB (k + 1) (ml, pl, dl, stl, subl)))))) (k + 1) (base + (((f1, f2) :: (t1 ++ st2)).length : Int)) x (mr, pr, dr, str, subr) (br, xsr, isubr) := RM_same (k + 1) _ _ _ _ (fun y hy => hst1.2.1 y (by simp [hy])) (fun y hy => hst1.2.2 y (by simp [hy])) g7
    have hFr := hR1.swapR hRMr
    have QR := ih (some p) (base + (((f1, f2) :: (t1 ++ st2)).length : Int)) x mr pr dr str [] subr br xsr [] isubr q.1 (G_side G (-(sidesB (k + 1) (ml, pl, dl, stl, subl)))) (x :: (ys1 ++ xs2) ++ RX) (b :: bl :: RB) e' hP (by rw [List.append_nil]; exact v2) (by rw [List.append_nil, List.append_nil]; exact hFr) hlr (fun z => hnel v2.1 z) (by simp; omega)
    refine QW_p (k_gv (hs1 _ _ rfl) rfl rfl) ?_
    refine QW_p (k_ia (hs1 _ _ rfl) x2 x3 (by decide)) ?_
    rw [hX1.2.2.2.2.1, g4]
    refine QW_p (v := e') rfl ?_
    refine QW_p (k_rc (hs1 _ _ rfl)) ?_
    refine QW_c QR (fun q' hq' => ?_)
    obtain ⟨hR2, hst2⟩ := hq'
    rw [List.append_nil, G_side_2] at hR2
    have hs2 := hR2.1
    have hX2 := hst2.2.1 x (by simp)
    have hstO : ST s q.1 RX RB := hst1.sub (fun y hy => by simp [hy]) (fun y hy => by simp [hy])
    have hstO2 : ST q.1 q'.1 RX RB := hst2.sub (fun y hy => by simp [hy]) (fun y hy => by simp [hy])
    have g3' : q_I q'.1 59 x = bl := by rw [hX2.2.2.2.1, hX1.2.2.2.1, g3]; rfl
    have g4' : q_I q'.1 60 x = br := by rw [hX2.2.2.2.2.1, hX1.2.2.2.2.1, g4]; rfl
    have hB2 : rpB q'.1 (Ps (G_pg (G_side G (-(sidesB (k + 1) (ml, pl, dl, stl, subl)) + -(sidesB (k + 1) (mr, pr, dr, str, subr)))))) base u b (4, p, d, (f1, f2) :: (t1 ++ st2)) (x :: (ys1 ++ xs2)) := by
      exact rpB_same (rpB_same hB0 (fun y hy => hst1.2.1 y (by rw [List.append_assoc]; exact List.mem_append_left _ hy)) (fun y hy => hst1.2.2 y (by simp at hy; simp [hy]))) (fun y hy => hst2.2.1 y (List.mem_append_left _ hy)) (fun y hy => hst2.2.2 y (by simp at hy; simp [hy]))
    have hud2 : UD q'.1 u base := by
      rcases hud with z | z
      · exact Or.inl z
      · rcases hux with y | y
        · omega
        · refine Or.inr ⟨z.1, z.2.1, ?_⟩
          rw [(hstO2.2.1 u y).2.2.1, (hstO.2.1 u y).2.2.1]
          exact z.2.2
    obtain ⟨_, hG2, _, _, k4, k5, k6, k7, _, _, k10, k11⟩ := hR2
    obtain ⟨rS, tS, y1, y2, y3⟩ := close_core (RX := RX) (RB := RB) (b1 := bl) (b2 := br) hs2 hG2 hB2 (fun y hy => by rw [(hst2.2.1 y (List.mem_append_left _ (List.mem_cons_of_mem _ hy))).2.2.2.1, (hst1.2.1 y (by rw [List.append_assoc]; exact List.mem_append_left _ (List.mem_cons_of_mem _ hy))).2.2.2.1]; exact g5 y hy) (by simpa using k4) (by simpa using k5) ((l_perm fun a => by simp only [List.count_cons]; omega).nodup k6) (k7.perm (l_perm fun a => by simp only [List.count_cons]; omega)) hud2 hux ⟨k10, k11⟩
    refine QW_p (k_gv (hs2 _ _ rfl) rfl rfl) ?_
    refine QW_p (k_gv (hs2 _ _ rfl) rfl rfl) ?_
    refine QW_p (k_ia (hs2 _ _ rfl) x2 x3 (by decide)) ?_
    rw [g3']
    refine QW_p (k_bs (hs2 _ _ rfl) hml.2.1 hml.2.2 (by decide) (by decide)) ?_
    have hs3 : SH (q_si q'.1 69 bl 0) := hs2
    refine QW_p (k_gv (hs3 _ _ rfl) rfl rfl) ?_
    refine QW_p (k_gv (hs3 _ _ rfl) rfl rfl) ?_
    refine QW_p (k_ia (hs3 _ _ rfl) x2 x3 (by decide)) ?_
    rw [show q_I (q_si q'.1 69 bl 0) 60 x = br from (by simp only [q_I_si]; rw [if_neg (by omega)]; exact g4')]
    refine QW_p (k_bs (hs3 _ _ rfl) hmr.2.1 hmr.2.2 (by decide) (by decide)) ?_
    have hs4 : SH (q_si (q_si q'.1 69 bl 0) 69 br 0) := hs2
    refine QW_p (k_gi (hs4 _ _ rfl) rfl) ?_
    refine QW_p (k_pi (hs4 _ _ rfl) rfl rfl) ?_
    have hs5 : SH (m_cls q'.1 bl br) := hs2
    refine QW_s ?_
    simp only [g_117]
    refine QW_p (k_rc (hs5 _ _ rfl)) ?_
    refine QW_e (m_118 (s := m_cls q'.1 bl br) hs5 b1 b2 (by rw [y1]; exact x2) (by rw [y1]; exact x3)) ?_
    refine QW_m (r_dropS (e' + 1) t1 ys1 (m_pop (m_cls q'.1 bl br) b) _ 4 p d st2 xs2 rS (by simpa using hl)) (fun q3 hq3 => ?_)
    obtain ⟨z1, z2⟩ := hq3
    rw [G_side_2] at z1
    have eG : -(sidesB (k + 1) (ml, pl, dl, stl, subl)) + -(sidesB (k + 1) (mr, pr, dr, str, subr)) + -1 = -(sidesB (k + 1 + 1) (4, p, d, ((f1, f2) :: t1) ++ st2, some ((ml, pl, dl, stl, subl), (mr, pr, dr, str, subr)))) := by
      show _ = -(1 + sidesB (k + 1) (ml, pl, dl, stl, subl) + sidesB (k + 1) (mr, pr, dr, str, subr))
      omega
    rw [eG] at z1
    exact ⟨z1, ((hstO.tr hstO2).tr tS).tr z2⟩
end RD2
