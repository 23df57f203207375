/-! look, all branches -/
def LkP (Ps : Int → PT) (nP sec : Int) (sig : Int → Int64) (G : GT) (s : Q_S) (k : Nat) (base u b : Int) (RX RB : List Int) (r : (BT k × Int) ⊕ (Int × Int)) (s' : Q_S) : Prop := match r with
  | .inr x => ∃ y, FltP Ps nP sec sig (G_side G y) s s' x
  | .inl (t', n) => ∃ it', RF Ps nP sec sig s' (G_side G (-n)) k base u t' it' RX RB ∧ itB k it' = b ∧ ST s s' RX RB
section RL3
variable {o : X_O} {Ps : Int → PT} {szs : Int → Int → Int} {nP sec : Int} {sig : Int → Int64}
theorem GW.side {G : GT} {y : Int} (hg : GW Ps szs nP sec G) (h0 : 0 ≤ G_sd G + y) (h1 : y ≤ 0) : GW Ps szs nP sec (G_side G y) := by
  obtain ⟨w1, w2, w3, w4, w5, w6, w7, w8, w9, w10, w11, w12, w13⟩ := hg
  exact ⟨w1, w2, w3, w4, w5, w6, w7, w8, w9, w10, h0, (by show G_sd G + y ≤ 49; omega), w13⟩
set_option maxHeartbeats 4000000 in
theorem r_look : ∀ (k : Nat) (side : Option Int) (base u : Int) (t : BT k) (s : Q_S) (it : IT k) (RX RB : List Int) (e : Nat) (G : GT), GW Ps szs nP sec G → VT (Ps (G_pg G)) (szs (G_pg G)) sec (G_ph G) k side base t → RF Ps nP sec sig s G k base u t it RX RB → 60 ≤ e + base → sidesB k t ≤ G_sd G →
    QW (fun n => g_110 o n e 0 s 38 (itB k it) u 0 0 0) (fun q => LkP Ps nP sec sig G s k base u (itB k it) RX RB (lookA Ps sig G k t) q.1) := by
  intro k
  induction k with
  | zero => intro side base u t s it RX RB e G hg hv; exact hv.elim
  | succ k ih =>
    intro side base u t s it RX RB e G hg hv h he hsd
    have hW := hg.2.2.2.2.1 _ hg.2.2.2.2.2.1 hg.2.2.2.2.2.2.1
    obtain ⟨m, p, d, st, sub⟩ := t
    obtain ⟨b, xs, isub⟩ := it
    have hs := h.1
    have b1 := h.2.2.1.1.1
    have b2 := h.2.2.1.1.2.1
    have hud := h.2.2.2.2.2.2.2.1
    have b6 : rpS s base u st xs (q_I s 64 b) := h.2.2.1.1.2.2.2.2.2
    have hl := (rpS_top hud b6).2.2
    have hu : q_in u := by
      rcases hud with z | z
      · rw [z.1]; omega
      · omega
    have htop : q_I s 64 b = xs.headD u := by
      cases st with
      | nil =>
        cases xs with
        | nil => exact b6
        | cons _ _ => exact b6.elim
      | cons f t =>
        obtain ⟨f1, f2⟩ := f
        cases xs with
        | nil => exact b6.elim
        | cons y ys => exact b6.1
    have hV := hv.1
    have hb0 : 0 ≤ base := hV.1
    have hbl : base + (st.length : Int) ≤ 60 := hV.2.1
    obtain ⟨S', a1, a2, a3, a4⟩ := r_chain (o := o) (G := G) (st := st) (m := m) (p := p) (d := d) (b := b) (sub := sub) (isub := isub) (base := base) (RX := RX) (RB := RB) (Ps := Ps) (nP := nP) (sec := sec) (sig := sig) e hu (by omega) xs [] s h (fun i hi => by cases hi)
    simp only [List.nil_append] at a1 a2 a4
    have LM := r_lim (o := o) e hg (side := side) (isub := isub) S' st.length st [] xs [] rfl hl (by rw [List.append_nil]; exact hv) (by rw [List.append_nil, List.append_nil]; exact a1) a2
    rw [List.append_nil] at LM
    have hK := (a3 [] []).1
    show QW (fun n => g_110 o n e 0 s 38 b u 0 0 0) (fun q => LkP Ps nP sec sig G s (k + 1) base u b RX RB (lookA Ps sig G (k + 1) (m, p, d, st, sub)) q.1)
    refine QW_s ?_
    simp only [g_110]
    refine QW_p (k_gv (hs _ _ rfl) rfl rfl) ?_
    refine QW_p (k_ia (hs _ _ rfl) b1 b2 (by decide)) ?_
    rw [htop]
    refine a4 _ ?_
    rw [hl]
    simp only [lookA]
    cases hx : limA sig (Ps (G_pg G)) (G_v G) st.reverse [] with
    | inr y =>
      rw [hx] at LM
      refine QW_m LM (fun q hq => ?_)
      refine ⟨0, ?_⟩
      rw [G_side_0]
      exact ⟨hK.tr hq.1, hq.2⟩
    | inl y =>
      rw [hx] at LM
      cases y with
      | some y =>
        obtain ⟨q, acc⟩ := y
        refine QW_m LM (fun r hr => ?_)
        obtain ⟨xs', r1, r2⟩ := hr
        exact ⟨(b, xs', none), r1.rf (by decide), rfl, (a3 RX RB).tr r2⟩
      | none =>
        refine LM _ ?_
        dsimp only
        have hs1 := a1.1
        have hf1 := a1.2.2.2.2.2.2.2.2.2.1
        have e62 : q_I S' 62 b = m := a1.2.2.1.1.2.2.1
        have hmr : 0 ≤ m ∧ m ≤ 4 := by
          rcases hV.2.2.2.2 with z | z | z
          · have : m = 0 := z.1; omega
          · have : m = 1 ∨ m = 2 ∨ m = 3 := z.1; omega
          · have : m = 4 := z.1; omega
        refine QW_s ?_
        simp only [g_110]
        refine QW_g (by first | omega | simp) ?_
        refine QW_if (by first | omega | simp) ?_
        refine QW_p (k_gi (hs1 _ _ rfl) rfl) ?_
        rw [hf1]
        refine QW_g (by first | omega | simp) ?_
        refine QW_if (by first | omega | simp) ?_
        refine QW_p (k_gv (hs1 _ _ rfl) rfl rfl) ?_
        refine QW_p (k_ia (hs1 _ _ rfl) b1 b2 (by decide)) ?_
        rw [e62]
        refine QW_g (by omega) ?_
        by_cases m4 : m = 4
        · subst m4
          refine QW_if (by omega) ?_
          rw [if_pos rfl]
          cases sub with
          | none => exact absurd rfl hv.2
          | some lr =>
          cases isub with
          | none => exact a1.2.2.1.2.elim
          | some ilr =>
          obtain ⟨l, r⟩ := lr
          obtain ⟨il, ir⟩ := ilr
          obtain ⟨_, v1, v2⟩ := hv.2
          have a1' := a1
          obtain ⟨_, hG, ⟨hB0, _, x, ys, exs, g3, g4, g5, g6, g7⟩, _, _, _, _, hud1, hux, _, _⟩ := a1'
          subst exs
          cases st with
          | nil => exact hB0.2.2.2.2.2.elim
          | cons f t' =>
          obtain ⟨f1, f2⟩ := f
          obtain ⟨x1, x2, x3, x4, x5, x6, x7, x8⟩ := hB0.2.2.2.2.2
          have hbl' : base + ((((f1, f2) :: t').length : Nat) : Int) ≤ 60 := hbl
          have hlen : ((((f1, f2) :: t').length : Nat) : Int) = t'.length + 1 := by simp
          obtain ⟨e', rfl⟩ : ∃ e', e = e' + 1 := ⟨e - 1, by omega⟩
          have hs1l := sides0 k l
          have hs1r := sides0 k r
          have hsd' : 1 + sidesB k l + sidesB k r ≤ G_sd G := by simpa only [sidesB] using hsd
          have QL := ih (some p) (base + (((f1, f2) :: t').length : Int)) x l S' il ((x :: ys ++ fxI k ir) ++ RX) ((b :: fbI k ir) ++ RB) e' G hg v1 a1.left (by omega) (by omega)
          refine QW_p (k_gv (hs1 _ _ rfl) rfl rfl) ?_
          refine QW_p (k_ia (hs1 _ _ rfl) b1 b2 (by decide)) ?_
          rw [x1]
          refine QW_p (k_gv (hs1 _ _ rfl) rfl rfl) ?_
          refine QW_p (k_ia (hs1 _ _ rfl) x2 x3 (by decide)) ?_
          rw [g3]
          refine QW_p (v := e') rfl ?_
          refine QW_p (k_rc (hs1 _ _ rfl)) ?_
          refine QW_c QL (fun q hq => ?_)
          dsimp only
          cases hll : lookA Ps sig G k l with
          | inr y =>
            rw [hll] at hq
            obtain ⟨y0, hq'⟩ := hq
            have hs2 := hq'.1.sh hs1
            refine QW_p (k_gi (hs2 _ _ rfl) rfl) ?_
            rw [hq'.2.2.1]
            refine QW_g (by omega) ?_
            refine QW_it (by decide) ?_
            refine QW_m rl_5 (fun q2 hq2 => ?_)
            subst hq2
            exact ⟨y0, hK.tr hq'.1, hq'.2⟩
          | inl y =>
            obtain ⟨l1, n1⟩ := y
            rw [hll] at hq
            obtain ⟨il1, hF1, hib1, hst1⟩ := hq
            obtain ⟨i1, i2, i3⟩ := look_inv hg k _ _ _ _ _ v1 hll
            have hsl1 := sides0 k l1
            have hs2 := hF1.1
            have hf2 := hF1.2.2.2.2.2.2.2.2.2.1
            have hX1 := hst1.2.1 x (by simp)
            have hRMr : RM q.1 (Ps (G_pg (G_side G (-n1)))) k (base + (((f1, f2) :: t').length : Int)) x r ir := RM_same k _ _ r ir (fun y hy => hst1.2.1 y (by simp [hy])) (fun y hy => hst1.2.2 y (by simp [hy])) g7
            have QR := ih (some p) (base + (((f1, f2) :: t').length : Int)) x r q.1 ir ((x :: ys ++ fxI k il1) ++ RX) ((b :: fbI k il1) ++ RB) e' (G_side G (-n1)) (hg.side (by omega) (by omega)) v2 (hF1.swap hRMr) (by omega) (by show sidesB k r ≤ G_sd G + -n1; omega)
            rw [lookA_side] at QR
            have hstO : ST S' q.1 RX RB := hst1.sub (fun y hy => by simp [hy]) (fun y hy => by simp [hy])
            refine QW_p (k_gi (hs2 _ _ rfl) rfl) ?_
            rw [hf2]
            refine QW_g (by omega) ?_
            refine QW_if (by decide) ?_
            refine QW_p (k_gv (hs2 _ _ rfl) rfl rfl) ?_
            refine QW_p (k_ia (hs2 _ _ rfl) x2 x3 (by decide)) ?_
            rw [hX1.2.2.2.2.1, g4]
            refine QW_p (v := e') rfl ?_
            refine QW_p (k_rc (hs2 _ _ rfl)) ?_
            refine QW_c QR (fun q' hq' => ?_)
            refine QW_m rl_5 (fun q3 hq3 => ?_)
            subst hq3
            dsimp only
            cases hlr : lookA Ps sig G k r with
            | inr y =>
              rw [hlr] at hq'
              obtain ⟨y0, hq2⟩ := hq'
              rw [G_side_2] at hq2
              exact ⟨_, (hK.tr hstO.1).tr hq2.1, hq2.2⟩
            | inl y =>
              obtain ⟨r1, n2⟩ := y
              rw [hlr] at hq'
              obtain ⟨ir1, hF2, hib2, hst2⟩ := hq'
              rw [G_side_2] at hF2
              have hX2 := hst2.2.1 x (by simp)
              have hstO2 : ST q.1 q'.1 RX RB := hst2.sub (fun y hy => by simp [hy]) (fun y hy => by simp [hy])
              have hRMl : RM q'.1 (Ps (G_pg (G_side G (-n1 + -n2)))) k (base + (((f1, f2) :: t').length : Int)) x l1 il1 := RM_same k _ _ l1 il1 (fun y hy => hst2.2.1 y (by simp [hy])) (fun y hy => hst2.2.2 y (by simp [hy])) hF1.2.2.1
              have hB2 : rpB q'.1 (Ps (G_pg (G_side G (-n1 + -n2)))) base u b (4, p, d, (f1, f2) :: t') (x :: ys) := rpB_same (rpB_same hB0 (fun y hy => hst1.2.1 y (by rw [List.append_assoc]; exact List.mem_append_left _ hy)) (fun y hy => hst1.2.2 y (by simp at hy; simp [hy]))) (fun y hy => hst2.2.1 y (by rw [List.append_assoc]; exact List.mem_append_left _ hy)) (fun y hy => hst2.2.2 y (by simp at hy; simp [hy]))
              have g3' : q_I q'.1 59 x = itB k il1 := by rw [hX2.2.2.2.1, hX1.2.2.2.1, g3, hib1]
              have g4' : q_I q'.1 60 x = itB k ir1 := by rw [hX2.2.2.2.2.1, hX1.2.2.2.2.1, g4, hib2]
              have hud2 : UD q'.1 u base := by
                rcases hud1 with z | z
                · exact Or.inl z
                · rcases hux with y | y
                  · omega
                  · refine Or.inr ⟨z.1, z.2.1, ?_⟩
                    rw [(hstO2.2.1 u y).2.2.1, (hstO.2.1 u y).2.2.1]
                    exact z.2.2
              have hJ := hF2.join rfl hRMl hB2 g3' g4' (fun y hy => by rw [(hst2.2.1 y (by simp [hy])).2.2.2.1, (hst1.2.1 y (by simp [hy])).2.2.2.1]; exact g5 y hy) hud2 hux
              rw [show -n1 + -n2 = -(n1 + n2) by omega] at hJ
              exact ⟨(b, x :: ys, some (il1, ir1)), hJ, rfl, ((a3 RX RB).tr hstO).tr hstO2⟩
        · refine QW_it m4 ?_
          rw [if_neg m4]
          refine QW_m rl_5 (fun q2 hq2 => ?_)
          subst hq2
          refine ⟨(b, xs, isub), ?_, rfl, a3 RX RB⟩
          rw [show (-(0 : Int)) = 0 from rfl, G_side_0]
          exact a1
end RL3
