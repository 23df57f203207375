/-! THE CLASS'S LOOK AT THE LIMITS: all of a branch -/
theorem l_snoc {α : Type} {l : List α} {n : Nat} (h : l.length = n + 1) : ∃ m x, l = m ++ [x] ∧ m.length = n := by
  rcases List.eq_nil_or_concat l with e | ⟨m, x, e⟩
  · rw [e] at h; simp at h
  · refine ⟨m, x, by simpa using e, ?_⟩
    rw [e] at h
    simpa using h
section CLQ
variable {o : X_O} {Ps : Int → PT} {szs ths : Int → Int → Int} {rc : Int → Nat} {nP sec : Int} {sig : Int → Int64}
set_option maxHeartbeats 4000000 in
theorem lk_step (ho : o 2 = some (10, fun i => x_TABLE.getD i 0)) {k : Nat} (IH : LK o Ps szs ths rc nP sec sig k) : LK o Ps szs ths rc nP sec sig (k + 1) := by
  intro base side r u N G t it s c room v RX i res Q hres hg hVT hNB hm hsd hCT hi hb hLK
  obtain ⟨m, p, d, st, sub⟩ := t
  obtain ⟨b, xs, isub⟩ := it
  have hCT' := hCT
  obtain ⟨g1, g2, g3, g4, g5, g6, g7, g8⟩ := hCT'
  have hVT' := hVT
  obtain ⟨hV, hsub⟩ := hVT'
  have hm : ¬ m = 0 := hm
  have hW := (g1.any hg).1
  have hn5 := hW.2.1
  have hKD := hVT.kd (k + 1) side base _
  have hb60 : (base : Int) + st.length ≤ 60 := hV.2.1
  have nd : (flC (k + 1) (b, xs, isub) ++ RX).Nodup := by
    obtain ⟨fl, w1, w2, w3, w4, w5⟩ := g7
    exact (List.nodup_append.mp w2).1
  have rg : ∀ z ∈ flC (k + 1) (b, xs, isub), 0 ≤ z ∧ z < v_u v := by
    obtain ⟨fl, w1, w2, w3, w4, w5⟩ := g7
    exact fun z hz => w3 z (List.mem_append_left _ (List.mem_append_left _ hz))
  have hu65 : v_u v ≤ 6500 := by
    obtain ⟨fl, w1, w2, w3, w4, w5⟩ := g7
    exact w5
  have hxm : ∀ z ∈ xs, z ∈ flC (k + 1) (b, xs, isub) := fun z hz => by
    cases isub with
    | none => simp only [flC, List.mem_append]; exact Or.inl (Or.inr hz)
    | some w =>
      obtain ⟨w1, w2⟩ := w
      simp only [flC, List.mem_append]; exact Or.inl (Or.inr hz)
  have hlx := (chV_ge st xs g6.1).2
  -- how many more than the chain
  obtain ⟨R0, hR0, hR1⟩ : ∃ R0 : Nat, ((flC (k + 1) (b, xs, isub)).length : Int) = xs.length + R0 ∧ (sub = none → 1 ≤ R0) := by
    cases isub with
    | none =>
      refine ⟨(if b = -1 then ([] : List Int) else [b]).length, by simp only [flC, List.length_append, List.length_nil]; push_cast; omega, fun z => ?_⟩
      subst z
      rcases g6.2 with ⟨a1, _⟩ | ⟨a1, _⟩
      · exact absurd a1 hm
      · rw [if_neg (by have := a1.1; omega)]
        simp
    | some w =>
      obtain ⟨w1, w2⟩ := w
      refine ⟨(if b = -1 then ([] : List Int) else [b]).length + (flC k w1).length + (flC k w2).length, by simp only [flC, List.length_append]; push_cast; omega, fun z => ?_⟩
      subst z
      exact g6.2.elim
  -- what comes below the innermost
  have cur0 : Int := 0
  have hcur : ∃ cur0 : Int, (xs = [] → slotV v u r = cur0) ∧ (xs ≠ [] → fbV v (hdI xs u) = cur0) ∧ 0 ≤ cur0 ∧
      (lookA Ps sig G (k + 1) (m, p, d, st, sub) = (match limA sig (Ps (G_pg G)) (G_v G) st.reverse [] with
        | .inr x => .inr x
        | .inl (some (q, acc)) => .inl ((2, P_3 (Ps (G_pg G)) q, d, acc, none), sidesB (k + 1) (m, p, d, st, sub))
        | .inl none => lookA Ps sig G (k + 1) (m, p, d, st, sub))) ∧
      (∀ (s' : Q_S) (i' : Int), limA sig (Ps (G_pg G)) (G_v G) st.reverse [] = .inl none → CG Ps szs ths rc nP sec sig G s' c → VW s' 24 c room v → KC s c room s' c room → 0 ≤ i' → i' + R0 ≤ i + (flC (k + 1) (b, xs, isub)).length → QW (fun n => g_61 o n 1 s' 35 cur0 i') Q) := by
    have hl1 : lookA Ps sig G (k + 1) (m, p, d, st, sub) = (match limA sig (Ps (G_pg G)) (G_v G) st.reverse [] with
        | .inr x => .inr x
        | .inl (some (q, acc)) => .inl ((2, P_3 (Ps (G_pg G)) q, d, acc, none), sidesB (k + 1) (m, p, d, st, sub))
        | .inl none => lookA Ps sig G (k + 1) (m, p, d, st, sub)) := by
      cases hlim : limA sig (Ps (G_pg G)) (G_v G) st.reverse [] with
      | inr x => simp only [lookA, hlim]
      | inl x =>
        cases x with
        | none => rfl
        | some x =>
          obtain ⟨q, acc⟩ := x
          simp only [lookA, hlim]
    cases sub with
    | none =>
      cases isub with
      | some _ => exact g6.2.elim
      | none =>
        rcases g6.2 with ⟨a1, _⟩ | ⟨lf, a2⟩
        · exact absurd a1 hm
        · have hb0 := lf.1
          have hCL : CL Ps szs ths rc nP sec sig G s c room v side base u r N m p d st b xs RX := ⟨g1, g2, g3, g4, g5, g6.1, g7.perm (l_perm (fun a => by
            simp only [flC]
            rw [if_neg (by omega)]
            simp only [List.count_append, List.count_cons, List.count_nil]
            omega)), g8, a2, lf⟩
          have hrt := hCL.right hb60
          have hfb : fbV v b = -1 := by
            unfold fbV
            rw [if_pos lf.2.2.2.2.1]
            exact lf.2.2.2.2.2.1
          refine ⟨b, fun z => ?_, fun z => ?_, hb0, hl1, fun s' i' hlim h1 h2 hk hi0 hi1 => ?_⟩
          · subst z
            exact lf.2.1
          · have hx0 := (chV_ge st xs g6.1).1 _ (hdI_mem (u := u) z)
            have hsl : slotV v (hdI xs u) (rsI xs r) = b := lf.2.1
            have ers : rsI xs r = false := by
              cases xs with
              | nil => exact absurd rfl z
              | cons _ _ => rfl
            rw [ers, slot_l hx0] at hsl
            unfold fbV
            rw [hsl, if_neg (by omega)]
          · have hm4 : ¬ m = 4 := hsub
            have e0 : lookA Ps sig G (k + 1) (m, p, d, st, none) = .inl ((m, p, d, st, none), 0) := by
              simp only [lookA, hlim]
              rw [if_neg hm4]
            rw [e0] at hres
            subst hres
            have hkd : ¬ vI v 1 b = 16 := by
              rcases lf.2.2.2.2.2.2 with z | z
              · omega
              · rw [z.2.1]
                rcases hV.2.2.2.2 with y | y | y
                · exact absurd y.1 hm
                · have w : P_w (Ps (G_pg G)) p = 12 ∨ P_w (Ps (G_pg G)) p = 13 := (y.2.2.2.2.2.2 z.1).1
                  omega
                · exact absurd y.1 hm4
            have hyu := hCL.yu
            have hR1' := hR1 rfl
            refine lk_frm (Q1 := fun _ => True) h1 h2 g3 hyu.1 hyu.2 ⟨hi0, by omega⟩ (fun _ => ?_) (fun z => absurd z hkd)
            rw [if_pos hfb, hrt]
            refine hLK s' v (i' + 1) (b, xs, none) (SM.rf _ _ _ _) hk ⟨h1, h2, g3, g4, ?_, g6, g7, g8⟩ (by omega) (by omega)
            rw [g5]
            show G_sd G = G_sd G + -0
            omega
    | some lr =>
      obtain ⟨l, rr⟩ := lr
      cases isub with
      | none => exact g6.2.elim
      | some ilr =>
        obtain ⟨il, ir⟩ := ilr
        obtain ⟨gc, m4, b1, xne, cl, cr⟩ := g6
        subst m4
        subst b1
        obtain ⟨_, v1, v2⟩ := hsub
        obtain ⟨n1, n2, n3⟩ := hNB
        obtain ⟨w18, h0, h1p, t1, et⟩ : P_w (Ps (G_pg G)) p = 18 ∧ 0 ≤ p ∧ p < P_n (Ps (G_pg G)) ∧ ∃ t', st = (p, 0) :: t' := by
          rcases hV.2.2.2.2 with z | z | z
          · exact absurd z.1 (by simp)
          · exact absurd z.1 (by simp)
          · obtain ⟨_, z1, z2, z3, t', z4, z5, z6⟩ := z
            exact ⟨z3, z1, z2, t', z4⟩
        subst et
        obtain ⟨x, ys, rfl⟩ := ch_cons gc
        have hx0 : 0 ≤ x := gc.1.1
        have cl : CB v (Ps (G_pg G)) k ((base : Int) + (((p, (0 : Int64)) :: t1).length : Int)) x false l il := cl
        have cr : CB v (Ps (G_pg G)) k ((base : Int) + (((p, (0 : Int64)) :: t1).length : Int)) x true rr ir := cr
        have sl := CB_slot cl
        have sr := CB_slot cr
        rw [slot_l hx0] at sl
        rw [slot_r hx0] at sr
        have eb : (base : Int) + (((p, (0 : Int64)) :: t1).length : Int) = ((base + (t1.length + 1) : Nat) : Int) := by simp
        rw [eb] at cl cr v1 v2
        have hlen : ((flC k il).length + (flC k ir).length : Int) = R0 := by
          simp only [flC, List.length_append] at hR0
          rw [if_pos trivial] at hR0
          simp only [List.length_nil] at hR0
          push_cast at hR0
          omega
        refine ⟨fbV v x, fun z => by simp at z, fun _ => rfl, ?_, hl1, fun s' i' hlim h1 h2 hk hi0 hi1 => ?_⟩
        · unfold fbV
          split
          · rename_i z
            by_cases ml : modeB k l = 0
            · exact sr.2 (fun y => n3 ⟨ml, y⟩)
            · have := sl.2 ml
              omega
          · rename_i z
            by_cases ml : modeB k l = 0
            · exact absurd (sl.1 ml) z
            · exact sl.2 ml
        · have hres' : (match lookA Ps sig G k l with
              | .inr x => (.inr x : (BT (k + 1) × Int) ⊕ (Int × Int))
              | .inl (l1, n1) => (match lookA Ps sig G k rr with
                | .inr x => .inr x
                | .inl (r1, n2) => .inl ((4, p, d, (p, 0) :: t1, some (l1, r1)), n1 + n2))) = res := by
            rw [← hres]
            simp only [lookA, hlim]
            rw [if_pos trivial]
            cases lookA Ps sig G k l with
            | inr x => rfl
            | inl y =>
              obtain ⟨l1, n1⟩ := y
              dsimp only
              cases lookA Ps sig G k rr with
              | inr x => rfl
              | inl y => rfl
          have esb : sidesB (k + 1) (4, p, d, (p, 0) :: t1, some (l, rr)) = 1 + sidesB k l + sidesB k rr := rfl
          rw [esb] at hsd
          simp only [List.length_cons] at hb60
          push_cast at hb60
          refine lk_sub IH base side r u N G p d t1 x ys l rr il ir s' c room v RX i' res Q hres' hg w18 (by omega) v1 v2 n1 n2 n3 hsd h1 h2 g3 g4 g5 gc g8 cl cr (g7.perm (l_perm (fun a => ?_))) hi0 (by omega) (hLK.mv hk (SM.rf _ _ _ _) (by omega))
          simp only [flC]
          rw [if_pos trivial]
          simp only [List.count_append, List.count_nil]
          omega
  obtain ⟨cur0, hc1, hc2, hc3, hlook, hend⟩ := hcur
  -- the chain, from outside
  have CH : ∀ (n : Nat) (st1 acc : List FR) (xs1 ya : List Int) (s' : Q_S) (i' : Int), st1.length = n → st1.length = xs1.length → st = st1 ++ acc → xs = xs1 ++ ya → limA sig (Ps (G_pg G)) (G_v G) st.reverse [] = limA sig (Ps (G_pg G)) (G_v G) st1.reverse acc → CG Ps szs ths rc nP sec sig G s' c → VW s' 24 c room v → KC s c room s' c room → 0 ≤ i' → i' + n + R0 ≤ i + (flC (k + 1) (b, xs, isub)).length → QW (fun n => g_61 o n 1 s' 35 (if st1 = [] then cur0 else slotV v (hdI ya u) (rsI ya r)) i') Q := by
    intro n
    induction n with
    | zero =>
      intro st1 acc xs1 ya s' i' hn hl est exs hlim h1 h2 hk hi0 hi1
      have e1 : st1 = [] := List.eq_nil_of_length_eq_zero hn
      subst e1
      rw [if_pos rfl]
      refine hend s' i' ?_ h1 h2 hk hi0 (by push_cast at hi1; omega)
      rw [hlim]
      rfl
    | succ n ih =>
      intro st1 acc xs1 ya s' i' hn hl est exs hlim h1 h2 hk hi0 hi1
      obtain ⟨st2, qa, e1, e2⟩ := l_snoc hn
      obtain ⟨xs2, y, e3, e4⟩ := l_snoc (hl ▸ hn : xs1.length = n + 1)
      obtain ⟨q, a⟩ := qa
      subst e1
      subst e3
      rw [if_neg (by simp)]
      have hl2 : st2.length = xs2.length := by omega
      have est2 : st = st2 ++ (q, a) :: acc := by rw [est]; simp
      have exs2 : xs = xs2 ++ y :: ya := by rw [exs]; simp
      have g61 := g6.1
      rw [est2, exs2] at g61
      obtain ⟨⟨c1, c2, c3, c4, c5, c6, c7, c8⟩, c9⟩ := chV_drop st2 xs2 hl2 g61
      rw [c7]
      have hyr := rg y (hxm y (by rw [exs2]; simp))
      have hrev : (st2 ++ [(q, a)]).reverse = (q, a) :: st2.reverse := by simp
      rw [hrev] at hlim
      simp only [limA] at hlim
      -- what follows inside
      have hfol : fbV v y = (if st2 = [] then cur0 else slotV v (hdI (y :: ya) u) (rsI (y :: ya) r)) ∧ 0 ≤ fbV v y := by
        by_cases z : st2 = []
        · rw [if_pos z]
          subst z
          have : xs2 = [] := List.eq_nil_of_length_eq_zero (by simpa using hl2.symm)
          subst this
          have h9 := hc2 (by rw [exs2]; simp)
          rw [exs2] at h9
          have h9 : fbV v y = cur0 := h9
          rw [h9]
          exact ⟨rfl, hc3⟩
        · rw [if_neg z]
          have hin := chV_in (chV_take st2 xs2 hl2 g61).1 (fun e => z (List.eq_nil_of_length_eq_zero (by rw [hl2, e]; rfl)))
          show fbV v y = slotV v y false ∧ _
          rw [slot_l c1] at hin ⊢
          unfold fbV
          rw [if_neg (by omega)]
          exact ⟨rfl, hin⟩
      have go : ∀ s2, CG Ps szs ths rc nP sec sig G s2 c → VW s2 24 c room v → KC s c room s2 c room → limA sig (Ps (G_pg G)) (G_v G) st.reverse [] = limA sig (Ps (G_pg G)) (G_v G) st2.reverse ((q, a) :: acc) → QW (fun n => g_61 o n 1 s2 35 (if fbV v y = -1 then ttr v 61 y else fbV v y) (i' + 1)) Q := by
        intro s2 k1 k2 k3 k4
        have := ih st2 ((q, a) :: acc) xs2 (y :: ya) s2 (i' + 1) e2 hl2 est2 exs2 k4 k1 k2 k3 (by omega) (by push_cast at hi1 ⊢; omega)
        rw [if_neg (by omega), hfol.1]
        exact this
      refine lk_frm (Q1 := fun z => match evG Ps sig G (P_1 (Ps (G_pg G)) q) with
          | .inr x => ∃ f, z.1 = c_flt (setK s' f) x.1 x.2
          | .inl w => if w = 0 then ∃ v', SM v v' RX u r ∧ KC s' c room z.1 c room ∧ CL Ps szs ths rc nP sec sig (G_side G (-(sidesB (k + 1) (m, p, d, st, sub)))) z.1 c room v' side base u r N 2 (P_3 (Ps (G_pg G)) q) d acc y ya RX else ∃ f, z.1 = setK s' f) h1 h2 g3 hyr.1 hyr.2 ⟨hi0, by omega⟩ (fun z => ?_) (fun z => ?_)
      · rw [if_neg (by rw [← c2]; exact z)] at hlim
        exact go s' h1 h2 hk hlim
      · have w16 : P_w (Ps (G_pg G)) q = 16 := c2.symm.trans z
        rw [if_pos w16] at hlim
        obtain ⟨q0, q1, _, _⟩ := VC.frame hW (by rw [est2] at hV; exact hV) w16
        constructor
        · have hCT2 : CTr Ps szs ths rc nP sec sig G s' c room v side base u r N (k + 1) (m, p, d, st2 ++ (q, a) :: acc, sub) (b, xs2 ++ y :: ya, isub) RX := by
            rw [← est2, ← exs2]
            exact ⟨h1, h2, g3, g4, g5, g6, g7, g8⟩
          have hD := d_62 ho hCT2 hg (by rw [← est2]; exact hKD) hm hl2 w16 q0 q1 (by rw [← est2]; exact hsd)
          rw [← est2] at hD
          exact hD
        · intro w hw
          have hev : ev (Ps (G_pg G)) sig (G_v G) 500 (P_1 (Ps (G_pg G)) q) = evG Ps sig G (P_1 (Ps (G_pg G)) q) := rfl
          rw [hev] at hlim
          cases he : evG Ps sig G (P_1 (Ps (G_pg G)) q) with
          | inr x =>
            rw [he] at hw hlim
            obtain ⟨f, hw⟩ := hw
            rw [hlook, hlim] at hres
            subst hres
            rw [hw]
            have vw1 : VW (c_flt (setK s' f) x.1 x.2) 24 c room v := h2.setK.f20.f20.f20.f20
            have frg := fol_rg g3 hyr.1 hyr.2
            refine lk_fol (s := c_flt (setK s' f) x.1 x.2) h1.1 vw1 g3 hyr.1 hyr.2 ?_
            refine lk_off (s := c_flt (setK s' f) x.1 x.2) h1.1 h1.2.1 c_flt_0 ⟨by omega, by omega⟩ ⟨frg.1, by omega⟩ ?_
            exact hLK _ ⟨setK s' f, c, room, v, G_bg G, rfl, h1.setK, h2.setK, g3, g4, hu65, hk.tr KC.setK⟩
          | inl x =>
            rw [he] at hw hlim
            dsimp only at hw hlim
            by_cases zx : x = 0
            · rw [if_pos zx] at hw hlim
              obtain ⟨v', sm, kc, cl⟩ := hw
              rw [hlook, hlim] at hres
              dsimp only at hres
              subst hres
              have hbl : (base : Int) + acc.length ≤ 60 := by
                rw [est2] at hb60
                simp only [List.length_append, List.length_cons] at hb60
                push_cast at hb60
                omega
              have hrt := cl.right hbl
              have hyu := cl.yu
              obtain ⟨b1, b2, b3, b4, b5, b6, b7, b8, b9, b10⟩ := cl
              have hfb : fbV v' y = -1 := by
                unfold fbV
                rw [if_pos b10.2.2.2.2.1]
                exact b10.2.2.2.2.2.1
              refine lk_fol b1.1 b2 b3 hyu.1 hyu.2 ?_
              rw [if_pos hfb, hrt]
              refine hLK w.1 v' (i' + 1) (y, ya, none) sm (hk.tr kc) ⟨b1, b2, b3, b4, b5, ⟨b6, Or.inr ⟨b10, b9⟩⟩, b7.perm (l_perm (fun a => ?_)), b8⟩ (by omega) (by push_cast at hi1; omega)
              simp only [flC]
              rw [if_neg (by omega)]
              simp only [List.count_append, List.count_cons, List.count_nil]
              omega
            · rw [if_neg zx] at hw hlim
              obtain ⟨f, hw⟩ := hw
              rw [hw]
              exact lk_fol h1.setK.1 h2.setK g3 hyr.1 hyr.2 (go (setK s' f) h1.setK h2.setK (hk.tr KC.setK) hlim)
  have := CH st.length st [] xs [] s i rfl hlx.symm (by simp) (by simp) rfl g1 g2 (KC.rf _ _ _) hi (by omega)
  by_cases z : st = []
  · rw [if_pos z] at this
    subst z
    have hxe := ch_nil g6.1
    rw [hc1 hxe]
    exact this
  · rw [if_neg z] at this
    exact this
theorem lk_all (ho : o 2 = some (10, fun i => x_TABLE.getD i 0)) : ∀ k, LK o Ps szs ths rc nP sec sig k := by
  intro k
  induction k with
  | zero => intro base side r u N G t it s c room v RX i res Q hres hg hVT; exact hVT.elim
  | succ k ih => exact lk_step ho ih
end CLQ
