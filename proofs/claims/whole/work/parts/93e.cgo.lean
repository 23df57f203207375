/-! THE WALKER GOES ON: branches visited -/
theorem CB_mem {v : CV} {P : PT} {k : Nat} {base u : Int} {r : Bool} {t : BT k} {it : IT k} (h : CB v P k base u r t it) (hm : ¬ modeB k t = 0) : slotV v u r ∈ flC k it := by
  cases k with
  | zero => exact h.elim
  | succ k =>
    obtain ⟨m, p, d, st, sub⟩ := t
    obtain ⟨b, xs, isub⟩ := it
    obtain ⟨h1, h2⟩ := h
    by_cases e : xs = []
    · subst e
      cases sub with
      | none =>
        cases isub with
        | some _ => exact h2.elim
        | none =>
          rcases h2 with ⟨a1, _⟩ | ⟨a1, a2⟩
          · exact absurd a1 hm
          · have hb := a1.1
            have hs : slotV v u r = b := a1.2.1
            simp only [flC]
            rw [if_neg (by omega), hs]
            simp
      | some lr =>
        obtain ⟨l, rr⟩ := lr
        cases isub with
        | none => exact h2.elim
        | some ilr =>
          obtain ⟨il, ir⟩ := ilr
          exact absurd rfl h2.2.2.1
    · have := chV_mem st xs h1 e
      cases isub with
      | none => simp only [flC, List.mem_append]; exact Or.inl (Or.inr this)
      | some ilr =>
        obtain ⟨il, ir⟩ := ilr
        simp only [flC, List.mem_append]
        exact Or.inl (Or.inr this)
theorem CB_over {v : CV} {P : PT} {sz : Int → Int} {sec ph : Int} {k : Nat} {side : Option Int} {base u : Int} {r : Bool} {t : BT k} (hv : VT P sz sec ph k side base t) (hm : modeB k t = 0) (hs : slotV v u r = -1) : ∃ it, CB v P k base u r t it ∧ flC k it = [] := by
  cases k with
  | zero => exact hv.elim
  | succ k =>
    obtain ⟨m, p, d, st, sub⟩ := t
    have hm : m = 0 := hm
    subst hm
    obtain ⟨h1, h2⟩ := hv
    have est : st = [] := by
      rcases h1.2.2.2.2 with z | z | z
      · exact z.2
      · have := z.1; simp at this
      · have := z.1; simp at this
    subst est
    cases sub with
    | some lr => exact absurd h2.1 (by decide)
    | none => exact ⟨(-1, [], none), ⟨trivial, Or.inl ⟨rfl, rfl, rfl, hs⟩⟩, by simp [flC]⟩
theorem CB_over0 {v : CV} {P : PT} {k : Nat} {base u : Int} {r : Bool} {t : BT k} {it : IT k} (h : CB v P k base u r t it) (hm : modeB k t = 0) : flC k it = [] ∧ slotV v u r = -1 := by
  refine ⟨?_, (CB_slot h).1 hm⟩
  cases k with
  | zero => exact h.elim
  | succ k =>
    obtain ⟨m, p, d, st, sub⟩ := t
    obtain ⟨b, xs, isub⟩ := it
    have hm : m = 0 := hm
    subst hm
    obtain ⟨h1, h2⟩ := h
    cases sub with
    | none =>
      cases isub with
      | some _ => exact h2.elim
      | none =>
        rcases h2 with ⟨a1, a2, a3, a4⟩ | ⟨a1, a2⟩
        · subst a3
          have := ch_nil h1
          subst this
          subst a2
          simp [flC]
        · rcases a1.2.2.2.2.2.2 with z | z
          · exact absurd z.1 (by decide)
          · exact absurd z.1 (by decide)
    | some lr =>
      obtain ⟨l, rr⟩ := lr
      cases isub with
      | none => exact h2.elim
      | some ilr => exact absurd h2.1 (by decide)
/-- to the right of a frame with nothing more to its own right -/
theorem chV_ttr {v : CV} {P : PT} {RX : List Int} {base : Nat} {u N : Int} {r : Bool} {side : Option Int} {f : FR} {t : List FR} {x : Int} {ys : List Int} (hx : CX v RX base u r N side) (hc : chV v P base u r (f :: t) (x :: ys)) (nd : (x :: ys ++ RX).Nodup) (hb : (base : Int) + t.length + 1 ≤ 60) : ttr v 61 x = N := by
  have hr : r = true → ¬ vI v 4 u = slotV v u r := fun z q => by
    have hin := chV_in hc (by simp)
    have hm := chV_mem _ _ hc (by simp)
    rcases hx.2.1 z with e | e
    · omega
    · rw [← q] at hm
      exact nd_app nd hm e
  obtain ⟨p, a⟩ := f
  obtain ⟨⟨c1, c2, c3, c4, c5, c6, c7, c8⟩, c9⟩ := hc
  cases ys with
  | nil =>
    have c7 : slotV v u r = x := c7
    refine hx.1.goes base u r N x 60 c4 c7 (fun z => by rw [← c7]; exact hr z) (by omega)
  | cons y zs =>
    have hl := (chV_ge t _ c9).2
    have hdn := hx.1.down (P := P) hr t (y :: zs) c9 (by simp) false (Or.inr (c8 (by simp)))
    refine hdn.goes _ _ _ _ x 60 c4 c7 (fun z => by cases z) ?_
    have : ((y :: zs).length : Int) = t.length := by exact_mod_cast hl
    omega
section CGE
variable {o : X_O} {Ps : Int → PT} {szs ths : Int → Int → Int} {rc : Int → Nat} {nP sec : Int} {sig : Int → Int64}
/-- one leaf -/
theorem gb_1 {f : Nat} (IH : GA o Ps szs ths rc nP sec sig f) (IH1 : GA o Ps szs ths rc nP sec sig (f + 1))
    (k base : Nat) (side : Option Int) (r : Bool) (u N : Int) (G : GT) (m p : Int) (d : DT) (st : List FR) (y : Int) (xs : List Int) (s : Q_S) (c room : Nat) (v : CV) (RX : List Int) (i : Int) (res : (GT × BT (k + 1)) ⊕ (GT × Int × Int)) (Q : Q_S × Unit → Prop)
    (hres : runA Ps sig sec (f + 1) (k + 1) base G (m, p, d, st, none) = some res) (hg : GW Ps szs nP sec G) (hV : VC (Ps (G_pg G)) (szs (G_pg G)) sec (G_ph G) side base (m, p, d, st)) (hX : XC (Ps (G_pg G)) side r p st) (hk : 61 ≤ k + 1 + base) (hRX : (RX.length : Int) ≤ 122 * G_sd G) (hL : CL Ps szs ths rc nP sec sig G s c room v side base u r N m p d st y xs RX) (hnl : q_F s 35 5 = y) (hi : 0 ≤ i) (hb : i + gp G + potB (k + 1) (m, p, d, st, none) ≤ 900000)
    (hGO : GO o Ps szs ths rc nP sec sig s c room v side base u r N RX (i + gp G + potB (k + 1) (m, p, d, st, none)) Q (k + 1) res) : QW (fun n => g_68 o n 1 s 35 (-1000000) i) Q := by
  have hW := hg.2.2.2.2.1 _ hg.2.2.2.2.2.1 hg.2.2.2.2.2.2.1
  have hn5 := hW.2.1
  have hbg : 0 ≤ G_bg G ∧ G_bg G ≤ 500 := ⟨hg.2.2.2.2.2.2.2.2.1, hg.2.2.2.2.2.2.2.2.2.1⟩
  have hph := hV.2.2
  have hgp : 0 ≤ gp G := by
    unfold gp
    have := hph.1
    have := hph.2.1
    omega
  have hpb := potB_ge (k + 1) (m, p, d, st, none)
  have hy := hL.yu
  have hyu : v_u v ≤ 6500 := by
    obtain ⟨h1, h2, h3, h4, h5, h6, ⟨fl, w1, w2, w3, w4, w5⟩, h8⟩ := hL
    exact w5
  have hb60 : (base : Int) + st.length ≤ 60 := hV.2.1
  have hmm := hL.2.2.2.2.2.2.2.2.2.2.2.2.2.2.2
  rcases hmm with ⟨e, _⟩ | ⟨e, _⟩
  · subst e
    have epb : potB (k + 1) (2, p, d, st, none) = 3 * st.length + 2 := by simp [potB]
    have epf : potF 2 st = 3 * st.length + 1 := by unfold potF; rw [if_pos rfl]
    refine go_vis hL.1 ⟨hi, by omega⟩ ⟨hy.1, by omega⟩ hnl (d_89b hL hg) (fun q hq => ?_)
    obtain ⟨e1, v', e2, e3, e4⟩ := hq
    have := IH1 k base side r u N G 2 p d st q.1 c room v' xs RX (i + 1) res Q hres (Or.inl rfl) hg hV hX hk hRX e2 (by omega) (by omega) (hGO.mv e4 e3 (by omega))
    rw [if_pos rfl] at this
    rw [e1]
    exact this
  · subst e
    have epb : potB (k + 1) (1, p, d, st, none) = 3 * st.length + 5 := by simp [potB]
    have epf : potF 3 st = 3 * st.length + 4 := by unfold potF; rw [if_neg (by decide)]
    obtain ⟨z1, z2, z3, z4, z5, z6, z7⟩ : ((1 : Int) = 1 ∨ (1 : Int) = 2 ∨ (1 : Int) = 3) ∧ 0 ≤ p ∧ p < P_n (Ps (G_pg G)) ∧ isS (P_w (Ps (G_pg G)) p) ∧ CNS (Ps (G_pg G)) side p st ∧ (side = none → PHI (Ps (G_pg G)) (szs (G_pg G)) (G_ph G) (1, p, d, st)) ∧ ((1 : Int) = 1 → (P_w (Ps (G_pg G)) p = 12 ∨ P_w (Ps (G_pg G)) p = 13) ∧ 0 ≤ d.1 ∧ d.1 ≤ sec ∧ 1 ≤ d.2.1) := by
      rcases hV.2.2.2.2 with z | z | z
      · exact absurd z.1 (by simp)
      · exact z
      · exact absurd z.1 (by simp)
    obtain ⟨y1, y2, y3, y4⟩ := z7 rfl
    refine go_vis hL.1 ⟨hi, by omega⟩ ⟨hy.1, by omega⟩ hnl (d_89s hL hg z2 z3 y1 ⟨y2, y3⟩ y4 hb60) (fun q hq => ?_)
    obtain ⟨e1, v', e2, e3⟩ := hq
    simp only [runA] at hres
    rw [if_neg (by decide), if_neg (by decide), if_pos trivial] at hres
    have q1 : G_pg (standA Ps sec G p d).1 = G_pg G := by unfold standA; split <;> rfl
    have q2 : G_ph (standA Ps sec G p d).1 = G_ph G := by unfold standA; split <;> rfl
    have q4 : G_bg (standA Ps sec G p d).1 = G_bg G := by unfold standA; split <;> rfl
    have q5 : G_sd (standA Ps sec G p d).1 = G_sd G := by unfold standA; split <;> rfl
    have hgs : GW Ps szs nP sec (standA Ps sec G p d).1 := by
      unfold standA
      split
      · exact hg
      · exact hg
    have egp : gp (standA Ps sec G p d).1 = gp G := by unfold gp; rw [q2, q4]
    by_cases w : (standA Ps sec G p d).2 = true
    · rw [if_pos w] at hres e3
      have hV3 : VC (Ps (G_pg G)) (szs (G_pg G)) sec (G_ph G) side base (3, p, d, st) := by
        refine VC.of3 hV.1 hV.2.1 hV.2.2.1 hV.2.2.2.1 z2 z3 z4 z5 (fun y => ?_)
        rcases z6 y with ⟨y3, _⟩ | y3
        · exact absurd y3 (by simp)
        · exact Or.inr y3
      have := IH k base side r u N _ 3 p d st q.1 c room v' xs RX (i + 1) res Q hres (Or.inr rfl) hgs (by rw [q1, q2]; exact hV3) (by rw [q1]; exact hX) hk (by rw [q5]; exact hRX) e3.2 (by omega) (by omega) (hGO.mv e1 e2 (by omega))
      rw [if_neg (by decide), q1] at this
      rw [e3.1]
      exact this
    · rw [if_neg w] at hres e3
      cases hres
      rw [e3.1]
      refine hGO.2.2 (by show ¬ (1 : Int) = 0; decide) q.1 c room v' (i + 1) (y, xs, none) e2 e1 ?_ e3.2.1 (by omega) (by omega)
      obtain ⟨b1, b2, b3, b4, b5, b6, b7, b8, b9, b10⟩ := e3.2.2
      refine ⟨b1, b2, b3, b4, b5, ⟨b6, Or.inr ⟨b10, b9⟩⟩, ?_, b8⟩
      have hy0 := b10.1
      refine b7.perm (l_perm (fun a => ?_))
      simp only [flC]
      rw [if_neg (by omega)]
      simp only [List.count_append, List.count_cons, List.count_nil]
      omega
end CGE
