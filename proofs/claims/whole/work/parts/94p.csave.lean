/-! THE CLASS'S save -/
def upN {α : Type} (f : Int → α) (j : Int) (v : α) : Int → α := fun i => if i = j then v else f i
/-- cells that were there stay, but for these -/
def OLD (s s' : Q_S) (X : Nat → Prop) : Prop := s.1 ≤ s'.1 ∧ ∀ a, a < s.1 → ¬ X a → q_T s' a = q_T s a ∧ ∀ j, q_I s' a j = q_I s a j ∧ q_L s' a j = q_L s a j
section CSV2
variable {o : X_O} {K : Nat} {Ps : Int → PT} {szs ths : Int → Int → Int} {rc : Int → Nat} {nP sec : Int} {sig : Int → Int64} {s s' : Q_S} {c room : Nat} {st : Int} {G : GT} {t : BT K} {al : Int × Int × Int}
theorem SH.old {X : Nat → Prop} (h : SH s) (hO : OLD s s' X) (hn : 80 < s.1) (hX : ∀ a, X a → sh a = none ∨ q_T s' a = q_T s a) : SH s' := fun a tt e => by
  have z : a < s.1 := by
    by_cases z : a < 81
    · omega
    · rw [sh_none a (by omega)] at e; cases e
  by_cases x : X a
  · rcases hX a x with y | y
    · rw [y] at e; cases e
    · rw [y]; exact h a tt e
  · rw [(hO.2 a z x).1]; exact h a tt e
theorem SVs.old {nS : Int} {sv : Int → Nat} {R : Int → Int × Int × GT × BT K × (Int × Int × Int)} {X : Nat → Prop} {c' room' : Nat} (h : SVs K Ps szs rc nP s c room nS sv R) (hO : OLD s s' X) (hX : ∀ a, X a → a < 81 ∨ (c < a ∧ a ≤ c + 10)) (e0 : q_F s' 0 8 = q_F s 0 8) (e37 : q_T s' 37 = q_T s 37) (hr : room ≤ room') (hc : c' = c ∨ s.1 ≤ c' + 1) : SVs K Ps szs rc nP s' c' room' nS sv R := by
  obtain ⟨n0, n8, f8, ⟨g, t37, hg⟩, hr'⟩ := h
  refine ⟨n0, n8, e0.trans f8, ⟨g, e37.trans t37, hg⟩, fun k k0 k1 => ?_⟩
  obtain ⟨⟨rm, a1⟩, a2, a3, a4⟩ := hr' k k0 k1
  refine ⟨⟨rm, a1.ext (by omega) hO.1 (fun a ha => hO.2 a (by omega) (fun x => ?_))⟩, a2, by have := hO.1; omega, by omega⟩
  have := hX a x
  omega
set_option maxHeartbeats 4000000 in
/-- save -/
theorem d_12 {nS : Int} {sv : Int → Nat} {R : Int → Int × Int × GT × BT K × (Int × Int × Int)} (h : CR Ps szs ths rc nP sig s c room st sec G t al) (hS : SVs K Ps szs rc nP s c room nS sv R) :
    QW (fun n => g_12 o n 0 s 0) (fun q => if nS < 8 then q.2 = nS ∧ CR Ps szs ths rc nP sig q.1 c room st sec G t al ∧ SVs K Ps szs rc nP q.1 c room (nS + 1) (upN sv nS s.1) (upN R nS (st, sec, G, t, al)) ∧ q.1.1 = s.1 + 15 ∧ q.1.2.1 ≤ s.2.1 + 70000 ∧ OLD s q.1 (fun a => a = 0 ∨ a = 37) ∧ (∀ a, a < s.1 → a ≠ 37 → q_T q.1 a = q_T s a) ∧ (∀ f : Nat, f ≠ 8 → q_F q.1 0 f = q_F s 0 f) else q = (s, -2)) := by
  obtain ⟨hC, hR, h9⟩ := h.rn
  have hR' := hR
  obtain ⟨u1, u2, ⟨u3, u4, u5⟩, u6, u7, u8, u9, u10, ⟨v, w1, w2, w3, w4, w5⟩, u12, u13⟩ := hR'
  have hs := hC.1
  have hcc := hC.2.2.1
  have hn80 := hC.2.2.2.1
  have h20 : q_T s 20 = some (sh20 (.ref (rc (G_pg G))) (if G_sw G = -1 then .null else .ref (rc (G_sw G)))) := u1
  obtain ⟨hF0, hFa, _, _, _, _, x5, _, x7, x8, x9, x10, x11, _⟩ := w1
  obtain ⟨v, w1⟩ : ∃ v, VW s 24 c room v ∧ VB v ∧ v_u v ≤ 6500 ∧ v_u v ≤ room ∧ (st = 1 → v_s v = G_sd G ∧ (∃ it, CB v (Ps (G_pg G)) K 0 (-1) false t it ∧ CWd v (flC K it))) := hR.2.2.2.2.2.2.2.2.1
  obtain ⟨w1, w2, w3, w4, w5⟩ := w1
  have x5 : q_F s 24 12 = v_u v := w1.2.2.2.2.2.2.1
  have x7 : 0 ≤ v_u v := w1.2.2.2.2.2.2.2.2.1
  obtain ⟨n0, n8, f8, ⟨g, t37, hg⟩, hr⟩ := hS
  have hS : SVs K Ps szs rc nP s c room nS sv R := ⟨n0, n8, f8, ⟨g, t37, hg⟩, hr⟩
  refine QW_s ?_
  simp only [g_12]
  refine QW_p (k_gv (hs _ _ rfl) rfl rfl) ?_
  refine QW_p (k_gi h20 rfl) ?_
  rw [u3]
  refine QW_g (by omega) ?_
  refine QW_it (by omega) ?_
  refine QW_p (k_gi (hs _ _ rfl) rfl) ?_
  rw [f8]
  refine QW_g (by omega) ?_
  refine QW_by (fun z => ?_) (fun z => ?_)
  · simp only [if_pos z]
    refine QW_p (show q_no s 4 = some (q_nw s (x_dfl 4).length (.inr (4, y_shp 4))) from rfl) ?_
    generalize hs1 : q_nw s (x_dfl 4).length (.inr (4, y_shp 4)) = s1
    have n1 : s1.1 = s.1 + 1 ∧ s1.2.1 = s.2.1 + 12 := by rw [← hs1]; exact ⟨rfl, rfl⟩
    have t1 : q_T s1 s.1 = some (.inr (4, y_shp 4)) := by rw [← hs1, q_T_nw, if_pos rfl]
    have o1 : ∀ b, b < s.1 → q_T s1 b = q_T s b ∧ ∀ j, q_I s1 b j = q_I s b j ∧ q_L s1 b j = q_L s b j := fun b hb => by
      rw [← hs1]
      refine ⟨by rw [q_T_nw, if_neg (by omega)], fun j => ⟨?_, ?_⟩⟩
      · rw [q_I_nw, if_neg (by omega)]
      · rw [q_L_nw, if_neg (by omega)]
    refine QW_p (k_gv ((o1 0 (by omega)).1.trans (hs _ _ rfl)) rfl rfl) ?_
    refine QW_p (k_gv ((o1 20 (by omega)).1.trans h20) rfl rfl) ?_
    refine QW_p (k_gi ((o1 24 (by omega)).1.trans hF0) rfl) ?_
    rw [show q_F s1 24 12 = v_u v from ((o1 24 (by omega)).2 12).1.trans x5]
    obtain ⟨Rn, hRn⟩ : ∃ Rn : Nat, (Rn : Int) = v_u v := ⟨(v_u v).toNat, by omega⟩
    rw [← hRn]
    refine QW_c (d_41 n1.1 t1 (by omega)) (fun q1 hq1 => ?_)
    obtain ⟨a1, a2, a3, a4, a5, a6, a7, a8⟩ := hq1
    have o2 : ∀ b, b < s.1 → q_T q1.1 b = q_T s b ∧ ∀ j, q_I q1.1 b j = q_I s b j ∧ q_L q1.1 b j = q_L s b j := fun b hb => ⟨(a7 b hb).1.trans (o1 b hb).1, fun j => ⟨((a7 b hb).2 j).1.trans ((o1 b hb).2 j).1, ((a7 b hb).2 j).2.trans ((o1 b hb).2 j).2⟩⟩
    refine QW_p (k_gv ((o2 0 (by omega)).1.trans (hs _ _ rfl)) rfl rfl) ?_
    refine QW_p (k_rc a3) ?_
    have hvq : VW q1.1 24 c room v := w1.same (fun a ha => o2 a (by omega)) (by omega)
    refine QW_c (d_46 (A := s.1) (B := 20) (cA := s.1 + 4) (cB := c) (RA := Rn) (RB := room) (v := v) a3 ((o2 20 (by omega)).1.trans h20) a4 ⟨(o2 21 (by omega)).1.trans (hs 21 _ rfl), (o2 22 (by omega)).1.trans (hs 22 _ rfl), (o2 23 (by omega)).1.trans (hs 23 _ rfl)⟩ hvq a5 a6 (by omega) (by omega) (by omega) (by omega) (by omega) (by omega) (by omega) (by omega) (by omega) rfl (y_rc _ _) rfl (by split <;> rfl)) (fun q2 hq2 => ?_)
    obtain ⟨p1, p2, p3, p4, p5, p6, p7, p8, p9, p10⟩ := hq2
    have o3 : ∀ b, b < s.1 → q_T q2.1 b = q_T s b ∧ ∀ j, q_I q2.1 b j = q_I s b j ∧ q_L q2.1 b j = q_L s b j := fun b hb => ⟨(p4 b (by omega)).trans (o2 b hb).1, fun j => ⟨(p10 b (by omega) (by omega) j).1.trans ((o2 b hb).2 j).1, (p10 b (by omega) (by omega) j).2.trans ((o2 b hb).2 j).2⟩⟩
    refine QW_p (k_gv ((o3 0 (by omega)).1.trans (hs _ _ rfl)) rfl rfl) ?_
    refine QW_p (k_gi ((o3 0 (by omega)).1.trans (hs _ _ rfl)) rfl) ?_
    rw [show q_F q2.1 0 8 = nS from ((o3 0 (by omega)).2 8).1.trans f8]
    refine QW_p (k_as ((o3 37 (by omega)).1.trans t37) p3 (by omega) (by omega) (by decide) rfl (by decide)) ?_
    generalize hs4 : q_st q2.1 37 (.inl (.object "StepRows$Run", 8, va_up g nS.toNat (some s.1))) = s4
    have T4 : ∀ a, a ≠ 37 → q_T s4 a = q_T q2.1 a := fun a ha => by rw [← hs4, q_T_st, if_neg ha]
    have I4 : ∀ a j, q_I s4 a j = q_I q2.1 a j ∧ q_L s4 a j = q_L q2.1 a j := fun a j => by rw [← hs4]; exact ⟨rfl, rfl⟩
    have n4 : s4.1 = s.1 + 15 ∧ s4.2.1 ≤ s.2.1 + 70000 := by
      rw [← hs4]
      refine ⟨?_, ?_⟩
      · show q2.1.1 = s.1 + 15
        omega
      · show q2.1.2.1 ≤ s.2.1 + 70000
        omega
    have tz : q_T s4 0 = _ := (T4 0 (by decide)).trans ((o3 0 (by omega)).1.trans (hs _ _ rfl))
    refine QW_p (k_gi tz rfl) ?_
    rw [show q_F s4 0 8 = nS from ((I4 0 8).1).trans (((o3 0 (by omega)).2 8).1.trans f8)]
    refine QW_p (k_pi tz rfl rfl) ?_
    refine QW_p (k_gi (show q_T (q_sf s4 0 8 (nS + 1)) 0 = _ from tz) rfl) ?_
    rw [show q_F (q_sf s4 0 8 (nS + 1)) 0 8 = nS + 1 by rw [q_F_sf, if_pos ⟨rfl, rfl⟩]]
    have hO : OLD s (q_sf s4 0 8 (nS + 1)) (fun a => a = 0 ∨ a = 37) := by
      refine ⟨by show s.1 ≤ s4.1; omega, fun a ha hx => ⟨(T4 a (by omega)).trans (o3 a ha).1, fun j => ⟨?_, ?_⟩⟩⟩
      · rw [q_I_sf, if_neg (by omega), (I4 a j).1]
        exact ((o3 a ha).2 j).1
      · rw [q_L_sf, (I4 a j).2]
        exact ((o3 a ha).2 j).2
    have hsq : SH (q_sf s4 0 8 (nS + 1)) := hs.old hO hn80 (fun a ha => by
      rcases ha with e | e
      · subst e; exact Or.inr ((T4 0 (by decide)).trans (o3 0 (by omega)).1)
      · subst e; exact Or.inl rfl)
    have hCq : CP Ps szs ths rc nP sig (q_sf s4 0 8 (nS + 1)) c := hC.ext hO.1 hsq (fun j => ((hO.2 19 (by omega) (by omega)).2 j).2) (fun a b1 b2 b3 => hO.2 a b2 (by omega))
    have hRq : RNm Ps szs rc nP (q_sf s4 0 8 (nS + 1)) 20 c room room st sec G t al := hR.ext (Int.le_refl _) hO.1 (fun a ha => hO.2 a (by omega) (by omega))
    have hnew : RNm Ps szs rc nP (q_sf s4 0 8 (nS + 1)) s.1 (s.1 + 4) Rn room st sec G t al := by
      have hq0 : RNm Ps szs rc nP q2.1 s.1 (s.1 + 4) Rn room st sec G t al := by
        refine ⟨p3, ⟨(p4 _ (by omega)).trans a4.1, (p4 _ (by omega)).trans a4.2.1, (p4 _ (by omega)).trans a4.2.2⟩, ⟨?_, ?_, ?_⟩, fun j j0 j1 => ?_, fun j j0 j1 => ?_, fun j j0 j1 => ?_, u9, u10, ⟨v, p9, w2, w3, w4, w5⟩, u12, fun zz => ?_⟩
        · exact (p5 0 (by omega)).trans (((o2 20 (by omega)).2 0).1.trans u3)
        · exact (p5 3 (by omega)).trans (((o2 20 (by omega)).2 3).1.trans u4)
        · exact (p5 4 (by omega)).trans (((o2 20 (by omega)).2 4).1.trans u5)
        · exact (p6 j j0 j1).trans (((o2 21 (by omega)).2 j).2.trans (u6 j j0 j1))
        · exact (p7 j j0 j1).trans (((o2 22 (by omega)).2 j).2.trans (u7 j j0 j1))
        · exact (p8 j j0 j1).trans (((o2 23 (by omega)).2 j).1.trans (u8 j j0 j1))
        · obtain ⟨z1, z2, z3⟩ := u13 zz
          exact ⟨(p5 5 (by omega)).trans (((o2 20 (by omega)).2 5).1.trans z1), (p5 6 (by omega)).trans (((o2 20 (by omega)).2 6).1.trans z2), (p5 7 (by omega)).trans (((o2 20 (by omega)).2 7).1.trans z3)⟩
      refine hq0.ext (Int.le_refl _) (by show q2.1.1 ≤ s4.1; omega) (fun a ha => ⟨T4 a (by omega), fun j => ⟨?_, ?_⟩⟩)
      · rw [q_I_sf, if_neg (by omega)]
        exact (I4 a j).1
      · rw [q_L_sf]
        exact (I4 a j).2
    refine QW_ret ⟨by omega, RNm.cr hCq hRq h9, ⟨by omega, by omega, by rw [q_F_sf, if_pos ⟨rfl, rfl⟩], ⟨va_up g nS.toNat (some s.1), ?_, fun k k0 k1 => ?_⟩, fun k k0 k1 => ?_⟩, n4.1, n4.2, hO, fun a ha hx => (T4 a hx).trans (o3 a ha).1, fun f hf => ?_⟩
    · show q_T s4 37 = _
      rw [← hs4, q_T_st, if_pos rfl]
    · unfold va_up upN
      by_cases e : k = nS
      · rw [if_pos (by omega), if_pos e]
      · rw [if_neg (by omega), if_neg e]
        exact hg k k0 (by omega)
    · unfold upN
      by_cases e : k = nS
      · simp only [if_pos e]
        refine ⟨⟨Rn, hnew⟩, hn80, ?_, Or.inr x11⟩
        show s.1 + 14 < s4.1
        omega
      · simp only [if_neg e]
        obtain ⟨⟨rm, b1⟩, b2, b3, b4⟩ := hr k k0 (by omega)
        refine ⟨⟨rm, b1.ext (Int.le_refl _) hO.1 (fun a ha => hO.2 a (by omega) (by omega))⟩, b2, ?_, b4⟩
        show sv k + 14 < s4.1
        omega
    · rw [q_F_sf, if_neg (fun y => hf y.2)]
      exact (I4 0 f).1.trans ((o3 0 (by omega)).2 f).1
  · simp only [if_neg z]
    exact QW_ret rfl
end CSV2
