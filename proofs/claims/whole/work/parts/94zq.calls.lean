/-! EACH CALL: both sides answer alike and keep their relation -/
def PRI (K : Nat) (m : Int) (f : Nat → Option (Q_S × Int)) (g : Q_S → Nat → Option (Q_S × Int)) : Prop := QW f (fun q => SH q.1 ∧ q_in q.2 ∧ QW (g q.1) (fun q' => q'.2 = q.2 ∧ TP K (m + 1) q'.1))
def PRL (K : Nat) (m : Int) (f : Nat → Option (Q_S × Int64)) (g : Q_S → Nat → Option (Q_S × Int64)) : Prop := QW f (fun q => SH q.1 ∧ QW (g q.1) (fun q' => q'.2 = q.2 ∧ TP K (m + 1) q'.1))
section CALA
variable {o : X_O} {K : Nat} {T T' : PT} {Ps : Int → PT} {szs ths : Int → Int → Int} {rc : Int → Nat} {nP : Int} {sig : Int → Int64} {c room : Nat} {ru : Option (RU K)} {nS : Int} {sv : Int → Nat} {R : Int → RU K} {m : Int} {s s' s2 : Q_S}
theorem FRc.kn (hs : SH s) (h : KN s s') : FRc s s' := ⟨sh_T hs h.2.2.1, fun a ha j => h.2.2.2 a (by omega) j⟩
/-- more nodes on the class's side, on the reference's -/
theorem CLc.kn (h : CLc K T Ps szs ths rc nP sig c room ru nS sv R s) (f : KN s s') (hN : NRc T' s') : CLc K T' Ps szs ths rc nP sig c room ru nS sv R s' := by
  obtain ⟨f1, f2, f3, f4⟩ := f
  exact h.mv (sh_T h.1.1 f3) (by omega) (f4 0 (by decide) 8).1 (congrFun f3 37) (fun a ha => ⟨congrFun f3 a, fun j => f4 a (by omega) j⟩) hN
theorem RFs.kn (h : RFs K T Ps szs nP sig ru nS R s) (f : KNr s s') (hN : NRr T' s') (hW : ∀ k, 0 ≤ k → k < nP → WP (Ps k) (szs k)) (hn : nP ≤ 20) : RFs K T' Ps szs nP sig ru nS R s' := by
  obtain ⟨⟨a1, a2, a3, a4, a5, a6⟩, -, b3, b4⟩ := h
  obtain ⟨f1, f2, f3, f4, f5⟩ := f
  have i45 : ∀ c, 45 ≤ c ∧ c ≤ 51 → ∀ j, q_I s' c j = q_I s c j := fun c hc j => (f4 c (by omega) j).1
  have i47 : ∀ j, q_L s' 47 j = q_L s 47 j := fun j => (f4 47 (by omega) j).2
  have g : RGl Ps nP sig s' := by
    refine ⟨sh_T a1 f3, (f5 8 (by decide) (by decide)).trans a2, fun k k0 k1 => ?_, fun j j0 j1 => (f4 44 (by decide) j).2.trans (a4 j j0 j1), by rw [f5 36 (by decide) (by decide)]; exact a5, by rw [f5 36 (by decide) (by decide)]; exact a6⟩
    rw [← a3 k k0 k1]
    unfold m_P
    simp only [i45 45 (by decide), i45 46 (by decide), i45 48 (by decide), i45 49 (by decide), i45 50 (by decide), i45 51 (by decide), i47]
  refine ⟨g, hN, b3.mv (fun c hc j => f4 c (by omega) j) (f5 50 (by decide) (by decide)), ?_⟩
  cases ru with
  | none => exact ⟨(f5 17 (by decide) (by decide)).trans b4.1, by rw [f5 22 (by decide) (by decide)]; exact b4.2⟩
  | some x =>
    refine MR.copy b4 ⟨fun f hf => f5 f (by omega) (by omega), fun x _ _ => (f4 52 (by decide) x).2, fun x _ _ => (f4 53 (by decide) x).2, fun x _ _ => (f4 54 (by decide) x).1, fun x _ _ => ?_, fun x _ _ => ?_⟩ g ⟨Int.le_refl _, hn⟩ (fun _ _ _ => ⟨rfl, rfl⟩) hW
    · exact ⟨(f4 61 (by decide) x).1, (f4 58 (by decide) x).2, (f4 55 (by decide) x).1, (f4 56 (by decide) x).1, (f4 57 (by decide) x).1, (f4 59 (by decide) x).1, (f4 60 (by decide) x).1⟩
    · exact ⟨(f4 69 (by decide) x).1, (f4 62 (by decide) x).1, (f4 63 (by decide) x).1, (f4 64 (by decide) x).1, (f4 65 (by decide) x).1, (f4 66 (by decide) x).2, (f4 67 (by decide) x).2, (f4 68 (by decide) x).2⟩
theorem COM.ta (h : COM K T Ps szs ths nP ru nS R m) (hV : NV T') (t : TA T T') : COM K T' Ps szs ths nP ru nS R (m + 1) := by
  obtain ⟨a1, a2, a3, a4, a5⟩ := h.up
  exact ⟨a1, hV, fun k k0 k1 => ⟨(a3 k k0 k1).1.ta t a2, (a3 k k0 k1).2⟩, a4, a5⟩
theorem TA.lf (hV : NV T) {i : Int} {v : Int64} : TA T (lfT T i v) := by
  unfold lfT
  split
  · split
    · exact TA.rf T
    · exact TA.add hV
  · exact TA.rf T
theorem TA.nd (hV : NV T) {w a b c : Int} : TA T (ndT T w a b c) := by
  cases h : ndA T w a b c with
  | none => rw [(ndB_0 h).2]; exact TA.rf T
  | some r =>
    by_cases hn : P_n T = 300
    · rw [(ndB_1 h hn).2]; exact TA.rf T
    · rw [(ndB_2 h hn).2]; exact TA.add hV
theorem SZq.kn {nP nS m : Int} (h : SZq s room nP nS m) (f : KN s s') : SZq s' room nP nS m := by
  unfold SZq at h ⊢
  rw [f.1, f.2.1]
  exact h
/-- leaf -/
theorem e_leaf (h : TP K m s) {i : Int} {v : Int64} (hi : q_in i) : PRI K m (fun n => g_1 o n 0 s 0 i v) (fun s1 n => g_93 o n 0 s1 38 i v) := by
  obtain ⟨T, Ps, szs, ths, rc, nP, sig, c, room, ru, nS, sv, R, H⟩ := h
  have hs := H.sh
  have hW := H.wp
  obtain ⟨h1, h2, h3, h4, h5⟩ := H
  have hV := h4.2.1
  refine QW_m (d_1 hs h1.2.1 hV hi) (fun q hq => ?_)
  obtain ⟨q1, q2, q3⟩ := hq
  have f := FRc.kn hs q3
  refine ⟨f.1, ?_, QW_m (m_93' f.1 (h3.cl f hW h4.1.2).2.1 hi) (fun r hr => ?_)⟩
  · rw [q1]
    unfold lfB q_in
    have := h1.2.1.1
    have := h1.2.1.2.1
    split
    · split <;> omega
    · omega
  · obtain ⟨r1, r2, r3⟩ := hr
    refine ⟨r1.trans q1.symm, lfT T i v, Ps, szs, ths, rc, nP, sig, c, room, ru, nS, sv, R, (h1.kn q3 q2).rf (FRr.kn r3), (h2.mv (congrFun q3.2.2.1 18) (q3.2.2.2 0 (by decide) 3).1).rf (FRr.kn r3), (h3.cl f hW h4.1.2).kn r3 r2 hW h4.1.2, h4.ta (lfT_V hV h1.2.1.1) (TA.lf hV), (h5.kn q3).rf (FRr.kn r3)⟩
/-- node -/
theorem e_node (ho : o 1 = some (66, fun i => x_WANTED.getD i 0)) (h : TP K m s) {w a b c : Int} (hw : q_in w) (ha : q_in a) (hb : q_in b) (hc : q_in c) : PRI K m (fun n => g_2 o n 0 s 0 w a b c) (fun s1 n => g_95 o n 0 s1 38 w a b c .null 0) := by
  obtain ⟨T, Ps, szs, ths, rc, nP, sig, c', room, ru, nS, sv, R, H⟩ := h
  have hs := H.sh
  have hW := H.wp
  obtain ⟨h1, h2, h3, h4, h5⟩ := H
  have hV := h4.2.1
  refine QW_m (d_2 ho hs h1.2.1 hV hw ha hb hc) (fun q hq => ?_)
  obtain ⟨q1, q2, q3⟩ := hq
  have f := FRc.kn hs q3
  refine ⟨f.1, ?_, QW_m (m_95' f.1 (h3.cl f hW h4.1.2).2.1 hw ha hb hc) (fun r hr => ?_)⟩
  · rw [q1]
    have := h1.2.1.1
    have := h1.2.1.2.1
    unfold ndB q_in
    split
    · omega
    · split <;> omega
  · obtain ⟨r1, r2, r3⟩ := hr
    refine ⟨r1.trans q1.symm, ndT T w a b c, Ps, szs, ths, rc, nP, sig, c', room, ru, nS, sv, R, (h1.kn q3 q2).rf (FRr.kn r3), (h2.mv (congrFun q3.2.2.1 18) (q3.2.2.2 0 (by decide) 3).1).rf (FRr.kn r3), (h3.cl f hW h4.1.2).kn r3 r2 hW h4.1.2, h4.ta (ndT_V hV h1.2.1.1) (TA.nd hV), (h5.kn q3).rf (FRr.kn r3)⟩
/-- what tells: output, value, alarm, step, shared, told -/
theorem e_read {f : Nat → Option (Q_S × Int)} {g : Q_S → Nat → Option (Q_S × Int)} {x : Int} (H : TQ K T Ps szs ths rc nP sig c room ru nS sv R m s) (hx : q_in x) (h1 : QW f (fun q => q = (s, x))) (h2 : QW (g s) (fun q => q = (q_sf s 38 0 0, x))) : PRI K m f g := by
  refine QW_m h1 (fun q e => ?_)
  subst e
  refine ⟨H.sh, hx, QW_m h2 (fun r e => ?_)⟩
  subst e
  exact ⟨rfl, T, Ps, szs, ths, rc, nP, sig, c, room, ru, nS, sv, R, H.same⟩
theorem e_readL {f : Nat → Option (Q_S × Int64)} {g : Q_S → Nat → Option (Q_S × Int64)} {x : Int64} (H : TQ K T Ps szs ths rc nP sig c room ru nS sv R m s) (h1 : QW f (fun q => q = (s, x))) (h2 : QW (g s) (fun q => q = (q_sf s 38 0 0, x))) : PRL K m f g := by
  refine QW_m h1 (fun q e => ?_)
  subst e
  refine ⟨H.sh, QW_m h2 (fun r e => ?_)⟩
  subst e
  exact ⟨rfl, T, Ps, szs, ths, rc, nP, sig, c, room, ru, nS, sv, R, H.same⟩
/-- how both runs stand -/
def stU : Option (RU K) → Int
  | none => 3
  | some x => x.1
theorem stU_c (h : CLr K Ps szs ths rc nP sig s c room ru) : q_F s 20 0 = stU ru ∧ 0 ≤ stU ru ∧ stU ru ≤ 3 := by
  cases ru with
  | none => exact ⟨h.2.2.1, show (0 : Int) ≤ 3 by decide, show (3 : Int) ≤ 3 by decide⟩
  | some x =>
    obtain ⟨-, h0, h1, -⟩ := h
    exact ⟨h0, show 0 ≤ x.1 by omega, show x.1 ≤ 3 by omega⟩
theorem stU_r (h : RFr K Ps szs nP sig s ru) : q_F s 38 17 = stU ru := by
  cases ru with
  | none => exact h.1
  | some x => exact h.2.1
/-- output -/
theorem e_out (h : TP K m s) {k : Int} (hk : q_in k) : PRL K m (fun n => g_9 o n 0 s 0 k 0) (fun s1 n => g_135 o n 0 s1 38 k 0) := by
  obtain ⟨T, Ps, szs, ths, rc, nP, sig, c, room, ru, nS, sv, R, H⟩ := h
  have hs := H.sh
  obtain ⟨h1, h2, h3, h4, h5⟩ := id H
  obtain ⟨-, rw', wt', h20⟩ := h1.2.2.2.2.2.vw
  obtain ⟨t1, t2, t3⟩ := stU_c h1.2.2.2.2.2
  have t4 := stU_r h3.2.2.2
  refine e_readL H (d_9 hs h20 hk) ?_
  refine QW_m (m_135 hs hk (by rw [t4]; omega)) (fun q e => ?_)
  rw [e, t4]
  congr 1
  by_cases z : k < 0 ∨ 7 < k
  · rw [if_pos (Or.inr z), if_pos z]
  · rw [if_neg z]
    cases ru with
    | none => rw [if_pos (Or.inl (show stU (none : Option (RU K)) = 3 from rfl))]; exact (h1.2.2.2.2.2.2.2.2.2.2.2 k (by omega) (by omega)).symm
    | some x =>
      obtain ⟨⟨b, g1⟩, hh0, hh1, -⟩ := h1.2.2.2.2.2
      obtain ⟨-, -, -, ⟨G2, ge, gm⟩, -⟩ := h3.2.2.2
      have x3 : ¬ stU (some x) = 3 := show ¬ x.1 = 3 by omega
      rw [if_neg (fun y => y.elim x3 z)]
      have a1 := gm.2.2.2.2.2.1 k (by omega) (by omega)
      have a2 := g1.2.2.2.2.2.2.1 k (by omega) (by omega)
      rw [a1, ge.2.1]
      exact a2.symm
/-- value -/
theorem e_val (h : TP K m s) {k : Int} (hk : q_in k) : PRL K m (fun n => g_15 o n 0 s 0 k 0) (fun s1 n => g_136 o n 0 s1 38 k 0) := by
  obtain ⟨T, Ps, szs, ths, rc, nP, sig, c, room, ru, nS, sv, R, H⟩ := h
  have hs := H.sh
  obtain ⟨h1, h2, h3, h4, h5⟩ := id H
  obtain ⟨-, rw', wt', h20⟩ := h1.2.2.2.2.2.vw
  obtain ⟨t1, t2, t3⟩ := stU_c h1.2.2.2.2.2
  have t4 := stU_r h3.2.2.2
  refine e_readL H (d_15 hs h20 hk) ?_
  refine QW_m (m_136 hs hk (by rw [t4]; omega)) (fun q e => ?_)
  rw [e, t4]
  congr 1
  by_cases z : k < 0 ∨ 15 < k
  · rw [if_pos (Or.inr z), if_pos z]
  · rw [if_neg z]
    cases ru with
    | none => rw [if_pos (Or.inl (show stU (none : Option (RU K)) = 3 from rfl))]; exact (h1.2.2.2.2.2.2.2.2.2.2.1 k (by omega) (by omega)).symm
    | some x =>
      obtain ⟨⟨b, g1⟩, hh0, hh1, -⟩ := h1.2.2.2.2.2
      obtain ⟨-, -, -, ⟨G2, ge, gm⟩, -⟩ := h3.2.2.2
      have x3 : ¬ stU (some x) = 3 := show ¬ x.1 = 3 by omega
      rw [if_neg (fun y => y.elim x3 z)]
      have a1 := gm.2.2.2.2.1 k (by omega) (by omega)
      have a2 := g1.2.2.2.2.2.1 k (by omega) (by omega)
      rw [a1, ge.1]
      exact a2.symm
end CALA
