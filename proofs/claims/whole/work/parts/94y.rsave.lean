/-! THE REFERENCE'S save AND back -/
theorem rpS_rg {s : Q_S} {base u : Int} : ∀ (st : List FR) (xs : List Int) (x : Int), rpS s base u st xs x → ∀ y ∈ xs, 0 ≤ y ∧ y < 6144 := by
  intro st
  induction st with
  | nil =>
    intro xs x h
    cases xs with
    | nil => exact fun y hy => absurd hy (List.not_mem_nil)
    | cons a l => exact absurd h (by simp only [rpS]; exact fun z => z)
  | cons f st ih =>
    intro xs x h
    obtain ⟨p, a⟩ := f
    cases xs with
    | nil => exact absurd h (by simp only [rpS]; exact fun z => z)
    | cons y ys =>
      obtain ⟨h1, h2, h3, h4, h5, h6, h7, h8⟩ := h
      intro z hz
      rcases List.mem_cons.mp hz with e | e
      · rw [e]; exact ⟨h2, h3⟩
      · exact ih ys _ h8 z e
theorem RM_rg {s : Q_S} {P : PT} : ∀ (k : Nat) (base u : Int) (t : BT k) (it : IT k), RM s P k base u t it → (∀ x ∈ fxI k it, 0 ≤ x ∧ x < 6144) ∧ (∀ b ∈ fbI k it, 0 ≤ b ∧ b < 104) := by
  intro k
  induction k with
  | zero => intro base u t it h; exact absurd h (fun z => z)
  | succ k ih =>
    intro base u t it h
    obtain ⟨m, p, d, st, sub⟩ := t
    obtain ⟨b, xs, isub⟩ := it
    obtain ⟨⟨b1, b2, b3, b4, b5, b6⟩, h2⟩ := h
    have hx := rpS_rg _ _ _ b6
    cases sub with
    | none =>
      cases isub with
      | none =>
        refine ⟨fun x hx' => hx x ?_, fun y hy => ?_⟩
        · simpa [fxI] using hx'
        · have : y = b := by simpa [fbI] using hy
          rw [this]; exact ⟨b1, b2⟩
      | some lr => exact absurd h2 (fun z => z)
    | some lr =>
      cases isub with
      | none => exact absurd h2 (fun z => z)
      | some ilr =>
        obtain ⟨l, r⟩ := lr
        obtain ⟨il, ir⟩ := ilr
        obtain ⟨_, x, ys, _, _, _, _, r1, r2⟩ := h2
        obtain ⟨l1, l2⟩ := ih _ _ l il r1
        obtain ⟨r3, r4⟩ := ih _ _ r ir r2
        refine ⟨fun z hz => ?_, fun z hz => ?_⟩
        · rcases List.mem_append.mp (show z ∈ xs ++ (fxI k il ++ fxI k ir) from hz) with e | e
          · exact hx z e
          · rcases List.mem_append.mp e with e | e
            · exact l1 z e
            · exact r3 z e
        · rcases List.mem_cons.mp (show z ∈ b :: (fbI k il ++ fbI k ir) from hz) with e | e
          · rw [e]; exact ⟨b1, b2⟩
          · rcases List.mem_append.mp e with e | e
            · exact l2 z e
            · exact r4 z e
/-- the same run -/
def RE (r q : Q_S) : Prop := (∀ f : Nat, (17 ≤ f ∧ f ≤ 25) ∨ f = 45 ∨ f = 47 → q_F q 38 f = q_F r 38 f) ∧ (∀ x, 0 ≤ x → x < 8 → q_L q 52 x = q_L r 52 x) ∧ (∀ x, 0 ≤ x → x < 16 → q_L q 53 x = q_L r 53 x) ∧ (∀ x, 0 ≤ x → x < 8 → q_I q 54 x = q_I r 54 x) ∧
  (∀ x, 0 ≤ x → x < 6144 → q_I q 61 x = q_I r 61 x ∧ q_L q 58 x = q_L r 58 x ∧ q_I q 55 x = q_I r 55 x ∧ q_I q 56 x = q_I r 56 x ∧ q_I q 57 x = q_I r 57 x ∧ q_I q 59 x = q_I r 59 x ∧ q_I q 60 x = q_I r 60 x) ∧
  (∀ x, 0 ≤ x → x < 104 → q_I q 69 x = q_I r 69 x ∧ q_I q 62 x = q_I r 62 x ∧ q_I q 63 x = q_I r 63 x ∧ q_I q 64 x = q_I r 64 x ∧ q_I q 65 x = q_I r 65 x ∧ q_L q 66 x = q_L r 66 x ∧ q_L q 67 x = q_L r 67 x ∧ q_L q 68 x = q_L r 68 x)
section RSV
variable {o : X_O} {K : Nat} {Ps Ps' : Int → PT} {szs szs' : Int → Int → Int} {nP nP' : Int} {sig sig' : Int → Int64} {s r q : Q_S} {st sec : Int} {G : GT} {t : BT K} {al : Int × Int × Int} {k : Int}
theorem SLo.re (h : SLo s k r) (g : SLo s k q) (e : q_F q 38 47 = q_F r 38 47) : RE r q := by
  obtain ⟨⟨a1, a2, a3, a4, a5, a6, a7, a8, a9, a10⟩, ⟨n1, n2, n3⟩, hA, hB⟩ := h
  obtain ⟨⟨b1, b2, b3, b4, b5, b6, b7, b8, b9, b10⟩, ⟨m1, m2, m3⟩, gA, gB⟩ := g
  refine ⟨fun f hf => ?_, fun x x0 x1 => (m1 x x0 x1).symm.trans (n1 x x0 x1), fun x x0 x1 => (m2 x x0 x1).symm.trans (n2 x x0 x1), fun x x0 x1 => (m3 x x0 x1).symm.trans (n3 x x0 x1), fun x x0 x1 => ?_, fun x x0 x1 => ?_⟩
  · rcases (by omega : f = 17 ∨ f = 18 ∨ f = 19 ∨ f = 20 ∨ f = 21 ∨ f = 22 ∨ f = 23 ∨ f = 24 ∨ f = 25 ∨ f = 45 ∨ f = 47) with z | z | z | z | z | z | z | z | z | z | z <;> subst z
    · exact b1.symm.trans a1
    · exact b2.symm.trans a2
    · exact b3.symm.trans a3
    · exact b4.symm.trans a4
    · exact b5.symm.trans a5
    · exact b6.symm.trans a6
    · exact b7.symm.trans a7
    · exact b8.symm.trans a8
    · exact b9.symm.trans a9
    · exact b10.symm.trans a10
    · exact e
  · obtain ⟨y1, y2, y3, y4, y5, y6, y7⟩ := hA x x0 x1
    obtain ⟨z1, z2, z3, z4, z5, z6, z7⟩ := gA x x0 x1
    exact ⟨z1.symm.trans y1, z2.symm.trans y2, z3.symm.trans y3, z4.symm.trans y4, z5.symm.trans y5, z6.symm.trans y6, z7.symm.trans y7⟩
  · obtain ⟨y1, y2, y3, y4, y5, y6, y7, y8⟩ := hB x x0 x1
    obtain ⟨z1, z2, z3, z4, z5, z6, z7, z8⟩ := gB x x0 x1
    exact ⟨z1.symm.trans y1, z2.symm.trans y2, z3.symm.trans y3, z4.symm.trans y4, z5.symm.trans y5, z6.symm.trans y6, z7.symm.trans y7, z8.symm.trans y8⟩
theorem GM.copy (g : GM Ps nP sec sig G r) (e : RE r q) (h : RGl Ps' nP' sig' q) : GM Ps' nP' sec sig' (G_bgb G (q_F q 38 46)) q := by
  obtain ⟨g1, g2, g3, g4, g5, g6, g7, g8, g9, g10, g11, g12⟩ := g
  obtain ⟨e1, e2, e3, e4, e5, e6⟩ := e
  obtain ⟨h1, h2, h3, h4, h5, h6⟩ := h
  refine ⟨⟨h2, ?_, h5, h6⟩, (e1 19 (by decide)).trans g2, h3, h4, fun j j0 j1 => (e3 j j0 j1).trans (g5 j j0 j1), fun j j0 j1 => (e2 j j0 j1).trans (g6 j j0 j1), fun j j0 j1 => (e4 j j0 j1).trans (g7 j j0 j1), (e1 20 (by decide)).trans g8, (e1 21 (by decide)).trans g9, (e1 18 (by decide)).trans g10, rfl, (e1 45 (by decide)).trans g12⟩
  rw [e1 47 (by decide), e1 22 (by decide)]
  exact g1.2.1
theorem GW.copy (h : GW Ps szs nP sec G) (hn : nP ≤ nP' ∧ nP' ≤ 20) (hP : ∀ k, 0 ≤ k → k < nP → Ps' k = Ps k ∧ szs' k = szs k) (hW : ∀ k, 0 ≤ k → k < nP' → WP (Ps' k) (szs' k)) : GW Ps' szs' nP' sec G := by
  obtain ⟨w1, w2, w3, w4, w5, w6, w7, w8, w9⟩ := h
  refine ⟨by omega, hn.2, w3, w4, hW, w6, by omega, w8.imp id (fun z => ⟨z.1, by omega⟩), ?_⟩
  rw [(hP _ w6 w7).1]
  exact w9
theorem MR.copy (h : MR Ps szs nP sig r st sec G t al) (e : RE r q) (g : RGl Ps' nP' sig' q) (hn : nP ≤ nP' ∧ nP' ≤ 20) (hP : ∀ k, 0 ≤ k → k < nP → Ps' k = Ps k ∧ szs' k = szs k) (hW : ∀ k, 0 ≤ k → k < nP' → WP (Ps' k) (szs' k)) : MR Ps' szs' nP' sig' q st sec G t al := by
  obtain ⟨h1, h2, h3, ⟨G2, h4, h5⟩, h6, h7, h8, h9, h10⟩ := h
  have hpg := hP _ h6.2.2.2.2.2.1 h6.2.2.2.2.2.2.1
  refine ⟨g.1, (e.1 17 (by decide)).trans h2, h3, ⟨G_bgb G2 (q_F q 38 46), h4, h5.copy e g⟩, h6.copy hn hP hW, fun z => ?_, fun z => ?_, fun z => ?_, ?_⟩
  · obtain ⟨⟨it, b, a1, a2⟩, a3, a4⟩ := h7 z
    refine ⟨⟨it, q_F q 38 46, ?_, a2⟩, ?_, a4⟩
    · obtain ⟨d1, d2, d3, d4, d5, d6, d7, d8, d9, d10, d11, d12⟩ := a1
      obtain ⟨r1, r2⟩ := RM_rg _ _ _ _ _ d3
      refine ⟨g.1, GM.copy (G := G_bgb G b) d2 e g, ?_, d4, ⟨?_, ?_⟩, d6, ⟨?_, ?_⟩, Or.inl ⟨rfl, rfl⟩, Or.inl rfl, (e.1 47 (by decide)).trans d10, g.2.2.2.2⟩
      · have hh : RM q (Ps (G_pg (G_bgb G b))) K 0 (-1) t it := RM_same _ _ _ _ _ (fun x hx => ?_) (fun x hx => ?_) d3
        · rw [show Ps' (G_pg (G_bgb G (q_F q 38 46))) = Ps (G_pg (G_bgb G b)) from hpg.1]
          exact hh
        · obtain ⟨y1, y2, y3, y4, y5, y6, y7⟩ := e.2.2.2.2.1 x (r1 x hx).1 (r1 x hx).2
          exact ⟨y3, y4, y5, y6, y7, y2⟩
        · obtain ⟨y1, y2, y3, y4, y5, y6, y7, y8⟩ := e.2.2.2.2.2 x (r2 x hx).1 (r2 x hx).2
          exact ⟨y2, y3, y4, y5, y6, y7, y8⟩
      · intro x x0 x1
        rw [(e.2.2.2.2.1 x x0 x1).1]
        exact d5.1 x x0 x1
      · intro x x0 x1
        rw [(e.2.2.2.2.1 x x0 x1).1]
        exact d5.2 x x0 x1
      · intro x x0 x1
        rw [(e.2.2.2.2.2 x x0 x1).1]
        exact d7.1 x x0 x1
      · intro x x0 x1
        rw [(e.2.2.2.2.2 x x0 x1).1]
        exact d7.2 x x0 x1
    · rw [hpg.1, hpg.2]
      exact a3
  · obtain ⟨z1, z2, z3, z4, z5⟩ := h8 z
    exact ⟨(e.1 47 (by decide)).trans z1, (e.1 22 (by decide)).trans z2, (e.1 23 (by decide)).trans z3, (e.1 24 (by decide)).trans z4, (e.1 25 (by decide)).trans z5⟩
  · obtain ⟨z1, z2⟩ := h9 z
    exact ⟨(e.1 47 (by decide)).trans z1, (e.1 22 (by decide)).trans z2⟩
  · refine ⟨fun x x0 x1 => ?_, fun x x0 x1 => ?_⟩
    · rw [(e.2.2.2.2.1 x x0 x1).1]
      exact h10.1 x x0 x1
    · rw [(e.2.2.2.2.2 x x0 x1).1]
      exact h10.2 x x0 x1
end RSV
/-- the runs that the reference has saved -/
def SVr (K : Nat) (Ps : Int → PT) (szs : Int → Int → Int) (nP : Int) (s : Q_S) (nS : Int) (R : Int → Int × Int × GT × BT K × (Int × Int × Int)) : Prop :=
  0 ≤ nS ∧ nS ≤ 8 ∧ q_F s 38 50 = nS ∧ ∀ k, 0 ≤ k → k < nS → ∃ r Ps0 szs0 nP0 sig0, MR Ps0 szs0 nP0 sig0 r (R k).1 (R k).2.1 (R k).2.2.1 (R k).2.2.2.1 (R k).2.2.2.2 ∧ SLo s k r ∧ nP0 ≤ nP ∧ ∀ j, 0 ≤ j → j < nP0 → Ps j = Ps0 j ∧ szs j = szs0 j
section RSW
variable {o : X_O} {K : Nat} {Ps : Int → PT} {szs : Int → Int → Int} {nP : Int} {sig : Int → Int64} {s : Q_S} {st sec : Int} {G : GT} {t : BT K} {al : Int × Int × Int} {nS : Int} {R : Int → Int × Int × GT × BT K × (Int × Int × Int)}
theorem SLo.mv {s s' r : Q_S} {k : Int} (h : SLo s k r) (e : ∀ c, 71 ≤ c ∧ c ≤ 79 → ∀ j, q_I s' c j = q_I s c j ∧ q_L s' c j = q_L s c j) : SLo s' k r := by
  obtain ⟨⟨a1, a2, a3, a4, a5, a6, a7, a8, a9, a10⟩, ⟨n1, n2, n3⟩, hA, hB⟩ := h
  have i : ∀ c, 71 ≤ c ∧ c ≤ 79 → ∀ j, q_I s' c j = q_I s c j := fun c hc j => (e c hc j).1
  have l : ∀ c, 71 ≤ c ∧ c ≤ 79 → ∀ j, q_L s' c j = q_L s c j := fun c hc j => (e c hc j).2
  have z := i 71 (by decide)
  refine ⟨⟨(z _).trans a1, (z _).trans a2, (z _).trans a3, (z _).trans a4, (z _).trans a5, (z _).trans a6, (z _).trans a7, (z _).trans a8, (z _).trans a9, (z _).trans a10⟩, ⟨fun x x0 x1 => (l 72 (by decide) _).trans (n1 x x0 x1), fun x x0 x1 => (l 72 (by decide) _).trans (n2 x x0 x1), fun x x0 x1 => (i 79 (by decide) _).trans (n3 x x0 x1)⟩, fun x x0 x1 => ?_, fun x x0 x1 => ?_⟩
  · obtain ⟨y1, y2, y3, y4, y5, y6, y7⟩ := hA x x0 x1
    have w := i 73 (by decide)
    exact ⟨(i 75 (by decide) _).trans y1, (l 74 (by decide) _).trans y2, (w _).trans y3, (w _).trans y4, (w _).trans y5, (w _).trans y6, (w _).trans y7⟩
  · obtain ⟨y1, y2, y3, y4, y5, y6, y7, y8⟩ := hB x x0 x1
    have w := i 76 (by decide)
    have v := l 77 (by decide)
    exact ⟨(i 78 (by decide) _).trans y1, (w _).trans y2, (w _).trans y3, (w _).trans y4, (w _).trans y5, (v _).trans y6, (v _).trans y7, (v _).trans y8⟩
/-- where nothing of it is touched -/
theorem SVr.mv {s' : Q_S} (h : SVr K Ps szs nP s nS R) (e : ∀ c, 71 ≤ c ∧ c ≤ 79 → ∀ j, q_I s' c j = q_I s c j ∧ q_L s' c j = q_L s c j) (f : q_F s' 38 50 = q_F s 38 50) : SVr K Ps szs nP s' nS R := by
  obtain ⟨h1, h2, h3, h4⟩ := h
  refine ⟨h1, h2, f.trans h3, fun k k0 k1 => ?_⟩
  obtain ⟨r, Ps0, szs0, nP0, sig0, a1, a2, a3⟩ := h4 k k0 k1
  exact ⟨r, Ps0, szs0, nP0, sig0, a1, a2.mv e, a3⟩
/-- save -/
theorem m_143 (h : MR Ps szs nP sig s st sec G t al) (hS : SVr K Ps szs nP s nS R) :
    QW (fun n => g_143 o n 0 s 38) (fun q => if nS < 8 then q.2 = nS ∧ MR Ps szs nP sig q.1 st sec G t al ∧ SVr K Ps szs nP q.1 (nS + 1) (upN R nS (st, sec, G, t, al)) ∧ (q.1.1 = s.1 ∧ q.1.2.1 = s.2.1 ∧ q.1.2.2.1 = s.2.2.1) ∧ (∀ c, c < 71 ∨ 80 ≤ c → c ≠ 38 → ∀ j, q_I q.1 c j = q_I s c j) ∧ (∀ c, c < 71 ∨ 80 ≤ c → ∀ j, q_L q.1 c j = q_L s c j) ∧ (∀ f : Nat, f ≠ 0 → f ≠ 50 → q_F q.1 38 f = q_F s 38 f) else q = (q_sf s 38 0 0, -2)) := by
  have hs := h.1
  obtain ⟨n0, n8, f50, hr⟩ := hS
  have hm := h.s0 (f := 0) (v := 0) (Or.inl rfl)
  have eF : ∀ f : Nat, f ≠ 0 → q_F (q_sf s 38 0 0) 38 f = q_F s 38 f := fun f hf => by rw [q_F_sf, if_neg (fun z => hf z.2)]
  have eI : ∀ c, c ≠ 38 → ∀ j, q_I (q_sf s 38 0 0) c j = q_I s c j := fun c hc j => by rw [q_I_sf, if_neg (fun z => hc z.1)]
  have eL : ∀ c j, q_L (q_sf s 38 0 0) c j = q_L s c j := fun c j => rfl
  have eT : (q_sf s 38 0 0).1 = s.1 ∧ (q_sf s 38 0 0).2.1 = s.2.1 ∧ (q_sf s 38 0 0).2.2.1 = s.2.2.1 := ⟨rfl, rfl, rfl⟩
  refine QW_s ?_
  simp only [g_143]
  refine QW_p (k_pi (hs _ _ rfl) rfl rfl) ?_
  generalize q_sf s 38 0 0 = s1 at hm eF eI eL eT
  have hs1 := hm.1
  have h17 := hm.2.1
  have h3 := hm.2.2.1
  have e50 : q_F s1 38 50 = nS := (eF 50 (by decide)).trans f50
  refine QW_p (k_gi (hs1 _ _ rfl) rfl) ?_
  refine QW_g (by rw [h17]; unfold q_in; omega) ?_
  refine QW_it (by rw [h17]; omega) ?_
  refine QW_p (k_gi (hs1 _ _ rfl) rfl) ?_
  rw [e50]
  refine QW_g (by unfold q_in; omega) ?_
  refine QW_by (fun z => ?_) (fun z => ?_)
  · have z8 : nS < 8 := by omega
    simp only [if_pos z8]
    refine QW_p (k_gi (hs1 _ _ rfl) rfl) ?_
    rw [e50]
    refine QW_p (k_rc (hs1 _ _ rfl)) ?_
    refine QW_c (m_144_1 hs1 ⟨n0, z8⟩ (by rw [h17]; unfold q_in; omega) hm.2.2.2.2.2.2.2.2) (fun q hq => ?_)
    obtain ⟨s2, u⟩ := q
    obtain ⟨a1, a2, a3, a4, a5, a6, a7⟩ := hq
    dsimp only at a1 a2 a3 a4 a5 a6 a7 ⊢
    have hs2 : SH s2 := sh_T hs1 a1.2.2
    have f50 : q_F s2 38 50 = nS := (a4 50 (by decide)).trans e50
    refine QW_p (k_gi (hs2 _ _ rfl) rfl) ?_
    rw [f50]
    refine QW_p (k_pi (hs2 _ _ rfl) rfl rfl) ?_
    refine QW_p (k_gi (show q_T (q_sf s2 38 50 (nS + 1)) 38 = _ from hs2 _ _ rfl) rfl) ?_
    rw [q_F_sf, if_pos ⟨rfl, rfl⟩]
    have f47 : q_F s2 38 47 = q_F s1 38 47 := by
      rw [a5, h17]
      by_cases y : st = 2
      · rw [if_pos y, (hm.2.2.2.2.2.2.1 y).1]
      · rw [if_neg y, (hm.2.2.2.2.2.2.2.1 y).1]
    have F2 : ∀ f : Nat, q_F s2 38 f = q_F s1 38 f := fun f => by
      by_cases y : f = 47
      · rw [y]; exact f47
      · exact a4 f y
    have hre : RE s1 s2 := by
      refine ⟨fun f hf => F2 f, fun x x0 x1 => a3 52 (by decide) x, fun x x0 x1 => a3 53 (by decide) x, fun x x0 x1 => a2 54 (by decide) (by decide) x, fun x x0 x1 => ?_, fun x x0 x1 => ?_⟩
      · exact ⟨a2 61 (by decide) (by decide) x, a3 58 (by decide) x, a2 55 (by decide) (by decide) x, a2 56 (by decide) (by decide) x, a2 57 (by decide) (by decide) x, a2 59 (by decide) (by decide) x, a2 60 (by decide) (by decide) x⟩
      · exact ⟨a2 69 (by decide) (by decide) x, a2 62 (by decide) (by decide) x, a2 63 (by decide) (by decide) x, a2 64 (by decide) (by decide) x, a2 65 (by decide) (by decide) x, a3 66 (by decide) x, a3 67 (by decide) x, a3 68 (by decide) x⟩
    have hgl : RGl Ps nP sig s2 := by
      obtain ⟨G2, _, gg⟩ := hm.2.2.2.1
      obtain ⟨g1, g2, g3, g4, _⟩ := gg
      refine ⟨hs2, (F2 8).trans g1.1, fun k k0 k1 => ?_, fun j j0 j1 => (a3 44 (by decide) j).trans (g4 j j0 j1), by rw [F2]; exact g1.2.2.1, by rw [F2]; exact g1.2.2.2⟩
      rw [← g3 k k0 k1]
      unfold m_P
      have i45 : ∀ c, 45 ≤ c ∧ c ≤ 51 → ∀ j, q_I s2 c j = q_I s1 c j := fun c hc j => a2 c (by omega) (by omega) j
      have i47 : ∀ j, q_L s2 47 j = q_L s1 47 j := a3 47 (by decide)
      simp only [i45 45 (by decide), i45 46 (by decide), i45 48 (by decide), i45 49 (by decide), i45 50 (by decide), i45 51 (by decide), i47]
    have hm2 : MR Ps szs nP sig s2 st sec G t al := hm.copy hre hgl ⟨Int.le_refl _, hm.2.2.2.2.1.2.1⟩ (fun _ _ _ => ⟨rfl, rfl⟩) hm.2.2.2.2.1.2.2.2.2.1
    refine QW_ret ⟨by omega, hm2.s0 (by decide), ⟨by omega, by omega, by rw [q_F_sf, if_pos ⟨rfl, rfl⟩], fun k k0 k1 => ?_⟩, ⟨a1.1.trans eT.1, a1.2.1.trans eT.2.1, a1.2.2.trans eT.2.2⟩, fun c hc h38 j => ?_, fun c hc j => ?_, fun f f0 f5 => ?_⟩
    · have em : ∀ c, 71 ≤ c ∧ c ≤ 79 → ∀ j, q_I (q_sf s2 38 50 (nS + 1)) c j = q_I s2 c j ∧ q_L (q_sf s2 38 50 (nS + 1)) c j = q_L s2 c j := fun c hc j => ⟨by rw [q_I_sf, if_neg (fun z => by have := z.1; omega)], rfl⟩
      by_cases y : k = nS
      · refine ⟨s1, Ps, szs, nP, sig, ?_, ?_, Int.le_refl _, fun _ _ _ => ⟨rfl, rfl⟩⟩
        · unfold upN
          rw [if_pos y]
          exact hm
        · rw [y]
          exact a6.mv em
      · obtain ⟨r, Ps0, szs0, nP0, sig0, b1, b2, b3⟩ := hr k k0 (by omega)
        refine ⟨r, Ps0, szs0, nP0, sig0, ?_, ?_, b3⟩
        · unfold upN
          rw [if_neg y]
          exact b1
        · refine SLo.mv (a7 k r k0 (by omega) y (b2.mv (fun c hc j => ⟨eI c (by omega) j, eL c j⟩))) em
    · rw [q_I_sf, if_neg (fun z => h38 z.1), a2 c hc h38, eI c h38]
    · rw [q_L_sf, a3 c hc, eL]
    · rw [q_F_sf, if_neg (fun z => f5 z.2), F2, eF f f0]
  · have z8 : ¬ nS < 8 := by omega
    simp only [if_neg z8]
    exact QW_ret rfl
/-- back -/
theorem m_147 (hG : RGl Ps nP sig s) (hn : nP ≤ 20) (hW : ∀ k, 0 ≤ k → k < nP → WP (Ps k) (szs k)) (hS : SVr K Ps szs nP s nS R) {k : Int} (hk : q_in k) :
    QW (fun n => g_147 o n 0 s 38 k) (fun q => if 0 ≤ k ∧ k < nS then q.2 = 1 ∧ MR Ps szs nP sig q.1 (R k).1 (R k).2.1 (R k).2.2.1 (R k).2.2.2.1 (R k).2.2.2.2 ∧ (q.1.1 = s.1 ∧ q.1.2.1 = s.2.1 ∧ q.1.2.2.1 = s.2.2.1) ∧ (∀ c, c < 38 ∨ (39 ≤ c ∧ c ≤ 51) ∨ 70 ≤ c → ∀ j, q_I q.1 c j = q_I s c j ∧ q_L q.1 c j = q_L s c j) ∧ (∀ f : Nat, f = 1 ∨ f = 8 ∨ f = 16 ∨ f = 49 ∨ f = 50 → q_F q.1 38 f = q_F s 38 f) else q = (q_sf s 38 0 0, 0)) := by
  have hs := hG.1
  obtain ⟨n0, n8, f50, hr⟩ := hS
  have eF : ∀ f : Nat, f ≠ 0 → q_F (q_sf s 38 0 0) 38 f = q_F s 38 f := fun f hf => by rw [q_F_sf, if_neg (fun z => hf z.2)]
  have eI : ∀ c, c ≠ 38 → ∀ j, q_I (q_sf s 38 0 0) c j = q_I s c j := fun c hc j => by rw [q_I_sf, if_neg (fun z => hc z.1)]
  have eL : ∀ c j, q_L (q_sf s 38 0 0) c j = q_L s c j := fun c j => rfl
  have eT : (q_sf s 38 0 0).1 = s.1 ∧ (q_sf s 38 0 0).2.1 = s.2.1 ∧ (q_sf s 38 0 0).2.2.1 = s.2.2.1 := ⟨rfl, rfl, rfl⟩
  refine QW_s ?_
  simp only [g_147]
  refine QW_p (k_pi (hs _ _ rfl) rfl rfl) ?_
  generalize q_sf s 38 0 0 = s1 at eF eI eL eT
  have hs1 : SH s1 := sh_T hs eT.2.2
  have e50 : q_F s1 38 50 = nS := (eF 50 (by decide)).trans f50
  have K1 : QW (fun n => g_147 o n 1 s1 0 0) (fun q => q = (s1, 0)) := by
    refine QW_s ?_
    simp only [g_147]
    exact QW_ret rfl
  refine QW_g hk ?_
  refine QW_by (fun z => ?_) (fun z => ?_)
  · have zn : ¬ (0 ≤ k ∧ k < nS) := by omega
    simp only [if_neg zn]
    exact K1
  · refine QW_p (k_gi (hs1 _ _ rfl) rfl) ?_
    rw [e50]
    refine QW_g ⟨hk, by unfold q_in; omega⟩ ?_
    refine QW_by (fun y => ?_) (fun y => ?_)
    · have zp : 0 ≤ k ∧ k < nS := by omega
      simp only [if_pos zp]
      obtain ⟨r, Ps0, szs0, nP0, sig0, b1, b2, b3, b4⟩ := hr k zp.1 zp.2
      have c2 : SLo s1 k r := b2.mv (fun c hc j => ⟨eI c (by omega) j, eL c j⟩)
      have bl := b1.2.2.2.2.2.2.2.2
      have s17 := b1.2.1
      have sst := b1.2.2.1
      refine QW_p (k_rc (hs1 _ _ rfl)) ?_
      refine QW_c (m_144_0 hs1 ⟨zp.1, by omega⟩ (by rw [c2.1.1, s17]; unfold q_in; omega) (fun x x0 x1 => by rw [(c2.2.2.1 x x0 x1).1]; exact bl.1 x x0 x1) (fun x x0 x1 => by rw [(c2.2.2.2 x x0 x1).1]; exact bl.2 x x0 x1)) (fun q hq => ?_)
      obtain ⟨s2, u⟩ := q
      obtain ⟨a1, a2, a3, a4, a5⟩ := hq
      dsimp only at a1 a2 a3 a4 a5 ⊢
      have hs2 : SH s2 := sh_T hs1 a1.2.2
      have f47 : q_F s2 38 47 = q_F r 38 47 := by
        rw [a4, c2.1.1, s17]
        by_cases y : (R k).1 = 2
        · rw [if_pos y, (b1.2.2.2.2.2.2.1 y).1]
        · rw [if_neg y, (b1.2.2.2.2.2.2.2.1 y).1]
      have hre : RE r s2 := c2.re a5 f47
      have F2 : ∀ f : Nat, f = 1 ∨ f = 8 ∨ f = 16 ∨ f = 36 ∨ f = 49 ∨ f = 50 → q_F s2 38 f = q_F s 38 f := fun f hf => (a3 f (by omega) (by omega)).trans (eF f (by omega))
      have hgl : RGl Ps nP sig s2 := by
        obtain ⟨g0, g1, g3, g4, g5, g6⟩ := hG
        refine ⟨hs2, (F2 8 (by decide)).trans g1, fun k k0 k1 => ?_, fun j j0 j1 => ((a2 44 (by decide) j).2.trans (eL 44 j)).trans (g4 j j0 j1), by rw [F2 36 (by decide)]; exact g5, by rw [F2 36 (by decide)]; exact g6⟩
        rw [← g3 k k0 k1]
        unfold m_P
        have i45 : ∀ c, 45 ≤ c ∧ c ≤ 51 → ∀ j, q_I s2 c j = q_I s c j := fun c hc j => (a2 c (by omega) j).1.trans (eI c (by omega) j)
        have i47 : ∀ j, q_L s2 47 j = q_L s 47 j := fun j => (a2 47 (by decide) j).2.trans (eL 47 j)
        simp only [i45 45 (by decide), i45 46 (by decide), i45 48 (by decide), i45 49 (by decide), i45 50 (by decide), i45 51 (by decide), i47]
      refine QW_ret ⟨rfl, b1.copy hre hgl ⟨b3, hn⟩ b4 hW, ⟨a1.1.trans eT.1, a1.2.1.trans eT.2.1, a1.2.2.trans eT.2.2⟩, fun c hc j => ⟨(a2 c hc j).1.trans (eI c (by omega) j), (a2 c hc j).2.trans (eL c j)⟩, fun f hf => F2 f (by omega)⟩
    · have zn : ¬ (0 ≤ k ∧ k < nS) := by omega
      simp only [if_neg zn]
      exact K1
end RSW
