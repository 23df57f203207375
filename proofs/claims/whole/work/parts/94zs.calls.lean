/-! EACH CALL: alarm, step, shared, told, signal, swap -/
section CALB
variable {o : X_O} {K : Nat} {T T' : PT} {Ps : Int → PT} {szs ths : Int → Int → Int} {rc : Int → Nat} {nP : Int} {sig : Int → Int64} {c room : Nat} {ru : Option (RU K)} {nS : Int} {sv : Int → Nat} {R : Int → RU K} {m : Int} {s s' s2 : Q_S}
/-- alarm -/
theorem e_alm (h : TP K m s) {k w : Int} (hk : q_in k) (hw : q_in w) : PRI K m (fun n => g_11 o n 0 s 0 k w) (fun s1 n => g_139 o n 0 s1 38 k w 0) := by
  obtain ⟨T, Ps, szs, ths, rc, nP, sig, c, room, ru, nS, sv, R, H⟩ := h
  have hs := H.sh
  obtain ⟨h1, h2, h3, h4, h5⟩ := id H
  obtain ⟨-, rw', wt', h20⟩ := h1.2.2.2.2.2.vw
  obtain ⟨t1, t2, t3⟩ := stU_c h1.2.2.2.2.2
  have t4 := stU_r h3.2.2.2
  cases ru with
  | none =>
    have t5 : stU (none : Option (RU K)) = 3 := rfl
    refine e_read H (x := -1) (by decide) (QW_m (d_11 hs h20 (by omega) hk hw) (fun q e => ?_)) (QW_m (m_139 hs hk hw (by omega) h3.2.2.2.2) (fun q e => ?_))
    · rw [e, if_neg (by omega)]
    · rw [e, if_pos (by omega)]
  | some x =>
    have t5 : stU (some x) = x.1 := rfl
    obtain ⟨-, -, x1, -, -, -, -, al⟩ := h1.2.2.2.2.2
    obtain ⟨-, -, -, -, -, -, b2, b0, -⟩ := h3.2.2.2
    have aq := (h4.2.2.2.1 x rfl).2
    by_cases z : x.1 = 2
    · obtain ⟨a1, a2, a3⟩ := al z
      obtain ⟨c1, c2, c3, c4, c5⟩ := b2 z
      obtain ⟨e1, e2, e3⟩ := aq z
      by_cases y : k = 0
      · refine e_read H (x := if w = 0 then x.2.2.2.2.1 else if w = 1 then x.2.2.2.2.2.1 else if w = 2 then x.2.2.2.2.2.2 else -1) ?_ (QW_m (d_11 hs h20 (by omega) hk hw) (fun q e => ?_)) (QW_m (m_139 hs hk hw (by omega) (Or.inr c2)) (fun q e => ?_))
        · split
          · exact e1
          · split
            · exact e2
            · split
              · exact e3
              · decide
        · rw [e, if_pos ⟨y, by omega⟩, a1, a2, a3]
        · rw [e, if_neg (by omega), c3, c4, c5]
      · refine e_read H (x := -1) (by decide) (QW_m (d_11 hs h20 (by omega) hk hw) (fun q e => ?_)) (QW_m (m_139 hs hk hw (by omega) (Or.inr c2)) (fun q e => ?_))
        · rw [e, if_neg (by omega)]
        · rw [e, if_pos (by omega)]
    · obtain ⟨c1, c2⟩ := b0 z
      refine e_read H (x := -1) (by decide) (QW_m (d_11 hs h20 (by omega) hk hw) (fun q e => ?_)) (QW_m (m_139 hs hk hw (by omega) (Or.inl c2)) (fun q e => ?_))
      · rw [e, if_neg (by omega)]
      · rw [e, if_pos (by omega)]
/-- step -/
theorem e_stp (hK : 61 ≤ K) (h : TP K m s) {k : Int} (hk : q_in k) : PRI K m (fun n => g_10 o n 0 s 0 k) (fun s1 n => g_137 o n 0 s1 38 k 0) := by
  obtain ⟨T, Ps, szs, ths, rc, nP, sig, c, room, ru, nS, sv, R, H⟩ := h
  have hs := H.sh
  have hW := H.wp
  obtain ⟨h1, h2, h3, h4, h5⟩ := id H
  have fin : ∀ y : Int, TP K (m + 1) (q_sf (q_sf s 38 0 0) 38 49 y) := fun y => by
    obtain ⟨a1, a2, a3, a4, a5⟩ := H.same
    refine ⟨T, Ps, szs, ths, rc, nP, sig, c, room, ru, nS, sv, R, a1.rf FRr.sf, a2.rf FRr.sf, a3.s0 (Or.inr rfl), a4, ?_⟩
    exact a5
  cases ru with
  | none =>
    obtain ⟨x1, x2, x3, -⟩ := h1.2.2.2.2.2
    have r3 : q_F s 38 17 = 3 := h3.2.2.2.1
    have K1 : QW (fun n => g_10 o n 1 s 0 0) (fun q => q = (s, -1)) := by
      refine QW_s ?_
      simp only [g_10]
      exact QW_ret rfl
    have A : QW (fun n => g_10 o n 0 s 0 k) (fun q => q = (s, -1)) := by
      refine QW_s ?_
      simp only [g_10]
      refine QW_g hk ?_
      refine QW_by (fun _ => K1) (fun _ => ?_)
      refine QW_p (k_gv (hs _ _ rfl) rfl rfl) ?_
      refine QW_p (k_rc x1) ?_
      refine QW_e (d_43 x1 (by omega)) ?_
      rw [x3]
      dsimp only
      refine QW_g (by decide) ?_
      refine QW_if (by decide) ?_
      exact K1
    refine QW_m A (fun q e => ?_)
    subst e
    refine ⟨hs, (by decide : q_in (-1)), ?_⟩
    refine QW_s ?_
    simp only [g_137]
    refine QW_p (k_pi (hs _ _ rfl) rfl rfl) ?_
    have hs1 : SH (q_sf s 38 0 0) := hs
    refine QW_p (k_pi (hs1 _ _ rfl) rfl rfl) ?_
    have hs2 : SH (q_sf (q_sf s 38 0 0) 38 49 k) := hs
    refine QW_p (k_gi (hs2 _ _ rfl) rfl) ?_
    rw [show q_F (q_sf (q_sf s 38 0 0) 38 49 k) 38 17 = 3 by rw [q_F_sf, if_neg (by decide), q_F_sf, if_neg (by decide)]; exact r3]
    refine QW_g (by decide) ?_
    refine QW_it (by decide) ?_
    refine QW_s ?_
    simp only [g_137]
    refine QW_s ?_
    simp only [g_137]
    exact QW_ret ⟨rfl, fin k⟩
  | some x =>
    refine QW_m (d_10 h1.2.2.2.2.2 hk) (fun q e => ?_)
    subst e
    refine ⟨hs, ?_, QW_m (m_137 hK h3.2.2.2 hk) (fun q hq => ?_)⟩
    · show q_in (if x.1 = 1 ∧ 0 ≤ k then (stnA K x.2.2.2.1 k).2 else -1)
      split
      · rename_i z
        obtain ⟨-, -, -, -, hg, -, v1, -⟩ := h1.2.2.2.2.2
        exact stn_qi (hg.2.2.2.2.1 _ hg.2.2.2.2.2.1 hg.2.2.2.2.2.2.1) K none 0 _ _ (v1 z.1).1
      · decide
    · obtain ⟨q1, y, q2⟩ := hq
      rw [q2]
      exact ⟨q1, fin y⟩
/-- the first program like another -/
theorem fst_rg {g : Int} : ∀ (f : Nat) (k : Int), k ≤ g → g < k + f → (k ≤ fstLk Ps g f k ∧ fstLk Ps g f k ≤ g) ∧ likeP (Ps (fstLk Ps g f k)) (Ps g) = true ∧ ∀ j, k ≤ j → j < fstLk Ps g f k → ¬ likeP (Ps j) (Ps g) = true := by
  intro f
  induction f with
  | zero => intro k h1 h2; simp at h2; omega
  | succ f ih =>
    intro k h1 h2
    push_cast at h2
    simp only [fstLk]
    by_cases z : likeP (Ps k) (Ps g) = true
    · rw [if_pos z]
      exact ⟨⟨Int.le_refl _, h1⟩, z, fun j j0 j1 => by omega⟩
    · rw [if_neg z]
      have kg : k ≠ g := fun e => z (by rw [e]; exact likeP_rf _)
      obtain ⟨a1, a2, a3⟩ := ih (k + 1) (by omega) (by omega)
      refine ⟨by omega, a2, fun j j0 j1 => ?_⟩
      by_cases y : j = k
      · rw [y]; exact z
      · exact a3 j (by omega) j1
theorem fst_iff (hn : ∀ k, 0 ≤ k → k < nP → 0 ≤ P_n (Ps k)) (h20 : nP ≤ 20) {a b : Int} (a0 : 0 ≤ a ∧ a < nP) (b0 : 0 ≤ b ∧ b < nP) : fstLk Ps a 20 0 = fstLk Ps b 20 0 ↔ likeP (Ps a) (Ps b) = true := by
  obtain ⟨a1, a2, a3⟩ := fst_rg (Ps := Ps) (g := a) 20 0 a0.1 (by omega)
  obtain ⟨b1, b2, b3⟩ := fst_rg (Ps := Ps) (g := b) 20 0 b0.1 (by omega)
  have na := hn a a0.1 a0.2
  have nb := hn b b0.1 b0.2
  have nu := hn (fstLk Ps a 20 0) a1.1 (by omega)
  have nv := hn (fstLk Ps b 20 0) b1.1 (by omega)
  constructor
  · intro e
    rw [← e] at b2
    exact likeP_tr na nu (likeP_sy nu na a2) b2
  · intro e
    have x := likeP_tr nu na a2 e
    have y := likeP_tr nv nb b2 (likeP_sy na nb e)
    have h1 : ¬ fstLk Ps a 20 0 < fstLk Ps b 20 0 := fun z => b3 _ a1.1 z x
    have h2 : ¬ fstLk Ps b 20 0 < fstLk Ps a 20 0 := fun z => a3 _ b1.1 z y
    omega
theorem fst_cg {Ps' : Int → PT} {g : Int} (e : ∀ k, 0 ≤ k → k ≤ g → Ps' k = Ps k) : ∀ (f : Nat) (k : Int), 0 ≤ k → k ≤ g → fstLk Ps' g f k = fstLk Ps g f k := by
  intro f
  induction f with
  | zero => intro k _ _; rfl
  | succ f ih =>
    intro k k0 k1
    simp only [fstLk]
    rw [e k k0 k1, e g (by omega) (Int.le_refl _)]
    by_cases z : likeP (Ps k) (Ps g) = true
    · rw [if_pos z, if_pos z]
    · rw [if_neg z, if_neg z]
      have kg : k ≠ g := fun y => z (by rw [y]; exact likeP_rf _)
      exact ih (k + 1) (by omega) (by omega)
theorem TQ.pq (h : TQ K T Ps szs ths rc nP sig c room ru nS sv R m s) : ∀ k, 0 ≤ k → k < nP → PQ (m_P s k) := fun k k0 k1 => by
  rw [h.2.2.1.1.2.2.1 k k0 k1]
  exact (h.2.2.2.1.2.2.1 k k0 k1).1.pq h.2.2.2.1.2.1 h.1.2.1.2.1
/-- shared -/
theorem e_shr (h : TP K m s) {a b : Int} (ha : q_in a) (hb : q_in b) : PRI K m (fun n => g_16 o n 0 s 0 a b 0) (fun s1 n => g_102 o n 0 s1 38 a b 0) := by
  obtain ⟨T, Ps, szs, ths, rc, nP, sig, c, room, ru, nS, sv, R, H⟩ := h
  have hs := H.sh
  have hp := H.pq
  have hW := H.wp
  obtain ⟨h1, h2, h3, h4, h5⟩ := id H
  have n20 := h4.1.2
  have num := h1.2.2.2.2.1
  refine e_read H (x := if (0 ≤ a ∧ a < nP) ∧ (0 ≤ b ∧ b < nP) ∧ likeP (Ps a) (Ps b) = true then 1 else 0) (by split <;> decide) (QW_m (d_16 hs h2 (fun k k0 k1 => ?_) ha hb) (fun q e => ?_)) (QW_m (m_102 hs h3.1.2.1 h4.1 hp ha hb) (fun q e => ?_))
  · obtain ⟨⟨n', np, ⟨t0, -⟩, -⟩, -⟩ := h1.1.2.2.2.2 k k0 k1
    refine ⟨t0, ?_⟩
    rw [num k k0 k1]
    have := (fst_rg (Ps := Ps) (g := k) 20 0 k0 (by omega)).1
    unfold q_in
    omega
  · rw [e]
    congr 1
    by_cases z : (0 ≤ a ∧ a < nP) ∧ (0 ≤ b ∧ b < nP)
    · have i := fst_iff (Ps := Ps) (nP := nP) (fun k k0 k1 => by have := (hW k k0 k1).1; omega) n20 z.1 z.2
      rw [num a z.1.1 z.1.2, num b z.2.1 z.2.2]
      by_cases y : likeP (Ps a) (Ps b) = true
      · rw [if_pos ⟨z.1, z.2, i.mpr y⟩, if_pos ⟨z.1, z.2, y⟩]
      · rw [if_neg (fun w => y (i.mp w.2.2)), if_neg (fun w => y w.2.2)]
    · rw [if_neg (fun w => z ⟨w.1, w.2.1⟩), if_neg (fun w => z ⟨w.1, w.2.1⟩)]
  · rw [e]
    congr 1
    by_cases z : (0 ≤ a ∧ a < nP) ∧ (0 ≤ b ∧ b < nP)
    · rw [h3.1.2.2.1 a z.1.1 z.1.2, h3.1.2.2.1 b z.2.1 z.2.2]
    · rw [if_neg (fun w => z ⟨w.1, w.2.1⟩), if_neg (fun w => z ⟨w.1, w.2.1⟩)]
/-- told -/
theorem e_tld (h : TP K m s) {w : Int} (hw : q_in w) (hm : 0 ≤ m ∧ m ≤ 1000) : PRI K m (fun n => g_17 o n 0 s 0 w 0) (fun s1 n => g_142 o n 0 s1 38 w 0 0 0) := by
  obtain ⟨T, Ps, szs, ths, rc, nP, sig, c, room, ru, nS, sv, R, H⟩ := h
  have hs := H.sh
  have hp := H.pq
  obtain ⟨h1, h2, h3, h4, h5⟩ := id H
  have n20 := h4.1.2
  have num := h1.2.2.2.2.1
  cases ru with
  | none =>
    obtain ⟨x1, x2, x3, x4, x5, -⟩ := h1.2.2.2.2.2
    have r3 : q_F s 38 17 = 3 := h3.2.2.2.1
    have hx0 : q_in (if w = 0 then 0 else if w = 1 then 0 else if w = 2 then -1 else if w = 3 then 0 else -1) := by
      repeat' split
      all_goals decide
    refine e_read H (x := if w = 0 then 0 else if w = 1 then 0 else if w = 2 then -1 else if w = 3 then 0 else -1) hx0 (QW_m (d_17 hs x1 (Or.inl rfl) (Or.inl rfl) hw) (fun q e => ?_)) (QW_m (m_142 hs (by omega) h4.1 (fun z => absurd r3 z) (fun z => absurd r3 z) hp hw) (fun q e => ?_))
    · rw [e, x4, x5]
    · rw [e]
      simp only [if_pos r3, r3, true_or, if_true]
  | some x =>
    obtain ⟨⟨b, g1⟩, y0, y1, -, hg, -⟩ := h1.2.2.2.2.2
    obtain ⟨-, r1, -, ⟨G2, ge, gm⟩, -⟩ := h3.2.2.2
    have h20 : q_T s 20 = some (sh20 (.ref (rc (G_pg x.2.2.1))) (if G_sw x.2.2.1 = -1 then .null else .ref (rc (G_sw x.2.2.1)))) := g1.2.1
    have pg0 := hg.2.2.2.2.2.1
    have pg1 := hg.2.2.2.2.2.2.1
    have hsw := hg.2.2.2.2.2.2.2.1
    have hph : 0 ≤ G_ph x.2.2.1 ∧ G_ph x.2.2.1 ≤ 900000 := ⟨hg.2.2.2.2.2.2.2.2.2.2.2.2.1, hg.2.2.2.2.2.2.2.2.2.2.2.2.2.1⟩
    have hsec := (h4.2.2.2.1 x rfl).1
    have hsec0 := hg.2.2.1
    have f3 : q_F s 20 3 = x.2.1 := g1.2.2.2.1
    have f4 : q_F s 20 4 = G_ph x.2.2.1 := g1.2.2.2.2.1
    have e19 : q_F s 38 19 = x.2.1 := gm.2.1
    have e20 : q_F s 38 20 = G_ph x.2.2.1 := gm.2.2.2.2.2.2.2.1.trans ge.2.2.2.1
    have e21 : q_F s 38 21 = G_sw x.2.2.1 := gm.2.2.2.2.2.2.2.2.1.trans ge.2.2.2.2.1
    have e18 : q_F s 38 18 = G_pg x.2.2.1 := gm.2.2.2.2.2.2.2.2.2.1.trans ge.2.2.2.2.2
    have t0 : q_T s (rc (G_pg x.2.2.1)) = some (shR0 (rc (G_pg x.2.2.1))) := by
      obtain ⟨⟨n', np, ⟨t0, -⟩, -⟩, -⟩ := h1.1.2.2.2.2 _ pg0 pg1
      exact t0
    have fr := (fst_rg (Ps := Ps) (g := G_pg x.2.2.1) 20 0 pg0 (by omega)).1
    have n3 : ¬ q_F s 38 17 = 3 := by omega
    have D : QW (fun n => g_17 o n 0 s 0 w 0) (fun q => q = (s, if w = 0 then x.2.1 else if w = 1 then G_ph x.2.2.1 else if w = 2 then fstLk Ps (G_pg x.2.2.1) 20 0 else if w = 3 then (if G_sw x.2.2.1 = -1 then 0 else 1) else -1)) := by
      have n9 := num _ pg0 pg1
      rw [← f3, ← f4, ← n9]
      by_cases z : G_sw x.2.2.1 = -1
      · rw [if_pos z] at h20
        rw [if_pos z]
        exact d_17 hs h20 (Or.inr ⟨_, rfl, t0⟩) (Or.inl rfl) hw
      · rw [if_neg z] at h20
        rw [if_neg z]
        exact d_17 hs h20 (Or.inr ⟨_, rfl, t0⟩) (Or.inr ⟨_, rfl⟩) hw
    refine e_read H ?_ D (QW_m (m_142 hs (by omega) h4.1 (fun _ => by omega) (fun _ => by rw [e21]; unfold q_in; omega) hp hw) (fun q e => ?_))
    · unfold q_in
      split
      · omega
      · split
        · omega
        · split
          · omega
          · split
            · split <;> omega
            · omega
    · rw [e]
      simp only [if_neg n3, n3, if_false, false_or, e18, e19, e20, e21, fst_cg (Ps := Ps) (fun k k0 k1 => h3.1.2.2.1 k k0 (by omega)) 20 0 (Int.le_refl _) pg0]
end CALB
