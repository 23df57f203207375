/-! THE REFERENCE'S told, step, tick, start -/
section RMP
variable {o : X_O} {s : Q_S}
theorem m_P0 {f : Nat} {v : Int} (k : Int) : m_P (q_sf s 38 f v) k = m_P s k := by
  unfold m_P
  simp only [q_I_sf, q_L_sf]
  simp
theorem m_142 (hs : SH s) {nP w : Int} (hst : 0 ≤ q_F s 38 17 ∧ q_F s 38 17 ≤ 3) (hn1 : 0 ≤ nP ∧ nP ≤ 20) (hg : q_F s 38 17 ≠ 3 → 0 ≤ q_F s 38 18 ∧ q_F s 38 18 < nP) (hsw : q_F s 38 17 ≠ 3 → q_in (q_F s 38 21)) (hp : ∀ k, 0 ≤ k → k < nP → PQ (m_P s k)) (hw : q_in w) {x y t : Int} :
    QW (fun n => g_142 o n 0 s 38 w x y t) (fun q => q = (q_sf s 38 0 0, if w = 0 then (if q_F s 38 17 = 3 then 0 else q_F s 38 19) else if w = 1 then (if q_F s 38 17 = 3 then 0 else q_F s 38 20) else if w = 2 then (if q_F s 38 17 = 3 then -1 else fstLk (m_P s) (q_F s 38 18) 20 0) else if w = 3 then (if q_F s 38 17 = 3 ∨ q_F s 38 21 = -1 then 0 else 1) else -1)) := by
  have hs1 : SH (q_sf s 38 0 0) := hs
  have e : ∀ f : Nat, f ≠ 0 → q_F (q_sf s 38 0 0) 38 f = q_F s 38 f := fun f hf => by rw [q_F_sf, if_neg (fun z => hf z.2)]
  have K2 : ∀ x : Int, QW (fun n => g_142 o n 2 (q_sf s 38 0 0) 0 0 0 0 x) (fun q => q = (q_sf s 38 0 0, x)) := fun x => by
    refine QW_s ?_
    simp only [g_142]
    exact QW_ret rfl
  have K3 : ∀ x : Int, QW (fun n => g_142 o n 3 (q_sf s 38 0 0) 0 0 0 0 x) (fun q => q = (q_sf s 38 0 0, x)) := fun x => by
    refine QW_s ?_
    simp only [g_142]
    exact QW_ret rfl
  have K6 : ∀ x : Int, QW (fun n => g_142 o n 6 (q_sf s 38 0 0) 0 0 0 0 x) (fun q => q = (q_sf s 38 0 0, x)) := fun x => by
    refine QW_s ?_
    simp only [g_142]
    exact QW_ret rfl
  have K8 : ∀ x : Int, QW (fun n => g_142 o n 8 (q_sf s 38 0 0) 0 0 0 0 x) (fun q => q = (q_sf s 38 0 0, x)) := fun x => by
    refine QW_s ?_
    simp only [g_142]
    exact QW_ret rfl
  have K7 : QW (fun n => g_142 o n 7 (q_sf s 38 0 0) 0 0 0 0 0) (fun q => q = (q_sf s 38 0 0, 0)) := by
    refine QW_s ?_
    simp only [g_142]
    exact K8 0
  -- the first that is like it
  have L : q_F s 38 17 ≠ 3 → ∀ (f : Nat) (k : Int), 0 ≤ k → k ≤ q_F s 38 18 → k + f = 20 → QW (fun n => g_142 o n 4 (q_sf s 38 0 0) 38 0 0 k 0) (fun q => q = (q_sf s 38 0 0, fstLk (m_P s) (q_F s 38 18) f k)) := by
    intro h3
    have hg' := hg h3
    intro f
    induction f with
    | zero => intro k k0 k1 kf; omega
    | succ f ih =>
      intro k k0 k1 kf
      push_cast at kf
      refine QW_s ?_
      simp only [g_142]
      refine QW_g (by decide) ?_
      refine QW_if (by decide) ?_
      refine QW_p (k_gi (hs1 _ _ rfl) rfl) ?_
      rw [e 18 (by decide)]
      refine QW_p (k_rc (hs1 _ _ rfl)) ?_
      refine QW_e (m_104 hs1 ⟨k0, by omega⟩ ⟨hg'.1, by omega⟩ (by rw [m_P0]; exact hp k k0 (by omega)) (by rw [m_P0]; exact hp _ hg'.1 hg'.2)) ?_
      rw [m_P0, m_P0]
      dsimp only
      by_cases c : likeP (m_P s k) (m_P s (q_F s 38 18)) = true
      · rw [if_pos c]
        refine QW_g (by decide) ?_
        refine QW_it (by decide) ?_
        refine QW_s ?_
        simp only [g_142]
        refine QW_g (by decide) ?_
        refine QW_it (by simp) ?_
        refine QW_m (K6 k) (fun q hq => ?_)
        rw [hq]
        show (q_sf s 38 0 0, k) = (q_sf s 38 0 0, if likeP (m_P s k) (m_P s (q_F s 38 18)) = true then k else _)
        rw [if_pos c]
      · rw [if_neg c]
        refine QW_g (by decide) ?_
        refine QW_if (by decide) ?_
        have hk : k ≠ q_F s 38 18 := fun z => c (by rw [z]; exact likeP_rf _)
        refine QW_m (ih (k + 1) (by omega) (by omega) (by omega)) (fun q hq => ?_)
        rw [hq]
        show (q_sf s 38 0 0, _) = (q_sf s 38 0 0, if likeP (m_P s k) (m_P s (q_F s 38 18)) = true then k else fstLk (m_P s) (q_F s 38 18) f (k + 1))
        rw [if_neg c]
  have B1 : ∀ b : Int, (b = if q_F s 38 17 = 3 then 1 else 0) → QW (fun n => g_142 o n 1 (q_sf s 38 0 0) 38 w 0 0 b) (fun q => q = (q_sf s 38 0 0, if w = 0 then (if q_F s 38 17 = 3 then 0 else q_F s 38 19) else if w = 1 then (if q_F s 38 17 = 3 then 0 else q_F s 38 20) else if w = 2 then (if q_F s 38 17 = 3 then -1 else fstLk (m_P s) (q_F s 38 18) 20 0) else if w = 3 then (if q_F s 38 17 = 3 ∨ q_F s 38 21 = -1 then 0 else 1) else -1)) := fun b hb => by
    have hb01 : b = 0 ∨ b = 1 := by rw [hb]; split <;> omega
    have hb0 : b = 0 → q_F s 38 17 ≠ 3 := fun z y => by rw [if_pos y] at hb; omega
    have hb1 : b ≠ 0 → q_F s 38 17 = 3 := fun z => by
      by_cases y : q_F s 38 17 = 3
      · exact y
      · rw [if_neg y] at hb; exact absurd hb z
    have hbi : q_in b := by unfold q_in; omega
    refine QW_s ?_
    simp only [g_142]
    refine QW_g hw ?_
    refine QW_by (fun z => ?_) (fun z => ?_)
    · rw [if_neg (by omega), if_neg (by omega), if_neg (by omega), if_neg (by omega)]
      exact QW_ret rfl
    · refine QW_by (fun w0 => ?_) (fun w0 => ?_)
      · rw [if_pos w0]
        refine QW_g hbi ?_
        refine QW_by (fun y => ?_) (fun y => ?_)
        · rw [if_neg (hb0 y)]
          refine QW_p (k_gi (hs1 _ _ rfl) rfl) ?_
          rw [e 19 (by decide)]
          exact K2 _
        · rw [if_pos (hb1 y)]
          exact K2 _
      · rw [if_neg w0]
        refine QW_by (fun w1 => ?_) (fun w1 => ?_)
        · rw [if_pos w1]
          refine QW_g hbi ?_
          refine QW_by (fun y => ?_) (fun y => ?_)
          · rw [if_neg (hb0 y)]
            refine QW_p (k_gi (hs1 _ _ rfl) rfl) ?_
            rw [e 20 (by decide)]
            exact K3 _
          · rw [if_pos (hb1 y)]
            exact K3 _
        · rw [if_neg w1]
          refine QW_by (fun w2 => ?_) (fun w2 => ?_)
          · rw [if_pos w2]
            by_cases y : b = 0
            · rw [if_neg (hb0 y)]
              subst y
              exact L (hb0 rfl) 20 0 (by omega) (hg (hb0 rfl)).1 (by omega)
            · rw [if_pos (hb1 y)]
              refine QW_s ?_
              simp only [g_142]
              refine QW_g hbi ?_
              refine QW_it y ?_
              refine QW_s ?_
              simp only [g_142]
              refine QW_g hbi ?_
              refine QW_if y ?_
              exact K6 _
          · rw [if_neg w2]
            refine QW_it (by omega) ?_
            rw [if_pos (show w = 3 by omega)]
            refine QW_g hbi ?_
            refine QW_by (fun y => ?_) (fun y => ?_)
            · rw [if_pos (Or.inl (hb1 y))]
              exact K7
            · have y := Decidable.of_not_not y
              refine QW_p (k_gi (hs1 _ _ rfl) rfl) ?_
              rw [e 21 (by decide)]
              refine QW_g (hsw (hb0 y)) ?_
              refine QW_by (fun v => ?_) (fun v => ?_)
              · rw [if_pos (Or.inr v)]
                exact K7
              · rw [if_neg (fun q => q.elim (hb0 y) v)]
                exact K8 1
  refine QW_s ?_
  simp only [g_142]
  refine QW_p (k_pi (hs _ _ rfl) rfl rfl) ?_
  refine QW_p (k_gi (hs1 _ _ rfl) rfl) ?_
  rw [e 17 (by decide)]
  refine QW_g (by omega) ?_
  refine QW_by (fun z => ?_) (fun z => ?_)
  · exact B1 0 (by rw [if_neg z])
  · exact B1 1 (by rw [if_pos (Decidable.of_not_not z)])
/-- fields that no run reads -/
theorem GM.s0 {Ps : Int → PT} {nP sec : Int} {sig : Int → Int64} {G : GT} (g : GM Ps nP sec sig G s) {f : Nat} {v : Int} (hf : f = 0 ∨ f = 1 ∨ f = 16 ∨ f = 49 ∨ f = 50) : GM Ps nP sec sig G (q_sf s 38 f v) := by
  obtain ⟨g1, g2, g3, g4, g5, g6, g7, g8, g9, g10, g11, g12⟩ := g
  have e : ∀ h : Nat, ¬ h = f → q_F (q_sf s 38 f v) 38 h = q_F s 38 h := fun h hh => by rw [q_F_sf, if_neg (fun z => hh z.2)]
  refine ⟨⟨(e 8 (by omega)).trans g1.1, by rw [e 47 (by omega), e 22 (by omega), e 36 (by omega)]; exact g1.2⟩, (e 19 (by omega)).trans g2, fun k h0 h1 => (m_P0 k).trans (g3 k h0 h1), g4, g5, g6, fun j h0 h1 => ?_, (e 20 (by omega)).trans g8, (e 21 (by omega)).trans g9, (e 18 (by omega)).trans g10, (e 46 (by omega)).trans g11, (e 45 (by omega)).trans g12⟩
  rw [q_I_sf, if_neg (fun z => by have := z.1; omega)]
  exact g7 j h0 h1
theorem MR.s0 {K : Nat} {Ps : Int → PT} {szs : Int → Int → Int} {nP : Int} {sig : Int → Int64} {st sec : Int} {G : GT} {t : BT K} {al : Int × Int × Int} (h : MR Ps szs nP sig s st sec G t al) {f : Nat} {v : Int} (hf : f = 0 ∨ f = 1 ∨ f = 16 ∨ f = 49 ∨ f = 50) : MR Ps szs nP sig (q_sf s 38 f v) st sec G t al := by
  have ne : ¬ 17 = f ∧ ¬ 47 = f ∧ ¬ 22 = f ∧ ¬ 36 = f ∧ ¬ 23 = f ∧ ¬ 24 = f ∧ ¬ 25 = f := by clear h; omega
  obtain ⟨n17, n47, n22, n36, n23, n24, n25⟩ := ne
  obtain ⟨h1, h2, h3, ⟨G2, h4, h5⟩, h6, h7, h8, h9, h10⟩ := h
  have e : ∀ h : Nat, ¬ h = f → q_F (q_sf s 38 f v) 38 h = q_F s 38 h := fun h hh => by rw [q_F_sf, if_neg (fun z => hh z.2)]
  refine ⟨h1, (e 17 n17).trans h2, h3, ⟨G2, h4, h5.s0 hf⟩, h6, fun z => ?_, fun z => ?_, fun z => ?_, h10⟩
  · obtain ⟨⟨it, bb, a1, a2⟩, a3, a4⟩ := h7 z
    exact ⟨⟨it, bb, a1.glob h1 (a1.2.1.s0 hf) rfl sf_I (e 47 n47) (e 36 n36), a2⟩, a3, a4⟩
  · obtain ⟨z1, z2, z3, z4, z5⟩ := h8 z
    exact ⟨(e 47 n47).trans z1, (e 22 n22).trans z2, (e 23 n23).trans z3, (e 24 n24).trans z4, (e 25 n25).trans z5⟩
  · obtain ⟨z1, z2⟩ := h9 z
    exact ⟨(e 47 n47).trans z1, (e 22 n22).trans z2⟩
/-- step -/
theorem m_137 {K : Nat} (hK : 61 ≤ K) {Ps : Int → PT} {szs : Int → Int → Int} {nP : Int} {sig : Int → Int64} {st sec : Int} {G : GT} {t : BT K} {al : Int × Int × Int} (h : MR Ps szs nP sig s st sec G t al) {k x : Int} (hk : q_in k) :
    QW (fun n => g_137 o n 0 s 38 k x) (fun q => q.2 = (if st = 1 ∧ 0 ≤ k then (stnA K t k).2 else -1) ∧ ∃ y, q.1 = q_sf (q_sf s 38 0 0) 38 49 y) := by
  have hs := h.1
  have h17 := h.2.1
  have hst := h.2.2.1
  have hs1 : SH (q_sf (q_sf s 38 0 0) 38 49 k) := hs
  have e17 : q_F (q_sf (q_sf s 38 0 0) 38 49 k) 38 17 = st := by rw [q_F_sf, if_neg (by decide), q_F_sf, if_neg (by decide)]; exact h17
  have K2 : ∀ (s1 : Q_S) (x : Int), QW (fun n => g_137 o n 2 s1 0 0 x) (fun q => q = (s1, x)) := fun s1 x => by
    refine QW_s ?_
    simp only [g_137]
    exact QW_ret rfl
  have K1 : QW (fun n => g_137 o n 1 (q_sf (q_sf s 38 0 0) 38 49 k) 0 0 0) (fun q => q = (q_sf (q_sf s 38 0 0) 38 49 k, -1)) := by
    refine QW_s ?_
    simp only [g_137]
    exact K2 _ _
  refine QW_s ?_
  simp only [g_137]
  refine QW_p (k_pi (hs _ _ rfl) rfl rfl) ?_
  refine QW_p (k_pi (show q_T (q_sf s 38 0 0) 38 = _ from hs _ _ rfl) rfl rfl) ?_
  refine QW_p (k_gi (hs1 _ _ rfl) rfl) ?_
  rw [e17]
  refine QW_g (by omega) ?_
  refine QW_by (fun z => ?_) (fun z => ?_)
  · refine QW_m K1 (fun q hq => ?_)
    rw [hq, if_neg (fun y => z y.1)]
    exact ⟨rfl, k, rfl⟩
  · have z := Decidable.of_not_not z
    refine QW_g hk ?_
    refine QW_by (fun y => ?_) (fun y => ?_)
    · refine QW_m K1 (fun q hq => ?_)
      rw [hq, if_neg (by omega)]
      exact ⟨rfl, k, rfl⟩
    · have h1 := (h.s0 (f := 0) (v := 0) (Or.inl rfl)).s0 (f := 49) (v := k) (by omega)
      obtain ⟨_, _, _, _, hg, h7, _, _, _⟩ := h1
      obtain ⟨⟨it, bb, a1, a2⟩, a3, a4⟩ := h7 z
      have hW := hg.2.2.2.2.1 _ hg.2.2.2.2.2.1 hg.2.2.2.2.2.2.1
      refine QW_p (k_rc (hs1 _ _ rfl)) ?_
      have hr := r_stand (o := o) hW.1 hW.2.1 K none 0 (-1) t _ it 60 k hs1 a3 a1.2.2.1 (Or.inl ⟨rfl, rfl⟩) (by rw [q_F_sf, if_pos ⟨rfl, rfl⟩]) (by omega) (by unfold q_in at hk; omega) (by omega)
      rw [a2] at hr
      refine QW_e hr ?_
      refine QW_m (K2 _ _) (fun q hq => ?_)
      rw [hq, if_pos ⟨z, by omega⟩]
      refine ⟨rfl, (stnA K t k).1, ?_⟩
      show q_sf (q_sf (q_sf s 38 0 0) 38 49 k) 38 49 _ = _
      unfold q_sf q_si
      refine congrArg (fun z => (s.1, s.2.1, s.2.2.1, z, s.2.2.2.2)) (funext fun a => funext fun j => ?_)
      dsimp only
      by_cases c : a = 38 ∧ j = ((49 : Nat) : Int)
      · rw [if_pos c, if_pos c]
      · rw [if_neg c, if_neg c, if_neg c]
/-- tick: what it refuses, and the seconds -/
theorem m_108n (hs : SH s) {i : Int} (hi : q_in i) (h : i < 0 ∨ 10000 < i) {j : Int} : QW (fun n => g_108 o n 0 s 38 i j) (fun q => q = (q_sf s 38 0 0, -1)) := by
  have K1 : QW (fun n => g_108 o n 1 (q_sf s 38 0 0) 0 0 0) (fun q => q = (q_sf s 38 0 0, -1)) := by
    refine QW_s ?_
    simp only [g_108]
    exact QW_ret rfl
  refine QW_s ?_
  simp only [g_108]
  refine QW_p (k_pi (hs _ _ rfl) rfl rfl) ?_
  refine QW_g hi ?_
  refine QW_by (fun z => K1) (fun z => ?_)
  refine QW_g hi ?_
  refine QW_if (by omega) ?_
  exact K1
theorem m_108y (hs : SH s) {i : Int} (hi : 0 ≤ i ∧ i ≤ 10000) {j : Int} {Q : Q_S × Int → Prop} (k : QW (fun n => g_108 o n 2 (q_sf s 38 0 0) 38 i 0) Q) : QW (fun n => g_108 o n 0 s 38 i j) Q := by
  refine QW_s ?_
  simp only [g_108]
  refine QW_p (k_pi (hs _ _ rfl) rfl rfl) ?_
  refine QW_g (by omega) ?_
  refine QW_if (by omega) ?_
  refine QW_g (by omega) ?_
  refine QW_it (by omega) ?_
  exact k
end RMP
