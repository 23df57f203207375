/-! THE REFERENCE'S OTHER CALLS -/
/-- two programs alike -/
def eqAt (P P' : PT) (i : Int) : Bool := decide (P_w P i = P_w P' i) && decide (P_v P i = P_v P' i) && decide (P_1 P i = P_1 P' i) && decide (P_2 P i = P_2 P' i) && decide (P_3 P i = P_3 P' i)
def likeU (P P' : PT) : Nat → Int → Bool
  | 0, _ => true
  | f + 1, i => eqAt P P' i && likeU P P' f (i + 1)
def likeP (P P' : PT) : Bool := decide (P_n P = P_n P') && likeU P P' (P_n P).toNat 0
/-- the first that is like it -/
def fstLk (Ps : Int → PT) (g : Int) : Nat → Int → Int
  | 0, k => k
  | f + 1, k => if likeP (Ps k) (Ps g) = true then k else fstLk Ps g f (k + 1)
/-- parts in range -/
def PQ (P : PT) : Prop := 0 ≤ P_n P ∧ P_n P ≤ 500 ∧ ∀ p, 0 ≤ p → p < P_n P → (0 ≤ P_w P p ∧ P_w P p ≤ 200) ∧ (-1 ≤ P_1 P p ∧ P_1 P p < 500) ∧ (-1 ≤ P_2 P p ∧ P_2 P p < 500) ∧ (-1 ≤ P_3 P p ∧ P_3 P p < 500)
theorem likeU_rf (P : PT) : ∀ (f : Nat) (i : Int), likeU P P f i = true := by
  intro f
  induction f with
  | zero => intro i; rfl
  | succ f ih => intro i; simp [likeU, eqAt, ih]
theorem likeP_rf (P : PT) : likeP P P = true := by simp [likeP, likeU_rf]
section RMO
variable {o : X_O} {s : Q_S}
theorem m_139 (hs : SH s) {k w : Int} (hk : q_in k) (hw : q_in w) (hst : 0 ≤ q_F s 38 17 ∧ q_F s 38 17 ≤ 3) (ha : q_F s 38 22 = 0 ∨ q_F s 38 22 = 1) {t : Int} : QW (fun n => g_139 o n 0 s 38 k w t) (fun q => q = (q_sf s 38 0 0, if q_F s 38 17 = 3 ∨ k < 0 ∨ q_F s 38 22 ≤ k then -1 else if w = 0 then q_F s 38 23 else if w = 1 then q_F s 38 24 else if w = 2 then q_F s 38 25 else -1)) := by
  have e : ∀ f : Nat, f ≠ 0 → q_F (q_sf s 38 0 0) 38 f = q_F s 38 f := fun f hf => by rw [q_F_sf, if_neg (fun z => hf z.2)]
  have hs1 : SH (q_sf s 38 0 0) := hs
  have K1 : QW (fun n => g_139 o n 1 (q_sf s 38 0 0) 0 0 0 0) (fun q => q = (q_sf s 38 0 0, -1)) := by
    refine QW_s ?_
    simp only [g_139]
    exact QW_ret rfl
  have K2 : ∀ x : Int, QW (fun n => g_139 o n 2 (q_sf s 38 0 0) 0 0 0 x) (fun q => q = (q_sf s 38 0 0, x)) := fun x => by
    refine QW_s ?_
    simp only [g_139]
    exact QW_ret rfl
  refine QW_s ?_
  simp only [g_139]
  refine QW_p (k_pi (hs _ _ rfl) rfl rfl) ?_
  refine QW_p (k_gi (hs1 _ _ rfl) rfl) ?_
  rw [e 17 (by decide)]
  refine QW_g (by omega) ?_
  refine QW_by (fun z => ?_) (fun z => ?_)
  · rw [if_pos (Or.inl z)]
    exact K1
  · refine QW_g hk ?_
    refine QW_by (fun y => ?_) (fun y => ?_)
    · rw [if_pos (Or.inr (Or.inl y))]
      exact K1
    · refine QW_p (k_gi (hs1 _ _ rfl) rfl) ?_
      rw [e 22 (by decide)]
      refine QW_g ⟨hk, by unfold q_in; omega⟩ ?_
      refine QW_by (fun x => ?_) (fun x => ?_)
      · have hx : ¬ (q_F s 38 17 = 3 ∨ k < 0 ∨ q_F s 38 22 ≤ k) := by omega
        rw [if_neg hx]
        refine QW_g hw ?_
        refine QW_by (fun w0 => ?_) (fun w0 => ?_)
        · rw [if_neg w0]
          refine QW_g hw ?_
          refine QW_by (fun w1 => ?_) (fun w1 => ?_)
          · rw [if_neg w1]
            refine QW_g hw ?_
            refine QW_by (fun w2 => ?_) (fun w2 => ?_)
            · rw [if_neg w2]
              exact K2 _
            · rw [if_pos (Decidable.of_not_not w2)]
              refine QW_p (k_gi (hs1 _ _ rfl) rfl) ?_
              rw [e 25 (by decide)]
              exact K2 _
          · rw [if_pos (Decidable.of_not_not w1)]
            refine QW_p (k_gi (hs1 _ _ rfl) rfl) ?_
            rw [e 24 (by decide)]
            exact K2 _
        · rw [if_pos (Decidable.of_not_not w0)]
          refine QW_p (k_gi (hs1 _ _ rfl) rfl) ?_
          rw [e 23 (by decide)]
          exact K2 _
      · rw [if_pos (by omega)]
        exact K1
theorem m_141 (hs : SH s) {i : Int} (hi : q_in i) {a : Value} {b t : Int} : QW (fun n => g_141 o n 0 s 38 i a b t) (fun q => q = if i < 0 ∨ 9 < i then (q_sf s 38 0 1, 0) else (q_sf s 38 0 0, tbl i)) := by
  have K3 : ∀ (s1 : Q_S) (x : Int), QW (fun n => g_141 o n 3 s1 0 0 .null 0 x) (fun q => q = (s1, x)) := fun s1 x => by
    refine QW_s ?_
    simp only [g_141]
    exact QW_ret rfl
  have K1 : QW (fun n => g_141 o n 1 s 38 i (.ref 38) 0 0) (fun q => q = (q_sf s 38 0 1, 0)) := by
    refine QW_s ?_
    simp only [g_141]
    refine QW_s ?_
    simp only [g_141]
    refine QW_p (k_pi (hs _ _ rfl) rfl rfl) ?_
    refine QW_p (k_gi (show q_T (q_sf s 38 0 1) 38 = _ from hs _ _ rfl) rfl) ?_
    rw [show q_F (q_sf s 38 0 1) 38 0 = 1 by rw [q_F_sf, if_pos ⟨rfl, rfl⟩]]
    refine QW_g (by decide) ?_
    refine QW_if (by decide) ?_
    exact K3 _ _
  refine QW_s ?_
  simp only [g_141]
  refine QW_g hi ?_
  refine QW_by (fun z => ?_) (fun z => ?_)
  · rw [if_pos (Or.inl z)]
    exact K1
  · refine QW_g hi ?_
    refine QW_by (fun y => ?_) (fun y => ?_)
    · rw [if_neg (by omega)]
      refine QW_s ?_
      simp only [g_141]
      refine QW_p (k_pi (hs _ _ rfl) rfl rfl) ?_
      refine QW_p (k_gi (show q_T (q_sf s 38 0 0) 38 = _ from hs _ _ rfl) rfl) ?_
      rw [show q_F (q_sf s 38 0 0) 38 0 = 0 by rw [q_F_sf, if_pos ⟨rfl, rfl⟩]]
      refine QW_g (by decide) ?_
      refine QW_it (by decide) ?_
      refine QW_e (m_115 (s := q_sf s 38 0 0) hs (by omega) y) ?_
      exact K3 _ _
    · rw [if_pos (by omega)]
      exact K1
set_option maxHeartbeats 1000000 in
/-- isLike -/
theorem m_104 (hs : SH s) {a b : Int} (ha : 0 ≤ a ∧ a < 20) (hb : 0 ≤ b ∧ b < 20) (pa : PQ (m_P s a)) (pb : PQ (m_P s b)) {x y z : Int} : QW (fun n => g_104 o n 0 s 38 a b x y z) (fun q => q = (s, if likeP (m_P s a) (m_P s b) = true then 1 else 0)) := by
  have eN : ∀ k, P_n (m_P s k) = q_I s 45 k := fun _ => rfl
  obtain ⟨a0, a5, aa⟩ := pa
  obtain ⟨b0, b5, bb⟩ := pb
  rw [eN] at a0 a5 b0 b5
  have K5 : ∀ i3 : Int, i3 = 0 ∨ i3 = 1 → QW (fun n => g_104 o n 5 s 0 0 0 i3 0 0) (fun q => q = (s, i3)) := fun i3 h => by
    refine QW_s ?_
    simp only [g_104]
    refine QW_g h ?_
    exact QW_ret rfl
  have Z : ∀ i4 : Int, 0 ≤ i4 → i4 ≤ 500 → QW (fun n => g_104 o n 2 s 38 a b 0 i4 0) (fun q => q = (s, 0)) := fun i4 h0 h1 => by
    refine QW_s ?_
    simp only [g_104]
    refine QW_p (k_gv (hs _ _ rfl) rfl rfl) ?_
    refine QW_p (k_ia (hs _ _ rfl) ha.1 (by omega) (by decide)) ?_
    refine QW_g (by omega) ?_
    refine QW_by (fun _ => K5 0 (Or.inl rfl)) (fun _ => ?_)
    refine QW_g (by decide) ?_
    refine QW_it (by simp) ?_
    exact K5 0 (Or.inl rfl)
  -- one of them differs
  have D : ∀ i4 : Int, 0 ≤ i4 → i4 < 500 → QW (fun n => g_104 o n 3 s 38 a b 0 i4 0) (fun q => q = (s, 0)) := fun i4 h0 h1 => by
    refine QW_s ?_
    simp only [g_104]
    refine QW_s ?_
    simp only [g_104]
    exact Z (i4 + 1) (by omega) (by omega)
  have L : ∀ (f : Nat) (i4 : Int), 0 ≤ i4 → i4 + f = q_I s 45 a → q_I s 45 a = q_I s 45 b → QW (fun n => g_104 o n 2 s 38 a b 1 i4 0) (fun q => q = (s, if likeU (m_P s a) (m_P s b) f i4 = true then 1 else 0)) := by
    intro f
    induction f with
    | zero =>
      intro i4 h0 h1 hab
      refine QW_s ?_
      simp only [g_104]
      refine QW_p (k_gv (hs _ _ rfl) rfl rfl) ?_
      refine QW_p (k_ia (hs _ _ rfl) ha.1 (by omega) (by decide)) ?_
      refine QW_g (by omega) ?_
      refine QW_it (by omega) ?_
      exact K5 1 (Or.inr rfl)
    | succ f ih =>
      intro i4 h0 h1 hab
      push_cast at h1
      have hi5 : 0 ≤ i4 ∧ i4 < 500 := ⟨h0, by omega⟩
      have eW : ∀ k, P_w (m_P s k) i4 = q_I s 46 (500 * k + i4) := fun k => mPw hi5
      have eV : ∀ k, P_v (m_P s k) i4 = q_L s 47 (500 * k + i4) := fun k => mPv hi5
      have e1 : ∀ k, P_1 (m_P s k) i4 = q_I s 48 (500 * k + i4) := fun k => mP1 hi5
      have e2 : ∀ k, P_2 (m_P s k) i4 = q_I s 49 (500 * k + i4) := fun k => mP2 hi5
      have e3 : ∀ k, P_3 (m_P s k) i4 = q_I s 50 (500 * k + i4) := fun k => mP3 hi5
      obtain ⟨x1, x2, x3, x4⟩ := aa i4 h0 (by rw [eN]; omega)
      obtain ⟨y1, y2, y3, y4⟩ := bb i4 h0 (by rw [eN]; omega)
      rw [eW] at x1 y1
      rw [e1] at x2 y2
      rw [e2] at x3 y3
      rw [e3] at x4 y4
      have dd : eqAt (m_P s a) (m_P s b) i4 = false → likeU (m_P s a) (m_P s b) (f + 1) i4 = false := fun h => by
        show (eqAt (m_P s a) (m_P s b) i4 && likeU (m_P s a) (m_P s b) f (i4 + 1)) = false
        rw [h]
        rfl
      refine QW_s ?_
      simp only [g_104]
      refine QW_p (k_gv (hs _ _ rfl) rfl rfl) ?_
      refine QW_p (k_ia (hs _ _ rfl) ha.1 (by omega) (by decide)) ?_
      refine QW_g (by omega) ?_
      refine QW_if (by omega) ?_
      refine QW_g (by decide) ?_
      refine QW_if (by decide) ?_
      refine QW_p (k_gv (hs _ _ rfl) rfl rfl) ?_
      refine QW_p (k_ia (hs _ _ rfl) (by omega) (by omega) (by decide)) ?_
      refine QW_p (k_gv (hs _ _ rfl) rfl rfl) ?_
      refine QW_p (k_ia (hs _ _ rfl) (by omega) (by omega) (by decide)) ?_
      refine QW_g (by omega) ?_
      refine QW_by (fun n1 => ?_) (fun n1 => ?_)
      · rw [dd (by simp [eqAt, eW, n1])]
        exact D i4 h0 (by omega)
      · have n1 := Decidable.of_not_not n1
        refine QW_p (k_gv (hs _ _ rfl) rfl rfl) ?_
        refine QW_p (k_la (hs _ _ rfl) (by omega) (by omega) (by decide)) ?_
        refine QW_p (k_gv (hs _ _ rfl) rfl rfl) ?_
        refine QW_p (k_la (hs _ _ rfl) (by omega) (by omega) (by decide)) ?_
        refine QW_by (fun n2 => ?_) (fun n2 => ?_)
        · rw [dd (by simp [eqAt, eV, n2])]
          exact D i4 h0 (by omega)
        · have n2 := Decidable.of_not_not n2
          refine QW_p (k_gv (hs _ _ rfl) rfl rfl) ?_
          refine QW_p (k_ia (hs _ _ rfl) (by omega) (by omega) (by decide)) ?_
          refine QW_p (k_gv (hs _ _ rfl) rfl rfl) ?_
          refine QW_p (k_ia (hs _ _ rfl) (by omega) (by omega) (by decide)) ?_
          refine QW_g (by omega) ?_
          refine QW_by (fun n3 => ?_) (fun n3 => ?_)
          · rw [dd (by simp [eqAt, e1, n3])]
            exact D i4 h0 (by omega)
          · have n3 := Decidable.of_not_not n3
            refine QW_p (k_gv (hs _ _ rfl) rfl rfl) ?_
            refine QW_p (k_ia (hs _ _ rfl) (by omega) (by omega) (by decide)) ?_
            refine QW_p (k_gv (hs _ _ rfl) rfl rfl) ?_
            refine QW_p (k_ia (hs _ _ rfl) (by omega) (by omega) (by decide)) ?_
            refine QW_g (by omega) ?_
            refine QW_by (fun n4 => ?_) (fun n4 => ?_)
            · rw [dd (by simp [eqAt, e2, n4])]
              exact D i4 h0 (by omega)
            · have n4 := Decidable.of_not_not n4
              refine QW_p (k_gv (hs _ _ rfl) rfl rfl) ?_
              refine QW_p (k_ia (hs _ _ rfl) (by omega) (by omega) (by decide)) ?_
              refine QW_p (k_gv (hs _ _ rfl) rfl rfl) ?_
              refine QW_p (k_ia (hs _ _ rfl) (by omega) (by omega) (by decide)) ?_
              refine QW_g (by omega) ?_
              refine QW_by (fun n5 => ?_) (fun n5 => ?_)
              · rw [dd (by simp [eqAt, e3, n5])]
                exact D i4 h0 (by omega)
              · have n5 := Decidable.of_not_not n5
                have ee : eqAt (m_P s a) (m_P s b) i4 = true := by simp [eqAt, eW, eV, e1, e2, e3, n1, n2, n3, n4, n5]
                have el : likeU (m_P s a) (m_P s b) (f + 1) i4 = likeU (m_P s a) (m_P s b) f (i4 + 1) := by
                  show (eqAt (m_P s a) (m_P s b) i4 && likeU (m_P s a) (m_P s b) f (i4 + 1)) = _
                  rw [ee, Bool.true_and]
                rw [el]
                refine QW_s ?_
                simp only [g_104]
                exact ih (i4 + 1) (by omega) (by omega) hab
  refine QW_s ?_
  simp only [g_104]
  refine QW_p (k_gv (hs _ _ rfl) rfl rfl) ?_
  refine QW_p (k_ia (hs _ _ rfl) ha.1 (by omega) (by decide)) ?_
  refine QW_p (k_gv (hs _ _ rfl) rfl rfl) ?_
  refine QW_p (k_ia (hs _ _ rfl) hb.1 (by omega) (by decide)) ?_
  refine QW_g (by omega) ?_
  refine QW_by (fun n0 => ?_) (fun n0 => ?_)
  · have : likeP (m_P s a) (m_P s b) = false := by simp [likeP, eN, n0]
    rw [this]
    refine QW_s ?_
    simp only [g_104]
    exact Z 0 (by omega) (by omega)
  · have n0 := Decidable.of_not_not n0
    have : likeP (m_P s a) (m_P s b) = likeU (m_P s a) (m_P s b) (q_I s 45 a).toNat 0 := by simp [likeP, eN, n0]
    rw [this]
    refine QW_s ?_
    simp only [g_104]
    exact L (q_I s 45 a).toNat 0 (by omega) (by omega) n0
theorem m_102 (hs : SH s) {nP a b t : Int} (hn : q_F s 38 8 = nP) (hn1 : 0 ≤ nP ∧ nP ≤ 20) (hp : ∀ k, 0 ≤ k → k < nP → PQ (m_P s k)) (ha : q_in a) (hb : q_in b) : QW (fun n => g_102 o n 0 s 38 a b t) (fun q => q = (q_sf s 38 0 0, if (0 ≤ a ∧ a < nP) ∧ (0 ≤ b ∧ b < nP) ∧ likeP (m_P s a) (m_P s b) = true then 1 else 0)) := by
  have hs1 : SH (q_sf s 38 0 0) := hs
  have e8 : q_F (q_sf s 38 0 0) 38 8 = nP := by rw [q_F_sf, if_neg (by decide)]; exact hn
  have eP : ∀ k, m_P (q_sf s 38 0 0) k = m_P s k := fun k => by
    unfold m_P
    simp only [q_I_sf, q_L_sf]
    simp
  have K2 : ∀ x : Int, x = 0 ∨ x = 1 → QW (fun n => g_102 o n 2 (q_sf s 38 0 0) 0 0 0 x) (fun q => q = (q_sf s 38 0 0, x)) := fun x hx => by
    refine QW_s ?_
    simp only [g_102]
    refine QW_g hx ?_
    exact QW_ret rfl
  have K1 : QW (fun n => g_102 o n 1 (q_sf s 38 0 0) 0 0 0 0) (fun q => q = (q_sf s 38 0 0, 0)) := by
    refine QW_s ?_
    simp only [g_102]
    exact K2 0 (Or.inl rfl)
  have M := fun k (hk : q_in k) => m_103 (o := o) (s := q_sf s 38 0 0) (k := k) (t := 0) hs1 hk (by omega)
  simp only [e8] at M
  refine QW_s ?_
  simp only [g_102]
  refine QW_p (k_pi (hs _ _ rfl) rfl rfl) ?_
  refine QW_p (k_rc (hs1 _ _ rfl)) ?_
  refine QW_e (M a ha) ?_
  dsimp only
  by_cases c : 0 ≤ a ∧ a < nP
  · rw [if_pos c]
    refine QW_g (by decide) ?_
    refine QW_if (by decide) ?_
    refine QW_p (k_rc (hs1 _ _ rfl)) ?_
    refine QW_e (M b hb) ?_
    dsimp only
    by_cases c1 : 0 ≤ b ∧ b < nP
    · rw [if_pos c1]
      refine QW_g (by decide) ?_
      refine QW_if (by decide) ?_
      refine QW_p (k_rc (hs1 _ _ rfl)) ?_
      refine QW_e (m_104 hs1 ⟨c.1, by omega⟩ ⟨c1.1, by omega⟩ (by rw [eP]; exact hp a c.1 c.2) (by rw [eP]; exact hp b c1.1 c1.2)) ?_
      rw [eP, eP]
      dsimp only
      by_cases c2 : likeP (m_P s a) (m_P s b) = true
      · rw [if_pos c2, if_pos ⟨c, c1, c2⟩]
        refine QW_g (by decide) ?_
        refine QW_if (by decide) ?_
        exact K2 1 (Or.inr rfl)
      · rw [if_neg c2, if_neg (fun z => c2 z.2.2)]
        refine QW_g (by decide) ?_
        refine QW_it (by simp) ?_
        exact K1
    · rw [if_neg c1, if_neg (fun z => c1 z.2.1)]
      refine QW_g (by decide) ?_
      refine QW_it rfl ?_
      exact K1
  · rw [if_neg c, if_neg (fun z => c z.1)]
    refine QW_g (by decide) ?_
    refine QW_it rfl ?_
    exact K1
end RMO
