/-! THE REFERENCE'S make: countPlaces, make -/
section RML
variable {o : X_O} {T : PT} {s : Q_S} {k p : Int}
theorem m501_v {x : Int} : m501 x = if x ≤ 500 then x else 501 := by
  unfold m501
  split <;> split <;> omega
set_option maxHeartbeats 1000000 in
/-- countPlaces -/
theorem m_100 (hV : NV T) (hs : SH s) (hN : NRr T s) : ∀ (f : Nat) (i : Int) (e : Nat), i < f → f ≤ e + 1 → inT T i → QW (fun m => g_100 o m e 0 s 38 i 0 0 0 0) (fun q => q = (s, m501 (Zn T i))) := by
  have hn := hN.2.1
  intro f
  induction f with
  | zero => intro i e hi _ hT; have := hT.1; omega
  | succ f ih =>
    intro i e hi he hT
    have hT0 := hT.1
    have hT1 := hT.2
    obtain ⟨r0, r1, r2, r3, r4, r5⟩ := hN.2.2.2 i hT.1 hT.2
    have ez := Zn_eq hV hn hT
    have z1 := zc_0 (T := T) (P_1 T i)
    have z2 := zc_0 (T := T) (P_2 T i)
    have z3 := zc_0 (T := T) (P_3 T i)
    obtain ⟨p1, p2, p3⟩ := prts hV hT
    have E : ∀ sm j : Int, (j = 0 ∨ j = 1 ∨ j = 2 ∨ j = 3) → (j = 3 ∨ 500 < sm) → 0 ≤ sm → sm ≤ 5000 → QW (fun m => g_100 o m e 1 s 38 i sm j 0 0) (fun q => q = (s, m501 sm)) := fun sm j hj h1 h2 h3 => by
      have fin : QW (fun m => g_100 o m e 4 s 0 0 sm 0 0 0) (fun q => q = (s, m501 sm)) := by
        rw [m501_v]
        refine QW_s ?_
        simp only [g_100]
        refine QW_g (by unfold q_in; omega) ?_
        refine QW_by (fun z => ?_) (fun z => ?_)
        · rw [if_pos z]
          refine QW_s ?_
          simp only [g_100]
          exact QW_ret rfl
        · rw [if_neg z]
          refine QW_s ?_
          simp only [g_100]
          exact QW_ret rfl
      refine QW_s ?_
      simp only [g_100]
      refine QW_g (by unfold q_in; omega) ?_
      refine QW_by (fun _ => fin) (fun z => ?_)
      refine QW_g (by unfold q_in; omega) ?_
      refine QW_it (by omega) ?_
      exact fin
    -- one part
    have B2 : ∀ (c sm j : Int) (Q : Q_S × Int → Prop), (c = -1 ∨ (inT T c ∧ c < i)) → QW (fun m => g_100 o m e 1 s 38 i (sm + m501 (zc T c)) (j + 1) 0 0) Q → QW (fun m => g_100 o m e 2 s 38 i sm j c 0) Q := fun c sm j Q hc H => by
      refine QW_s ?_
      simp only [g_100]
      refine QW_g (q_in_p hc (by omega)) ?_
      refine QW_by (fun z => ?_) (fun z => ?_)
      · obtain ⟨c0, c1⟩ := hc.resolve_left z
        have c00 := c0.1
        obtain ⟨e', ee⟩ : ∃ e', e = e' + 1 := ⟨e - 1, by omega⟩
        subst ee
        refine QW_p (show q_dec (e' + 1) = some e' from rfl) ?_
        refine QW_p (k_rc (hs _ _ rfl)) ?_
        refine QW_e (ih c e' (by omega) (by omega) c0) ?_
        refine QW_s ?_
        simp only [g_100]
        rw [zc_n z] at H
        exact H
      · have z := Decidable.not_not.mp z
        refine QW_s ?_
        simp only [g_100]
        rw [z, zc_m] at H
        exact H
    have S : ∀ (sm j c : Int) (Q : Q_S × Int → Prop), 0 ≤ sm → sm ≤ 500 → ((j = 0 ∧ c = P_1 T i) ∨ (j = 1 ∧ c = P_2 T i) ∨ (j = 2 ∧ c = P_3 T i)) → QW (fun m => g_100 o m e 1 s 38 i (sm + m501 (zc T c)) (j + 1) 0 0) Q → QW (fun m => g_100 o m e 1 s 38 i sm j 0 0) Q := fun sm j c Q h1 h2 hj H => by
      refine QW_s ?_
      simp only [g_100]
      refine QW_g (by unfold q_in; omega) ?_
      refine QW_if (by omega) ?_
      refine QW_g (by unfold q_in; omega) ?_
      refine QW_if (by omega) ?_
      refine QW_g (by unfold q_in; omega) ?_
      rcases hj with ⟨rfl, rfl⟩ | ⟨rfl, rfl⟩ | ⟨rfl, rfl⟩
      · refine QW_if (by decide) ?_
        refine QW_p (k_gv (hs _ _ rfl) rfl rfl) ?_
        refine QW_p (k_ia (hs _ _ rfl) (by omega) (by omega) (by decide)) ?_
        rw [r3]
        exact B2 _ _ _ _ p1 H
      · refine QW_it (by decide) ?_
        refine QW_g (by decide) ?_
        refine QW_if (by decide) ?_
        refine QW_p (k_gv (hs _ _ rfl) rfl rfl) ?_
        refine QW_p (k_ia (hs _ _ rfl) (by omega) (by omega) (by decide)) ?_
        rw [r4]
        exact B2 _ _ _ _ p2 H
      · refine QW_it (by decide) ?_
        refine QW_g (by decide) ?_
        refine QW_it (by decide) ?_
        refine QW_p (k_gv (hs _ _ rfl) rfl rfl) ?_
        refine QW_p (k_ia (hs _ _ rfl) (by omega) (by omega) (by decide)) ?_
        rw [r5]
        exact B2 _ _ _ _ p3 H
    have m1 := m501_v (x := zc T (P_1 T i))
    have m2 := m501_v (x := zc T (P_2 T i))
    have m3 := m501_v (x := zc T (P_3 T i))
    have b : ∀ x : Int, 0 ≤ x → 0 ≤ (if x ≤ 500 then x else 501) ∧ (if x ≤ 500 then x else 501) ≤ 501 ∧ (if x ≤ 500 then x else 501) ≤ x ∧ (¬ (if x ≤ 500 then x else 501) = x → (if x ≤ 500 then x else 501) = 501) := fun x hx => by split <;> omega
    have b1 := b _ z1
    have b2 := b _ z2
    have b3 := b _ z3
    rw [← m1] at b1
    rw [← m2] at b2
    rw [← m3] at b3
    clear m1 m2 m3 b
    have mz := m501_v (x := Zn T i)
    refine QW_s ?_
    simp only [g_100]
    refine S 1 0 _ _ (by decide) (by decide) (Or.inl ⟨rfl, rfl⟩) ?_
    have over : ∀ sm : Int, 500 < sm → 500 < Zn T i → m501 sm = m501 (Zn T i) := fun sm h1 h2 => by
      rw [m501_v, m501_v, if_neg (by omega), if_neg (by omega)]
    by_cases c1 : 500 < 1 + m501 (zc T (P_1 T i))
    · rw [← over _ c1 (by omega)]
      exact E _ _ (by decide) (Or.inr c1) (by omega) (by omega)
    · refine S _ _ _ _ (by omega) (by omega) (Or.inr (Or.inl ⟨rfl, rfl⟩)) ?_
      by_cases c2 : 500 < 1 + m501 (zc T (P_1 T i)) + m501 (zc T (P_2 T i))
      · rw [← over _ c2 (by omega)]
        exact E _ _ (by decide) (Or.inr c2) (by omega) (by omega)
      · refine S _ _ _ _ (by omega) (by omega) (Or.inr (Or.inr ⟨rfl, rfl⟩)) ?_
        have ee : m501 (1 + m501 (zc T (P_1 T i)) + m501 (zc T (P_2 T i)) + m501 (zc T (P_3 T i))) = m501 (Zn T i) := by
          by_cases c3 : 500 < 1 + m501 (zc T (P_1 T i)) + m501 (zc T (P_2 T i)) + m501 (zc T (P_3 T i))
          · exact over _ c3 (by omega)
          · congr 1
            omega
        rw [← ee]
        exact E _ _ (by decide) (Or.inl rfl) (by omega) (by omega)
/-- nothing but the programs' places -/
def KM (s s' : Q_S) : Prop := (s'.1 = s.1 ∧ s'.2.1 = s.2.1 ∧ s'.2.2.1 = s.2.2.1) ∧ (∀ a, a ≠ 38 → ¬ (45 ≤ a ∧ a ≤ 51) → ∀ j, q_I s' a j = q_I s a j ∧ q_L s' a j = q_L s a j) ∧ (∀ f : Nat, f ≠ 0 → f ≠ 8 → f ≠ 16 → q_F s' 38 f = q_F s 38 f)
theorem KM.s0 : KM s (q_sf s 38 0 0) := ⟨⟨rfl, rfl, rfl⟩, fun a h1 h2 j => ⟨by rw [q_I_sf, if_neg (fun z => h1 z.1)], rfl⟩, fun f f0 _ _ => by rw [q_F_sf, if_neg (fun z => f0 z.2)]⟩
theorem KM.kl {s1 s2 : Q_S} (h : KM s s1) (g : KL s1 s2 k p) : KM s s2 := by
  obtain ⟨⟨a1, a2, a3⟩, a4, a5⟩ := h
  obtain ⟨⟨b1, b2, b3⟩, b4, b5, b6⟩ := g
  exact ⟨⟨b1.trans a1, b2.trans a2, b3.trans a3⟩, fun a h1 h2 j => ⟨(b4 a h1 (by omega) j).1.trans (a4 a h1 h2 j).1, (b4 a h1 (by omega) j).2.trans (a4 a h1 h2 j).2⟩, fun f f0 f8 f16 => (b5 f f16).trans (a5 f f0 f8 f16)⟩
/-- other programs stay -/
theorem KL.mP {s1 : Q_S} (g : KL s s1 k p) {j : Int} (hj : j < k) (p0 : 0 ≤ p) : m_P s1 j = m_P s j := by
  have e : ∀ (x : Int), 0 ≤ x ∧ x < 500 → ∀ a, 46 ≤ a → a ≤ 51 → q_I s1 a (500 * j + x) = q_I s a (500 * j + x) ∧ q_L s1 a (500 * j + x) = q_L s a (500 * j + x) := fun x hx a h1 h2 => g.2.2.2 a _ h1 h2 (by omega)
  have cI : ∀ a, 46 ≤ a → a ≤ 51 → clI (fun x => q_I s1 a (500 * j + x)) = clI (fun x => q_I s a (500 * j + x)) := fun a h1 h2 => funext fun x => by
    unfold clI
    by_cases z : 0 ≤ x ∧ x < 500
    · rw [if_pos z, if_pos z]; exact (e x z a h1 h2).1
    · rw [if_neg z, if_neg z]
  have cL : clL (fun x => q_L s1 47 (500 * j + x)) = clL (fun x => q_L s 47 (500 * j + x)) := funext fun x => by
    unfold clL
    by_cases z : 0 ≤ x ∧ x < 500
    · rw [if_pos z, if_pos z]; exact (e x z 47 (by decide) (by decide)).2
    · rw [if_neg z, if_neg z]
  unfold m_P
  rw [(g.2.1 45 (by decide) (by decide) j).1, cI 46 (by decide) (by decide), cL, cI 48 (by decide) (by decide), cI 49 (by decide) (by decide), cI 50 (by decide) (by decide), cI 51 (by decide) (by decide)]
/-- make -/
theorem m_99 (hV : NV T) (hs : SH s) (hN : NRr T s) {nP : Int} (h8 : q_F s 38 8 = nP) (hP : 0 ≤ nP ∧ nP ≤ 20) {i : Int} (hi : q_in i) : QW (fun n => g_99 o n 0 s 38 i 0) (fun q => KM s q.1 ∧ (if eS T i = true ∧ Zn T i ≤ 500 then (if nP = 20 then q.2 = -2 ∧ q_F q.1 38 8 = nP ∧ (∀ j, j < nP → m_P q.1 j = m_P s j) else q.2 = nP ∧ q_F q.1 38 8 = nP + 1 ∧ (∀ j, j < nP → m_P q.1 j = m_P s j) ∧ P_n (m_P q.1 nP) = Zn T i ∧ LPr T (m_P q.1 nP) (lyN T i) (lyU T i)) else q.2 = -1 ∧ q_F q.1 38 8 = nP ∧ ∀ j, j < nP → m_P q.1 j = m_P s j)) := by
  have hn := hN.2.1
  have hs1 : SH (q_sf s 38 0 0) := hs
  have hN1 := hN.s0
  have h81 : q_F (q_sf s 38 0 0) 38 8 = nP := by rw [q_F_sf, if_neg (by decide)]; exact h8
  have e0 : ∀ j, m_P (q_sf s 38 0 0) j = m_P s j := fun j => m_P0 j
  refine QW_s ?_
  simp only [g_99]
  refine QW_p (k_pi (hs _ _ rfl) rfl rfl) ?_
  refine QW_p (k_rc (hs1 _ _ rfl)) ?_
  refine QW_e (m_98 hs1 hN1 hi) ?_
  refine QW_g qin01 ?_
  refine QW_by (fun c1 => ?_) (fun c1 => ?_)
  · have hS := tt 0 c1
    have hT : inT T i := by
      have := of_decide_eq_true hS
      exact ⟨this.1, this.2.1⟩
    have hT0 := hT.1
    have hT1 := hT.2
    refine QW_p (k_gi (hs1 _ _ rfl) rfl) ?_
    rw [h81]
    refine QW_g (by unfold q_in; omega) ?_
    refine QW_by (fun c2 => ?_) (fun c2 => ?_)
    · refine QW_p (k_pi (hs1 _ _ rfl) rfl rfl) ?_
      have k1 : KL (q_sf s 38 0 0) (q_sf (q_sf s 38 0 0) 38 16 0) nP 0 := KL.sf
      have hs2 := k1.sh hs1
      have h82 := (k1.2.2.1 8 (by decide)).trans h81
      generalize hs2' : q_sf (q_sf s 38 0 0) 38 16 0 = s2 at k1 hs2 h82
      have f16 : q_F s2 38 16 = 0 := by rw [← hs2', q_F_sf, if_pos ⟨rfl, rfl⟩]
      refine QW_p (k_rc (hs2 _ _ rfl)) ?_
      have L := ly_LT hV hn hT
      have H := m_101 (o := o) hV hn L (k := nP) ⟨hP.1, by omega⟩ 301 i 0 s2 510 (by omega) (by decide) hT (by decide) (by decide) (by have := Zn_1 hV hn hT; omega) L.2.1.1 hs2 (k1.nr hN1) h82 f16
      rw [L.2.1.2.1] at H
      refine QW_c H (fun q hq => ?_)
      obtain ⟨hK, hq⟩ := hq
      rw [Int.zero_add] at hq
      have hsq := hK.sh hs2
      have hM := (KM.s0 (s := s)).kl (k1.tr hK (Int.le_refl _))
      have mj : ∀ j, j < nP → m_P q.1 j = m_P s j := fun j hj => ((hK.mP hj (Int.le_refl _)).trans (k1.mP hj (Int.le_refl _))).trans (e0 j)
      have q8 : q_F q.1 38 8 = nP := (hK.2.2.1 8 (by decide)).trans h82
      by_cases w : Zn T i ≤ 500
      · rw [if_pos w] at hq
        obtain ⟨q1, q2, q3⟩ := hq
        rw [q1]
        refine QW_g (by decide) ?_
        refine QW_it (by decide) ?_
        refine QW_p (k_gv (hsq _ _ rfl) rfl rfl) ?_
        refine QW_p (k_gi (hsq _ _ rfl) rfl) ?_
        refine QW_p (k_gi (hsq _ _ rfl) rfl) ?_
        rw [q8, q2]
        refine QW_p (k_is (hsq _ _ rfl) (by omega) (by omega) (by decide)) ?_
        refine QW_p (k_gi (hsq _ _ rfl) rfl) ?_
        rw [show q_F (q_si q.1 45 nP (Zn T i)) 38 8 = nP by rw [q_F_si, if_neg (fun z => absurd z.1 (by decide))]; exact q8]
        refine QW_p (k_pi (hsq _ _ rfl) rfl rfl) ?_
        refine QW_p (k_gi (hsq _ _ rfl) rfl) ?_
        rw [q_F_sf, if_pos ⟨rfl, rfl⟩]
        have iI : ∀ a j, a ≠ 38 → a ≠ 45 → q_I (q_sf (q_si q.1 45 nP (Zn T i)) 38 8 (nP + 1)) a j = q_I q.1 a j := fun a j h1 h2 => by
          rw [q_I_sf, if_neg (fun z => h1 z.1), q_I_si, if_neg (fun z => h2 z.1)]
        have i45 : ∀ j, q_I (q_sf (q_si q.1 45 nP (Zn T i)) 38 8 (nP + 1)) 45 j = if j = nP then Zn T i else q_I q.1 45 j := fun j => by
          rw [q_I_sf, if_neg (fun z => absurd z.1 (by decide)), q_I_si]
          by_cases z : j = nP
          · rw [if_pos ⟨rfl, z⟩, if_pos z]
          · rw [if_neg (fun y => z y.2), if_neg z]
        refine QW_ret ⟨⟨hM.1, fun a h1 h2 j => ⟨(iI a j h1 (by omega)).trans (hM.2.1 a h1 h2 j).1, (hM.2.1 a h1 h2 j).2⟩, fun f f0 f8 f16 => ?_⟩, ?_⟩
        · rw [q_F_sf, if_neg (fun z => f8 z.2), q_F_si, if_neg (fun z => absurd z.1 (by decide))]
          exact hM.2.2 f f0 f8 f16
        · rw [if_pos ⟨hS, w⟩, if_neg c2]
          refine ⟨by show nP + 1 - 1 = nP; omega, by rw [q_F_sf, if_pos ⟨rfl, rfl⟩], fun j hj => ?_, ?_, fun x x0 x1 => ?_⟩
          · rw [← mj j hj]
            unfold m_P
            rw [i45, if_neg (by omega)]
            simp only [iI _ _ (show (46 : Nat) ≠ 38 by decide) (by decide), iI _ _ (show (48 : Nat) ≠ 38 by decide) (by decide), iI _ _ (show (49 : Nat) ≠ 38 by decide) (by decide), iI _ _ (show (50 : Nat) ≠ 38 by decide) (by decide), iI _ _ (show (51 : Nat) ≠ 38 by decide) (by decide)]
            rfl
          · show q_I (q_sf (q_si q.1 45 nP (Zn T i)) 38 8 (nP + 1)) 45 nP = _
            rw [i45, if_pos rfl]
          · have x1 : x < Zn T i := by
              have : q_I (q_sf (q_si q.1 45 nP (Zn T i)) 38 8 (nP + 1)) 45 nP = Zn T i := by rw [i45, if_pos rfl]
              exact this ▸ x1
            obtain ⟨b1, b2, b3, b4, b5, b6⟩ := q3 x x0 (by omega)
            have hx : 0 ≤ x ∧ x < 500 := by omega
            rw [mPw hx, mPv hx, mP1 hx, mP2 hx, mP3 hx, mPu hx]
            refine ⟨(iI _ _ (by decide) (by decide)).trans b1, b2, (iI _ _ (by decide) (by decide)).trans b3, (iI _ _ (by decide) (by decide)).trans b4, (iI _ _ (by decide) (by decide)).trans b5, (iI _ _ (by decide) (by decide)).trans b6⟩
      · rw [if_neg w] at hq
        rw [hq]
        refine QW_g (by decide) ?_
        refine QW_if (by decide) ?_
        refine QW_ret ⟨hM, ?_⟩
        rw [if_neg (fun z => w z.2)]
        exact ⟨rfl, q8, mj⟩
    · have c2 := Decidable.not_not.mp c2
      refine QW_p (k_rc (hs1 _ _ rfl)) ?_
      refine QW_e (m_100 hV hs1 hN1 301 i 310 (by omega) (by decide) hT) ?_
      have mv := m501_v (x := Zn T i)
      have zb := Zn_1 hV hn hT
      refine QW_g (by unfold q_in; split at mv <;> omega) ?_
      refine QW_by (fun w => ?_) (fun w => ?_)
      · have w' : Zn T i ≤ 500 := by split at mv <;> omega
        refine QW_s ?_
        simp only [g_99]
        refine QW_ret ⟨KM.s0, ?_⟩
        rw [if_pos ⟨hS, w'⟩, if_pos c2]
        exact ⟨rfl, h81, fun j _ => e0 j⟩
      · have w' : ¬ Zn T i ≤ 500 := by split at mv <;> omega
        refine QW_s ?_
        simp only [g_99]
        refine QW_ret ⟨KM.s0, ?_⟩
        rw [if_neg (fun z => w' z.2)]
        exact ⟨rfl, h81, fun j _ => e0 j⟩
  · have hS := ff 0 (Decidable.not_not.mp c1)
    refine QW_ret ⟨KM.s0, ?_⟩
    rw [if_neg (fun z => by rw [hS] at z; exact absurd z.1 (by decide))]
    exact ⟨rfl, h81, fun j _ => e0 j⟩
end RML
