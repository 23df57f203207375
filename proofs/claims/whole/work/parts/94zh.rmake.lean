/-! THE REFERENCE'S make -/
/-- a place of program k, as it is laid -/
def RWr (T : PT) (N U : Int → Int) (s : Q_S) (k x : Int) : Prop := q_I s 46 (500 * k + x) = P_w T (N x) ∧ q_L s 47 (500 * k + x) = P_v T (N x) ∧ q_I s 48 (500 * k + x) = (if P_1 T (N x) = -1 then -1 else x + 1) ∧ q_I s 49 (500 * k + x) = (if P_2 T (N x) = -1 then -1 else x + 1 + zc T (P_1 T (N x))) ∧ q_I s 50 (500 * k + x) = (if P_3 T (N x) = -1 then -1 else x + 1 + zc T (P_1 T (N x)) + zc T (P_2 T (N x))) ∧ q_I s 51 (500 * k + x) = U x
/-- only program k's places from p on -/
def KL (s s' : Q_S) (k p : Int) : Prop := (s'.1 = s.1 ∧ s'.2.1 = s.2.1 ∧ s'.2.2.1 = s.2.2.1) ∧ (∀ a, a ≠ 38 → ¬ (46 ≤ a ∧ a ≤ 51) → ∀ j, q_I s' a j = q_I s a j ∧ q_L s' a j = q_L s a j) ∧ (∀ f : Nat, f ≠ 16 → q_F s' 38 f = q_F s 38 f) ∧ (∀ a j, 46 ≤ a → a ≤ 51 → j < 500 * k + p ∨ 500 * k + 500 ≤ j → q_I s' a j = q_I s a j ∧ q_L s' a j = q_L s a j)
/-- a place whose parts are being laid -/
def IL (T : PT) (N U : Int → Int) (s0 s : Q_S) (k p m a1 a2 a3 : Int) : Prop := KL s0 s k p ∧ q_F s 38 16 = m ∧ (∀ x, p + 1 ≤ x → x < m → RWr T N U s k x) ∧ q_I s 46 (500 * k + p) = P_w T (N p) ∧ q_L s 47 (500 * k + p) = P_v T (N p) ∧ q_I s 48 (500 * k + p) = a1 ∧ q_I s 49 (500 * k + p) = a2 ∧ q_I s 50 (500 * k + p) = a3 ∧ q_I s 51 (500 * k + p) = U p
section RMK
variable {o : X_O} {T : PT} {N U D : Int → Int} {s s0 s1 s2 : Q_S} {k p m a1 a2 a3 : Int}
theorem KL.rf : KL s s k p := ⟨⟨rfl, rfl, rfl⟩, fun _ _ _ _ => ⟨rfl, rfl⟩, fun _ _ => rfl, fun _ _ _ _ _ => ⟨rfl, rfl⟩⟩
theorem KL.tr {p' : Int} (h : KL s s1 k p) (g : KL s1 s2 k p') (hp : p ≤ p') : KL s s2 k p := by
  obtain ⟨⟨a1, a2, a3⟩, a4, a5, a6⟩ := h
  obtain ⟨⟨b1, b2, b3⟩, b4, b5, b6⟩ := g
  refine ⟨⟨b1.trans a1, b2.trans a2, b3.trans a3⟩, fun a h1 h2 j => ⟨(b4 a h1 h2 j).1.trans (a4 a h1 h2 j).1, (b4 a h1 h2 j).2.trans (a4 a h1 h2 j).2⟩, fun f hf => (b5 f hf).trans (a5 f hf), fun a j h1 h2 hj => ?_⟩
  have x := b6 a j h1 h2 (by omega)
  have y := a6 a j h1 h2 hj
  exact ⟨x.1.trans y.1, x.2.trans y.2⟩
theorem KL.sh (h : KL s s1 k p) (hs : SH s) : SH s1 := sh_T hs h.1.2.2
theorem KL.nr (h : KL s s1 k p) (hN : NRr T s) : NRr T s1 := by
  obtain ⟨n0, n1, h1, g⟩ := hN
  refine ⟨n0, n1, (h.2.2.1 1 (by decide)).trans h1, fun i i0 i1 => ?_⟩
  obtain ⟨b0, b1, b2, b3, b4, b5⟩ := g i i0 i1
  have e := h.2.1
  exact ⟨b0, (e 39 (by decide) (by decide) i).1.trans b1, (e 40 (by decide) (by decide) i).2.trans b2, (e 41 (by decide) (by decide) i).1.trans b3, (e 42 (by decide) (by decide) i).1.trans b4, (e 43 (by decide) (by decide) i).1.trans b5⟩
theorem KL.si {a : Nat} {v : Int} (ha : 46 ≤ a ∧ a ≤ 51) (hp : 0 ≤ p ∧ p < 500) : KL s (q_si s a (500 * k + p) v) k p := by
  refine ⟨⟨rfl, rfl, rfl⟩, fun c h1 h2 j => ⟨by rw [q_I_si, if_neg (fun z => by omega)], rfl⟩, fun f hf => by rw [q_F_si, if_neg (fun z => by omega)], fun c j h1 h2 hj => ⟨by rw [q_I_si, if_neg (fun z => by omega)], rfl⟩⟩
theorem KL.sl {a : Nat} {v : Int64} (ha : 46 ≤ a ∧ a ≤ 51) (hp : 0 ≤ p ∧ p < 500) : KL s (q_sl s a (500 * k + p) v) k p := by
  refine ⟨⟨rfl, rfl, rfl⟩, fun c h1 h2 j => ⟨rfl, by rw [q_L_sl, if_neg (fun z => by omega)]⟩, fun f hf => rfl, fun c j h1 h2 hj => ⟨rfl, by rw [q_L_sl, if_neg (fun z => by omega)]⟩⟩
theorem KL.sf {v : Int} : KL s (q_sf s 38 16 v) k p := by
  refine ⟨⟨rfl, rfl, rfl⟩, fun c h1 h2 j => ⟨by rw [q_I_sf, if_neg (fun z => h1 z.1)], rfl⟩, fun f hf => by rw [q_F_sf, if_neg (fun z => hf z.2)], fun c j h1 h2 hj => ⟨by rw [q_I_sf, if_neg (fun z => by omega)], rfl⟩⟩
theorem RWr.kl {x : Int} (h : RWr T N U s k x) (g : KL s s1 k p) (hx : x < p) : RWr T N U s1 k x := by
  obtain ⟨a1, a2, a3, a4, a5, a6⟩ := h
  have e := g.2.2.2
  exact ⟨(e 46 _ (by decide) (by decide) (by omega)).1.trans a1, (e 47 _ (by decide) (by decide) (by omega)).2.trans a2, (e 48 _ (by decide) (by decide) (by omega)).1.trans a3, (e 49 _ (by decide) (by decide) (by omega)).1.trans a4, (e 50 _ (by decide) (by decide) (by omega)).1.trans a5, (e 51 _ (by decide) (by decide) (by omega)).1.trans a6⟩
theorem IL.kid {m' : Int} (h : IL T N U s0 s k p m a1 a2 a3) (g : KL s s1 k m) (hm : p < m) (g16 : q_F s1 38 16 = m') (gr : ∀ x, m ≤ x → x < m' → RWr T N U s1 k x) : IL T N U s0 s1 k p m' a1 a2 a3 := by
  obtain ⟨b1, b2, b3, b4, b5, b6, b7, b8, b9⟩ := h
  have e := g.2.2.2
  refine ⟨b1.tr g (by omega), g16, fun x x0 x1 => ?_, (e 46 _ (by decide) (by decide) (by omega)).1.trans b4, (e 47 _ (by decide) (by decide) (by omega)).2.trans b5, (e 48 _ (by decide) (by decide) (by omega)).1.trans b6, (e 49 _ (by decide) (by decide) (by omega)).1.trans b7, (e 50 _ (by decide) (by decide) (by omega)).1.trans b8, (e 51 _ (by decide) (by decide) (by omega)).1.trans b9⟩
  by_cases z : x < m
  · exact (b3 x x0 z).kl g z
  · exact gr x (by omega) x1
theorem RWr.si {a : Nat} {v x : Int} (h : RWr T N U s k x) (hx : x ≠ p) : RWr T N U (q_si s a (500 * k + p) v) k x := by
  obtain ⟨b1, b2, b3, b4, b5, b6⟩ := h
  have e : ∀ c : Nat, q_I (q_si s a (500 * k + p) v) c (500 * k + x) = q_I s c (500 * k + x) := fun c => by rw [q_I_si, if_neg (fun z => by omega)]
  exact ⟨(e 46).trans b1, b2, (e 48).trans b3, (e 49).trans b4, (e 50).trans b5, (e 51).trans b6⟩
theorem IL.w1 {v : Int} (h : IL T N U s0 s k p m a1 a2 a3) (hp : 0 ≤ p ∧ p < 500) : IL T N U s0 (q_si s 48 (500 * k + p) v) k p m v a2 a3 := by
  obtain ⟨b1, b2, b3, b4, b5, b6, b7, b8, b9⟩ := h
  refine ⟨b1.tr (KL.si (by decide) hp) (Int.le_refl _), by rw [q_F_si, if_neg (fun z => absurd z.1 (by decide))]; exact b2, fun x x0 x1 => (b3 x x0 x1).si (by omega), ?_, b5, by rw [q_I_si, if_pos ⟨rfl, rfl⟩], ?_, ?_, ?_⟩
  · rw [q_I_si, if_neg (fun z => absurd z.1 (by decide))]; exact b4
  · rw [q_I_si, if_neg (fun z => absurd z.1 (by decide))]; exact b7
  · rw [q_I_si, if_neg (fun z => absurd z.1 (by decide))]; exact b8
  · rw [q_I_si, if_neg (fun z => absurd z.1 (by decide))]; exact b9
theorem IL.w2 {v : Int} (h : IL T N U s0 s k p m a1 a2 a3) (hp : 0 ≤ p ∧ p < 500) : IL T N U s0 (q_si s 49 (500 * k + p) v) k p m a1 v a3 := by
  obtain ⟨b1, b2, b3, b4, b5, b6, b7, b8, b9⟩ := h
  refine ⟨b1.tr (KL.si (by decide) hp) (Int.le_refl _), by rw [q_F_si, if_neg (fun z => absurd z.1 (by decide))]; exact b2, fun x x0 x1 => (b3 x x0 x1).si (by omega), ?_, b5, ?_, by rw [q_I_si, if_pos ⟨rfl, rfl⟩], ?_, ?_⟩
  · rw [q_I_si, if_neg (fun z => absurd z.1 (by decide))]; exact b4
  · rw [q_I_si, if_neg (fun z => absurd z.1 (by decide))]; exact b6
  · rw [q_I_si, if_neg (fun z => absurd z.1 (by decide))]; exact b8
  · rw [q_I_si, if_neg (fun z => absurd z.1 (by decide))]; exact b9
theorem IL.w3 {v : Int} (h : IL T N U s0 s k p m a1 a2 a3) (hp : 0 ≤ p ∧ p < 500) : IL T N U s0 (q_si s 50 (500 * k + p) v) k p m a1 a2 v := by
  obtain ⟨b1, b2, b3, b4, b5, b6, b7, b8, b9⟩ := h
  refine ⟨b1.tr (KL.si (by decide) hp) (Int.le_refl _), by rw [q_F_si, if_neg (fun z => absurd z.1 (by decide))]; exact b2, fun x x0 x1 => (b3 x x0 x1).si (by omega), ?_, b5, ?_, ?_, by rw [q_I_si, if_pos ⟨rfl, rfl⟩], ?_⟩
  · rw [q_I_si, if_neg (fun z => absurd z.1 (by decide))]; exact b4
  · rw [q_I_si, if_neg (fun z => absurd z.1 (by decide))]; exact b6
  · rw [q_I_si, if_neg (fun z => absurd z.1 (by decide))]; exact b7
  · rw [q_I_si, if_neg (fun z => absurd z.1 (by decide))]; exact b9
/-- a place as it is begun -/
def rS (s : Q_S) (k p w u : Int) (v : Int64) : Q_S := q_si (q_si (q_si (q_si (q_sl (q_si (q_sf s 38 16 (p + 1)) 46 (500 * k + p) w) 47 (500 * k + p) v) 51 (500 * k + p) u) 48 (500 * k + p) (-1)) 49 (500 * k + p) (-1)) 50 (500 * k + p) (-1)
theorem rS_IL (hp : 0 ≤ p ∧ p < 500) : IL T N U s (rS s k p (P_w T (N p)) (U p) (P_v T (N p))) k p (p + 1) (-1) (-1) (-1) := by
  unfold rS
  refine ⟨?_, ?_, fun x x0 x1 => by omega, ?_, ?_, ?_, ?_, ?_, ?_⟩
  · exact ((((((KL.sf.tr (KL.si (by decide) hp) (Int.le_refl _)).tr (KL.sl (by decide) hp) (Int.le_refl _)).tr (KL.si (by decide) hp) (Int.le_refl _)).tr (KL.si (by decide) hp) (Int.le_refl _)).tr (KL.si (by decide) hp) (Int.le_refl _)).tr (KL.si (by decide) hp) (Int.le_refl _))
  all_goals simp [q_F_si, q_F_sl, q_F_sf, q_I_si, q_I_sl, q_I_sf, q_L_si, q_L_sl, q_L_sf]
theorem q_in_p {x i : Int} (h : x = -1 ∨ (inT T x ∧ x < i)) (hi : i < 300) : q_in x := by
  unfold inT at h
  unfold q_in
  omega
/-- what a lay leaves -/
def LYq (T : PT) (N U : Int → Int) (s : Q_S) (k p i : Int) (q : Q_S × Int) : Prop := KL s q.1 k p ∧ (if p + Zn T i ≤ 500 then q.2 = p ∧ q_F q.1 38 16 = p + Zn T i ∧ ∀ x, p ≤ x → x < p + Zn T i → RWr T N U q.1 k x else q.2 = -1)
theorem m_101_6 {e : Nat} {p g : Int} (hg : g = 0 ∨ g = 1) : QW (fun m => g_101 o m e 6 s 0 0 0 0 p g 0) (fun q => q = (s, if g = 0 then -1 else p)) := by
  refine QW_s ?_
  simp only [g_101]
  refine QW_g (by unfold q_in; omega) ?_
  rcases hg with rfl | rfl
  · refine QW_it (by simp) ?_
    refine QW_s ?_
    simp only [g_101]
    exact QW_ret rfl
  · refine QW_if (by decide) ?_
    refine QW_s ?_
    simp only [g_101]
    exact QW_ret rfl
theorem m_101_40 {e : Nat} {i x p : Int} : QW (fun m => g_101 o m e 4 s 38 i 0 x p 0 0) (fun q => q = (s, -1)) := by
  refine QW_s ?_
  simp only [g_101]
  refine QW_g (by decide) ?_
  refine QW_it (by simp) ?_
  exact m_101_6 (Or.inl rfl)
theorem m_101_20 {e : Nat} {i x p : Int} : QW (fun m => g_101 o m e 2 s 38 i 0 x p 0 0) (fun q => q = (s, -1)) := by
  refine QW_s ?_
  simp only [g_101]
  refine QW_g (by decide) ?_
  refine QW_it (by simp) ?_
  exact m_101_40
set_option maxHeartbeats 2000000 in
/-- lay -/
theorem m_101 {root n : Int} (hV : NV T) (hn : P_n T ≤ 300) (hL : LT T root n N U D) (hk : 0 ≤ k ∧ k < 20) : ∀ (f : Nat) (i p : Int) (s : Q_S) (e : Nat), i < f → f ≤ e + 1 → inT T i → 0 ≤ p → p ≤ 500 → p < n → N p = i → SH s → NRr T s → q_F s 38 8 = k → q_F s 38 16 = p →
    QW (fun m => g_101 o m e 0 s 38 i (U p) 0 0 0 0) (LYq T N U s k p i) := by
  intro f
  induction f with
  | zero => intro i p s e hi _ hT; have := hT.1; omega
  | succ f ih =>
    intro i p s e hi he hT p0 p5 pn hNp hs hN h8 h16
    have hT0 := hT.1
    have hT1 := hT.2
    obtain ⟨r0, r1, r2, r3, r4, r5⟩ := hN.2.2.2 i hT.1 hT.2
    have ez := Zn_eq hV hn hT
    have z1 := zc_0 (T := T) (P_1 T i)
    have z2 := zc_0 (T := T) (P_2 T i)
    have z3 := zc_0 (T := T) (P_3 T i)
    obtain ⟨p1, p2, p3⟩ := prts hV hT
    obtain ⟨g1, g2, g3, k1, k2, k3⟩ := hL.2.2.1 p p0 pn
    rw [hNp] at g2 k1 k2 k3
    -- a part that is laid
    have kid : ∀ (c x : Int) (s2 : Q_S), inT T c → c < i → p < x → x ≤ 500 → x < n → N x = c → U x = p → KL s s2 k p → q_F s2 38 16 = x → ∃ e', e = e' + 1 ∧ QW (fun m => g_101 o m e' 0 s2 38 c p 0 0 0 0) (LYq T N U s2 k x c) := fun c x s2 c0 c1 x0 x1 x2 x3 x4 K x5 => by
      have := c0.1
      refine ⟨e - 1, by omega, ?_⟩
      have t := ih c x s2 (e - 1) (by omega) (by omega) c0 (by omega) x1 x2 x3 (K.sh hs) (K.nr hN) ((K.2.2.1 8 (by decide)).trans h8) x5
      rw [x4] at t
      exact t
    have fin : ∀ (s4 : Q_S) (a1 a2 a3 : Int), IL T N U s s4 k p (p + Zn T i) a1 a2 a3 → a1 = (if P_1 T i = -1 then -1 else p + 1) → a2 = (if P_2 T i = -1 then -1 else p + 1 + zc T (P_1 T i)) → a3 = (if P_3 T i = -1 then -1 else p + 1 + zc T (P_1 T i) + zc T (P_2 T i)) → p + Zn T i ≤ 500 → LYq T N U s k p i (s4, p) := fun s4 a1 a2 a3 h e1 e2 e3 h5 => by
      obtain ⟨b1, b2, b3, b4, b5, b6, b7, b8, b9⟩ := h
      refine ⟨b1, ?_⟩
      rw [if_pos h5]
      refine ⟨rfl, b2, fun x x0 x1 => ?_⟩
      by_cases z : x = p
      · rw [z]
        unfold RWr
        rw [hNp]
        rw [hNp] at b4 b5
        exact ⟨b4, b5, b6.trans e1, b7.trans e2, b8.trans e3, b9⟩
      · exact b3 x (by omega) x1
    have bad : ∀ s4 : Q_S, KL s s4 k p → ¬ p + Zn T i ≤ 500 → LYq T N U s k p i (s4, -1) := fun s4 h h5 => ⟨h, by rw [if_neg h5]⟩
    refine QW_s ?_
    simp only [g_101]
    refine QW_p (k_gi (hs _ _ rfl) rfl) ?_
    rw [h16]
    refine QW_g (by unfold q_in; omega) ?_
    refine QW_by (fun c5 => ?_) (fun c5 => ?_)
    · have hp : 0 ≤ p ∧ p < 500 := by omega
      refine QW_p (k_gi (hs _ _ rfl) rfl) ?_
      rw [h8]
      refine QW_p (k_gi (hs _ _ rfl) rfl) ?_
      refine QW_p (k_gi (hs _ _ rfl) rfl) ?_
      refine QW_p (k_gi (hs _ _ rfl) rfl) ?_
      rw [h16]
      refine QW_p (k_pi (hs _ _ rfl) rfl rfl) ?_
      refine QW_p (k_gv (hs _ _ rfl) rfl rfl) ?_
      refine QW_p (k_gv (hs _ _ rfl) rfl rfl) ?_
      refine QW_p (k_ia (hs _ _ rfl) (by omega) (by omega) (by decide)) ?_
      rw [show q_I (q_sf s 38 16 (p + 1)) 39 i = P_w T i by rw [q_I_sf, if_neg (fun z => absurd z.1 (by decide))]; exact r1]
      refine QW_p (k_is (hs _ _ rfl) (by omega) (by omega) (by decide)) ?_
      refine QW_p (k_gv (hs _ _ rfl) rfl rfl) ?_
      refine QW_p (k_gv (hs _ _ rfl) rfl rfl) ?_
      refine QW_p (k_la (hs _ _ rfl) (by omega) (by omega) (by decide)) ?_
      rw [show q_L (q_si (q_sf s 38 16 (p + 1)) 46 (500 * k + p) (P_w T i)) 40 i = P_v T i from r2]
      refine QW_p (k_ls (hs _ _ rfl) (by omega) (by omega) (by decide)) ?_
      refine QW_p (k_gv (hs _ _ rfl) rfl rfl) ?_
      refine QW_p (k_is (hs _ _ rfl) (by omega) (by omega) (by decide)) ?_
      refine QW_p (k_gv (hs _ _ rfl) rfl rfl) ?_
      refine QW_p (k_is (hs _ _ rfl) (by omega) (by omega) (by decide)) ?_
      refine QW_p (k_gv (hs _ _ rfl) rfl rfl) ?_
      refine QW_p (k_is (hs _ _ rfl) (by omega) (by omega) (by decide)) ?_
      refine QW_p (k_gv (hs _ _ rfl) rfl rfl) ?_
      refine QW_p (k_is (hs _ _ rfl) (by omega) (by omega) (by decide)) ?_
      have I0 := rS_IL (T := T) (N := N) (U := U) (s := s) (k := k) hp
      rw [hNp] at I0
      unfold rS at I0
      generalize q_si (q_si (q_si (q_si (q_sl (q_si (q_sf s 38 16 (p + 1)) 46 (500 * k + p) (P_w T i)) 47 (500 * k + p) (P_v T i)) 51 (500 * k + p) (U p)) 48 (500 * k + p) (-1)) 49 (500 * k + p) (-1)) 50 (500 * k + p) (-1) = sA at I0 ⊢
      have hsA := I0.1.sh hs
      have rA := (I0.1.nr hN).2.2.2 i hT.1 hT.2
      -- the third part
      have B4 : ∀ (s4 : Q_S) (a1 a2 : Int), IL T N U s s4 k p (p + 1 + zc T (P_1 T i) + zc T (P_2 T i)) a1 a2 (-1) → a1 = (if P_1 T i = -1 then -1 else p + 1) → a2 = (if P_2 T i = -1 then -1 else p + 1 + zc T (P_1 T i)) → p + 1 + zc T (P_1 T i) + zc T (P_2 T i) ≤ 500 → QW (fun m => g_101 o m e 4 s4 38 i 0 (500 * k + p) p 1 0) (LYq T N U s k p i) := fun s4 a1 a2 I4 e1 e2 h5 => by
        have hs4 := I4.1.sh hs
        have r4' := ((I4.1.nr hN).2.2.2 i hT.1 hT.2).2.2.2.2.2
        refine QW_s ?_
        simp only [g_101]
        refine QW_g (by decide) ?_
        refine QW_if (by decide) ?_
        refine QW_p (k_gv (hs4 _ _ rfl) rfl rfl) ?_
        refine QW_p (k_ia (hs4 _ _ rfl) (by omega) (by omega) (by decide)) ?_
        rw [r4']
        refine QW_g (q_in_p p3 (by omega)) ?_
        refine QW_by (fun z => ?_) (fun z => ?_)
        · rw [z, zc_m] at ez
          refine QW_m (m_101_6 (Or.inr rfl)) (fun q hq => ?_)
          rw [hq, if_neg (by decide)]
          refine fin s4 a1 a2 (-1) (by rw [show p + Zn T i = p + 1 + zc T (P_1 T i) + zc T (P_2 T i) by omega]; exact I4) e1 e2 (by rw [if_pos z]) (by omega)
        · obtain ⟨y1, y2⟩ := p3.resolve_left z
          obtain ⟨x1, x2, x3⟩ := k3 z
          have zp := zc_p hV hn y1
          refine QW_p (k_gv (hs4 _ _ rfl) rfl rfl) ?_
          refine QW_p (k_gv (hs4 _ _ rfl) rfl rfl) ?_
          refine QW_p (k_ia (hs4 _ _ rfl) (by omega) (by omega) (by decide)) ?_
          rw [r4']
          obtain ⟨e', ee, H⟩ := kid (P_3 T i) (p + 1 + zc T (P_1 T i) + zc T (P_2 T i)) s4 y1 y2 (by omega) h5 (by omega) x1 x2 I4.1 I4.2.1
          subst ee
          refine QW_p (show q_dec (e' + 1) = some e' from rfl) ?_
          refine QW_p (k_rc (hs4 _ _ rfl)) ?_
          refine QW_c H (fun q hq => ?_)
          obtain ⟨hK, hq⟩ := hq
          have hsq := hK.sh hs4
          refine QW_p (k_is (hsq _ _ rfl) (by omega) (by omega) (by decide)) ?_
          refine QW_p (k_gv (hsq _ _ rfl) rfl rfl) ?_
          refine QW_p (k_ia (hsq _ _ rfl) (by omega) (by omega) (by decide)) ?_
          rw [q_I_si, if_pos ⟨rfl, rfl⟩]
          by_cases w : p + 1 + zc T (P_1 T i) + zc T (P_2 T i) + Zn T (P_3 T i) ≤ 500
          · rw [if_pos w] at hq
            obtain ⟨q1, q2, q3⟩ := hq
            rw [q1]
            refine QW_g (by unfold q_in; omega) ?_
            refine QW_if (by omega) ?_
            refine QW_s ?_
            simp only [g_101]
            refine QW_m (m_101_6 (Or.inr rfl)) (fun r hr => ?_)
            rw [hr, if_neg (by decide)]
            have I5 := (I4.kid hK (by omega) q2 q3).w3 (v := p + 1 + zc T (P_1 T i) + zc T (P_2 T i)) hp
            rw [show p + 1 + zc T (P_1 T i) + zc T (P_2 T i) + Zn T (P_3 T i) = p + Zn T i by omega] at I5
            exact fin _ a1 a2 _ I5 e1 e2 (by rw [if_neg z]) (by omega)
          · rw [if_neg w] at hq
            rw [hq]
            refine QW_g (by decide) ?_
            refine QW_it (by simp) ?_
            refine QW_s ?_
            simp only [g_101]
            refine QW_m (m_101_6 (Or.inl rfl)) (fun r hr => ?_)
            rw [hr, if_pos rfl]
            exact bad _ ((I4.1.tr hK (by omega)).tr (KL.si (by decide) hp) (Int.le_refl _)) (by omega)
      -- the second part
      have B2 : ∀ (s4 : Q_S) (a1 : Int), IL T N U s s4 k p (p + 1 + zc T (P_1 T i)) a1 (-1) (-1) → a1 = (if P_1 T i = -1 then -1 else p + 1) → p + 1 + zc T (P_1 T i) ≤ 500 → QW (fun m => g_101 o m e 2 s4 38 i 0 (500 * k + p) p 1 0) (LYq T N U s k p i) := fun s4 a1 I4 e1 h5 => by
        have hs4 := I4.1.sh hs
        have r4' := ((I4.1.nr hN).2.2.2 i hT.1 hT.2).2.2.2.2.1
        refine QW_s ?_
        simp only [g_101]
        refine QW_g (by decide) ?_
        refine QW_if (by decide) ?_
        refine QW_p (k_gv (hs4 _ _ rfl) rfl rfl) ?_
        refine QW_p (k_ia (hs4 _ _ rfl) (by omega) (by omega) (by decide)) ?_
        rw [r4']
        refine QW_g (q_in_p p2 (by omega)) ?_
        refine QW_by (fun z => ?_) (fun z => ?_)
        · refine B4 s4 a1 (-1) ?_ e1 (by rw [if_pos z]) (by rw [z, zc_m]; omega)
          rw [z, zc_m, Int.add_zero]
          exact I4
        · obtain ⟨y1, y2⟩ := p2.resolve_left z
          obtain ⟨x1, x2, x3⟩ := k2 z
          have zp := zc_p hV hn y1
          refine QW_p (k_gv (hs4 _ _ rfl) rfl rfl) ?_
          refine QW_p (k_gv (hs4 _ _ rfl) rfl rfl) ?_
          refine QW_p (k_ia (hs4 _ _ rfl) (by omega) (by omega) (by decide)) ?_
          rw [r4']
          obtain ⟨e', ee, H⟩ := kid (P_2 T i) (p + 1 + zc T (P_1 T i)) s4 y1 y2 (by omega) h5 (by omega) x1 x2 I4.1 I4.2.1
          subst ee
          refine QW_p (show q_dec (e' + 1) = some e' from rfl) ?_
          refine QW_p (k_rc (hs4 _ _ rfl)) ?_
          refine QW_c H (fun q hq => ?_)
          obtain ⟨hK, hq⟩ := hq
          have hsq := hK.sh hs4
          refine QW_p (k_is (hsq _ _ rfl) (by omega) (by omega) (by decide)) ?_
          refine QW_p (k_gv (hsq _ _ rfl) rfl rfl) ?_
          refine QW_p (k_ia (hsq _ _ rfl) (by omega) (by omega) (by decide)) ?_
          rw [q_I_si, if_pos ⟨rfl, rfl⟩]
          by_cases w : p + 1 + zc T (P_1 T i) + Zn T (P_2 T i) ≤ 500
          · rw [if_pos w] at hq
            obtain ⟨q1, q2, q3⟩ := hq
            rw [q1]
            refine QW_g (by unfold q_in; omega) ?_
            refine QW_if (by omega) ?_
            refine QW_s ?_
            simp only [g_101]
            have I5 := (I4.kid hK (by omega) q2 q3).w2 (v := p + 1 + zc T (P_1 T i)) hp
            rw [← zp.1] at I5
            exact B4 _ a1 _ I5 e1 (by rw [if_neg z]) (by omega)
          · rw [if_neg w] at hq
            rw [hq]
            refine QW_g (by decide) ?_
            refine QW_it (by simp) ?_
            refine QW_s ?_
            simp only [g_101]
            refine QW_m m_101_40 (fun r hr => ?_)
            rw [hr]
            exact bad _ ((I4.1.tr hK (by omega)).tr (KL.si (by decide) hp) (Int.le_refl _)) (by omega)
      -- the first part
      refine QW_p (k_gv (hsA _ _ rfl) rfl rfl) ?_
      refine QW_p (k_ia (hsA _ _ rfl) (by omega) (by omega) (by decide)) ?_
      rw [rA.2.2.2.1]
      refine QW_g (q_in_p p1 (by omega)) ?_
      refine QW_by (fun z => ?_) (fun z => ?_)
      · refine B2 sA (-1) ?_ (by rw [if_pos z]) (by rw [z, zc_m]; omega)
        rw [z, zc_m, Int.add_zero]
        exact I0
      · obtain ⟨y1, y2⟩ := p1.resolve_left z
        obtain ⟨x1, x2, x3⟩ := k1 z
        have zp := zc_p hV hn y1
        refine QW_p (k_gv (hsA _ _ rfl) rfl rfl) ?_
        refine QW_p (k_gv (hsA _ _ rfl) rfl rfl) ?_
        refine QW_p (k_ia (hsA _ _ rfl) (by omega) (by omega) (by decide)) ?_
        rw [rA.2.2.2.1]
        obtain ⟨e', ee, H⟩ := kid (P_1 T i) (p + 1) sA y1 y2 (by omega) (by omega) (by omega) x1 x2 I0.1 I0.2.1
        subst ee
        refine QW_p (show q_dec (e' + 1) = some e' from rfl) ?_
        refine QW_p (k_rc (hsA _ _ rfl)) ?_
        refine QW_c H (fun q hq => ?_)
        obtain ⟨hK, hq⟩ := hq
        have hsq := hK.sh hsA
        refine QW_p (k_is (hsq _ _ rfl) (by omega) (by omega) (by decide)) ?_
        refine QW_p (k_gv (hsq _ _ rfl) rfl rfl) ?_
        refine QW_p (k_ia (hsq _ _ rfl) (by omega) (by omega) (by decide)) ?_
        rw [q_I_si, if_pos ⟨rfl, rfl⟩]
        by_cases w : p + 1 + Zn T (P_1 T i) ≤ 500
        · rw [if_pos w] at hq
          obtain ⟨q1, q2, q3⟩ := hq
          rw [q1]
          refine QW_g (by unfold q_in; omega) ?_
          refine QW_if (by omega) ?_
          refine QW_s ?_
          simp only [g_101]
          have I5 := (I0.kid hK (by omega) q2 q3).w1 (v := p + 1) hp
          rw [← zp.1] at I5
          exact B2 _ _ I5 (by rw [if_neg z]) (by omega)
        · rw [if_neg w] at hq
          rw [hq]
          refine QW_g (by decide) ?_
          refine QW_it (by simp) ?_
          refine QW_s ?_
          simp only [g_101]
          refine QW_m m_101_20 (fun r hr => ?_)
          rw [hr]
          exact bad _ ((I0.1.tr hK (by omega)).tr (KL.si (by decide) hp) (Int.le_refl _)) (by omega)
    · have := Zn_1 hV hn hT
      exact QW_ret (bad s KL.rf (by omega))
end RMK
