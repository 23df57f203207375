/-! THE CLASS'S FRAMES: one more, one less -/
def depthV (v : CV) (x : Int) : Int := if x = -1 then 0 else vI v 6 x
def colV (r : Bool) : Nat := if r = true then 5 else 4
/-- the frames as the cells have them -/
def vs (s : Q_S) (c : Nat) : CV := (fun i x => q_I s (c + i) x, fun i x => q_L s (c + i) x, q_F s 24 10, q_F s 24 11, q_F s 24 12, q_F s 24 13)
/-- a frame's row is the same, but for one place of it -/
def EqX (v v' : CV) (y : Int) (k : Nat) : Prop := (∀ i, 1 ≤ i → i ≤ 7 → i ≠ k → vI v' i y = vI v i y) ∧ (∀ i, 8 ≤ i → i ≤ 10 → vL v' i y = vL v i y)
def AddR (v v' : CV) (kd p u : Int) (r : Bool) (x : Int) : Prop :=
  x = (if v_f v = -1 then v_u v else v_f v) ∧ vI v' 1 x = kd ∧ vI v' 2 x = p ∧ vI v' 3 x = u ∧ vI v' 4 x = -1 ∧ vI v' 5 x = -1 ∧ vI v' 6 x = depthV v u + 1 ∧
  (∀ y, 0 ≤ y → y < v_u v → y ≠ x → EqX v v' y (if y = u then colV r else 0)) ∧ (¬ u = -1 → vI v' (colV r) u = x) ∧
  v_t v' = (if u = -1 then x else v_t v) ∧ v_f v' = (if v_f v = -1 then -1 else vI v 3 (v_f v)) ∧ v_u v' = (if v_f v = -1 then v_u v + 1 else v_u v) ∧ v_s v' = (if kd = 18 then v_s v + 1 else v_s v)
def RemR (v v' : CV) (x : Int) : Prop :=
  (∀ y, 0 ≤ y → y < v_u v → EqX v v' y (if y = x then 3 else if y = vI v 3 x then colV (!decide (vI v 4 (vI v 3 x) = x)) else 0)) ∧ vI v' 3 x = v_f v ∧ (¬ vI v 3 x = -1 → vI v' (colV (!decide (vI v 4 (vI v 3 x) = x))) (vI v 3 x) = -1) ∧
  v_t v' = (if vI v 3 x = -1 then -1 else v_t v) ∧ v_f v' = x ∧ v_u v' = v_u v ∧ v_s v' = (if vI v 1 x = 18 then v_s v - 1 else v_s v)
theorem FK.si {s : Q_S} {c room i : Nat} {j v : Int} (h : 1 ≤ i) (h2 : i ≤ 10) : FK s c room (q_si s (c + i) j v) c room := by
  refine ⟨Nat.le_refl _, Nat.le_refl _, Nat.le_refl _, Nat.le_refl _, Or.inl rfl, fun a _ _ h1 => ⟨rfl, fun k => ⟨?_, rfl⟩⟩⟩
  rw [q_I_si, if_neg (fun z => h1 (by omega))]
theorem FK.sl {s : Q_S} {c room i : Nat} {j : Int} {v : Int64} (h : 1 ≤ i) (h2 : i ≤ 10) : FK s c room (q_sl s (c + i) j v) c room := by
  refine ⟨Nat.le_refl _, Nat.le_refl _, Nat.le_refl _, Nat.le_refl _, Or.inl rfl, fun a _ _ h1 => ⟨rfl, fun k => ⟨rfl, ?_⟩⟩⟩
  rw [q_L_sl, if_neg (fun z => h1 (by omega))]
theorem FK.sf {s : Q_S} {c room f : Nat} {v : Int} : FK s c room (q_sf s 24 f v) c room := by
  refine ⟨Nat.le_refl _, Nat.le_refl _, Nat.le_refl _, Nat.le_refl _, Or.inl rfl, fun a _ h0 h1 => ⟨rfl, fun k => ⟨?_, rfl⟩⟩⟩
  rw [q_I_sf, if_neg (fun z => h0 z.1)]
section CAD
variable {o : X_O} {s : Q_S} {c room : Nat} {v : CV}
theorem d_51r (hF0 : q_T s 24 = some (shF0 c)) (hFa : ∀ i t, shFa room i = some t → q_T s (c + i) = some t) (hr : room ≤ 20000) {u : Int} (h0 : -1 ≤ u) (h1 : u < room) {t : Int} : QW (fun n => g_51 o n 0 s 24 u t) (fun q => q = (s, if u = -1 then 0 else q_I s (c + 6) u)) := by
  refine QW_s ?_
  simp only [g_51]
  refine QW_g (by omega) ?_
  refine QW_by (fun c => ?_) (fun c => ?_)
  · refine QW_p (k_gv hF0 rfl rfl) ?_
    refine QW_p (k_ia (hFa _ _ rfl) (by omega) (by omega) (by omega)) ?_
    refine QW_s ?_
    simp only [g_51]
    refine QW_ret ?_
    simp [c]
  · refine QW_s ?_
    simp only [g_51]
    refine QW_ret ?_
    simp [Decidable.of_not_not c]
theorem d_51 (h : VW s 24 c room v) {u : Int} (h0 : -1 ≤ u) (h1 : u < v_u v) {t : Int} : QW (fun n => g_51 o n 0 s 24 u t) (fun q => q = (s, depthV v u)) := by
  obtain ⟨hF0, hFa, w1, w2, w3, w4, w5, w6, w7, w8, w9, w10, w11, w12⟩ := h
  refine QW_m (d_51r hF0 hFa w9 h0 (by omega)) (fun q e => ?_)
  rw [e]
  unfold depthV
  by_cases z : u = -1
  · rw [if_pos z, if_pos z]
  · rw [if_neg z, if_neg z, w1 6 u (by decide) (by decide) (by omega) h1]
theorem d_53 (h : VW s 24 c room v) (hb : VB v) {x : Int} (h0 : 0 ≤ x) (h1 : x < v_u v) {t : Int} : QW (fun n => g_53 o n 0 s 24 x t) (fun q => q = (s, if vI v 4 x = -1 then vI v 5 x else vI v 4 x)) := by
  obtain ⟨hF0, hFa, w1, w2, w3, w4, w5, w6, w7, w8, w9, w10, w11, w12⟩ := h
  obtain ⟨b1, b2, b3, b4, b5, b6⟩ := hb.1 x h0 h1
  have e4 := w1 4 x (by decide) (by decide) h0 h1
  have e5 := w1 5 x (by decide) (by decide) h0 h1
  refine QW_s ?_
  simp only [g_53]
  refine QW_p (k_gv hF0 rfl rfl) ?_
  refine QW_p (k_ia (hFa _ _ rfl) h0 (by omega) (by omega)) ?_
  rw [e4]
  refine QW_g (by omega) ?_
  refine QW_by (fun c => ?_) (fun c => ?_)
  · refine QW_p (k_gv hF0 rfl rfl) ?_
    refine QW_p (k_ia (hFa _ _ rfl) h0 (by omega) (by omega)) ?_
    refine QW_s ?_
    simp only [g_53]
    rw [e4, if_neg c]
    exact QW_ret rfl
  · refine QW_p (k_gv hF0 rfl rfl) ?_
    refine QW_p (k_ia (hFa _ _ rfl) h0 (by omega) (by omega)) ?_
    refine QW_s ?_
    simp only [g_53]
    rw [e5, if_pos (Decidable.of_not_not c)]
    exact QW_ret rfl
/-- the free frame, or a new one, and then its row -/
def a_row (s : Q_S) (c : Nat) (x kd p u D : Int) : Q_S := q_si (q_si (q_si (q_si (q_si (q_si s (c + 1) x kd) (c + 2) x p) (c + 3) x u) (c + 4) x (-1)) (c + 5) x (-1)) (c + 6) x D
set_option maxHeartbeats 4000000 in
theorem d_49a (h : VW s 24 c room v) (hb : VB v) (hroom : v_f v = -1 → v_u v < room) {kd p u : Int} {r : Bool} {x : Int} (hx : x = (if v_f v = -1 then v_u v else v_f v)) (hxu : x ≠ u) (hk : 0 ≤ kd ∧ kd ≤ 40) (hp : 0 ≤ p ∧ p < 500) (hu : -1 ≤ u ∧ u < v_u v) (hd : depthV v u ≤ 999) (hsd : -999 ≤ v_s v ∧ v_s v ≤ 999) {i5 ti : Int} :
    QW (fun n => g_49 o n 1 s 24 kd p u (if r = true then 1 else 0) i5 ti) (fun q => q.2 = x ∧ ∃ v', VW q.1 24 c room v' ∧ VB v' ∧ AddR v v' kd p u r x ∧ FK s c room q.1 c room) := by
  have h' := h
  obtain ⟨hF0, hFa, w1, w2, w3, w4, w5, w6, w7, w8, w9, w10, w11, w12⟩ := h'
  obtain ⟨bb, bt, bf, bs⟩ := hb
  have x0 : 0 ≤ x := by rw [hx]; split <;> omega
  have x1 : x < room := by
    rw [hx]
    split
    · rename_i z; exact hroom z
    · omega
  -- the free list
  have B2 : ∀ i5 ti, QW (fun n => g_49 o n 3 (if v_f v = -1 then q_sf s 24 12 (v_u v + 1) else q_sf s 24 11 (vI v 3 (v_f v))) 24 kd p u (if r = true then 1 else 0) x 0) (fun q => q.2 = x ∧ ∃ v', VW q.1 24 c room v' ∧ VB v' ∧ AddR v v' kd p u r x ∧ FK s c room q.1 c room) → QW (fun n => g_49 o n 1 s 24 kd p u (if r = true then 1 else 0) i5 ti) (fun q => q.2 = x ∧ ∃ v', VW q.1 24 c room v' ∧ VB v' ∧ AddR v v' kd p u r x ∧ FK s c room q.1 c room) := by
    intro i5 ti K
    by_cases z : v_f v = -1
    · rw [if_pos z] at hx K
      refine QW_s ?_
      simp only [g_49]
      refine QW_p (k_gi hF0 rfl) ?_
      rw [w4]
      refine QW_g (by omega) ?_
      refine QW_if (by omega) ?_
      refine QW_p (k_gi hF0 rfl) ?_
      rw [w5]
      refine QW_s ?_
      simp only [g_49]
      refine QW_p (k_gi hF0 rfl) ?_
      rw [w4]
      refine QW_g (by omega) ?_
      refine QW_if (by omega) ?_
      refine QW_p (k_gi hF0 rfl) ?_
      rw [w5]
      refine QW_p (k_pi hF0 rfl rfl) ?_
      rw [← hx] at *
      exact K
    · rw [if_neg z] at hx K
      refine QW_s ?_
      simp only [g_49]
      refine QW_p (k_gi hF0 rfl) ?_
      rw [w4]
      refine QW_g (by omega) ?_
      refine QW_it (by omega) ?_
      refine QW_p (k_gi hF0 rfl) ?_
      rw [w4]
      refine QW_s ?_
      simp only [g_49]
      refine QW_p (k_gi hF0 rfl) ?_
      rw [w4]
      refine QW_g (by omega) ?_
      refine QW_it (by omega) ?_
      refine QW_p (k_gv hF0 rfl rfl) ?_
      refine QW_p (k_ia (hFa _ _ rfl) (by omega) (by omega) (by omega)) ?_
      rw [w1 3 (v_f v) (by decide) (by decide) (by omega) (by omega)]
      refine QW_p (k_pi hF0 rfl rfl) ?_
      rw [hx] at K ⊢
      exact K
  refine B2 i5 ti ?_
  have hS : ∃ s1, (if v_f v = -1 then q_sf s 24 12 (v_u v + 1) else q_sf s 24 11 (vI v 3 (v_f v))) = s1 ∧ FK s c room s1 c room ∧ (∀ a, q_T s1 a = q_T s a) ∧ (∀ a x, a ≠ 24 → q_I s1 a x = q_I s a x) ∧ (∀ a x, q_L s1 a x = q_L s a x) ∧ q_F s1 24 10 = v_t v ∧ q_F s1 24 11 = (if v_f v = -1 then -1 else vI v 3 (v_f v)) ∧ q_F s1 24 12 = (if v_f v = -1 then v_u v + 1 else v_u v) ∧ q_F s1 24 13 = v_s v ∧ s1.1 = s.1 := by
    refine ⟨_, rfl, ?_⟩
    by_cases z : v_f v = -1
    · simp only [if_pos z]
      refine ⟨FK.sf, fun _ => rfl, fun a x ha => ?_, fun _ _ => rfl, ?_, ?_, ?_, ?_, rfl⟩
      · rw [q_I_sf, if_neg (fun y => ha y.1)]
      · simp [q_F_sf, w3]
      · simp [q_F_sf, w4, z]
      · simp [q_F_sf]
      · simp [q_F_sf, w6]
    · simp only [if_neg z]
      refine ⟨FK.sf, fun _ => rfl, fun a x ha => ?_, fun _ _ => rfl, ?_, ?_, ?_, ?_, rfl⟩
      · rw [q_I_sf, if_neg (fun y => ha y.1)]
      · simp [q_F_sf, w3]
      · simp [q_F_sf]
      · simp [q_F_sf, w5]
      · simp [q_F_sf, w6]
  obtain ⟨s1, hs1, f1, t1, i1, l1, q10, q11, q12, q13, n1⟩ := hS
  rw [hs1]
  have hF1 : q_T s1 24 = some (shF0 c) := (t1 24).trans hF0
  have hFb : ∀ i t, shFa room i = some t → q_T s1 (c + i) = some t := fun i t e => (t1 _).trans (hFa i t e)
  have hcol : ∀ i, 1 ≤ i → c + i ≠ 24 := fun i hi => by omega
  -- the row
  refine QW_s ?_
  simp only [g_49]
  refine QW_p (k_gv hF1 rfl rfl) ?_
  refine QW_p (k_is (hFb _ _ rfl) x0 x1 (by omega)) ?_
  refine QW_p (k_gv hF1 rfl rfl) ?_
  refine QW_p (k_is (hFb _ _ rfl) x0 x1 (by omega)) ?_
  refine QW_p (k_gv hF1 rfl rfl) ?_
  refine QW_p (k_is (hFb _ _ rfl) x0 x1 (by omega)) ?_
  refine QW_p (k_gv hF1 rfl rfl) ?_
  refine QW_p (k_is (hFb _ _ rfl) x0 x1 (by omega)) ?_
  refine QW_p (k_gv hF1 rfl rfl) ?_
  refine QW_p (k_is (hFb _ _ rfl) x0 x1 (by omega)) ?_
  refine QW_p (k_gv hF1 rfl rfl) ?_
  refine QW_p (k_rc hF1) ?_
  refine QW_e (d_51r (s := q_si (q_si (q_si (q_si (q_si s1 (c + 1) x kd) (c + 2) x p) (c + 3) x u) (c + 4) x (-1)) (c + 5) x (-1)) (room := room) hF1 hFb w9 hu.1 (by omega)) ?_
  dsimp only
  have eD : (if u = -1 then 0 else q_I (q_si (q_si (q_si (q_si (q_si s1 (c + 1) x kd) (c + 2) x p) (c + 3) x u) (c + 4) x (-1)) (c + 5) x (-1)) (c + 6) u) = depthV v u := by
    unfold depthV
    by_cases z : u = -1
    · rw [if_pos z, if_pos z]
    · rw [if_neg z, if_neg z]
      simp only [q_I_si]
      rw [if_neg (by omega), if_neg (by omega), if_neg (by omega), if_neg (by omega), if_neg (by omega), i1 _ _ (hcol 6 (by decide))]
      exact w1 6 u (by decide) (by decide) (by omega) hu.2
  rw [eD]
  refine QW_p (k_is (hFb _ _ rfl) x0 x1 (by omega)) ?_
  refine QW_g (by omega) ?_
  have hd0 : 0 ≤ depthV v u := by
    unfold depthV
    split
    · omega
    · exact (bb u (by omega) hu.2).2.2.2.2.2.1
  -- the sides
  have f2 : FK s c room (a_row s1 c x kd p u (depthV v u + 1)) c room := (((((f1.tr (FK.si (by decide) (by decide))).tr (FK.si (by decide) (by decide))).tr (FK.si (by decide) (by decide))).tr (FK.si (by decide) (by decide))).tr (FK.si (by decide) (by decide))).tr (FK.si (by decide) (by decide))
  have K4 : ∀ s2, FK s c room s2 c room → (∀ a, q_T s2 a = q_T s a) → s2.1 = s.1 → (∀ i y, 1 ≤ i → i ≤ 7 → q_I s2 (c + i) y = q_I (a_row s1 c x kd p u (depthV v u + 1)) (c + i) y) → (∀ a y, q_L s2 a y = q_L s a y) → q_F s2 24 10 = v_t v → q_F s2 24 11 = (if v_f v = -1 then -1 else vI v 3 (v_f v)) → q_F s2 24 12 = (if v_f v = -1 then v_u v + 1 else v_u v) → q_F s2 24 13 = (if kd = 18 then v_s v + 1 else v_s v) →
      QW (fun n => g_49 o n 4 s2 24 0 0 u (if r = true then 1 else 0) x 0) (fun q => q.2 = x ∧ ∃ v', VW q.1 24 c room v' ∧ VB v' ∧ AddR v v' kd p u r x ∧ FK s c room q.1 c room) := by
    intro s2 f3 t2 n2 i2 l2 p10 p11 p12 p13
    have hF2 : q_T s2 24 = some (shF0 c) := (t2 24).trans hF0
    have hFc : ∀ i t, shFa room i = some t → q_T s2 (c + i) = some t := fun i t e => (t2 _).trans (hFa i t e)
    -- what stands at the end
    have K5 : ∀ s3, FK s c room s3 c room → (∀ a, q_T s3 a = q_T s a) → s3.1 = s.1 → (∀ i y, 1 ≤ i → i ≤ 7 → q_I s3 (c + i) y = if ¬ u = -1 ∧ y = u ∧ i = colV r then x else q_I (a_row s1 c x kd p u (depthV v u + 1)) (c + i) y) → (∀ a y, q_L s3 a y = q_L s a y) → q_F s3 24 10 = (if u = -1 then x else v_t v) → q_F s3 24 11 = (if v_f v = -1 then -1 else vI v 3 (v_f v)) → q_F s3 24 12 = (if v_f v = -1 then v_u v + 1 else v_u v) → q_F s3 24 13 = (if kd = 18 then v_s v + 1 else v_s v) →
        QW (fun n => g_49 o n 5 s3 0 0 0 0 0 x 0) (fun q => q.2 = x ∧ ∃ v', VW q.1 24 c room v' ∧ VB v' ∧ AddR v v' kd p u r x ∧ FK s c room q.1 c room) := by
      intro s3 f4 t3 n3 i3 l3 r10 r11 r12 r13
      refine QW_s ?_
      simp only [g_49]
      have hu2 : v_u v ≤ q_F s3 24 12 ∧ x < q_F s3 24 12 ∧ q_F s3 24 12 ≤ room := by
        rw [r12]
        by_cases z : v_f v = -1
        · rw [if_pos z] at hx ⊢
          have := hroom z
          omega
        · rw [if_neg z] at hx ⊢
          omega
      have rowx : ∀ i, 1 ≤ i → i ≤ 7 → q_I s3 (c + i) x = q_I (a_row s1 c x kd p u (depthV v u + 1)) (c + i) x := fun i h0 h1 => by
        rw [i3 i x h0 h1, if_neg (fun z => hxu z.2.1)]
      have rowy : ∀ i y, 1 ≤ i → i ≤ 7 → y ≠ x → 0 ≤ y → y < v_u v → q_I s3 (c + i) y = if ¬ u = -1 ∧ y = u ∧ i = colV r then x else vI v i y := fun i y h0 h1 h2 h3 h4 => by
        rw [i3 i y h0 h1]
        unfold a_row
        simp only [q_I_si]
        rw [if_neg (c := c + i = c + 6 ∧ y = x) (by omega), if_neg (c := c + i = c + 5 ∧ y = x) (by omega), if_neg (c := c + i = c + 4 ∧ y = x) (by omega), if_neg (c := c + i = c + 3 ∧ y = x) (by omega), if_neg (c := c + i = c + 2 ∧ y = x) (by omega), if_neg (c := c + i = c + 1 ∧ y = x) (by omega), i1 _ _ (hcol i h0), w1 i y h0 h1 h3 h4]
      have x1' : q_I s3 (c + 1) x = kd := by rw [rowx 1 (by decide) (by decide)]; simp [a_row, q_I_si]
      have x2' : q_I s3 (c + 2) x = p := by rw [rowx 2 (by decide) (by decide)]; simp [a_row, q_I_si]
      have x3' : q_I s3 (c + 3) x = u := by rw [rowx 3 (by decide) (by decide)]; simp [a_row, q_I_si]
      have x4' : q_I s3 (c + 4) x = -1 := by rw [rowx 4 (by decide) (by decide)]; simp [a_row, q_I_si]
      have x5' : q_I s3 (c + 5) x = -1 := by rw [rowx 5 (by decide) (by decide)]; simp [a_row, q_I_si]
      have x6' : q_I s3 (c + 6) x = depthV v u + 1 := by rw [rowx 6 (by decide) (by decide)]; simp [a_row, q_I_si]
      have hcr : colV r = 4 ∨ colV r = 5 := by cases r <;> simp [colV]
      refine QW_ret ⟨rfl, vs s3 c, ⟨(t3 24).trans hF0, fun i t e => (t3 _).trans (hFa i t e), fun _ _ _ _ _ _ => rfl, fun _ _ _ _ _ _ => rfl, rfl, rfl, rfl, rfl, by show 0 ≤ q_F s3 24 12; omega, hu2.2.2, w9, w10, by rw [n3]; exact w11, by rw [n3]; exact w12⟩, ⟨fun y y0 y1 => ?_, ?_, ?_, ?_⟩, ⟨hx, x1', x2', x3', x4', x5', x6', fun y y0 y1 y2 => ⟨fun i e0 e1 e2 => ?_, fun i e0 e1 => ?_⟩, fun z => ?_, r10, r11, r12, r13⟩, f4⟩
      · have y1 : y < q_F s3 24 12 := y1
        by_cases z : y = x
        · rw [z]
          show (0 ≤ q_I s3 (c + 1) x ∧ q_I s3 (c + 1) x ≤ 40) ∧ (0 ≤ q_I s3 (c + 2) x ∧ q_I s3 (c + 2) x < 500) ∧ (-1 ≤ q_I s3 (c + 3) x ∧ q_I s3 (c + 3) x < q_F s3 24 12) ∧ (-1 ≤ q_I s3 (c + 4) x ∧ q_I s3 (c + 4) x < q_F s3 24 12) ∧ (-1 ≤ q_I s3 (c + 5) x ∧ q_I s3 (c + 5) x < q_F s3 24 12) ∧ (0 ≤ q_I s3 (c + 6) x ∧ q_I s3 (c + 6) x ≤ 1000)
          rw [x1', x2', x3', x4', x5', x6']
          omega
        · have y2 : y < v_u v := by
            rw [r12] at y1
            by_cases zf : v_f v = -1
            · rw [if_pos zf] at hx y1
              omega
            · rw [if_neg zf] at y1
              omega
          obtain ⟨a1, a2, a3, a4, a5, a6⟩ := bb y y0 y2
          show (0 ≤ q_I s3 (c + 1) y ∧ q_I s3 (c + 1) y ≤ 40) ∧ (0 ≤ q_I s3 (c + 2) y ∧ q_I s3 (c + 2) y < 500) ∧ (-1 ≤ q_I s3 (c + 3) y ∧ q_I s3 (c + 3) y < q_F s3 24 12) ∧ (-1 ≤ q_I s3 (c + 4) y ∧ q_I s3 (c + 4) y < q_F s3 24 12) ∧ (-1 ≤ q_I s3 (c + 5) y ∧ q_I s3 (c + 5) y < q_F s3 24 12) ∧ (0 ≤ q_I s3 (c + 6) y ∧ q_I s3 (c + 6) y ≤ 1000)
          rw [rowy 1 y (by decide) (by decide) z y0 y2, rowy 2 y (by decide) (by decide) z y0 y2, rowy 3 y (by decide) (by decide) z y0 y2, rowy 4 y (by decide) (by decide) z y0 y2, rowy 5 y (by decide) (by decide) z y0 y2, rowy 6 y (by decide) (by decide) z y0 y2]
          rw [if_neg (c := ¬u = -1 ∧ y = u ∧ 1 = colV r) (by omega), if_neg (c := ¬u = -1 ∧ y = u ∧ 2 = colV r) (by omega), if_neg (c := ¬u = -1 ∧ y = u ∧ 3 = colV r) (by omega), if_neg (c := ¬u = -1 ∧ y = u ∧ 6 = colV r) (by omega)]
          refine ⟨a1, a2, by omega, ?_, ?_, a6⟩
          · split <;> omega
          · split <;> omega
      · show -1 ≤ q_F s3 24 10 ∧ q_F s3 24 10 < q_F s3 24 12
        rw [r10]
        split <;> omega
      · show -1 ≤ q_F s3 24 11 ∧ q_F s3 24 11 < q_F s3 24 12
        rw [r11]
        split
        · omega
        · have := (bb (v_f v) (by omega) bf.2).2.2.1
          omega
      · show -1000 ≤ q_F s3 24 13 ∧ q_F s3 24 13 ≤ 1000
        rw [r13]
        split <;> omega
      · show q_I s3 (c + i) y = vI v i y
        rw [rowy i y e0 e1 y2 y0 y1, if_neg]
        intro z
        rw [if_pos z.2.1] at e2
        exact e2 z.2.2
      · show q_L s3 (c + i) y = vL v i y
        rw [l3]
        exact w2 i y e0 e1 y0 y1
      · show q_I s3 (c + colV r) u = x
        rw [rowy (colV r) u (by omega) (by omega) (fun e => hxu e.symm) (by omega) hu.2, if_pos ⟨z, rfl, rfl⟩]
    refine QW_s ?_
    simp only [g_49]
    refine QW_g (by omega) ?_
    refine QW_by (fun z => ?_) (fun z => ?_)
    · refine QW_g (by cases r <;> decide) ?_
      cases r with
      | false =>
        refine QW_it rfl ?_
        refine QW_p (k_gv hF2 rfl rfl) ?_
        refine QW_p (k_is (hFc _ _ rfl) (by omega) (by omega) (by omega)) ?_
        refine K5 _ (f3.tr (FK.si (by decide) (by decide))) t2 n2 (fun i y e0 e1 => ?_) l2 ?_ ?_ ?_ ?_
        · rw [q_I_si, i2 i y e0 e1]
          by_cases z2 : y = u ∧ i = 4
          · rw [if_pos ⟨by omega, z2.1⟩, if_pos ⟨z, z2.1, by rw [z2.2]; rfl⟩]
          · rw [if_neg (fun e => z2 ⟨e.2, by omega⟩), if_neg (fun e => z2 ⟨e.2.1, e.2.2⟩)]
        · rw [if_neg z, q_F_si, if_neg (by omega)]; exact p10
        · rw [q_F_si, if_neg (by omega)]; exact p11
        · rw [q_F_si, if_neg (by omega)]; exact p12
        · rw [q_F_si, if_neg (by omega)]; exact p13
      | true =>
        refine QW_if (by decide) ?_
        refine QW_p (k_gv hF2 rfl rfl) ?_
        refine QW_p (k_is (hFc _ _ rfl) (by omega) (by omega) (by omega)) ?_
        refine K5 _ (f3.tr (FK.si (by decide) (by decide))) t2 n2 (fun i y e0 e1 => ?_) l2 ?_ ?_ ?_ ?_
        · rw [q_I_si, i2 i y e0 e1]
          by_cases z2 : y = u ∧ i = 5
          · rw [if_pos ⟨by omega, z2.1⟩, if_pos ⟨z, z2.1, by rw [z2.2]; rfl⟩]
          · rw [if_neg (fun e => z2 ⟨e.2, by omega⟩), if_neg (fun e => z2 ⟨e.2.1, e.2.2⟩)]
        · rw [if_neg z, q_F_si, if_neg (by omega)]; exact p10
        · rw [q_F_si, if_neg (by omega)]; exact p11
        · rw [q_F_si, if_neg (by omega)]; exact p12
        · rw [q_F_si, if_neg (by omega)]; exact p13
    · have z := Decidable.of_not_not z
      refine QW_p (k_pi hF2 rfl rfl) ?_
      refine K5 _ (f3.tr FK.sf) t2 n2 (fun i y e0 e1 => ?_) l2 ?_ ?_ ?_ ?_
      · rw [q_I_sf, if_neg (fun e => hcol i e0 e.1), if_neg (fun e => e.1 z)]
        exact i2 i y e0 e1
      · simp [q_F_sf, z]
      · simp [q_F_sf, p11]
      · simp [q_F_sf, p12]
      · simp [q_F_sf, p13]
  have aL : ∀ a y, q_L (a_row s1 c x kd p u (depthV v u + 1)) a y = q_L s a y := fun a y => l1 a y
  have aF : ∀ f : Nat, q_F (a_row s1 c x kd p u (depthV v u + 1)) 24 f = q_F s1 24 f := fun f => by
    unfold a_row
    simp only [q_F_si]
    rw [if_neg (by omega), if_neg (by omega), if_neg (by omega), if_neg (by omega), if_neg (by omega), if_neg (by omega)]
  refine QW_by (fun z => ?_) (fun z => ?_)
  · exact K4 (a_row s1 c x kd p u (depthV v u + 1)) f2 t1 n1 (fun _ _ _ _ => rfl) aL ((aF 10).trans q10) ((aF 11).trans q11) ((aF 12).trans q12) (by rw [if_neg z]; exact (aF 13).trans q13)
  · have z := Decidable.of_not_not z
    have hF2 : q_T (a_row s1 c x kd p u (depthV v u + 1)) 24 = some (shF0 c) := hF1
    refine QW_p (k_gi hF2 rfl) ?_
    refine QW_p (k_pi hF2 rfl rfl) ?_
    refine K4 (q_sf (a_row s1 c x kd p u (depthV v u + 1)) 24 13 (q_F (a_row s1 c x kd p u (depthV v u + 1)) 24 13 + 1)) (f2.tr FK.sf) t1 n1 (fun i y e0 e1 => ?_) aL ?_ ?_ ?_ ?_
    · rw [q_I_sf, if_neg (fun e => hcol i e0 e.1)]
    · simp [q_F_sf, aF, q10]
    · simp [q_F_sf, aF, q11]
    · simp [q_F_sf, aF, q12]
    · rw [if_pos z, q_F_sf, if_pos ⟨rfl, rfl⟩, aF, q13]
/-- one more frame -/
theorem d_49 (h : VW s 24 c room v) (hb : VB v) (hused : v_u v ≤ 7000) (hr16 : 9 ≤ room) {kd p u : Int} {r : Bool} {x : Int} (hx : x = (if v_f v = -1 then v_u v else v_f v)) (hxu : x ≠ u) (hk : 0 ≤ kd ∧ kd ≤ 40) (hp : 0 ≤ p ∧ p < 500) (hu : -1 ≤ u ∧ u < v_u v) (hd : depthV v u ≤ 999) (hsd : -999 ≤ v_s v ∧ v_s v ≤ 999) {i4 : Int} (hi4 : i4 = if r = true then 1 else 0) :
    QW (fun n => g_49 o n 0 s 24 kd p u i4 0 0) (fun q => q.2 = x ∧ ∃ v' c' room', VW q.1 24 c' room' v' ∧ VB v' ∧ AddR v v' kd p u r x ∧ FK s c room q.1 c' room') := by
  subst hi4
  have h' := h
  obtain ⟨hF0, hFa, w1, w2, w3, w4, w5, w6, w7, w8, w9, w10, w11, w12⟩ := h'
  have bf := hb.2.2.1
  refine QW_s ?_
  simp only [g_49]
  refine QW_p (k_gi hF0 rfl) ?_
  rw [w4]
  refine QW_g (by omega) ?_
  refine QW_by (fun z => ?_) (fun z => ?_)
  · refine QW_m (d_49a h hb (fun e => absurd e z) hx hxu hk hp hu hd hsd) (fun q e => ?_)
    obtain ⟨e1, v', e2, e3, e4, e5⟩ := e
    exact ⟨e1, v', c, room, e2, e3, e4, e5⟩
  · have z := Decidable.of_not_not z
    refine QW_p (k_gi hF0 rfl) ?_
    refine QW_p (k_gv hF0 rfl rfl) ?_
    refine QW_p (k_ln (hFa _ _ rfl) rfl) ?_
    rw [w5]
    refine QW_g (by omega) ?_
    refine QW_by (fun y => ?_) (fun y => ?_)
    · refine QW_m (d_49a h hb (fun _ => y) hx hxu hk hp hu hd hsd) (fun q e => ?_)
      obtain ⟨e1, v', e2, e3, e4, e5⟩ := e
      exact ⟨e1, v', c, room, e2, e3, e4, e5⟩
    · refine QW_p (k_gi hF0 rfl) ?_
      refine QW_p (k_rc hF0) ?_
      rw [w5]
      have eu : v_u v * 2 + 1 = ((room * 2 + 1 : Nat) : Int) := by omega
      rw [eu]
      refine QW_c (d_50 h (R := room * 2 + 1) (by omega) (by omega) (by omega) (by omega)) (fun a ha => ?_)
      obtain ⟨c', ha1, ha2⟩ := ha
      refine QW_m (d_49a ha1 hb (fun _ => by omega) hx hxu hk hp hu hd hsd) (fun q e => ?_)
      obtain ⟨e1, v', e2, e3, e4, e5⟩ := e
      exact ⟨e1, v', c', room * 2 + 1, e2, e3, e4, ha2.tr e5⟩
set_option maxHeartbeats 4000000 in
/-- one less -/
theorem d_54 (h : VW s 24 c room v) (hb : VB v) {x : Int} (x0 : 0 ≤ x) (x1 : x < v_u v) (hxu : vI v 3 x ≠ x) (hsd : -999 ≤ v_s v ∧ v_s v ≤ 999) :
    QW (fun n => g_54 o n 0 s 24 x) (fun q => ∃ v', VW q.1 24 c room v' ∧ VB v' ∧ RemR v v' x ∧ FK s c room q.1 c room) := by
  have h' := h
  obtain ⟨hF0, hFa, w1, w2, w3, w4, w5, w6, w7, w8, w9, w10, w11, w12⟩ := h'
  obtain ⟨bb, bt, bf, bs⟩ := hb
  have hcol : ∀ i, 1 ≤ i → c + i ≠ 24 := fun i hi => by omega
  obtain ⟨a1, a2, a3, a4, a5, a6⟩ := bb x x0 x1
  have e1 := w1 1 x (by decide) (by decide) x0 x1
  have e3 := w1 3 x (by decide) (by decide) x0 x1
  -- the end
  have K1 : ∀ s2, FK s c room s2 c room → (∀ a, q_T s2 a = q_T s a) → s2.1 = s.1 → (∀ i y, 1 ≤ i → i ≤ 7 → q_I s2 (c + i) y = if ¬ vI v 3 x = -1 ∧ y = vI v 3 x ∧ i = colV (!decide (vI v 4 (vI v 3 x) = x)) then -1 else q_I s (c + i) y) → (∀ a y, q_L s2 a y = q_L s a y) → q_F s2 24 10 = (if vI v 3 x = -1 then -1 else v_t v) → q_F s2 24 11 = v_f v → q_F s2 24 12 = v_u v → q_F s2 24 13 = v_s v →
      QW (fun n => g_54 o n 1 s2 24 x) (fun q => ∃ v', VW q.1 24 c room v' ∧ VB v' ∧ RemR v v' x ∧ FK s c room q.1 c room) := by
    intro s2 f2 t2 n2 i2 l2 p10 p11 p12 p13
    have hcr : colV (!decide (vI v 4 (vI v 3 x) = x)) = 4 ∨ colV (!decide (vI v 4 (vI v 3 x) = x)) = 5 := by
      by_cases z : vI v 4 (vI v 3 x) = x
      · simp [colV, z]
      · simp [colV, z]
    have hF2 : q_T s2 24 = some (shF0 c) := (t2 24).trans hF0
    have hFc : ∀ i t, shFa room i = some t → q_T s2 (c + i) = some t := fun i t e => (t2 _).trans (hFa i t e)
    have K2 : ∀ s3, FK s c room s3 c room → (∀ a, q_T s3 a = q_T s a) → s3.1 = s.1 → (∀ i y, 1 ≤ i → i ≤ 7 → q_I s3 (c + i) y = if ¬ vI v 3 x = -1 ∧ y = vI v 3 x ∧ i = colV (!decide (vI v 4 (vI v 3 x) = x)) then -1 else q_I s (c + i) y) → (∀ a y, q_L s3 a y = q_L s a y) → q_F s3 24 10 = (if vI v 3 x = -1 then -1 else v_t v) → q_F s3 24 11 = v_f v → q_F s3 24 12 = v_u v → q_F s3 24 13 = (if vI v 1 x = 18 then v_s v - 1 else v_s v) →
        QW (fun n => g_54 o n 2 s3 24 x) (fun q => ∃ v', VW q.1 24 c room v' ∧ VB v' ∧ RemR v v' x ∧ FK s c room q.1 c room) := by
      intro s3 f3 t3 n3 i3 l3 r10 r11 r12 r13
      have hF3 : q_T s3 24 = some (shF0 c) := (t3 24).trans hF0
      have hFd : ∀ i t, shFa room i = some t → q_T s3 (c + i) = some t := fun i t e => (t3 _).trans (hFa i t e)
      refine QW_s ?_
      simp only [g_54]
      refine QW_p (k_gv hF3 rfl rfl) ?_
      refine QW_p (k_gi hF3 rfl) ?_
      refine QW_p (k_is (hFd _ _ rfl) x0 (by omega) (by omega)) ?_
      refine QW_p (k_pi hF3 rfl rfl) ?_
      rw [r11]
      have g10 : q_F (q_sf (q_si s3 (c + 3) x (v_f v)) 24 11 x) 24 10 = (if vI v 3 x = -1 then -1 else v_t v) := by
        rw [q_F_sf, if_neg (by decide), q_F_si, if_neg (by omega)]; exact r10
      have g11 : q_F (q_sf (q_si s3 (c + 3) x (v_f v)) 24 11 x) 24 11 = x := by
        rw [q_F_sf, if_pos ⟨rfl, rfl⟩]
      have g12 : q_F (q_sf (q_si s3 (c + 3) x (v_f v)) 24 11 x) 24 12 = v_u v := by
        rw [q_F_sf, if_neg (by decide), q_F_si, if_neg (by omega)]; exact r12
      have g13 : q_F (q_sf (q_si s3 (c + 3) x (v_f v)) 24 11 x) 24 13 = (if vI v 1 x = 18 then v_s v - 1 else v_s v) := by
        rw [q_F_sf, if_neg (by decide), q_F_si, if_neg (by omega)]; exact r13
      have gI : ∀ i y, 1 ≤ i → i ≤ 7 → 0 ≤ y → y < v_u v → q_I (q_sf (q_si s3 (c + 3) x (v_f v)) 24 11 x) (c + i) y = if i = 3 ∧ y = x then v_f v else if ¬ vI v 3 x = -1 ∧ y = vI v 3 x ∧ i = colV (!decide (vI v 4 (vI v 3 x) = x)) then -1 else vI v i y := fun i y y0 y1 y2 y3 => by
        rw [q_I_sf, if_neg (fun e => hcol i y0 e.1), q_I_si]
        by_cases z : i = 3 ∧ y = x
        · rw [if_pos ⟨by omega, z.2⟩, if_pos z]
        · rw [if_neg (fun e => z ⟨by omega, e.2⟩), if_neg z, i3 i y y0 y1, w1 i y y0 y1 y2 y3]
      refine QW_ret ⟨vs (q_sf (q_si s3 (c + 3) x (v_f v)) 24 11 x) c, ⟨hF3, hFd, fun _ _ _ _ _ _ => rfl, fun _ _ _ _ _ _ => rfl, rfl, rfl, rfl, rfl, by show 0 ≤ q_F (q_sf (q_si s3 (c + 3) x (v_f v)) 24 11 x) 24 12; omega, by show q_F (q_sf (q_si s3 (c + 3) x (v_f v)) 24 11 x) 24 12 ≤ room; omega, w9, w10, by show c + 10 < s3.1; omega, by show 80 < s3.1; omega⟩, ⟨fun y y0 y1 => ?_, ?_, ?_, ?_⟩, ⟨fun y y0 y1 => ⟨fun i i0 i1 iz => ?_, fun i i0 i1 => ?_⟩, ?_, fun z => ?_, g10, g11, g12, g13⟩, (f3.tr (FK.si (by decide) (by decide))).tr FK.sf⟩
      · have y1 : y < v_u v := by
          have y1 : y < q_F (q_sf (q_si s3 (c + 3) x (v_f v)) 24 11 x) 24 12 := y1
          omega
        obtain ⟨m1, m2, m3, m4, m5, m6⟩ := bb y y0 y1
        have z1 : v_u (vs (q_sf (q_si s3 (c + 3) x (v_f v)) 24 11 x) c) = v_u v := g12
        have z2 : ∀ i, 1 ≤ i → i ≤ 7 → vI (vs (q_sf (q_si s3 (c + 3) x (v_f v)) 24 11 x) c) i y = if i = 3 ∧ y = x then v_f v else if ¬ vI v 3 x = -1 ∧ y = vI v 3 x ∧ i = colV (!decide (vI v 4 (vI v 3 x) = x)) then -1 else vI v i y := fun i i0 i1 => gI i y i0 i1 y0 y1
        rw [z1, z2 1 (by decide) (by decide), z2 2 (by decide) (by decide), z2 3 (by decide) (by decide), z2 4 (by decide) (by decide), z2 5 (by decide) (by decide), z2 6 (by decide) (by decide)]
        refine ⟨?_, ?_, ?_, ?_, ?_, ?_⟩
        · rw [if_neg (by omega), if_neg (by omega)]; exact m1
        · rw [if_neg (by omega), if_neg (by omega)]; exact m2
        · by_cases z : y = x
          · rw [if_pos ⟨rfl, z⟩]; exact bf
          · rw [if_neg (fun e => z e.2), if_neg (by omega)]; exact m3
        · rw [if_neg (by omega)]
          split <;> omega
        · rw [if_neg (by omega)]
          split <;> omega
        · rw [if_neg (by omega), if_neg (by omega)]; exact m6
      · show -1 ≤ q_F (q_sf (q_si s3 (c + 3) x (v_f v)) 24 11 x) 24 10 ∧ q_F (q_sf (q_si s3 (c + 3) x (v_f v)) 24 11 x) 24 10 < q_F (q_sf (q_si s3 (c + 3) x (v_f v)) 24 11 x) 24 12
        rw [g10, g12]
        split <;> omega
      · show -1 ≤ q_F (q_sf (q_si s3 (c + 3) x (v_f v)) 24 11 x) 24 11 ∧ q_F (q_sf (q_si s3 (c + 3) x (v_f v)) 24 11 x) 24 11 < q_F (q_sf (q_si s3 (c + 3) x (v_f v)) 24 11 x) 24 12
        rw [g11, g12]
        omega
      · show -1000 ≤ q_F (q_sf (q_si s3 (c + 3) x (v_f v)) 24 11 x) 24 13 ∧ q_F (q_sf (q_si s3 (c + 3) x (v_f v)) 24 11 x) 24 13 ≤ 1000
        rw [g13]
        split <;> omega
      · refine (gI i y i0 i1 y0 y1).trans ?_
        by_cases z : y = x
        · rw [if_pos z] at iz
          rw [if_neg (fun e => iz e.1), if_neg (fun e => hxu (by rw [← e.2.1]; exact z))]
        · rw [if_neg z] at iz
          rw [if_neg (fun e => z e.2)]
          by_cases z3 : y = vI v 3 x
          · rw [if_pos z3] at iz
            rw [if_neg (fun e => iz e.2.2)]
          · rw [if_neg (fun e => z3 e.2.1)]
      · show q_L s3 (c + i) y = vL v i y
        rw [l3]
        exact w2 i y i0 i1 y0 y1
      · refine (gI 3 x (by decide) (by decide) x0 x1).trans ?_
        rw [if_pos ⟨rfl, rfl⟩]
      · refine (gI _ (vI v 3 x) (by omega) (by omega) (by omega) (by omega)).trans ?_
        rw [if_neg (fun e => hxu e.2), if_pos ⟨z, rfl, rfl⟩]
    refine QW_s ?_
    simp only [g_54]
    refine QW_p (k_gv hF2 rfl rfl) ?_
    refine QW_p (k_ia (hFc _ _ rfl) x0 (by omega) (by omega)) ?_
    rw [i2 1 x (by decide) (by decide), if_neg (by omega), e1]
    refine QW_g (by omega) ?_
    refine QW_by (fun z => ?_) (fun z => ?_)
    · exact K2 s2 f2 t2 n2 i2 l2 p10 p11 p12 (by rw [if_neg z]; exact p13)
    · have z := Decidable.of_not_not z
      refine QW_p (k_gi hF2 rfl) ?_
      refine QW_p (k_pi hF2 rfl rfl) ?_
      rw [p13]
      refine K2 _ (f2.tr FK.sf) t2 n2 (fun i y y0 y1 => ?_) l2 ?_ ?_ ?_ ?_
      · rw [q_I_sf, if_neg (fun e => hcol i y0 e.1)]
        exact i2 i y y0 y1
      · rw [q_F_sf, if_neg (by decide)]; exact p10
      · rw [q_F_sf, if_neg (by decide)]; exact p11
      · rw [q_F_sf, if_neg (by decide)]; exact p12
      · rw [q_F_sf, if_pos ⟨rfl, rfl⟩, if_pos z]
  refine QW_s ?_
  simp only [g_54]
  refine QW_p (k_gv hF0 rfl rfl) ?_
  refine QW_p (k_ia (hFa _ _ rfl) x0 (by omega) (by omega)) ?_
  rw [e3]
  refine QW_g (by omega) ?_
  refine QW_by (fun z => ?_) (fun z => ?_)
  · obtain ⟨m1, m2, m3, m4, m5, m6⟩ := bb (vI v 3 x) (by omega) a3.2
    refine QW_p (k_gv hF0 rfl rfl) ?_
    refine QW_p (k_ia (hFa _ _ rfl) (by omega) (by omega) (by omega)) ?_
    rw [w1 4 _ (by decide) (by decide) (by omega) a3.2]
    refine QW_g (by omega) ?_
    refine QW_by (fun y => ?_) (fun y => ?_)
    · have ec : colV (!decide (vI v 4 (vI v 3 x) = x)) = 5 := by simp [colV, y]
      refine QW_p (k_gv hF0 rfl rfl) ?_
      refine QW_p (k_is (hFa _ _ rfl) (by omega) (by omega) (by omega)) ?_
      refine K1 _ (FK.si (by decide) (by decide)) (fun _ => rfl) rfl (fun i y' y0 y1 => ?_) (fun _ _ => rfl) ?_ ?_ ?_ ?_
      · rw [q_I_si, ec]
        by_cases z2 : y' = vI v 3 x ∧ i = 5
        · rw [if_pos ⟨by omega, z2.1⟩, if_pos ⟨z, z2.1, z2.2⟩]
        · rw [if_neg (fun e => z2 ⟨e.2, by omega⟩), if_neg (fun e => z2 ⟨e.2.1, e.2.2⟩)]
      · rw [if_neg z, q_F_si, if_neg (by omega)]; exact w3
      · rw [q_F_si, if_neg (by omega)]; exact w4
      · rw [q_F_si, if_neg (by omega)]; exact w5
      · rw [q_F_si, if_neg (by omega)]; exact w6
    · have y := Decidable.of_not_not y
      have ec : colV (!decide (vI v 4 (vI v 3 x) = x)) = 4 := by simp [colV, y]
      refine QW_p (k_gv hF0 rfl rfl) ?_
      refine QW_p (k_is (hFa _ _ rfl) (by omega) (by omega) (by omega)) ?_
      refine K1 _ (FK.si (by decide) (by decide)) (fun _ => rfl) rfl (fun i y' y0 y1 => ?_) (fun _ _ => rfl) ?_ ?_ ?_ ?_
      · rw [q_I_si, ec]
        by_cases z2 : y' = vI v 3 x ∧ i = 4
        · rw [if_pos ⟨by omega, z2.1⟩, if_pos ⟨z, z2.1, z2.2⟩]
        · rw [if_neg (fun e => z2 ⟨e.2, by omega⟩), if_neg (fun e => z2 ⟨e.2.1, e.2.2⟩)]
      · rw [if_neg z, q_F_si, if_neg (by omega)]; exact w3
      · rw [q_F_si, if_neg (by omega)]; exact w4
      · rw [q_F_si, if_neg (by omega)]; exact w5
      · rw [q_F_si, if_neg (by omega)]; exact w6
  · have z := Decidable.of_not_not z
    refine QW_p (k_pi hF0 rfl rfl) ?_
    refine K1 _ FK.sf (fun _ => rfl) rfl (fun i y' y0 y1 => ?_) (fun _ _ => rfl) ?_ ?_ ?_ ?_
    · rw [q_I_sf, if_neg (fun e => hcol i y0 e.1), if_neg (fun e => e.1 z)]
    · rw [q_F_sf, if_pos ⟨rfl, rfl⟩, if_pos z]
    · rw [q_F_sf, if_neg (by decide)]; exact w4
    · rw [q_F_sf, if_neg (by decide)]; exact w5
    · rw [q_F_sf, if_neg (by decide)]; exact w6
end CAD
