/-! THE CLASS'S layOut: tieParts -/
section CTI
variable {o : X_O} {P : PT} {sz rk : Int → Int} {s s0 s1 s2 : Q_S} {p : Int}
/-- a place's parts -/
theorem kidsP (hW : WP P sz) {x : Int} (x0 : 0 ≤ x) (x1 : x < P_n P) (hu : P_u P x = p) (p0 : 0 ≤ p) : (x = P_1 P p ∨ (x = P_2 P p ∧ ((0 ≤ P_w P p ∧ P_w P p ≤ 5) ∨ (13 ≤ P_w P p ∧ P_w P p ≤ 18))) ∨ (x = P_3 P p ∧ (P_w P p = 15 ∨ P_w P p = 16))) ∧ p < x ∧ x + sz x ≤ p + sz p := by
  by_cases z : x = 0
  · rw [z, hW.2.2.2.1] at hu
    omega
  · obtain ⟨a1, a2, a3, a4⟩ := hW.2.2.2.2.2.2 x (by omega) x1
    rw [hu] at a2 a3 a4
    exact ⟨a4, a2, a3⟩
theorem notES {w : Int} (h : isE w) : ¬ isS w := by unfold isE at h; unfold isS; omega
/-- which statements are parts of a place -/
theorem kidS (hW : WP P sz) (p0 : 0 ≤ p) (p1 : p < P_n P) {x : Int} (x0 : 0 ≤ x) (x1 : x < P_n P) (hu : P_u P x = p) (hs : isS (P_w P x)) :
    (P_w P p = 14 ∧ (x = p + 1 ∨ x = p + 1 + sz (p + 1))) ∨ (P_w P p = 15 ∧ (x = p + 1 + sz (p + 1) ∨ (P_3 P p ≠ -1 ∧ x = p + 1 + sz (p + 1) + sz (p + 1 + sz (p + 1))))) ∨ (P_w P p = 16 ∧ (x = p + 1 + sz (p + 1) ∨ x = p + 1 + sz (p + 1) + sz (p + 1 + sz (p + 1)))) ∨ (P_w P p = 17 ∧ x = p + 1 + sz (p + 1)) ∨ (P_w P p = 18 ∧ (x = p + 1 ∨ x = p + 1 + sz (p + 1))) ∨ (P_w P p = 20 ∧ x = p + 1) ∨ (P_w P p = 21 ∧ x = p + 1) := by
  obtain ⟨kx, px, ex⟩ := kidsP hW x0 x1 hu p0
  have wk := (hW.2.2.2.2.2.1 p p0 p1).2.2
  have sx := (hW.2.2.2.2.2.1 x x0 x1).1
  have L1 : isE (P_w P (p + 1)) → x ≠ p + 1 := fun h z => notES (z ▸ h) hs
  have L2 : isE (P_w P (p + 1 + sz (p + 1))) → x ≠ p + 1 + sz (p + 1) := fun h z => notES (z ▸ h) hs
  unfold WK at wk
  rcases wk with h | h | h | h | h | h | h | h | h | h | h | h | h | h | h | h
  · have := h.2.2.1; omega
  · have a := h.1; have c := h.2.1.1; have l := L1 h.2.2.1; omega
  · have a := h.1; have b := h.2.1; have c := h.2.2.1.1.1; have c2 := h.2.2.1.2.1; have l := L1 h.2.2.2.1; have l2 := L2 h.2.2.2.2.1; omega
  · have a := h.1; have c := h.2.1.1; have l := L1 h.2.2.1; omega
  · have a := h.1; have c := h.2.1.1; have l := L1 h.2.2.1; omega
  · have a := h.1; have c := h.2.1.1; have l := L1 h.2.2.1; omega
  · have a := h.1; have c := h.2.1.1.1; have c2 := h.2.1.2.1; have l := L1 h.2.2.1; have l2 := L2 h.2.2.2.1; omega
  · have a := h.1; have c := h.2.1.1.1; have c2 := h.2.1.2.1; omega
  · have a := h.1; have c := h.2.1.1.1; have c2 := h.2.1.2.1; have l := L1 h.2.2.1; have t := h.2.2.2.2.1; omega
  · have a := h.1; have c := h.2.1.1.1.1; have c2 := h.2.1.1.2.1; have c3 := h.2.1.2.1; have l := L1 h.2.2.1
    have z1 := (hW.2.2.2.2.2.1 (p + 1) (by omega) h.2.1.1.1.2.2).1
    have z2 := (hW.2.2.2.2.2.1 (p + 1 + sz (p + 1)) (by omega) h.2.1.1.2.2.2).1
    omega
  · have a := h.1; have c := h.2.1.1.1.1; have c2 := h.2.1.1.2.1; have c3 := h.2.1.2.1; have l := L1 h.2.2.1; omega
  · have a := h.1; have c := h.2.1.1.1; have c2 := h.2.1.2.1; have l := L1 h.2.2.1; omega
  · have a := h.1; have c := h.2.1.1.1; have c2 := h.2.1.2.1; omega
  · have := h.2.2; omega
  · have a := h.1; have c := h.2.1.1; omega
  · have a := h.1; have c := h.2.1.1; omega
/-- the places of two and three parts -/
theorem k2P (hW : WP P sz) (p0 : 0 ≤ p) (p1 : p < P_n P) (h : 14 ≤ P_w P p ∧ P_w P p ≤ 18) : C2 P sz p ∧ isS (P_w P (p + 1 + sz (p + 1))) ∧ (P_w P p = 14 ∨ P_w P p = 18 → isS (P_w P (p + 1))) ∧ 1 ≤ sz (p + 1) ∧ 1 ≤ sz (p + 1 + sz (p + 1)) ∧ (P_w P p = 16 ∨ (P_w P p = 15 ∧ P_3 P p ≠ -1) → C3 P sz p ∧ isS (P_w P (p + 1 + sz (p + 1) + sz (p + 1 + sz (p + 1))))) := by
  have wk := (hW.2.2.2.2.2.1 p p0 p1).2.2
  have fin : C2 P sz p → isS (P_w P (p + 1 + sz (p + 1))) → (P_w P p = 14 ∨ P_w P p = 18 → isS (P_w P (p + 1))) → (P_w P p = 16 ∨ (P_w P p = 15 ∧ P_3 P p ≠ -1) → C3 P sz p ∧ isS (P_w P (p + 1 + sz (p + 1) + sz (p + 1 + sz (p + 1))))) → C2 P sz p ∧ isS (P_w P (p + 1 + sz (p + 1))) ∧ (P_w P p = 14 ∨ P_w P p = 18 → isS (P_w P (p + 1))) ∧ 1 ≤ sz (p + 1) ∧ 1 ≤ sz (p + 1 + sz (p + 1)) ∧ (P_w P p = 16 ∨ (P_w P p = 15 ∧ P_3 P p ≠ -1) → C3 P sz p ∧ isS (P_w P (p + 1 + sz (p + 1) + sz (p + 1 + sz (p + 1))))) := fun c i j k => by
    have z1 := (hW.2.2.2.2.2.1 (p + 1) (by omega) c.1.2.2).1
    exact ⟨c, i, j, z1, (hW.2.2.2.2.2.1 (p + 1 + sz (p + 1)) (by omega) c.2.2.2).1, k⟩
  unfold WK at wk
  rcases wk with w | w | w | w | w | w | w | w | w | w | w | w | w | w | w | w
  · have := w.1; omega
  · have := w.1; omega
  · have := w.2.1; omega
  · have := w.1; omega
  · have := w.1; omega
  · have := w.1; omega
  · have := w.1; omega
  · exact fin w.2.1 w.2.2.2.1 (fun _ => w.2.2.1) (fun z => by have := w.1; omega)
  · exact fin w.2.1 w.2.2.2.1 (fun z => by have := w.1; omega) (fun z => by have := w.1; have := w.2.2.2.2.1; omega)
  · exact fin w.2.1.1 w.2.2.2.1 (fun z => by have := w.1; omega) (fun z => ⟨w.2.1, w.2.2.2.2.1⟩)
  · exact fin w.2.1.1 w.2.2.2.1 (fun z => by have := w.1; omega) (fun z => ⟨w.2.1, w.2.2.2.2.1⟩)
  · exact fin w.2.1 w.2.2.2.1 (fun z => by have := w.1; omega) (fun z => by have := w.1; omega)
  · exact fin w.2.1 w.2.2.2.1 (fun _ => w.2.2.1) (fun z => by have := w.1; omega)
  · have := w.1; omega
  · have := w.1; omega
  · have := w.1; omega
theorem k1P (hW : WP P sz) (p0 : 0 ≤ p) (p1 : p < P_n P) (h : P_w P p = 20 ∨ P_w P p = 21) : C1 P p ∧ isS (P_w P (p + 1)) := by
  have wk := (hW.2.2.2.2.2.1 p p0 p1).2.2
  unfold WK at wk
  rcases wk with w | w | w | w | w | w | w | w | w | w | w | w | w | w | w | w
  · have := w.1; omega
  · have := w.1; omega
  · have := w.2.1; omega
  · have := w.1; omega
  · have := w.1; omega
  · have := w.1; omega
  · have := w.1; omega
  · have := w.1; omega
  · have := w.1; omega
  · have := w.1; omega
  · have := w.1; omega
  · have := w.1; omega
  · have := w.1; omega
  · have := w.1; omega
  · exact ⟨w.2.1, w.2.2.1⟩
  · exact ⟨w.2.1, w.2.2.1⟩
theorem KZ.s11 {j v : Int} : KZ s (q_si s 11 j v) := ⟨KY.si (by decide), fun a ha y => by rw [q_I_si, if_neg (fun z => by omega)], fun _ => rfl, by rw [q_F_si, if_neg (fun z => absurd z.1 (by decide))]⟩
theorem KZ.s17 {j v : Int} : KZ s (q_si s 17 j v) := ⟨KY.si (by decide), fun a ha y => by rw [q_I_si, if_neg (fun z => by omega)], fun _ => rfl, by rw [q_F_si, if_neg (fun z => absurd z.1 (by decide))]⟩
theorem KZ.s14 {j v w : Int} : KZ s (q_sf (q_si s 14 j v) 7 8 w) := ⟨(KY.si (by decide)).tr (KY.sf (by decide)), fun a ha y => by rw [q_I_sf, if_neg (fun z => by omega), q_I_si, if_neg (fun z => by omega)], fun _ => rfl, by rw [q_F_sf, if_neg (fun z => absurd z.2 (by decide)), q_F_si, if_neg (fun z => absurd z.1 (by decide))]⟩
set_option maxHeartbeats 2000000 in
/-- tieParts -/
theorem d_34 (hs : SH s) (hW : WP P sz) (hT : TI P s p) (hK : TK P sz rk s) (p0 : 0 ≤ p) (p1 : p < P_n P) : QW (fun m => g_34 o m 0 s 6 p .null 0 0) (fun q => TI P q.1 (p + 1) ∧ KZ s q.1) := by
  have n5 := hW.2.1
  obtain ⟨t1, t2, t3, c, t4, t5, t6, t7, t8⟩ := id hT
  obtain ⟨k8, k9, k10, -⟩ := hK p p0 p1
  have wr := WK_rg (hW.2.2.2.2.2.1 p p0 p1).2.2
  have kd : (0 ≤ P_w P p ∧ P_w P p ≤ 21) ∨ (100 ≤ P_w P p ∧ P_w P p ≤ 102) := by
    have wk := (hW.2.2.2.2.2.1 p p0 p1).2.2
    unfold WK at wk
    rcases wk with w | w | w | w | w | w | w | w | w | w | w | w | w | w | w | w
    · have := w.1; have := w.2.1; omega
    all_goals (have := w.1; have := w.2.1; omega)
  have kq := ck_lt kd
  have ckv : ck (P_w P p) = if 100 ≤ P_w P p then P_w P p - 70 else P_w P p := rfl
  have e2 : ∀ s', QW (fun m => g_34 o m 2 s' 0 0 .null 0 0) (fun q => q = (s', ())) := fun s' => by
    refine QW_s ?_
    simp only [g_34]
    exact QW_ret rfl
  have ph0 : ¬ P_w P p = 21 → ¬ isPh P p = true := fun h z => h (isPh_iff.mp z).1
  -- nothing is written
  have none : (P_w P p < 14 ∨ 21 < P_w P p ∨ P_w P p = 19) → QW (fun m => g_34 o m 2 s 0 0 .null 0 0) (fun q => TI P q.1 (p + 1) ∧ KZ s q.1) := fun h => by
    refine QW_m (e2 s) (fun q e => ?_)
    rw [e]
    refine ⟨hT.st hW p0 p1 KZ.rf (fun _ _ _ _ => rfl) (fun x x0 x1 hu hx => ?_) (fun x x0 x1 => by rw [if_neg (fun z => by omega)]) (by rw [if_neg (ph0 (by omega))]; exact ⟨rfl, fun _ => rfl⟩), KZ.rf⟩
    have := kidS hW p0 p1 x0 x1 hu hx
    omega
  refine QW_s ?_
  simp only [g_34]
  refine QW_p (k_gv (hs _ _ rfl) rfl rfl) ?_
  refine QW_p (k_gv (hs _ _ rfl) rfl rfl) ?_
  refine QW_p (k_gv (hs _ _ rfl) rfl rfl) ?_
  refine QW_p (k_gv (hs _ _ rfl) rfl rfl) ?_
  refine QW_p (k_ia (hs _ _ rfl) (by omega) (by omega) (by decide)) ?_
  rw [k8]
  refine QW_g kq.1 ?_
  refine QW_by (fun z => none (by rw [ckv] at z; split at z <;> omega)) (fun z => ?_)
  have ckw : ck (P_w P p) = P_w P p := by
    rw [ckv] at z ⊢
    by_cases y : 100 ≤ P_w P p
    · rw [if_pos y] at z; omega
    · rw [if_neg y]
  rw [ckw] at z ⊢
  have z10 : 14 ≤ P_w P p ∧ P_w P p ≤ 18 → q_I s 10 (p + 1) = sz (p + 1) ∧ q_I s 10 (p + 1 + sz (p + 1)) = sz (p + 1 + sz (p + 1)) := fun h => by
    obtain ⟨c2, c3, c4, c5, c6, c7⟩ := k2P hW p0 p1 h
    exact ⟨(hK (p + 1) (by omega) c2.1.2.2).2.2.1, (hK (p + 1 + sz (p + 1)) (by omega) c2.2.2.2).2.2.1⟩
  refine QW_by (fun w14 => ?_) (fun w14 => ?_)
  · -- ROW
    obtain ⟨c2, c3, c4, c5, c6, -⟩ := k2P hW p0 p1 (by omega)
    have c4 := c4 (Or.inl w14)
    obtain ⟨y1, y2⟩ := z10 (by omega)
    have l1 := c2.1.2.2
    have l2 := c2.2.2.2
    refine QW_p (k_gv (hs _ _ rfl) rfl rfl) ?_
    refine QW_p (k_rc (hs _ _ rfl)) ?_
    refine QW_e (d_37l hs p0 (by omega)) ?_
    rw [y1]
    refine QW_p (k_is (hs _ _ rfl) (by omega) (by omega) (by decide)) ?_
    have hs1 : SH (q_si s 11 (p + 1) (p + 1 + sz (p + 1))) := hs
    refine QW_p (k_gv (hs1 _ _ rfl) rfl rfl) ?_
    refine QW_p (k_rc (hs1 _ _ rfl)) ?_
    refine QW_e (d_37l hs1 p0 (by omega)) ?_
    rw [show q_I (q_si s 11 (p + 1) (p + 1 + sz (p + 1))) 10 (p + 1) = sz (p + 1) by rw [q_I_si, if_neg (fun z => absurd z.1 (by decide))]; exact y1]
    refine QW_p (k_ia (hs1 _ _ rfl) (by omega) (by omega) (by decide)) ?_
    rw [show q_I (q_si s 11 (p + 1) (p + 1 + sz (p + 1))) 11 p = q_I s 11 p by rw [q_I_si, if_neg (fun z => by omega)]]
    refine QW_p (k_is (hs1 _ _ rfl) (by omega) (by omega) (by decide)) ?_
    generalize hs2' : q_si (q_si s 11 (p + 1) (p + 1 + sz (p + 1))) 11 (p + 1 + sz (p + 1)) (q_I s 11 p) = s2
    have hs2 : SH s2 := by rw [← hs2']; exact hs
    have b17 : ∀ j, q_I s2 17 j = q_I s 17 j := fun j => by rw [← hs2', q_I_si, if_neg (fun z => absurd z.1 (by decide)), q_I_si, if_neg (fun z => absurd z.1 (by decide))]
    have bb : q_I s 17 p = 0 ∨ q_I s 17 p = 1 := by rw [t3 p p0 p1]; split <;> simp
    refine QW_p (k_gv (hs2 _ _ rfl) rfl rfl) ?_
    refine QW_p (k_gv (hs2 _ _ rfl) rfl rfl) ?_
    refine QW_p (k_ba (hs2 _ _ rfl) (by omega) (by omega) (by decide)) ?_
    rw [b17]
    refine QW_p (k_bs (hs2 _ _ rfl) (by omega) (by omega) (by decide) bb) ?_
    have hs3 : SH (q_si s2 17 (p + 1) (q_I s 17 p)) := hs2
    refine QW_p (k_gv (hs3 _ _ rfl) rfl rfl) ?_
    refine QW_p (k_gv (hs3 _ _ rfl) rfl rfl) ?_
    refine QW_p (k_rc (hs3 _ _ rfl)) ?_
    refine QW_e (d_37l hs3 p0 (by omega)) ?_
    rw [show q_I (q_si s2 17 (p + 1) (q_I s 17 p)) 10 (p + 1) = sz (p + 1) by rw [q_I_si, if_neg (fun z => absurd z.1 (by decide)), ← hs2', q_I_si, if_neg (fun z => absurd z.1 (by decide)), q_I_si, if_neg (fun z => absurd z.1 (by decide))]; exact y1]
    refine QW_p (k_gv (hs3 _ _ rfl) rfl rfl) ?_
    refine QW_p (k_ba (hs3 _ _ rfl) (by omega) (by omega) (by decide)) ?_
    rw [show q_I (q_si s2 17 (p + 1) (q_I s 17 p)) 17 p = q_I s 17 p by rw [q_I_si, if_neg (fun z => by omega)]; exact b17 p]
    refine QW_p (k_bs (hs3 _ _ rfl) (by omega) (by omega) (by decide) bb) ?_
    refine QW_m (e2 _) (fun q e => ?_)
    rw [e]
    have kz : KZ s (q_si (q_si s2 17 (p + 1) (q_I s 17 p)) 17 (p + 1 + sz (p + 1)) (q_I s 17 p)) := by
      rw [← hs2']
      exact ((KZ.s11.tr KZ.s11).tr KZ.s17).tr KZ.s17
    refine ⟨hT.st hW p0 p1 kz (fun x x0 x1 hx => ?_) (fun x x0 x1 hu hx => ?_) (fun x x0 x1 => ?_) ?_, kz⟩
    · rw [← hs2']
      simp only [q_I_si]
      rw [if_neg (by omega), if_neg (by omega), if_neg (fun z => hx (by rw [z.2]; exact ⟨c2.2.2.1, c3⟩)), if_neg (fun z => hx (by rw [z.2]; exact ⟨c2.1.2.1, c4⟩))]
    · have th : thF P (q_I s 11) x = if x = P_1 P p then P_2 P p else q_I s 11 p := by
        unfold thF
        rw [hu, if_neg (by omega), if_pos w14]
      rw [th, ← hs2']
      simp only [q_I_si]
      rw [if_neg (by omega), if_neg (by omega)]
      have := kidS hW p0 p1 x0 x1 hu hx
      rcases (by omega : x = p + 1 ∨ x = p + 1 + sz (p + 1)) with y | y
      · rw [if_neg (by omega), if_pos ⟨trivial, y⟩, if_pos (by rw [c2.1.1]; exact y), c2.2.1]
      · rw [if_pos ⟨trivial, y⟩, if_neg (by rw [c2.1.1]; omega)]
    · simp only [q_I_si]
      rw [b17]
      by_cases y2' : x = p + 1 + sz (p + 1)
      · rw [if_pos ⟨trivial, y2'⟩, if_pos ⟨by rw [y2']; exact c2.2.2.1, w14⟩]
      · rw [if_neg (fun z => y2' z.2)]
        by_cases y1' : x = p + 1
        · rw [if_pos ⟨trivial, y1'⟩, if_pos ⟨by rw [y1']; exact c2.1.2.1, w14⟩]
        · rw [if_neg (fun z => y1' z.2), if_neg (fun z => ?_)]
          have kx := (kidsP hW x0 x1 z.1 p0).1
          rw [c2.1.1, c2.2.1] at kx
          omega
    · rw [if_neg (ph0 (by omega))]
      refine ⟨?_, fun j => ?_⟩
      · rw [← hs2']
        simp only [q_F_si]
        rw [if_neg (by omega), if_neg (by omega), if_neg (by omega), if_neg (by omega)]
      · rw [← hs2']
        simp only [q_I_si]
        rw [if_neg (by omega), if_neg (by omega), if_neg (by omega), if_neg (by omega)]
  -- what other kinds write: then of one or two parts
  have one : ∀ (a v : Int), 0 ≤ a → a < P_n P → P_u P a = p → isS (P_w P a) → (∀ x, 0 ≤ x → x < P_n P → P_u P x = p → isS (P_w P x) → x = a) → v = thF P (q_I s 11) a → ¬ P_w P p = 21 → TI P (q_si s 11 a v) (p + 1) ∧ KZ s (q_si s 11 a v) := fun a v a0 a1 au as ax hv h21 => by
    refine ⟨hT.st hW p0 p1 KZ.s11 (fun x x0 x1 hx => ?_) (fun x x0 x1 hu hx => ?_) (fun x x0 x1 => ?_) ?_, KZ.s11⟩
    · rw [q_I_si, if_neg (fun z => hx (by rw [z.2]; exact ⟨au, as⟩))]
    · have y := ax x x0 x1 hu hx
      rw [q_I_si, if_pos ⟨rfl, y⟩, y]
      exact hv
    · rw [if_neg (fun z => w14 z.2), q_I_si, if_neg (fun z => absurd z.1 (by decide))]
    · rw [if_neg (ph0 h21)]
      exact ⟨by rw [q_F_si, if_neg (fun z => absurd z.1 (by decide))], fun j => by rw [q_I_si, if_neg (fun z => absurd z.1 (by decide))]⟩
  have two : ∀ (a v b w : Int), a ≠ b → 0 ≤ a → a < P_n P → P_u P a = p → isS (P_w P a) → 0 ≤ b → b < P_n P → P_u P b = p → isS (P_w P b) → (∀ x, 0 ≤ x → x < P_n P → P_u P x = p → isS (P_w P x) → x = a ∨ x = b) → v = thF P (q_I s 11) a → w = thF P (q_I s 11) b → ¬ P_w P p = 21 → TI P (q_si (q_si s 11 a v) 11 b w) (p + 1) ∧ KZ s (q_si (q_si s 11 a v) 11 b w) := fun a v b w ab a0 a1 au as b0 b1 bu bs ax hv hw h21 => by
    refine ⟨hT.st hW p0 p1 (KZ.s11.tr KZ.s11) (fun x x0 x1 hx => ?_) (fun x x0 x1 hu hx => ?_) (fun x x0 x1 => ?_) ?_, KZ.s11.tr KZ.s11⟩
    · rw [q_I_si, if_neg (fun z => hx (by rw [z.2]; exact ⟨bu, bs⟩)), q_I_si, if_neg (fun z => hx (by rw [z.2]; exact ⟨au, as⟩))]
    · rcases ax x x0 x1 hu hx with y | y
      · rw [q_I_si, if_neg (fun z => ab (by rw [← y, z.2])), q_I_si, if_pos ⟨rfl, y⟩, y]
        exact hv
      · rw [q_I_si, if_pos ⟨rfl, y⟩, y]
        exact hw
    · rw [if_neg (fun z => w14 z.2), q_I_si, if_neg (fun z => absurd z.1 (by decide)), q_I_si, if_neg (fun z => absurd z.1 (by decide))]
    · rw [if_neg (ph0 h21)]
      exact ⟨by rw [q_F_si, if_neg (fun z => absurd z.1 (by decide)), q_F_si, if_neg (fun z => absurd z.1 (by decide))], fun j => by rw [q_I_si, if_neg (fun z => absurd z.1 (by decide)), q_I_si, if_neg (fun z => absurd z.1 (by decide))]⟩
  refine QW_by (fun w15 => ?_) (fun w15 => ?_)
  · -- IF
    obtain ⟨c2, c3, -, c5, c6, c7⟩ := k2P hW p0 p1 (by omega)
    obtain ⟨y1, y2⟩ := z10 (by omega)
    have l1 := c2.1.2.2
    have l2 := c2.2.2.2
    have th : ∀ x, P_u P x = p → thF P (q_I s 11) x = q_I s 11 p := fun x hu => by
      unfold thF
      rw [hu, if_neg (by omega), if_neg w14, if_pos w15]
    refine QW_p (k_gv (hs _ _ rfl) rfl rfl) ?_
    refine QW_p (k_rc (hs _ _ rfl)) ?_
    refine QW_e (d_37l hs p0 (by omega)) ?_
    rw [y1]
    refine QW_p (k_ia (hs _ _ rfl) (by omega) (by omega) (by decide)) ?_
    refine QW_p (k_is (hs _ _ rfl) (by omega) (by omega) (by decide)) ?_
    have hs1 : SH (q_si s 11 (p + 1 + sz (p + 1)) (q_I s 11 p)) := hs
    refine QW_p (k_gv (hs1 _ _ rfl) rfl rfl) ?_
    refine QW_p (k_gv (hs1 _ _ rfl) rfl rfl) ?_
    refine QW_p (k_la (hs1 _ _ rfl) (by omega) (by omega) (by decide)) ?_
    rw [show q_L (q_si s 11 (p + 1 + sz (p + 1)) (q_I s 11 p)) 9 p = numC P p from k9]
    have nc : numC P p = if P_3 P p = -1 then 0 else 1 := by unfold numC; rw [if_pos w15]
    rw [nc]
    by_cases v : P_3 P p = -1
    · rw [if_pos v]
      refine QW_it (by simp) ?_
      refine QW_m (e2 _) (fun q e => ?_)
      rw [e]
      refine one _ _ (by omega) l2 c2.2.2.1 c3 (fun x x0 x1 hu hx => ?_) (th _ c2.2.2.1).symm (by omega)
      have := kidS hW p0 p1 x0 x1 hu hx
      omega
    · rw [if_neg v]
      obtain ⟨d1, d2⟩ := c7 (Or.inr ⟨w15, v⟩)
      have l3 := d1.2.2.2
      refine QW_if (by decide) ?_
      refine QW_p (k_gv (hs1 _ _ rfl) rfl rfl) ?_
      refine QW_p (k_rc (hs1 _ _ rfl)) ?_
      have i10 : ∀ j, q_I (q_si s 11 (p + 1 + sz (p + 1)) (q_I s 11 p)) 10 j = q_I s 10 j := fun j => by rw [q_I_si, if_neg (fun z => absurd z.1 (by decide))]
      refine QW_e (d_38l hs1 p0 (by omega) (by rw [i10, y1]; omega) (by rw [i10, y1]; omega)) ?_
      rw [i10, y1, i10, y2]
      refine QW_p (k_ia (hs1 _ _ rfl) (by omega) (by omega) (by decide)) ?_
      rw [show q_I (q_si s 11 (p + 1 + sz (p + 1)) (q_I s 11 p)) 11 p = q_I s 11 p by rw [q_I_si, if_neg (fun z => by omega)]]
      refine QW_p (k_is (hs1 _ _ rfl) (by omega) (by omega) (by decide)) ?_
      refine QW_m (e2 _) (fun q e => ?_)
      rw [e]
      refine two _ _ _ _ (by omega) (by omega) l2 c2.2.2.1 c3 (by omega) l3 d1.2.2.1 d2 (fun x x0 x1 hu hx => ?_) (th _ c2.2.2.1).symm (th _ d1.2.2.1).symm (by omega)
      have := kidS hW p0 p1 x0 x1 hu hx
      omega
  refine QW_by (fun w16 => ?_) (fun w16 => ?_)
  · -- LIMIT
    obtain ⟨c2, c3, -, c5, c6, c7⟩ := k2P hW p0 p1 (by omega)
    obtain ⟨d1, d2⟩ := c7 (Or.inl w16)
    obtain ⟨y1, y2⟩ := z10 (by omega)
    have l1 := c2.1.2.2
    have l2 := c2.2.2.2
    have l3 := d1.2.2.2
    have th : ∀ x, P_u P x = p → thF P (q_I s 11) x = if x = P_2 P p then -1 - p else q_I s 11 p := fun x hu => by
      unfold thF
      rw [hu, if_neg (by omega), if_neg w14, if_neg w15, if_pos w16]
    refine QW_p (k_gv (hs _ _ rfl) rfl rfl) ?_
    refine QW_p (k_rc (hs _ _ rfl)) ?_
    refine QW_e (d_37l hs p0 (by omega)) ?_
    rw [y1]
    refine QW_p (k_is (hs _ _ rfl) (by omega) (by omega) (by decide)) ?_
    have hs1 : SH (q_si s 11 (p + 1 + sz (p + 1)) (-1 - p)) := hs
    have i10 : ∀ j, q_I (q_si s 11 (p + 1 + sz (p + 1)) (-1 - p)) 10 j = q_I s 10 j := fun j => by rw [q_I_si, if_neg (fun z => absurd z.1 (by decide))]
    refine QW_p (k_gv (hs1 _ _ rfl) rfl rfl) ?_
    refine QW_p (k_rc (hs1 _ _ rfl)) ?_
    refine QW_e (d_38l hs1 p0 (by omega) (by rw [i10, y1]; omega) (by rw [i10, y1]; omega)) ?_
    rw [i10, y1, i10, y2]
    refine QW_p (k_ia (hs1 _ _ rfl) (by omega) (by omega) (by decide)) ?_
    rw [show q_I (q_si s 11 (p + 1 + sz (p + 1)) (-1 - p)) 11 p = q_I s 11 p by rw [q_I_si, if_neg (fun z => by omega)]]
    refine QW_p (k_is (hs1 _ _ rfl) (by omega) (by omega) (by decide)) ?_
    refine QW_m (e2 _) (fun q e => ?_)
    rw [e]
    refine two _ _ _ _ (by omega) (by omega) l2 c2.2.2.1 c3 (by omega) l3 d1.2.2.1 d2 (fun x x0 x1 hu hx => ?_) (by rw [th _ c2.2.2.1, if_pos c2.2.1.symm]) (by rw [th _ d1.2.2.1, if_neg (by rw [c2.2.1]; omega)]) (by omega)
    have := kidS hW p0 p1 x0 x1 hu hx
    omega
  have thr : ¬ P_w P p = 21 → ∀ x, P_u P x = p → thF P (q_I s 11) x = -1 - p := fun h21 x hu => by
    unfold thF
    rw [hu, if_neg (by omega), if_neg w14, if_neg w15, if_neg w16, if_neg h21]
  refine QW_by (fun w17 => ?_) (fun w17 => ?_)
  · -- REPEAT
    obtain ⟨c2, c3, -, c5, c6, c7⟩ := k2P hW p0 p1 (by omega)
    obtain ⟨y1, y2⟩ := z10 (by omega)
    have l1 := c2.1.2.2
    have l2 := c2.2.2.2
    refine QW_p (k_gv (hs _ _ rfl) rfl rfl) ?_
    refine QW_p (k_rc (hs _ _ rfl)) ?_
    refine QW_e (d_37l hs p0 (by omega)) ?_
    rw [y1]
    refine QW_p (k_is (hs _ _ rfl) (by omega) (by omega) (by decide)) ?_
    refine QW_m (e2 _) (fun q e => ?_)
    rw [e]
    refine one _ _ (by omega) l2 c2.2.2.1 c3 (fun x x0 x1 hu hx => ?_) (thr (by omega) _ c2.2.2.1).symm (by omega)
    have := kidS hW p0 p1 x0 x1 hu hx
    omega
  refine QW_by (fun w18 => ?_) (fun w18 => ?_)
  · -- SIDE
    obtain ⟨c2, c3, c4, c5, c6, c7⟩ := k2P hW p0 p1 (by omega)
    have c4 := c4 (Or.inr w18)
    obtain ⟨y1, y2⟩ := z10 (by omega)
    have l1 := c2.1.2.2
    have l2 := c2.2.2.2
    refine QW_p (k_is (hs _ _ rfl) (by omega) (by omega) (by decide)) ?_
    have hs1 : SH (q_si s 11 (p + 1) (-1 - p)) := hs
    refine QW_p (k_gv (hs1 _ _ rfl) rfl rfl) ?_
    refine QW_p (k_rc (hs1 _ _ rfl)) ?_
    refine QW_e (d_37l hs1 p0 (by omega)) ?_
    rw [show q_I (q_si s 11 (p + 1) (-1 - p)) 10 (p + 1) = sz (p + 1) by rw [q_I_si, if_neg (fun z => absurd z.1 (by decide))]; exact y1]
    refine QW_p (k_is (hs1 _ _ rfl) (by omega) (by omega) (by decide)) ?_
    refine QW_m (e2 _) (fun q e => ?_)
    rw [e]
    refine two _ _ _ _ (by omega) (by omega) l1 c2.1.2.1 c4 (by omega) l2 c2.2.2.1 c3 (fun x x0 x1 hu hx => ?_) (thr (by omega) _ c2.1.2.1).symm (thr (by omega) _ c2.2.2.1).symm (by omega)
    have := kidS hW p0 p1 x0 x1 hu hx
    omega
  refine QW_by (fun w19 => none (by omega)) (fun w19 => ?_)
  refine QW_by (fun w20 => ?_) (fun w20 => ?_)
  · -- BIND
    obtain ⟨c1, c2⟩ := k1P hW p0 p1 (Or.inl w20)
    have l1 := c1.2.2
    refine QW_p (k_is (hs _ _ rfl) (by omega) (by omega) (by decide)) ?_
    refine QW_m (e2 _) (fun q e => ?_)
    rw [e]
    refine one _ _ (by omega) l1 c1.2.1 c2 (fun x x0 x1 hu hx => ?_) (thr (by omega) _ c1.2.1).symm (by omega)
    have := kidS hW p0 p1 x0 x1 hu hx
    omega
  have w21 : P_w P p = 21 := by omega
  refine QW_it w21 ?_
  -- PHASE
  obtain ⟨c1, c2⟩ := k1P hW p0 p1 (Or.inr w21)
  have l1 := c1.2.2
  have up : P_u P p < p := by
    by_cases y : p = 0
    · rw [y, hW.2.2.2.1]; omega
    · exact (hW.2.2.2.2.2.2 p (by omega) p1).2.1
  have b17 : q_I s 17 p = if isPh P p = true then 1 else 0 := by
    rw [t3 p p0 p1]
    by_cases y : isPh P p = true
    · rw [if_pos y, if_pos ⟨up, (isPh_iff.mp y).2⟩]
    · rw [if_neg y, if_neg (fun v => y (isPh_iff.mpr ⟨w21, v.2⟩))]
  have th : thF P (q_I s 11) (p + 1) = if isPh P p = true then -1 - p else q_I s 11 p := by
    unfold thF
    rw [c1.2.1, if_neg (by omega), if_neg w14, if_neg w15, if_neg w16, if_pos w21]
  have bl : ∀ v : Int, v = thF P (q_I s 11) (p + 1) → QW (fun m => g_34 o m 1 s 6 p (.ref 11) (p + 1) v) (fun q => TI P q.1 (p + 1) ∧ KZ s q.1) := fun v hv => by
    refine QW_s ?_
    simp only [g_34]
    refine QW_p (k_is (hs _ _ rfl) (by omega) (by omega) (by decide)) ?_
    have hs1 : SH (q_si s 11 (p + 1) v) := hs
    refine QW_p (k_rc (hs1 _ _ rfl)) ?_
    have j17 : ∀ j, q_I (q_si s 11 (p + 1) v) 17 j = q_I s 17 j := fun j => by rw [q_I_si, if_neg (fun z => absurd z.1 (by decide))]
    have j8 : q_F (q_si s 11 (p + 1) v) 7 8 = c := by rw [q_F_si, if_neg (fun z => absurd z.1 (by decide))]; exact t4
    refine QW_e (d_35 hs1 p0 (by omega) (by rw [j17, b17]; split <;> simp) (by rw [j8]; omega)) ?_
    rw [j17, j8, b17]
    by_cases y : isPh P p = true
    · rw [if_pos y, if_neg (by decide)]
      refine QW_m (e2 _) (fun q e => ?_)
      rw [e]
      have kz : KZ s (q_sf (q_si (q_si s 11 (p + 1) v) 14 c p) 7 8 (c + 1)) := KZ.s11.tr KZ.s14
      refine ⟨hT.st hW p0 p1 kz (fun x x0 x1 hx => ?_) (fun x x0 x1 hu hx => ?_) (fun x x0 x1 => ?_) ?_, kz⟩
      · rw [q_I_sf, if_neg (fun z => absurd z.1 (by decide)), q_I_si, if_neg (fun z => absurd z.1 (by decide)), q_I_si, if_neg (fun z => hx (by rw [z.2]; exact ⟨c1.2.1, c2⟩))]
      · have x2 : x = p + 1 := by
          have := kidS hW p0 p1 x0 x1 hu hx
          omega
        rw [q_I_sf, if_neg (fun z => absurd z.1 (by decide)), q_I_si, if_neg (fun z => absurd z.1 (by decide)), q_I_si, if_pos ⟨rfl, x2⟩, x2]
        exact hv
      · rw [if_neg (fun z => w14 z.2), q_I_sf, if_neg (fun z => absurd z.1 (by decide)), q_I_si, if_neg (fun z => absurd z.1 (by decide)), q_I_si, if_neg (fun z => absurd z.1 (by decide))]
      · rw [if_pos y]
        intro c' hc'
        have : c' = c := by rw [← hc']; exact t4
        subst this
        refine ⟨by rw [q_F_sf, if_pos ⟨rfl, rfl⟩], ?_, fun j hj => ?_⟩
        · rw [q_I_sf, if_neg (fun z => absurd z.1 (by decide)), q_I_si, if_pos ⟨rfl, rfl⟩]
        · rw [q_I_sf, if_neg (fun z => absurd z.1 (by decide)), q_I_si, if_neg (fun z => hj z.2), q_I_si, if_neg (fun z => absurd z.1 (by decide))]
    · rw [if_neg y, if_pos rfl]
      refine QW_m (e2 _) (fun q e => ?_)
      rw [e]
      refine ⟨hT.st hW p0 p1 KZ.s11 (fun x x0 x1 hx => ?_) (fun x x0 x1 hu hx => ?_) (fun x x0 x1 => ?_) ?_, KZ.s11⟩
      · rw [q_I_si, if_neg (fun z => hx (by rw [z.2]; exact ⟨c1.2.1, c2⟩))]
      · have x2 : x = p + 1 := by
          have := kidS hW p0 p1 x0 x1 hu hx
          omega
        rw [q_I_si, if_pos ⟨rfl, x2⟩, x2]
        exact hv
      · rw [if_neg (fun z => w14 z.2), q_I_si, if_neg (fun z => absurd z.1 (by decide))]
      · rw [if_neg y]
        exact ⟨by rw [q_F_si, if_neg (fun z => absurd z.1 (by decide))], fun j => by rw [q_I_si, if_neg (fun z => absurd z.1 (by decide))]⟩
  refine QW_p (k_gv (hs _ _ rfl) rfl rfl) ?_
  refine QW_p (k_ba (hs _ _ rfl) (by omega) (by omega) (by decide)) ?_
  rw [b17]
  by_cases y : isPh P p = true
  · rw [if_pos y]
    refine QW_g (by decide) ?_
    refine QW_if (by decide) ?_
    exact bl _ (by rw [th, if_pos y])
  · rw [if_neg y]
    refine QW_g (by decide) ?_
    refine QW_it (by simp) ?_
    refine QW_p (k_ia (hs _ _ rfl) (by omega) (by omega) (by decide)) ?_
    exact bl _ (by rw [th, if_neg y])
end CTI
