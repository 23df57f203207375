/-! THE CLASS'S layOut: places -/
def numN (T : PT) (i : Int) : Int64 := if P_w T i = 15 then (if P_3 T i = -1 then 0 else 1) else P_v T i
/-- nothing but the layout's own cells -/
def KY (s s' : Q_S) : Prop := (s'.1 = s.1 ∧ s'.2.1 = s.2.1 ∧ s'.2.2.1 = s.2.2.1) ∧ ∀ a, ¬ (6 ≤ a ∧ a ≤ 17) → ∀ j, q_I s' a j = q_I s a j ∧ q_L s' a j = q_L s a j
/-- what is open, the next one first -/
def SK (s : Q_S) : List (Int × Int) → Prop
  | [] => True
  | x :: L => q_I s 15 L.length = x.1 ∧ q_I s 16 L.length = x.2 ∧ SK s L
/-- the places that what is open will take -/
def PLs (T : PT) (n : Int) (N D : Int → Int) : Int → List (Int × Int) → Prop
  | p, [] => p = n
  | p, x :: L => N p = x.1 ∧ D p = x.2 ∧ p < n ∧ PLs T n N D (p + Zn T x.1) L
def klL (c d : Int) (L : List (Int × Int)) : List (Int × Int) := if c = -1 then L else (c, d) :: L
/-- the places that are laid -/
def LA (T : PT) (N D : Int → Int) (s : Q_S) (p : Int) : Prop := q_F s 7 7 = p ∧ ∀ x, 0 ≤ x → x < p → q_I s 8 x = ck (P_w T (N x)) ∧ q_L s 9 x = numN T (N x) ∧ q_I s 10 x = Zn T (N x) ∧ q_I s 12 x = x + Zn T (N x) - 1 - D x ∧ q_I s 13 (x + Zn T (N x) - 1 - D x) = x ∧ q_I s 17 x = if x = 0 then 1 else 0
section CLY
variable {o : X_O} {T : PT} {N U D : Int → Int} {root n : Int} {s s1 s2 : Q_S} {i d p : Int} {L : List (Int × Int)}
theorem KY.rf : KY s s := ⟨⟨rfl, rfl, rfl⟩, fun _ _ _ => ⟨rfl, rfl⟩⟩
theorem KY.tr (h : KY s s1) (g : KY s1 s2) : KY s s2 := by
  obtain ⟨⟨a1, a2, a3⟩, a4⟩ := h
  obtain ⟨⟨b1, b2, b3⟩, b4⟩ := g
  exact ⟨⟨b1.trans a1, b2.trans a2, b3.trans a3⟩, fun a h j => ⟨(b4 a h j).1.trans (a4 a h j).1, (b4 a h j).2.trans (a4 a h j).2⟩⟩
theorem KY.si {a : Nat} {j v : Int} (ha : 6 ≤ a ∧ a ≤ 17) : KY s (q_si s a j v) := ⟨⟨rfl, rfl, rfl⟩, fun c h j => ⟨by rw [q_I_si, if_neg (fun z => by omega)], rfl⟩⟩
theorem KY.sf {a f : Nat} {v : Int} (ha : 6 ≤ a ∧ a ≤ 17) : KY s (q_sf s a f v) := ⟨⟨rfl, rfl, rfl⟩, fun c h j => ⟨by rw [q_I_sf, if_neg (fun z => by omega)], rfl⟩⟩
theorem KY.sl {a : Nat} {j : Int} {v : Int64} (ha : 6 ≤ a ∧ a ≤ 17) : KY s (q_sl s a j v) := ⟨⟨rfl, rfl, rfl⟩, fun c h j => ⟨rfl, by rw [q_L_sl, if_neg (fun z => by omega)]⟩⟩
theorem KY.sh (h : KY s s1) (hs : SH s) : SH s1 := sh_T hs h.1.2.2
theorem KY.nr (h : KY s s1) (hN : NRc T s) : NRc T s1 := by
  obtain ⟨n0, n1, h1, g, g4⟩ := hN
  have e := h.2
  refine ⟨n0, n1, (e 1 (by decide) 4).1.trans h1, fun i i0 i1 => ?_, fun i i0 i1 => (e 4 (by decide) i).2.trans (g4 i i0 i1)⟩
  obtain ⟨⟨b1, b2, b3, b4, b5⟩, b6⟩ := g i i0 i1
  exact ⟨⟨(e 2 (by decide) i).1.trans b1, fun j j0 j3 hj => (e 3 (by decide) _).1.trans (b2 j j0 j3 hj), fun hw => (e 3 (by decide) _).1.trans (b3 hw), fun hw => (e 3 (by decide) _).1.trans (b4 hw), fun hw => (e 4 (by decide) _).2.trans (b5 hw)⟩, (e 5 (by decide) i).1.trans b6⟩
theorem SK.mv : ∀ (L : List (Int × Int)), SK s L → (∀ j : Int, 0 ≤ j → j < L.length → q_I s1 15 j = q_I s 15 j ∧ q_I s1 16 j = q_I s 16 j) → SK s1 L
  | [], _, _ => trivial
  | x :: L, h, e => by
    obtain ⟨h1, h2, h3⟩ := h
    have e0 := e L.length (by omega) (by simp; omega)
    exact ⟨e0.1.trans h1, e0.2.trans h2, SK.mv L h3 (fun j j0 j1 => e j j0 (by simp; omega))⟩
theorem PLs.len (hV : NV T) (hn : P_n T ≤ 300) (hL : LT T root n N U D) : ∀ (L : List (Int × Int)) (p : Int), 0 ≤ p → PLs T n N D p L → p + L.length ≤ n
  | [], p, _, h => by have h : p = n := h; simp; omega
  | x :: L, p, p0, h => by
    obtain ⟨h1, h2, h3, h4⟩ := h
    have g := (hL.2.2.1 p p0 h3).1
    rw [h1] at g
    have z := Zn_1 hV hn g
    have := PLs.len hV hn hL L _ (by omega) h4
    simp only [List.length_cons]
    push_cast
    omega
theorem PLs.kidz {c x : Int} (hc : c ≠ -1 → N x = c ∧ D x = d ∧ x < n) (h : PLs T n N D (x + zc T c) L) : PLs T n N D x (klL c d L) := by
  unfold klL
  by_cases z : c = -1
  · rw [if_pos z]
    rw [z, zc_m, Int.add_zero] at h
    exact h
  · rw [if_neg z]
    rw [zc_n z] at h
    obtain ⟨h1, h2, h3⟩ := hc z
    exact ⟨h1, h2, h3, h⟩
/-- a node's parts behind it -/
theorem PLs.kids (hV : NV T) (hn : P_n T ≤ 300) (hL : LT T root n N U D) (p0 : 0 ≤ p) (h : PLs T n N D p ((i, d) :: L)) : PLs T n N D (p + 1) (klL (prt T i 0) (d + 1) (klL (prt T i 1) (d + 1) (klL (prt T i 2) (d + 1) L))) := by
  obtain ⟨h1, h2, h3, h4⟩ := h
  have h1 : N p = i := h1
  have h2 : D p = d := h2
  have h4 : PLs T n N D (p + Zn T i) L := h4
  obtain ⟨g1, g2, g3, k1, k2, k3⟩ := hL.2.2.1 p p0 h3
  rw [h1] at g1 g2 k1 k2 k3
  rw [h2] at k1 k2 k3
  have ez := Zn_eq hV hn g1
  have z1 := zc_0 (T := T) (P_1 T i)
  have z2 := zc_0 (T := T) (P_2 T i)
  have z3 := zc_0 (T := T) (P_3 T i)
  obtain ⟨p1, p2, p3⟩ := prts hV g1
  have lt1 : P_1 T i ≠ -1 → p + 1 < n := fun z => by have := (zc_p hV hn (p1.resolve_left z).1).2; omega
  have lt2 : P_2 T i ≠ -1 → p + 1 + zc T (P_1 T i) < n := fun z => by have := (zc_p hV hn (p2.resolve_left z).1).2; omega
  have lt3 : P_3 T i ≠ -1 → p + 1 + zc T (P_1 T i) + zc T (P_2 T i) < n := fun z => by have := (zc_p hV hn (p3.resolve_left z).1).2; omega
  cases hw : hNm (P_w T i) with
  | false =>
    have e0 : prt T i 0 = P_1 T i := by unfold prt; rw [hw]; rfl
    have e1 : prt T i 1 = P_2 T i := by unfold prt; rw [hw]; rfl
    have e2 : prt T i 2 = P_3 T i := by unfold prt; rw [hw]; rfl
    rw [e0, e1, e2]
    refine PLs.kidz (fun z => ⟨(k1 z).1, (k1 z).2.2, lt1 z⟩) (PLs.kidz (fun z => ⟨(k2 z).1, (k2 z).2.2, lt2 z⟩) (PLs.kidz (fun z => ⟨(k3 z).1, (k3 z).2.2, lt3 z⟩) ?_))
    rw [show p + 1 + zc T (P_1 T i) + zc T (P_2 T i) + zc T (P_3 T i) = p + Zn T i by omega]
    exact h4
  | true =>
    have e0 : prt T i 0 = -1 := by unfold prt; rw [hw]; rfl
    have e1 : prt T i 1 = P_1 T i := by unfold prt; rw [hw]; rfl
    have e2 : prt T i 2 = P_2 T i := by unfold prt; rw [hw]; rfl
    have q3 : P_3 T i = -1 := by
      have hw := of_decide_eq_true hw
      exact ((NK_pr (hV _ g1.1 g1.2)).2.2.1 (by omega)).mpr (by omega)
    rw [q3, zc_m] at ez
    rw [e0, e1, e2]
    refine PLs.kidz (fun z => absurd rfl z) ?_
    rw [zc_m, Int.add_zero]
    refine PLs.kidz (fun z => ⟨(k1 z).1, (k1 z).2.2, lt1 z⟩) (PLs.kidz (fun z => ⟨(k2 z).1, (k2 z).2.2, lt2 z⟩) ?_)
    rw [show p + 1 + zc T (P_1 T i) + zc T (P_2 T i) = p + Zn T i by omega]
    exact h4
/-- push -/
def pSt (s : Q_S) (m i d : Int) : Q_S := q_sf (q_si (q_si s 15 m i) 16 m d) 6 5 (m + 1)
theorem d_32 (hs : SH s) {m : Int} (h5 : q_F s 6 5 = m) (m0 : 0 ≤ m) (m5 : m < 500) : QW (fun n => g_32 o n 0 s 6 i d) (fun q => q = (pSt s m i d, ())) := by
  refine QW_s ?_
  simp only [g_32]
  refine QW_p (k_gi (hs _ _ rfl) rfl) ?_
  rw [h5]
  refine QW_g (by unfold q_in; omega) ?_
  refine QW_if (by omega) ?_
  refine QW_p (k_gv (hs _ _ rfl) rfl rfl) ?_
  refine QW_p (k_gi (hs _ _ rfl) rfl) ?_
  rw [h5]
  refine QW_p (k_is (hs _ _ rfl) (by omega) (by omega) (by decide)) ?_
  refine QW_p (k_gv (hs _ _ rfl) rfl rfl) ?_
  refine QW_p (k_gi (hs _ _ rfl) rfl) ?_
  rw [show q_F (q_si s 15 m i) 6 5 = m by rw [q_F_si, if_neg (fun z => absurd z.1 (by decide))]; exact h5]
  refine QW_p (k_is (hs _ _ rfl) (by omega) (by omega) (by decide)) ?_
  refine QW_p (k_gi (hs _ _ rfl) rfl) ?_
  rw [show q_F (q_si (q_si s 15 m i) 16 m d) 6 5 = m by rw [q_F_si, if_neg (fun z => absurd z.1 (by decide)), q_F_si, if_neg (fun z => absurd z.1 (by decide))]; exact h5]
  refine QW_p (k_pi (hs _ _ rfl) rfl rfl) ?_
  refine QW_s ?_
  simp only [g_32]
  exact QW_ret rfl
theorem pSt_k {m : Int} : KY s (pSt s m i d) := ((KY.si (by decide)).tr (KY.si (by decide))).tr (KY.sf (by decide))
theorem pSt_I {m : Int} {a : Nat} {j : Int} (h1 : a ≠ 15) (h2 : a ≠ 16) (h3 : a ≠ 6) : q_I (pSt s m i d) a j = q_I s a j := by
  unfold pSt
  rw [q_I_sf, if_neg (fun z => h3 z.1), q_I_si, if_neg (fun z => h2 z.1), q_I_si, if_neg (fun z => h1 z.1)]
theorem pSt_L {m : Int} {a : Nat} {j : Int} : q_L (pSt s m i d) a j = q_L s a j := rfl
theorem LA.pSt {m : Int} (h : LA T N D s p) : LA T N D (pSt s m i d) p := by
  refine ⟨?_, fun x x0 x1 => ?_⟩
  · show q_I _ 7 7 = p
    rw [pSt_I (by decide) (by decide) (by decide)]
    exact h.1
  · rw [pSt_I (by decide) (by decide) (by decide), pSt_L, pSt_I (by decide) (by decide) (by decide), pSt_I (by decide) (by decide) (by decide), pSt_I (by decide) (by decide) (by decide), pSt_I (by decide) (by decide) (by decide)]
    exact h.2 x x0 x1
theorem SK.push (h : SK s L) : SK (pSt s L.length i d) ((i, d) :: L) := by
  refine ⟨?_, ?_, SK.mv L h (fun j j0 j1 => ⟨?_, ?_⟩)⟩
  · unfold pSt
    rw [q_I_sf, if_neg (fun z => absurd z.1 (by decide)), q_I_si, if_neg (fun z => absurd z.1 (by decide)), q_I_si, if_pos ⟨rfl, rfl⟩]
  · unfold pSt
    rw [q_I_sf, if_neg (fun z => absurd z.1 (by decide)), q_I_si, if_pos ⟨rfl, rfl⟩]
  · unfold pSt
    rw [q_I_sf, if_neg (fun z => absurd z.1 (by decide)), q_I_si, if_neg (fun z => absurd z.1 (by decide)), q_I_si, if_neg (fun z => by omega)]
  · unfold pSt
    rw [q_I_sf, if_neg (fun z => absurd z.1 (by decide)), q_I_si, if_neg (fun z => by omega), q_I_si, if_neg (fun z => absurd z.1 (by decide))]
theorem pSt_5 {m : Int} : q_F (pSt s m i d) 6 5 = m + 1 := by
  unfold pSt
  rw [q_F_sf, if_pos ⟨rfl, rfl⟩]
/-- numberOf -/
theorem d_29 (ho : o 1 = some (66, fun i => x_WANTED.getD i 0)) (hs : SH s) (hV : NV T) (hN : NRc T s) (hT : inT T i) {t : Int64} : QW (fun n => g_29 o n 0 s 1 i t) (fun q => q = (s, numN T i)) := by
  have hK := hV i hT.1 hT.2
  obtain ⟨hR, -⟩ := hN.2.2.2.1 i hT.1 hT.2
  have h3 := hN.2.1
  have hT0 := hT.1
  have hT1 := hT.2
  obtain ⟨r1, r2, r3, r4, r5⟩ := hR
  have kw := NK_kd hK
  have k := ck_lt (NK_w hK)
  have ckv : ck (P_w T i) = if 100 ≤ P_w T i then P_w T i - 70 else P_w T i := rfl
  have leaf : hNm (P_w T i) = false → ¬ P_w T i = 15 → QW (fun n => (q_gv s 1 (.ref 1) 2).bind fun v7 => (q_la s v7 i).bind fun v9 => some (s, v9)) (fun q => q = (s, numN T i)) := fun h1 h2 => by
    refine QW_p (k_gv (hs _ _ rfl) rfl rfl) ?_
    refine QW_p (k_la (hs _ _ rfl) (by omega) (by omega) (by decide)) ?_
    rw [r5 h1]
    refine QW_ret ?_
    unfold numN
    rw [if_neg h2]
  have nm : hNm (P_w T i) = true → QW (fun n => (q_gv s 1 (.ref 1) 1).bind fun v12 => (q_ia o s v12 (i * 3)).bind fun v14 => (q_g (q_in v14)).bind fun _ => some (s, (Int64.ofInt v14))) (fun q => q = (s, numN T i)) := fun h1 => by
    refine QW_p (k_gv (hs _ _ rfl) rfl rfl) ?_
    refine QW_p (k_ia (hs _ _ rfl) (by omega) (by omega) (by decide)) ?_
    rw [r4 h1]
    have hw := of_decide_eq_true h1
    have rg : 0 ≤ (P_v T i).toInt ∧ (P_v T i).toInt < 16 := by
      unfold NK rgI at hK
      rcases hK with ⟨h1, h2, ha, hb, hc, hv⟩ | ⟨h1, ha, hb, hc, hv⟩ | ⟨h1, ha, hb, hc, hv⟩ | ⟨h1, ha, hb, hc, hv⟩ | ⟨h1, ha, hb, hc, hv⟩ | ⟨h1, ha, hb, hc, hv⟩ | ⟨h1, ha, hb, hc, hv⟩ | ⟨h1, ha, hb, hc, hv⟩ | ⟨h1, ha, hb, hc, hv⟩ | ⟨h1, ha, hb, hc, hv⟩ | ⟨h1, ha, hb, hc, hv⟩ | ⟨h1, ha, hb, hc, hv⟩ | ⟨h1, ha, hb, hc, hv⟩ <;> first | (exfalso; omega) | exact ⟨hv.1, by have := hv.2; omega⟩
    refine QW_g (by unfold q_in; omega) ?_
    refine QW_ret ?_
    unfold numN
    rw [if_neg (by omega), Int64.ofInt_toInt]
  refine QW_s ?_
  simp only [g_29]
  refine QW_p (k_gv (hs _ _ rfl) rfl rfl) ?_
  refine QW_p (k_ia (hs _ _ rfl) (by omega) (by omega) (by decide)) ?_
  rw [r1]
  refine QW_g k.1 ?_
  refine QW_by (fun z => leaf (hNm_f (by rw [ckv] at z; split at z <;> omega)) (by rw [ckv] at z; split at z <;> omega)) (fun z => ?_)
  have ckw : ck (P_w T i) = P_w T i := by
    rw [ckv] at z ⊢
    by_cases y : 100 ≤ P_w T i
    · rw [if_pos y] at z; omega
    · rw [if_neg y]
  rw [ckw] at z ⊢
  refine QW_by (fun y => nm (decide_eq_true (by omega))) (fun y10 => ?_)
  refine QW_by (fun y => nm (decide_eq_true (by omega))) (fun y11 => ?_)
  refine QW_by (fun y => leaf (hNm_f (by omega)) (by omega)) (fun y12 => ?_)
  refine QW_by (fun y => nm (decide_eq_true (by omega))) (fun y13 => ?_)
  refine QW_by (fun y => leaf (hNm_f (by omega)) (by omega)) (fun y14 => ?_)
  refine QW_by (fun y => ?_) (fun y15 => ?_)
  · refine QW_p (k_rc (hs _ _ rfl)) ?_
    refine QW_e (d_28 ho hs hK ⟨r1, r2, r3, r4, r5⟩ ⟨by omega, by omega⟩ (by decide) (by decide)) ?_
    have ep : prt T i 2 = P_3 T i := by
      unfold prt
      rw [hNm_f (by omega)]
      rfl
    rw [ep]
    unfold numN
    rw [if_pos y]
    by_cases u : P_3 T i = -1
    · rw [if_pos u, if_pos u]
      dsimp only
      refine QW_g (by decide) ?_
      refine QW_it (by simp) ?_
      refine QW_s ?_
      simp only [g_29]
      exact QW_ret rfl
    · rw [if_neg u, if_neg u]
      dsimp only
      refine QW_g (by decide) ?_
      refine QW_if (by decide) ?_
      refine QW_s ?_
      simp only [g_29]
      exact QW_ret rfl
  refine QW_by (fun y => leaf (hNm_f (by omega)) (by omega)) (fun y16 => ?_)
  refine QW_by (fun y => leaf (hNm_f (by omega)) (by omega)) (fun y17 => ?_)
  refine QW_by (fun y => leaf (hNm_f (by omega)) (by omega)) (fun y18 => ?_)
  refine QW_by (fun y => nm (decide_eq_true (by omega))) (fun y19 => ?_)
  refine QW_it (by omega) ?_
  exact nm (decide_eq_true (by omega))
/-- the parts of a node, pushed -/
theorem st33 (ho : o 1 = some (66, fun i => x_WANTED.getD i 0)) (hs : SH s) (hV : NV T) (hN : NRc T s) (hT : inT T i) {j : Int} (j0 : 0 ≤ j) (j3 : j < 3) (hS : SK s L) (h5 : q_F s 6 5 = L.length) (l5 : (L.length : Int) < 500 ∨ prt T i j = -1) {Q : Q_S × Unit → Prop}
    (K : ∀ s', KY s s' → (∀ a y, a ≠ 15 → a ≠ 16 → a ≠ 6 → q_I s' a y = q_I s a y) → (∀ a y, q_L s' a y = q_L s a y) → SK s' (klL (prt T i j) (d + 1) L) → q_F s' 6 5 = (klL (prt T i j) (d + 1) L).length → QW (fun n => g_33 o n 2 s' 6 i d (j - 1) .null 0 0) Q) : QW (fun n => g_33 o n 2 s 6 i d j .null 0 0) Q := by
  have hK := hV i hT.1 hT.2
  obtain ⟨hR, -⟩ := hN.2.2.2.1 i hT.1 hT.2
  have h3 := hN.2.1
  have hT0 := hT.1
  have hT1 := hT.2
  have w4 := (wn_prt hK j0 j3).2.2.2.1
  have r2 := hR.2.1 j j0 j3
  refine QW_s ?_
  simp only [g_33]
  refine QW_g (by unfold q_in; omega) ?_
  refine QW_if (by omega) ?_
  refine QW_p (k_gv (hs _ _ rfl) rfl rfl) ?_
  refine QW_p (k_rc (hs _ _ rfl)) ?_
  refine QW_e (d_28 ho hs hK hR ⟨by omega, by omega⟩ j0 j3) ?_
  have nx : ∀ s', QW (fun n => g_33 o n 2 s' 6 i d (j - 1) .null 0 0) Q → QW (fun n => g_33 o n 3 s' 6 i d j .null 0 0) Q := fun s' H => by
    refine QW_s ?_
    simp only [g_33]
    rw [show j + (-1) = j - 1 by omega]
    exact H
  by_cases z : prt T i j = -1
  · rw [if_pos z]
    dsimp only
    refine QW_g (by decide) ?_
    refine QW_it (by simp) ?_
    refine nx s (K s KY.rf (fun _ _ _ _ _ => rfl) (fun _ _ => rfl) ?_ ?_)
    · unfold klL; rw [if_pos z]; exact hS
    · unfold klL; rw [if_pos z]; exact h5
  · rw [if_neg z]
    dsimp only
    refine QW_g (by decide) ?_
    refine QW_if (by decide) ?_
    refine QW_p (k_gv (hs _ _ rfl) rfl rfl) ?_
    refine QW_p (k_gv (hs _ _ rfl) rfl rfl) ?_
    refine QW_p (k_ia (hs _ _ rfl) (by omega) (by omega) (by decide)) ?_
    rw [r2 z]
    refine QW_p (k_rc (hs _ _ rfl)) ?_
    refine QW_e (d_32 hs h5 (by omega) (l5.resolve_right z)) ?_
    refine nx _ (K _ pSt_k (fun a y h1 h2 h3 => pSt_I h1 h2 h3) (fun _ _ => pSt_L) ?_ ?_)
    · unfold klL; rw [if_neg z]; exact hS.push
    · unfold klL; rw [if_neg z, pSt_5]; simp
theorem kl_len {c d : Int} : (klL c d L).length ≤ L.length + 1 ∧ L.length ≤ (klL c d L).length := by
  unfold klL
  split <;> simp
/-- a place laid -/
def pRw (T : PT) (D : Int → Int) (s : Q_S) (p i : Int) : Q_S := q_sf (q_si (q_si (q_si (q_si (q_sl (q_si s 8 p (ck (P_w T i))) 9 p (numN T i)) 10 p (Zn T i)) 12 p (p + Zn T i - 1 - D p)) 13 (p + Zn T i - 1 - D p) p) 17 p (if p = 0 then 1 else 0)) 7 7 (p + 1)
theorem LA.row (hV : NV T) (hn : P_n T ≤ 300) (hL : LT T root n N U D) (h : LA T N D s p) (p0 : 0 ≤ p) (p1 : p < n) : LA T N D (pRw T D s p (N p)) (p + 1) := by
  unfold pRw
  refine ⟨by rw [q_F_sf, if_pos ⟨rfl, rfl⟩], fun x x0 x1 => ?_⟩
  simp only [q_I_sf, q_I_si, q_I_sl, q_L_sf, q_L_si, q_L_sl]
  by_cases z : x = p
  · subst z
    refine ⟨?_, ?_, ?_, ?_, ?_, ?_⟩
    · rw [if_neg (by omega), if_neg (by omega), if_neg (by omega), if_neg (by omega), if_neg (by omega), if_pos (by simp)]
    · rw [if_pos (by simp)]
    · rw [if_neg (by omega), if_neg (by omega), if_neg (by omega), if_neg (by omega), if_pos (by simp)]
    · rw [if_neg (by omega), if_neg (by omega), if_neg (by omega), if_pos (by simp)]
    · rw [if_neg (by omega), if_neg (by omega), if_pos (by simp)]
    · rw [if_neg (by omega), if_pos (by simp)]
  · obtain ⟨a1, a2, a3, a4, a5, a6⟩ := h.2 x x0 (by omega)
    have rk := hL.rank hV hn x0 (show x < p by omega) p1
    refine ⟨?_, ?_, ?_, ?_, ?_, ?_⟩
    · rw [if_neg (by omega), if_neg (by omega), if_neg (by omega), if_neg (by omega), if_neg (by omega), if_neg (by omega)]; exact a1
    · rw [if_neg (by omega)]; exact a2
    · rw [if_neg (by omega), if_neg (by omega), if_neg (by omega), if_neg (by omega), if_neg (by omega), if_neg (by omega)]; exact a3
    · rw [if_neg (by omega), if_neg (by omega), if_neg (by omega), if_neg (by omega), if_neg (by omega), if_neg (by omega)]; exact a4
    · rw [if_neg (by omega), if_neg (by omega), if_neg (by omega), if_neg (by omega), if_neg (by omega), if_neg (by omega)]; exact a5
    · rw [if_neg (by omega), if_neg (by omega), if_neg (by omega), if_neg (by omega), if_neg (by omega), if_neg (by omega)]; exact a6
theorem pRw_k : KY s (pRw T D s p i) := ((((((KY.si (by decide)).tr (KY.sl (by decide))).tr (KY.si (by decide))).tr (KY.si (by decide))).tr (KY.si (by decide))).tr (KY.si (by decide))).tr (KY.sf (by decide))
theorem pRw_6 {a : Nat} {j : Int} (h : a = 6 ∨ a = 15 ∨ a = 16) : q_I (pRw T D s p i) a j = q_I s a j := by
  unfold pRw
  rw [q_I_sf, if_neg (fun z => by omega), q_I_si, if_neg (fun z => by omega), q_I_si, if_neg (fun z => by omega), q_I_si, if_neg (fun z => by omega), q_I_si, if_neg (fun z => by omega), q_I_sl, q_I_si, if_neg (fun z => by omega)]
set_option maxHeartbeats 1000000 in
/-- layPlace -/
theorem d_33 (ho : o 1 = some (66, fun i => x_WANTED.getD i 0)) (hs : SH s) (hV : NV T) (hN : NRc T s) (hL : LT T root n N U D) (hn5 : n ≤ 500) (p0 : 0 ≤ p) (hP : PLs T n N D p ((i, d) :: L)) (hA : LA T N D s p) (hS : SK s L) (h5 : q_F s 6 5 = L.length) :
    QW (fun m => g_33 o m 0 s 6 i d 0 .null 0 0) (fun q => ∃ L', LA T N D q.1 (p + 1) ∧ SK q.1 L' ∧ q_F q.1 6 5 = L'.length ∧ PLs T n N D (p + 1) L' ∧ KY s q.1) := by
  have hn := hN.2.1
  obtain ⟨x1, x2, x3, x4⟩ := id hP
  have x1 : N p = i := x1
  have x2 : D p = d := x2
  obtain ⟨hT, g2, g3, -⟩ := hL.2.2.1 p p0 x3
  rw [x1] at hT g2
  have hT0 := hT.1
  have hT1 := hT.2
  obtain ⟨⟨r1, r2, r3, r4, r5⟩, r6⟩ := hN.2.2.2.1 i hT.1 hT.2
  have zi := Zn_1 hV hn hT
  have r6 : q_I s 5 i = Zn T i := by rw [r6]; unfold m501; rw [if_neg (by unfold Zn at g2; omega)]; rfl
  have k7 : q_F s 7 7 = p := hA.1
  have mono := hL.mono hV hn p.toNat 0 (Int.le_refl _) (by omega)
  rw [hL.2.1.2.2, show (0 : Int) + (p.toNat : Int) = p by omega] at mono
  rw [x2] at g3 mono
  have hK := hV i hT.1 hT.2
  have ckq := (ck_lt (NK_w hK)).1
  refine QW_s ?_
  simp only [g_33]
  refine QW_p (k_gv (hs _ _ rfl) rfl rfl) ?_
  refine QW_p (k_gi (hs _ _ rfl) rfl) ?_
  rw [k7]
  refine QW_p (k_gv (hs _ _ rfl) rfl rfl) ?_
  refine QW_p (k_gv (hs _ _ rfl) rfl rfl) ?_
  refine QW_p (k_gv (hs _ _ rfl) rfl rfl) ?_
  refine QW_p (k_gv (hs _ _ rfl) rfl rfl) ?_
  refine QW_p (k_ia (hs _ _ rfl) (by omega) (by omega) (by decide)) ?_
  rw [r1]
  refine QW_p (k_is (hs _ _ rfl) (by omega) (by omega) (by decide)) ?_
  have c1 : KY s (q_si s 8 p (ck (P_w T i))) := KY.si (by decide)
  generalize hs1 : q_si s 8 p (ck (P_w T i)) = s1 at c1
  have hS1 := c1.sh hs
  refine QW_p (k_gv (hS1 _ _ rfl) rfl rfl) ?_
  refine QW_p (k_gv (hS1 _ _ rfl) rfl rfl) ?_
  refine QW_p (k_gv (hS1 _ _ rfl) rfl rfl) ?_
  refine QW_p (k_rc (hS1 _ _ rfl)) ?_
  refine QW_e (d_29 ho hS1 hV (c1.nr hN) hT) ?_
  refine QW_p (k_ls (hS1 _ _ rfl) (by omega) (by omega) (by decide)) ?_
  have c2 : KY s (q_sl s1 9 p (numN T i)) := c1.tr (KY.sl (by decide))
  generalize hs2 : q_sl s1 9 p (numN T i) = s2 at c2
  have hS2 := c2.sh hs
  refine QW_p (k_gv (hS2 _ _ rfl) rfl rfl) ?_
  refine QW_p (k_gv (hS2 _ _ rfl) rfl rfl) ?_
  refine QW_p (k_gv (hS2 _ _ rfl) rfl rfl) ?_
  refine QW_p (k_gv (hS2 _ _ rfl) rfl rfl) ?_
  refine QW_p (k_ia (hS2 _ _ rfl) (by omega) (by omega) (by decide)) ?_
  rw [show q_I s2 5 i = Zn T i from ((c2.2 5 (by decide) i).1).trans r6]
  refine QW_p (k_is (hS2 _ _ rfl) (by omega) (by omega) (by decide)) ?_
  have c3 : KY s (q_si s2 10 p (Zn T i)) := c2.tr (KY.si (by decide))
  generalize hs3 : q_si s2 10 p (Zn T i) = s3 at c3
  have hS3 := c3.sh hs
  refine QW_p (k_gv (hS3 _ _ rfl) rfl rfl) ?_
  refine QW_p (k_gv (hS3 _ _ rfl) rfl rfl) ?_
  refine QW_p (k_gv (hS3 _ _ rfl) rfl rfl) ?_
  refine QW_p (k_gv (hS3 _ _ rfl) rfl rfl) ?_
  refine QW_p (k_ia (hS3 _ _ rfl) (by omega) (by omega) (by decide)) ?_
  rw [show q_I s3 5 i = Zn T i from ((c3.2 5 (by decide) i).1).trans r6]
  refine QW_p (k_is (hS3 _ _ rfl) (by omega) (by omega) (by decide)) ?_
  have c4 : KY s (q_si s3 12 p (p + Zn T i - 1 - d)) := c3.tr (KY.si (by decide))
  have f4 : q_I (q_si s3 12 p (p + Zn T i - 1 - d)) 12 p = p + Zn T i - 1 - d := by rw [q_I_si, if_pos ⟨rfl, rfl⟩]
  generalize hs4 : q_si s3 12 p (p + Zn T i - 1 - d) = s4 at c4 f4
  have hS4 := c4.sh hs
  refine QW_p (k_gv (hS4 _ _ rfl) rfl rfl) ?_
  refine QW_p (k_gv (hS4 _ _ rfl) rfl rfl) ?_
  refine QW_p (k_gv (hS4 _ _ rfl) rfl rfl) ?_
  refine QW_p (k_gv (hS4 _ _ rfl) rfl rfl) ?_
  refine QW_p (k_ia (hS4 _ _ rfl) (by omega) (by omega) (by decide)) ?_
  rw [f4]
  refine QW_p (k_is (hS4 _ _ rfl) (by omega) (by omega) (by decide)) ?_
  have c5 : KY s (q_si s4 13 (p + Zn T i - 1 - d) p) := c4.tr (KY.si (by decide))
  have f5 : q_F (q_si s4 13 (p + Zn T i - 1 - d) p) 7 7 = p := by
    rw [q_F_si, if_neg (fun z => absurd z.1 (by decide)), ← hs4, q_F_si, if_neg (fun z => absurd z.1 (by decide)), ← hs3, q_F_si, if_neg (fun z => absurd z.1 (by decide)), ← hs2, q_F_sl, ← hs1, q_F_si, if_neg (fun z => absurd z.1 (by decide))]
    exact k7
  generalize hs5 : q_si s4 13 (p + Zn T i - 1 - d) p = s5 at c5 f5
  have hS5 := c5.sh hs
  refine QW_p (k_gv (hS5 _ _ rfl) rfl rfl) ?_
  refine QW_g (by unfold q_in; omega) ?_
  have es6 : q_sf (q_si s5 17 p (if p = 0 then 1 else 0)) 7 7 (p + 1) = pRw T D s p (N p) := by
    rw [← hs5, ← hs4, ← hs3, ← hs2, ← hs1, x1]
    unfold pRw
    rw [x2]
  have nx : ∀ b : Int, b = (if p = 0 then 1 else 0) → QW (fun m => g_33 o m 1 s5 6 i d 0 (.ref 17) p b) (fun q => ∃ L', LA T N D q.1 (p + 1) ∧ SK q.1 L' ∧ q_F q.1 6 5 = L'.length ∧ PLs T n N D (p + 1) L' ∧ KY s q.1) := fun b hb => by
    refine QW_s ?_
    simp only [g_33]
    refine QW_p (k_bs (hS5 _ _ rfl) (by omega) (by omega) (by decide) (by rw [hb]; split <;> simp)) ?_
    refine QW_p (k_gv (hS5 _ _ rfl) rfl rfl) ?_
    refine QW_p (k_gi (hS5 _ _ rfl) rfl) ?_
    rw [show q_F (q_si s5 17 p b) 7 7 = p by rw [q_F_si, if_neg (fun z => absurd z.1 (by decide))]; exact f5]
    refine QW_p (k_pi (hS5 _ _ rfl) rfl rfl) ?_
    rw [hb, es6]
    have A6 := hA.row hV hn hL p0 x3
    have c6 : KY s (pRw T D s p (N p)) := pRw_k
    have s6 : SK (pRw T D s p (N p)) L := SK.mv L hS (fun j _ _ => ⟨pRw_6 (Or.inr (Or.inl rfl)), pRw_6 (Or.inr (Or.inr rfl))⟩)
    have f6 : q_F (pRw T D s p (N p)) 6 5 = L.length := (pRw_6 (Or.inl rfl)).trans h5
    generalize pRw T D s p (N p) = t6 at A6 c6 s6 f6
    have pk := hP.kids hV hn hL p0
    have len := pk.len hV hn hL _ _ (by omega)
    have la : ∀ {t t' : Q_S}, LA T N D t (p + 1) → (∀ a y, a ≠ 15 → a ≠ 16 → a ≠ 6 → q_I t' a y = q_I t a y) → (∀ a y, q_L t' a y = q_L t a y) → LA T N D t' (p + 1) := fun {t t'} h e1 e2 => by
      refine ⟨(e1 7 _ (by decide) (by decide) (by decide)).trans h.1, fun x x0 x1 => ?_⟩
      rw [e1 8 _ (by decide) (by decide) (by decide), e2, e1 10 _ (by decide) (by decide) (by decide), e1 12 _ (by decide) (by decide) (by decide), e1 13 _ (by decide) (by decide) (by decide), e1 17 _ (by decide) (by decide) (by decide)]
      exact h.2 x x0 x1
    have u0 := kl_len (c := prt T i 0) (d := d + 1) (L := klL (prt T i 1) (d + 1) (klL (prt T i 2) (d + 1) L))
    have u1 := kl_len (c := prt T i 1) (d := d + 1) (L := klL (prt T i 2) (d + 1) L)
    have u2 := kl_len (c := prt T i 2) (d := d + 1) (L := L)
    refine st33 ho (c6.sh hs) hV (c6.nr hN) hT (by decide) (by decide) s6 f6 (Or.inl (by omega)) (fun t7 c7 e7 l7 s7 f7 => ?_)
    have A7 := la A6 e7 l7
    show QW (fun m => g_33 o m 2 t7 6 i d 1 .null 0 0) _
    have c7 := c6.tr c7
    refine st33 ho (c7.sh hs) hV (c7.nr hN) hT (by decide) (by decide) s7 f7 (Or.inl (by omega)) (fun t8 c8 e8 l8 s8 f8 => ?_)
    have A8 := la A7 e8 l8
    show QW (fun m => g_33 o m 2 t8 6 i d 0 .null 0 0) _
    have c8 := c7.tr c8
    refine st33 ho (c8.sh hs) hV (c8.nr hN) hT (by decide) (by decide) s8 f8 (Or.inl (by omega)) (fun t9 c9 e9 l9 s9 f9 => ?_)
    have A9 := la A8 e9 l9
    refine QW_s ?_
    simp only [g_33]
    refine QW_g (by decide) ?_
    refine QW_it (by decide) ?_
    exact QW_ret ⟨_, A9, s9, f9, pk, c8.tr c9⟩
  refine QW_by (fun z => nx 0 (by rw [if_neg z])) (fun z => nx 1 (by rw [if_pos (Decidable.not_not.mp z)]))
end CLY
