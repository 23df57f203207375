/-! THE CLASS'S layOut, whole -/
section CLO
variable {o : X_O} {T P : PT} {N U D sz rk : Int → Int} {root n : Int} {s s0 : Q_S}
theorem numC_PR {q : Int} (q0 : 0 ≤ q) : numC (PR T n N U) q = numN T (N q) := by
  unfold numC numN
  show (if P_w T (N q) = 15 then (if (if P_3 T (N q) = -1 then (-1 : Int) else q + 1 + zc T (P_1 T (N q)) + zc T (P_2 T (N q))) = -1 then 0 else 1) else P_v T (N q)) = _
  have z1 := zc_0 (T := T) (P_1 T (N q))
  have z2 := zc_0 (T := T) (P_2 T (N q))
  by_cases y : P_3 T (N q) = -1
  · rw [if_pos y, if_pos y, if_pos rfl]
  · rw [if_neg y, if_neg y, if_neg (show ¬ q + 1 + zc T (P_1 T (N q)) + zc T (P_2 T (N q)) = -1 by omega)]
/-- the loop that ties the parts -/
theorem d_31_3 (hs0 : SH s0) (hW : WP P sz) (hK0 : TK P sz rk s0) : ∀ (f : Nat) (p : Int) (s : Q_S), p + f = P_n P → 0 ≤ p → KZ s0 s → TI P s p → QW (fun m => g_31 o m 3 s 6 0 p) (fun q => KZ s0 q.1 ∧ TI P q.1 (P_n P)) := by
  have n5 := hW.2.1
  intro f
  induction f with
  | zero =>
    intro p s hp p0 hZ hT
    have hs := hZ.1.sh hs0
    have pn : p = P_n P := by simp at hp; exact hp
    refine QW_s ?_
    simp only [g_31]
    refine QW_p (k_gv (hs _ _ rfl) rfl rfl) ?_
    refine QW_p (k_gi (hs _ _ rfl) rfl) ?_
    rw [hT.1]
    refine QW_g (by unfold q_in; omega) ?_
    refine QW_it (by omega) ?_
    exact QW_ret ⟨hZ, pn ▸ hT⟩
  | succ f ih =>
    intro p s hp p0 hZ hT
    push_cast at hp
    have hs := hZ.1.sh hs0
    refine QW_s ?_
    simp only [g_31]
    refine QW_p (k_gv (hs _ _ rfl) rfl rfl) ?_
    refine QW_p (k_gi (hs _ _ rfl) rfl) ?_
    rw [hT.1]
    refine QW_g (by unfold q_in; omega) ?_
    refine QW_if (by omega) ?_
    refine QW_p (k_rc (hs _ _ rfl)) ?_
    refine QW_c (d_34 hs hW hT (hK0.kz hZ) p0 (by omega)) (fun q hq => ?_)
    exact ih (p + 1) q.1 (by omega) (by omega) (hZ.tr hq.2) hq.1
set_option maxHeartbeats 1000000 in
/-- layOut -/
theorem d_31 (ho : o 1 = some (66, fun i => x_WANTED.getD i 0)) (hs : SH s) (hV : NV T) (hN : NRc T s) (hL : LT T root n N U D) (hr : inT T root) (hS : isS (P_w T root)) (hn5 : n ≤ 500) :
    QW (fun m => g_31 o m 0 s 6 root 0) (fun q => KY s q.1 ∧ TI (PR T n N U) q.1 n ∧ TK (PR T n N U) (fun x => Zn T (N x)) (fun x => x + Zn T (N x) - 1 - D x) q.1) := by
  have hn := hN.2.1
  have hn1 : 1 ≤ n := by rw [hL.1]; exact Zn_1 hV hn hr
  have hW : WP (PR T n N U) (fun x => Zn T (N x)) := (PR_LPr T n N U).wp hL hV hn hr hS hn5
  refine QW_s ?_
  simp only [g_31]
  refine QW_p (k_gv (hs _ _ rfl) rfl rfl) ?_
  refine QW_p (k_pi (hs _ _ rfl) rfl rfl) ?_
  have c1 : KY s (q_sf s 7 7 0) := KY.sf (by decide)
  refine QW_p (k_pi ((c1.sh hs) _ _ rfl) rfl rfl) ?_
  have c2 : KY s (q_sf (q_sf s 7 7 0) 6 5 0) := c1.tr (KY.sf (by decide))
  have f2 : q_F (q_sf (q_sf s 7 7 0) 6 5 0) 6 5 = 0 := by rw [q_F_sf, if_pos ⟨rfl, rfl⟩]
  have f3 : q_F (q_sf (q_sf s 7 7 0) 6 5 0) 7 7 = 0 := by rw [q_F_sf, if_neg (fun z => absurd z.1 (by decide)), q_F_sf, if_pos ⟨rfl, rfl⟩]
  generalize q_sf (q_sf s 7 7 0) 6 5 0 = s2 at c2 f2 f3
  have hs2 := c2.sh hs
  refine QW_p (k_rc (hs2 _ _ rfl)) ?_
  refine QW_e (d_32 hs2 f2 (by decide) (by decide)) ?_
  have A0 : LA T N D (pSt s2 0 root 0) 0 := LA.pSt ⟨f3, fun x x0 x1 => by omega⟩
  have S0 : SK (pSt s2 0 root 0) [(root, 0)] := SK.push (L := []) (s := s2) trivial
  have P0 : PLs T n N D 0 [(root, 0)] := ⟨hL.2.1.1, hL.2.1.2.2, by omega, by show 0 + Zn T root = n; rw [hL.1]; omega⟩
  refine d_31_1 ho hs hV hN hL hn5 (fun s3 c3 A3 => ?_) n.toNat 0 _ [(root, 0)] (by omega) (Int.le_refl _) (c2.tr pSt_k) A0 S0 (by rw [pSt_5]; rfl) P0
  have hs3 := c3.sh hs
  refine QW_s ?_
  simp only [g_31]
  refine QW_p (k_gv (hs3 _ _ rfl) rfl rfl) ?_
  refine QW_p (k_pi (hs3 _ _ rfl) rfl rfl) ?_
  have c4 : KY s (q_sf s3 7 8 0) := c3.tr (KY.sf (by decide))
  have hs4 := c4.sh hs
  have f47 : q_F (q_sf s3 7 8 0) 7 7 = n := by rw [q_F_sf, if_neg (by decide)]; exact A3.1
  have f48 : q_F (q_sf s3 7 8 0) 7 8 = 0 := by rw [q_F_sf, if_pos ⟨rfl, rfl⟩]
  have I4 : ∀ a j, a ≠ 7 → q_I (q_sf s3 7 8 0) a j = q_I s3 a j := fun a j ha => by rw [q_I_sf, if_neg (fun z => ha z.1)]
  have L4 : ∀ a j, q_L (q_sf s3 7 8 0) a j = q_L s3 a j := fun a j => rfl
  generalize q_sf s3 7 8 0 = s4 at c4 hs4 f47 f48 I4 L4
  refine QW_p (k_gv (hs4 _ _ rfl) rfl rfl) ?_
  refine QW_p (k_gv (hs4 _ _ rfl) rfl rfl) ?_
  refine QW_p (k_gv (hs4 _ _ rfl) rfl rfl) ?_
  refine QW_p (k_gi (hs4 _ _ rfl) rfl) ?_
  rw [f47]
  refine QW_p (k_is (hs4 _ _ rfl) (by decide) (by decide) (by decide)) ?_
  have c5 : KY s (q_si s4 11 0 (-1 - n)) := c4.tr (KY.si (by decide))
  have hs5 := c5.sh hs
  have K5 : TK (PR T n N U) (fun x => Zn T (N x)) (fun x => x + Zn T (N x) - 1 - D x) (q_si s4 11 0 (-1 - n)) := fun x x0 x1 => by
    obtain ⟨a1, a2, a3, a4, a5, a6⟩ := A3.2 x x0 x1
    have e : ∀ a j, a ≠ 7 → a ≠ 11 → q_I (q_si s4 11 0 (-1 - n)) a j = q_I s3 a j := fun a j h1 h2 => by
      rw [q_I_si, if_neg (fun z => h2 z.1)]
      exact I4 a j h1
    refine ⟨(e 8 _ (by decide) (by decide)).trans a1, ?_, (e 10 _ (by decide) (by decide)).trans a3, (e 12 _ (by decide) (by decide)).trans a4, (e 13 _ (by decide) (by decide)).trans a5⟩
    rw [numC_PR x0]
    exact (L4 9 x).trans a2
  have T5 : TI (PR T n N U) (q_si s4 11 0 (-1 - n)) 0 := by
    have un : ∀ x, 0 < x → x < n → 0 ≤ U x := fun x x0 x1 => (hL.2.2.2.1 x x0 x1).1
    have u0 : U 0 = -1 := hL.2.1.2.1
    have up : upR (PR T n N U) 500 (-1) = -1 := by
      show (if ¬ (-1 : Int) = -1 ∧ _ then _ else (-1 : Int)) = -1
      rw [if_neg (fun z => z.1 rfl)]
    refine ⟨?_, fun x x0 x1 hx hu => ?_, fun x x0 x1 => ?_, 0, ?_, Int.le_refl _, Int.le_refl _, fun k k0 k1 => by omega, fun k hk => by rw [Int.sub_zero]; rfl⟩
    · rw [q_F_si, if_neg (fun z => absurd z.1 (by decide))]
      exact f47
    · have hu : U x < 0 := hu
      have xz : x = 0 := by
        by_cases z : x = 0
        · exact z
        · have := un x (by omega) x1
          omega
      rw [xz, q_I_si, if_pos ⟨rfl, rfl⟩]
      unfold thF
      rw [if_pos (show P_u (PR T n N U) 0 = -1 from u0)]
      rfl
    · rw [q_I_si, if_neg (fun z => absurd z.1 (by decide)), I4 17 _ (by decide), (A3.2 x x0 x1).2.2.2.2.2]
      show (if x = 0 then (1 : Int) else 0) = if U x < 0 ∧ upR (PR T n N U) 500 (U x) = -1 then 1 else 0
      by_cases z : x = 0
      · rw [z, u0, if_pos rfl, if_pos ⟨by decide, up⟩]
      · have := un x (by omega) x1
        rw [if_neg z, if_neg (fun w => by omega)]
    · rw [q_F_si, if_neg (fun z => absurd z.1 (by decide))]
      exact f48
  refine QW_m (d_31_3 hs5 hW K5 n.toNat 0 _ (by show 0 + (n.toNat : Int) = n; omega) (Int.le_refl _) KZ.rf T5) (fun q hq => ?_)
  exact ⟨c5.tr hq.1.1, hq.2, K5.kz hq.1⟩
/-- ranks of a layout -/
theorem RK_of (hV : NV T) (hn : P_n T ≤ 300) (hL : LT T root n N U D) {rk br : Int → Int} (h : ∀ x, 0 ≤ x → x < n → rk x = x + Zn T (N x) - 1 - D x ∧ br (x + Zn T (N x) - 1 - D x) = x) : RK (PR T n N U) (fun x => Zn T (N x)) rk br := fun p p0 p1 he => by
  have p1 : p < n := p1
  obtain ⟨g1, g2, g3, k1, k2, k3⟩ := hL.2.2.1 p p0 p1
  obtain ⟨A1, A2, A3⟩ := (PR_LPr T n N U).c hL hV hn p0 p1
  have mono := hL.mono hV hn p.toNat 0 (Int.le_refl _) (by omega)
  rw [hL.2.1.2.2, show (0 : Int) + (p.toNat : Int) = p by omega] at mono
  obtain ⟨h1, h2⟩ := h p p0 p1
  have ez := Zn_eq hV hn g1
  have r := NK_pr (hV _ g1.1 g1.2)
  have m := zc_m (T := T)
  have z1 := Zn_1 hV hn g1
  refine ⟨by show 0 ≤ rk p - Zn T (N p) + 1; omega, by show rk p < n; omega, by rw [h1]; exact h2, fun w => ?_, fun w0 w5 => ?_⟩
  · have w : P_w T (N p) = 6 := w
    have y1 : P_1 T (N p) ≠ -1 := fun z => by have := r.1.mp z; omega
    have y2 : P_2 T (N p) = -1 := r.2.1.mpr (by omega)
    have y3 : P_3 T (N p) = -1 := (NK_12 (hV _ g1.1 g1.2)).2 y2
    obtain ⟨x1, x2, x3, x4⟩ := A1 y1
    have d := (k1 y1).2.2
    rw [y2, y3, m] at ez
    rw [(h (p + 1) (by omega) x1.2.2).1]
    omega
  · have w0 : 0 ≤ P_w T (N p) := w0
    have w5 : P_w T (N p) ≤ 5 := w5
    have y1 : P_1 T (N p) ≠ -1 := fun z => by have := r.1.mp z; omega
    have y2 : P_2 T (N p) ≠ -1 := fun z => by have := r.2.1.mp z; omega
    have y3 : P_3 T (N p) = -1 := (r.2.2.1 (by omega)).mpr (by omega)
    obtain ⟨x1, x2, x3, x4⟩ := A1 y1
    obtain ⟨v1, v2, v3, v4⟩ := A2 y2
    have d1 := (k1 y1).2.2
    have d2 := (k2 y2).2.2
    rw [x4] at d2
    rw [y3, m] at ez
    have l2 : p + 1 + Zn T (N (p + 1)) < n := v1.2.2.2
    have zz := Zn_1 hV hn (hL.2.2.1 (p + 1) (by omega) x1.2.2).1
    show rk (p + 1 + Zn T (N (p + 1))) = rk p - 1 ∧ rk (p + 1) = rk p - 1 - Zn T (N (p + 1 + Zn T (N (p + 1))))
    rw [(h (p + 1) (by omega) x1.2.2).1, (h (p + 1 + Zn T (N (p + 1))) (by omega) l2).1]
    omega
end CLO
