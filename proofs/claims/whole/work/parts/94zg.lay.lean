/-! A PROGRAM LAID OUT: it is one as make lays it; programs alike -/
/-- what a program has of its layout -/
def LPr (T : PT) (P : PT) (N U : Int → Int) : Prop := ∀ q, 0 ≤ q → q < P_n P → P_w P q = P_w T (N q) ∧ P_v P q = P_v T (N q) ∧ P_1 P q = (if P_1 T (N q) = -1 then -1 else q + 1) ∧ P_2 P q = (if P_2 T (N q) = -1 then -1 else q + 1 + zc T (P_1 T (N q))) ∧ P_3 P q = (if P_3 T (N q) = -1 then -1 else q + 1 + zc T (P_1 T (N q)) + zc T (P_2 T (N q))) ∧ P_u P q = U q
def PR (T : PT) (n : Int) (N U : Int → Int) : PT := (n, fun q => P_w T (N q), fun q => P_v T (N q), fun q => if P_1 T (N q) = -1 then -1 else q + 1, fun q => if P_2 T (N q) = -1 then -1 else q + 1 + zc T (P_1 T (N q)), fun q => if P_3 T (N q) = -1 then -1 else q + 1 + zc T (P_1 T (N q)) + zc T (P_2 T (N q)), U)
theorem PR_LPr (T : PT) (n : Int) (N U : Int → Int) : LPr T (PR T n N U) N U := fun _ _ _ => ⟨rfl, rfl, rfl, rfl, rfl, rfl⟩
/-- a program that is laid out from the nodes -/
def LD (T : PT) (P : PT) (sz : Int → Int) : Prop := ∃ root N U D, inT T root ∧ isS (P_w T root) ∧ P_n P ≤ 500 ∧ LT T root (P_n P) N U D ∧ LPr T P N U ∧ ∀ q, 0 ≤ q → q < P_n P → sz q = Zn T (N q)
/-- more nodes -/
def TA (T T' : PT) : Prop := P_n T ≤ P_n T' ∧ ∀ i, inT T i → P_w T' i = P_w T i ∧ P_v T' i = P_v T i ∧ P_1 T' i = P_1 T i ∧ P_2 T' i = P_2 T i ∧ P_3 T' i = P_3 T i ∧ Zn T' i = Zn T i
section LYC
variable {T T' P P' : PT} {root n : Int} {N U D N' U' D' sz : Int → Int}
theorem TA.rf (T : PT) : TA T T := ⟨Int.le_refl _, fun _ _ => ⟨rfl, rfl, rfl, rfl, rfl, rfl⟩⟩
theorem TA.add (hV : NV T) {w a b c : Int} {v : Int64} : TA T (addN T w v a b c) := by
  refine ⟨by show P_n T ≤ P_n T + 1; omega, fun i hi => ?_⟩
  obtain ⟨e0, e4, e1, e2, e3⟩ := add_o (T := T) (w := w) (v := v) (a := a) (b := b) (c := c) (show i ≠ P_n T by have := hi.2; omega)
  exact ⟨e0, e4, e1, e2, e3, nsz_add hV 301 i hi.1 hi.2⟩
theorem TA.in (h : TA T T') {i : Int} (hi : inT T i) : inT T' i := ⟨hi.1, by have := hi.2; have := h.1; omega⟩
theorem TA.zc (h : TA T T') {x : Int} (hx : x = -1 ∨ inT T x) : zc T' x = zc T x := by
  rcases hx with rfl | hx
  · rw [zc_m, zc_m]
  · have z : ¬ x = -1 := by have := hx.1; omega
    rw [zc_n z, zc_n z]
    exact (h.2 x hx).2.2.2.2.2
theorem LT.ta (h : TA T T') (hV : NV T) (hr : inT T root) (hL : LT T root n N U D) : LT T' root n N U D := by
  obtain ⟨a1, a2, hq, hu, hs⟩ := hL
  have key : ∀ q, 0 ≤ q → q < n → inT T (N q) ∧ P_1 T' (N q) = P_1 T (N q) ∧ P_2 T' (N q) = P_2 T (N q) ∧ P_3 T' (N q) = P_3 T (N q) ∧ Zn T' (N q) = Zn T (N q) ∧ zc T' (P_1 T (N q)) = zc T (P_1 T (N q)) ∧ zc T' (P_2 T (N q)) = zc T (P_2 T (N q)) := fun q q0 q1 => by
    have g := (hq q q0 q1).1
    obtain ⟨e1, e2, e3, e4, e5, e6⟩ := h.2 _ g
    obtain ⟨p1, p2, p3⟩ := prts hV g
    exact ⟨g, e3, e4, e5, e6, h.zc (p1.imp id (·.1)), h.zc (p2.imp id (·.1))⟩
  refine ⟨by rw [(h.2 _ hr).2.2.2.2.2]; exact a1, a2, fun q q0 q1 => ?_, fun q q0 q1 => ?_, fun p x p0 p1 x0 x1 => ?_⟩
  · obtain ⟨k1, k2, k3, k4, k5, k6, k7⟩ := key q q0 q1
    obtain ⟨g1, g2⟩ := hq q q0 q1
    rw [k2, k3, k4, k5, k6, k7]
    exact ⟨h.in g1, g2⟩
  · obtain ⟨g1, g2, g3, g4⟩ := hu q q0 q1
    obtain ⟨k1, k2, k3, k4, k5, k6, k7⟩ := key (U q) g1 (by omega)
    unfold CH
    rw [k2, k3, k4, k6, k7]
    exact ⟨g1, g2, g3, g4⟩
  · obtain ⟨k1, k2, k3, k4, k5, k6, k7⟩ := key p p0 p1
    rw [k5] at x1 ⊢
    have g := (hq p p0 p1).2.1
    obtain ⟨b1, b2, b3, b4, b5, b6, b7⟩ := key x (by omega) (by omega)
    rw [b5]
    exact hs p x p0 p1 x0 x1
theorem LPr.ta (h : TA T T') (hV : NV T) (hL : LT T root (P_n P) N U D) (hP : LPr T P N U) : LPr T' P N U := fun q q0 q1 => by
  have g := (hL.2.2.1 q q0 q1).1
  obtain ⟨e1, e2, e3, e4, e5, e6⟩ := h.2 _ g
  obtain ⟨p1, p2, p3⟩ := prts hV g
  rw [e1, e2, e3, e4, e5, h.zc (p1.imp id (·.1)), h.zc (p2.imp id (·.1))]
  exact hP q q0 q1
theorem LD.ta (h : TA T T') (hV : NV T) (hL : LD T P sz) : LD T' P sz := by
  obtain ⟨root, N, U, D, a1, a2, a3, a4, a5, a6⟩ := hL
  refine ⟨root, N, U, D, h.in a1, by rw [(h.2 _ a1).1]; exact a2, a3, a4.ta h hV a1, a5.ta h hV a4, fun q q0 q1 => ?_⟩
  rw [(h.2 _ (a4.2.2.1 q q0 q1).1).2.2.2.2.2]
  exact a6 q q0 q1
/-- which parts a node has is told by its kind -/
theorem NK_pr {i : Int} (h : NK T i) : (P_1 T i = -1 ↔ (100 ≤ P_w T i ∨ P_w T i = 19)) ∧ (P_2 T i = -1 ↔ (100 ≤ P_w T i ∨ P_w T i = 6 ∨ P_w T i = 12 ∨ P_w T i = 10 ∨ P_w T i = 11 ∨ P_w T i = 19 ∨ P_w T i = 20 ∨ P_w T i = 21)) ∧ (P_w T i ≠ 15 → (P_3 T i = -1 ↔ P_w T i ≠ 16)) ∧ (P_w T i = 15 → P_v T i = 0) := by
  unfold NK pE pT at h
  rcases h with ⟨h1, h2, ha, hb, hc, _⟩ | ⟨h1, ha, hb, hc, _⟩ | ⟨h1, ha, hb, hc, _⟩ | ⟨h1, ha, hb, hc, _⟩ | ⟨h1, ha, hb, hc, _⟩ | ⟨h1, ha, hb, hc, _⟩ | ⟨h1, ha, hb, hc, _⟩ | ⟨h1, ha, hb, hc, hv⟩ | ⟨h1, ha, hb, hc, _⟩ | ⟨h1, ha, hb, hc, _⟩ | ⟨h1, ha, hb, hc, _⟩ | ⟨h1, ha, hb, hc, _⟩ | ⟨h1, ha, hb, hc, _⟩
  case inr.inr.inr.inr.inr.inr.inr.inl => 
    have a0 := ha.1
    have b0 := hb.1
    exact ⟨by omega, by omega, fun z => by omega, fun _ => hv⟩
  all_goals
    (try have a0 := ha.1)
    (try have b0 := hb.1)
    (try have c0 := hc.1)
    exact ⟨by omega, by omega, fun z => by omega, fun z => by omega⟩
theorem NK_kd {i : Int} (h : NK T i) : (0 ≤ P_w T i ∧ P_w T i ≤ 6) ∨ (10 ≤ P_w T i ∧ P_w T i ≤ 21) ∨ (100 ≤ P_w T i ∧ P_w T i ≤ 102) := by
  rcases h with ⟨h1, h2, _⟩ | ⟨h1, _⟩ | ⟨h1, _⟩ | ⟨h1, _⟩ | ⟨h1, _⟩ | ⟨h1, _⟩ | ⟨h1, _⟩ | ⟨h1, _⟩ | ⟨h1, _⟩ | ⟨h1, _⟩ | ⟨h1, _⟩ | ⟨h1, _⟩ | ⟨h1, _⟩ <;> omega
/-- a place of the layout, by its parts -/
theorem LPr.c (hL : LT T root (P_n P) N U D) (hP : LPr T P N U) (hV : NV T) (hn : P_n T ≤ 300) {q : Int} (q0 : 0 ≤ q) (q1 : q < P_n P) :
    (P_1 T (N q) ≠ -1 → C1 P q ∧ P_w P (q + 1) = P_w T (P_1 T (N q)) ∧ N (q + 1) = P_1 T (N q) ∧ zc T (P_1 T (N q)) = Zn T (N (q + 1))) ∧
    (P_2 T (N q) ≠ -1 → C2 P (fun x => Zn T (N x)) q ∧ P_w P (q + 1 + Zn T (N (q + 1))) = P_w T (P_2 T (N q)) ∧ N (q + 1 + Zn T (N (q + 1))) = P_2 T (N q) ∧ zc T (P_2 T (N q)) = Zn T (N (q + 1 + Zn T (N (q + 1))))) ∧
    (P_3 T (N q) ≠ -1 → C3 P (fun x => Zn T (N x)) q ∧ P_w P (q + 1 + Zn T (N (q + 1)) + Zn T (N (q + 1 + Zn T (N (q + 1))))) = P_w T (P_3 T (N q)) ∧ zc T (P_3 T (N q)) = Zn T (N (q + 1 + Zn T (N (q + 1)) + Zn T (N (q + 1 + Zn T (N (q + 1))))))) := by
  have hq := hL.2.2.1
  obtain ⟨g1, g2, g3, k1, k2, k3⟩ := hq q q0 q1
  obtain ⟨b1, b2, b3, b4, b5, b6⟩ := hP q q0 q1
  have e := Zn_eq hV hn g1
  have z1 := zc_0 (T := T) (P_1 T (N q))
  have z2 := zc_0 (T := T) (P_2 T (N q))
  have z3 := zc_0 (T := T) (P_3 T (N q))
  obtain ⟨p1, p2, p3⟩ := prts hV g1
  obtain ⟨o1, o2⟩ := NK_12 (hV _ g1.1 g1.2)
  have A1 : P_1 T (N q) ≠ -1 → C1 P q ∧ P_w P (q + 1) = P_w T (P_1 T (N q)) ∧ N (q + 1) = P_1 T (N q) ∧ zc T (P_1 T (N q)) = Zn T (N (q + 1)) := fun z => by
    obtain ⟨x1, x2, x3⟩ := k1 z
    have y := zc_p hV hn (p1.resolve_left z).1
    obtain ⟨c1, c2, c3, c4, c5, c6⟩ := hP (q + 1) (by omega) (by omega)
    rw [if_neg z] at b3
    exact ⟨⟨b3, by rw [c6]; exact x2, by omega⟩, by rw [c1, x1], x1, by rw [x1]; exact y.1⟩
  have A2 : P_2 T (N q) ≠ -1 → C2 P (fun x => Zn T (N x)) q ∧ P_w P (q + 1 + Zn T (N (q + 1))) = P_w T (P_2 T (N q)) ∧ N (q + 1 + Zn T (N (q + 1))) = P_2 T (N q) ∧ zc T (P_2 T (N q)) = Zn T (N (q + 1 + Zn T (N (q + 1)))) := fun z => by
    obtain ⟨a1, a2, a3, a4⟩ := A1 (fun w => z (o1 w))
    obtain ⟨x1, x2, x3⟩ := k2 z
    have y := zc_p hV hn (p2.resolve_left z).1
    rw [a4] at x1 x2 x3 b4
    rw [if_neg z] at b4
    obtain ⟨c1, c2, c3, c4, c5, c6⟩ := hP (q + 1 + Zn T (N (q + 1))) (by omega) (by omega)
    exact ⟨⟨a1, b4, by show P_u P (q + 1 + Zn T (N (q + 1))) = q; rw [c6]; exact x2, by show q + 1 + Zn T (N (q + 1)) < _; omega⟩, by rw [c1, x1], x1, by rw [x1]; exact y.1⟩
  refine ⟨A1, A2, fun z => ?_⟩
  obtain ⟨a1, a2, a3, a4⟩ := A1 (fun w => z (o2 (o1 w)))
  obtain ⟨d1, d2, d3, d4⟩ := A2 (fun w => z (o2 w))
  obtain ⟨x1, x2, x3⟩ := k3 z
  have y := zc_p hV hn (p3.resolve_left z).1
  rw [d4, a4] at x1 x2 x3 b5
  rw [if_neg z] at b5
  obtain ⟨c1, c2, c3, c4, c5, c6⟩ := hP (q + 1 + Zn T (N (q + 1)) + Zn T (N (q + 1 + Zn T (N (q + 1))))) (by omega) (by omega)
  exact ⟨⟨d1, b5, by show P_u P (q + 1 + Zn T (N (q + 1)) + Zn T (N (q + 1 + Zn T (N (q + 1))))) = q; rw [c6]; exact x2, by show q + 1 + Zn T (N (q + 1)) + Zn T (N (q + 1 + Zn T (N (q + 1)))) < _; omega⟩, by rw [c1, x1], by rw [x1]; exact y.1⟩
theorem LPr.wk (hL : LT T root (P_n P) N U D) (hP : LPr T P N U) (hV : NV T) (hn : P_n T ≤ 300) {q : Int} (q0 : 0 ≤ q) (q1 : q < P_n P) : WK P (fun x => Zn T (N x)) q := by
  obtain ⟨A1, A2, A3⟩ := hP.c hL hV hn q0 q1
  obtain ⟨g1, g2, g3, -⟩ := hL.2.2.1 q q0 q1
  obtain ⟨b1, b2, b3, b4, b5, b6⟩ := hP q q0 q1
  have e := Zn_eq hV hn g1
  have m := zc_m (T := T)
  have hk := hV _ g1.1 g1.2
  have ne : ∀ {x : Int}, pE T (N q) x → x ≠ -1 := fun h => by have := h.1; omega
  have nt : ∀ {x : Int}, pT T (N q) x → x ≠ -1 := fun h => by have := h.1; omega
  unfold WK
  show (100 ≤ P_w P q ∧ P_w P q ≤ 102 ∧ Zn T (N q) = 1 ∧ _) ∨ _
  rw [b1, b2]
  rcases hk with ⟨h1, h2, ha, hb, hc, hv⟩ | ⟨h1, ha, hb, hc, hv⟩ | ⟨h1, ha, hb, hc, hv⟩ | ⟨h1, ha, hb, hc, hv⟩ | ⟨h1, ha, hb, hc, hv⟩ | ⟨h1, ha, hb, hc, hv⟩ | ⟨h1, ha, hb, hc, hv⟩ | ⟨h1, ha, hb, hc, hv⟩ | ⟨h1, ha, hb, hc, hv⟩ | ⟨h1, ha, hb, hc, hv⟩ | ⟨h1, ha, hb, hc, hv⟩ | ⟨h1, ha, hb, hc, hv⟩ | ⟨h1, ha, hb, hc, hv⟩
  · rw [ha, hb, hc, m] at e
    exact Or.inl ⟨h1, h2, by omega, hv⟩
  · obtain ⟨x1, x2, x3, x4⟩ := A1 (ne ha)
    rw [hb, hc, m] at e
    have s1 : Zn T (N q) = 1 + Zn T (N (q + 1)) := by omega
    rcases h1 with h1 | h1
    · exact Or.inr (Or.inl ⟨h1, x1, by rw [x2]; exact ha.2.2, s1⟩)
    · exact Or.inr (Or.inr (Or.inr (Or.inr (Or.inr (Or.inl ⟨h1, x1, by rw [x2]; exact ha.2.2, s1⟩)))))
  · obtain ⟨x1, x2, x3, x4⟩ := A1 (ne ha)
    obtain ⟨y1, y2, y3, y4⟩ := A2 (ne hb)
    rw [hc, m] at e
    exact Or.inr (Or.inr (Or.inl ⟨h1.1, h1.2, y1, by rw [x2]; exact ha.2.2, by show isE (P_w P (q + 1 + Zn T (N (q + 1)))); rw [y2]; exact hb.2.2, by show Zn T (N q) = 1 + Zn T (N (q + 1)) + Zn T (N (q + 1 + Zn T (N (q + 1)))); omega⟩))
  · obtain ⟨x1, x2, x3, x4⟩ := A1 (ne ha)
    rw [hb, hc, m] at e
    have s1 : Zn T (N q) = 1 + Zn T (N (q + 1)) := by omega
    exact Or.inr (Or.inr (Or.inr (Or.inl ⟨h1, x1, by rw [x2]; exact ha.2.2, hv, s1⟩)))
  · obtain ⟨x1, x2, x3, x4⟩ := A1 (ne ha)
    rw [hb, hc, m] at e
    have s1 : Zn T (N q) = 1 + Zn T (N (q + 1)) := by omega
    exact Or.inr (Or.inr (Or.inr (Or.inr (Or.inl ⟨h1, x1, by rw [x2]; exact ha.2.2, hv, s1⟩))))
  · obtain ⟨x1, x2, x3, x4⟩ := A1 (ne ha)
    obtain ⟨y1, y2, y3, y4⟩ := A2 (ne hb)
    rw [hc, m] at e
    exact Or.inr (Or.inr (Or.inr (Or.inr (Or.inr (Or.inr (Or.inl ⟨h1, y1, by rw [x2]; exact ha.2.2, by show isE (P_w P (q + 1 + Zn T (N (q + 1)))); rw [y2]; exact hb.2.2, hv, by show Zn T (N q) = 1 + Zn T (N (q + 1)) + Zn T (N (q + 1 + Zn T (N (q + 1)))); omega⟩))))))
  · obtain ⟨x1, x2, x3, x4⟩ := A1 (nt ha)
    obtain ⟨y1, y2, y3, y4⟩ := A2 (nt hb)
    rw [hc, m] at e
    have s2 : isS (P_w P (q + 1 + Zn T (N (q + 1)))) := by rw [y2]; exact hb.2.2
    have s1 : Zn T (N q) = 1 + Zn T (N (q + 1)) + Zn T (N (q + 1 + Zn T (N (q + 1)))) := by omega
    rcases h1 with h1 | h1
    · exact Or.inr (Or.inr (Or.inr (Or.inr (Or.inr (Or.inr (Or.inr (Or.inl ⟨h1, y1, by rw [x2]; exact ha.2.2, s2, s1⟩)))))))
    · exact Or.inr (Or.inr (Or.inr (Or.inr (Or.inr (Or.inr (Or.inr (Or.inr (Or.inr (Or.inr (Or.inr (Or.inr (Or.inl ⟨h1, y1, by rw [x2]; exact ha.2.2, s2, s1⟩))))))))))))
  · obtain ⟨x1, x2, x3, x4⟩ := A1 (ne ha)
    obtain ⟨y1, y2, y3, y4⟩ := A2 (nt hb)
    have s2 : isS (P_w P (q + 1 + Zn T (N (q + 1)))) := by rw [y2]; exact hb.2.2
    rcases hc with hc | hc
    · rw [hc, m] at e
      rw [if_pos hc] at b5
      exact Or.inr (Or.inr (Or.inr (Or.inr (Or.inr (Or.inr (Or.inr (Or.inr (Or.inl ⟨h1, y1, by rw [x2]; exact ha.2.2, s2, b5, by show Zn T (N q) = 1 + Zn T (N (q + 1)) + Zn T (N (q + 1 + Zn T (N (q + 1)))); omega⟩))))))))
    · obtain ⟨w1, w2, w3⟩ := A3 (nt hc)
      have s3 : isS (P_w P (q + 1 + Zn T (N (q + 1)) + Zn T (N (q + 1 + Zn T (N (q + 1)))))) := by rw [w2]; exact hc.2.2
      exact Or.inr (Or.inr (Or.inr (Or.inr (Or.inr (Or.inr (Or.inr (Or.inr (Or.inr (Or.inl ⟨h1, w1, by rw [x2]; exact ha.2.2, s2, s3, by show Zn T (N q) = 1 + Zn T (N (q + 1)) + Zn T (N (q + 1 + Zn T (N (q + 1)))) + Zn T (N (q + 1 + Zn T (N (q + 1)) + Zn T (N (q + 1 + Zn T (N (q + 1)))))); omega⟩)))))))))
  · obtain ⟨x1, x2, x3, x4⟩ := A1 (ne ha)
    obtain ⟨y1, y2, y3, y4⟩ := A2 (nt hb)
    have s2 : isS (P_w P (q + 1 + Zn T (N (q + 1)))) := by rw [y2]; exact hb.2.2
    obtain ⟨w1, w2, w3⟩ := A3 (nt hc)
    have s3 : isS (P_w P (q + 1 + Zn T (N (q + 1)) + Zn T (N (q + 1 + Zn T (N (q + 1)))))) := by rw [w2]; exact hc.2.2
    exact Or.inr (Or.inr (Or.inr (Or.inr (Or.inr (Or.inr (Or.inr (Or.inr (Or.inr (Or.inr (Or.inl ⟨h1, w1, by rw [x2]; exact ha.2.2, s2, s3, by show Zn T (N q) = 1 + Zn T (N (q + 1)) + Zn T (N (q + 1 + Zn T (N (q + 1)))) + Zn T (N (q + 1 + Zn T (N (q + 1)) + Zn T (N (q + 1 + Zn T (N (q + 1)))))); omega⟩))))))))))
  · obtain ⟨x1, x2, x3, x4⟩ := A1 (ne ha)
    obtain ⟨y1, y2, y3, y4⟩ := A2 (nt hb)
    have s2 : isS (P_w P (q + 1 + Zn T (N (q + 1)))) := by rw [y2]; exact hb.2.2
    rw [hc, m] at e
    exact Or.inr (Or.inr (Or.inr (Or.inr (Or.inr (Or.inr (Or.inr (Or.inr (Or.inr (Or.inr (Or.inr (Or.inl ⟨h1, y1, by rw [x2]; exact ha.2.2, s2, by show Zn T (N q) = 1 + Zn T (N (q + 1)) + Zn T (N (q + 1 + Zn T (N (q + 1)))); omega⟩)))))))))))
  · rw [ha, hb, hc, m] at e
    exact Or.inr (Or.inr (Or.inr (Or.inr (Or.inr (Or.inr (Or.inr (Or.inr (Or.inr (Or.inr (Or.inr (Or.inr (Or.inr (Or.inl ⟨h1, hv, by show Zn T (N q) = 1; omega⟩)))))))))))))
  · obtain ⟨x1, x2, x3, x4⟩ := A1 (nt ha)
    rw [hb, hc, m] at e
    have s1 : Zn T (N q) = 1 + Zn T (N (q + 1)) := by omega
    exact Or.inr (Or.inr (Or.inr (Or.inr (Or.inr (Or.inr (Or.inr (Or.inr (Or.inr (Or.inr (Or.inr (Or.inr (Or.inr (Or.inr (Or.inl ⟨h1, x1, by rw [x2]; exact ha.2.2, hv, s1⟩))))))))))))))
  · obtain ⟨x1, x2, x3, x4⟩ := A1 (nt ha)
    rw [hb, hc, m] at e
    have s1 : Zn T (N q) = 1 + Zn T (N (q + 1)) := by omega
    exact Or.inr (Or.inr (Or.inr (Or.inr (Or.inr (Or.inr (Or.inr (Or.inr (Or.inr (Or.inr (Or.inr (Or.inr (Or.inr (Or.inr (Or.inr ⟨h1, x1, by rw [x2]; exact ha.2.2, s1⟩))))))))))))))
/-- the same sizes -/
theorem WK_sz {sz sz' : Int → Int} {p : Int} (h : WK P sz p) (e : ∀ q, 0 ≤ q → q < P_n P → sz' q = sz q) (hz : ∀ q, 0 ≤ q → q < P_n P → 1 ≤ sz q) (p0 : 0 ≤ p) (p1 : p < P_n P) : WK P sz' p := by
  have A1 : C1 P p → sz' (p + 1) = sz (p + 1) := fun c => e _ (by omega) c.2.2
  have A2 : C2 P sz p → C2 P sz' p ∧ sz' (p + 1 + sz' (p + 1)) = sz (p + 1 + sz (p + 1)) := fun c => by
    have a := A1 c.1
    have z := hz (p + 1) (by omega) c.1.2.2
    unfold C2
    rw [a]
    exact ⟨c, e _ (by omega) c.2.2.2⟩
  have A3 : C3 P sz p → C3 P sz' p ∧ sz' (p + 1 + sz' (p + 1) + sz' (p + 1 + sz' (p + 1))) = sz (p + 1 + sz (p + 1) + sz (p + 1 + sz (p + 1))) := fun c => by
    obtain ⟨b1, b2⟩ := A2 c.1
    have a := A1 c.1.1
    have z := hz (p + 1) (by omega) c.1.1.2.2
    have z2 := hz (p + 1 + sz (p + 1)) (by omega) c.1.2.2.2
    unfold C3
    rw [b2, a]
    exact ⟨⟨b1, c.2⟩, e _ (by omega) c.2.2.2⟩
  unfold WK at h ⊢
  rcases h with h | h | h | h | h | h | h | h | h | h | h | h | h | h | h | h
  · obtain ⟨a, b, c, d⟩ := h
    exact Or.inl ⟨a, b, (e p p0 p1).trans c, d⟩
  · obtain ⟨a, c, d, f⟩ := h
    exact Or.inr (Or.inl ⟨a, c, d, by rw [e p p0 p1, A1 c]; exact f⟩)
  · obtain ⟨a, a2, c, d, g, f⟩ := h
    obtain ⟨x1, x2⟩ := A2 c
    exact Or.inr (Or.inr (Or.inl ⟨a, a2, x1, d, by rw [A1 c.1]; exact g, by rw [e p p0 p1, x2, A1 c.1]; exact f⟩))
  · obtain ⟨a, c, d, g, f⟩ := h
    exact Or.inr (Or.inr (Or.inr (Or.inl ⟨a, c, d, g, by rw [e p p0 p1, A1 c]; exact f⟩)))
  · obtain ⟨a, c, d, g, f⟩ := h
    exact Or.inr (Or.inr (Or.inr (Or.inr (Or.inl ⟨a, c, d, g, by rw [e p p0 p1, A1 c]; exact f⟩))))
  · obtain ⟨a, c, d, f⟩ := h
    exact Or.inr (Or.inr (Or.inr (Or.inr (Or.inr (Or.inl ⟨a, c, d, by rw [e p p0 p1, A1 c]; exact f⟩)))))
  · obtain ⟨a, c, d, g, h2, f⟩ := h
    obtain ⟨x1, x2⟩ := A2 c
    exact Or.inr (Or.inr (Or.inr (Or.inr (Or.inr (Or.inr (Or.inl ⟨a, x1, d, by rw [A1 c.1]; exact g, h2, by rw [e p p0 p1, x2, A1 c.1]; exact f⟩))))))
  · obtain ⟨a, c, d, g, f⟩ := h
    obtain ⟨x1, x2⟩ := A2 c
    exact Or.inr (Or.inr (Or.inr (Or.inr (Or.inr (Or.inr (Or.inr (Or.inl ⟨a, x1, d, by rw [A1 c.1]; exact g, by rw [e p p0 p1, x2, A1 c.1]; exact f⟩)))))))
  · obtain ⟨a, c, d, g, h2, f⟩ := h
    obtain ⟨x1, x2⟩ := A2 c
    exact Or.inr (Or.inr (Or.inr (Or.inr (Or.inr (Or.inr (Or.inr (Or.inr (Or.inl ⟨a, x1, d, by rw [A1 c.1]; exact g, h2, by rw [e p p0 p1, x2, A1 c.1]; exact f⟩))))))))
  · obtain ⟨a, c, d, g, h2, f⟩ := h
    obtain ⟨x1, x2⟩ := A2 c.1
    obtain ⟨y1, y2⟩ := A3 c
    exact Or.inr (Or.inr (Or.inr (Or.inr (Or.inr (Or.inr (Or.inr (Or.inr (Or.inr (Or.inl ⟨a, y1, d, by rw [A1 c.1.1]; exact g, by rw [x2, A1 c.1.1]; exact h2, by rw [e p p0 p1, y2, x2, A1 c.1.1]; exact f⟩)))))))))
  · obtain ⟨a, c, d, g, h2, f⟩ := h
    obtain ⟨x1, x2⟩ := A2 c.1
    obtain ⟨y1, y2⟩ := A3 c
    exact Or.inr (Or.inr (Or.inr (Or.inr (Or.inr (Or.inr (Or.inr (Or.inr (Or.inr (Or.inr (Or.inl ⟨a, y1, d, by rw [A1 c.1.1]; exact g, by rw [x2, A1 c.1.1]; exact h2, by rw [e p p0 p1, y2, x2, A1 c.1.1]; exact f⟩))))))))))
  · obtain ⟨a, c, d, g, f⟩ := h
    obtain ⟨x1, x2⟩ := A2 c
    exact Or.inr (Or.inr (Or.inr (Or.inr (Or.inr (Or.inr (Or.inr (Or.inr (Or.inr (Or.inr (Or.inr (Or.inl ⟨a, x1, d, by rw [A1 c.1]; exact g, by rw [e p p0 p1, x2, A1 c.1]; exact f⟩)))))))))))
  · obtain ⟨a, c, d, g, f⟩ := h
    obtain ⟨x1, x2⟩ := A2 c
    exact Or.inr (Or.inr (Or.inr (Or.inr (Or.inr (Or.inr (Or.inr (Or.inr (Or.inr (Or.inr (Or.inr (Or.inr (Or.inl ⟨a, x1, d, by rw [A1 c.1]; exact g, by rw [e p p0 p1, x2, A1 c.1]; exact f⟩))))))))))))
  · obtain ⟨a, b, c⟩ := h
    exact Or.inr (Or.inr (Or.inr (Or.inr (Or.inr (Or.inr (Or.inr (Or.inr (Or.inr (Or.inr (Or.inr (Or.inr (Or.inr (Or.inl ⟨a, b, (e p p0 p1).trans c⟩)))))))))))))
  · obtain ⟨a, c, d, g, f⟩ := h
    exact Or.inr (Or.inr (Or.inr (Or.inr (Or.inr (Or.inr (Or.inr (Or.inr (Or.inr (Or.inr (Or.inr (Or.inr (Or.inr (Or.inr (Or.inl ⟨a, c, d, g, by rw [e p p0 p1, A1 c]; exact f⟩))))))))))))))
  · obtain ⟨a, c, d, f⟩ := h
    exact Or.inr (Or.inr (Or.inr (Or.inr (Or.inr (Or.inr (Or.inr (Or.inr (Or.inr (Or.inr (Or.inr (Or.inr (Or.inr (Or.inr (Or.inr (⟨a, c, d, by rw [e p p0 p1, A1 c]; exact f⟩)))))))))))))))
theorem WP_sz {sz sz' : Int → Int} (h : WP P sz) (e : ∀ q, 0 ≤ q → q < P_n P → sz' q = sz q) : WP P sz' := by
  obtain ⟨a1, a2, a3, a4, a5, a6, a7⟩ := h
  refine ⟨a1, a2, by rw [e 0 (by omega) (by omega)]; exact a3, a4, a5, fun p p0 p1 => ?_, fun p p0 p1 => ?_⟩
  · obtain ⟨b1, b2, b3⟩ := a6 p p0 p1
    rw [e p p0 p1]
    exact ⟨b1, b2, WK_sz b3 e (fun q q0 q1 => (a6 q q0 q1).1) p0 p1⟩
  · obtain ⟨b1, b2, b3, b4⟩ := a7 p p0 p1
    rw [e p (by omega) p1, e (P_u P p) b1 (by omega)]
    exact ⟨b1, b2, b3, b4⟩
/-- a program that is laid out is one as make lays it -/
theorem LPr.wp (hL : LT T root (P_n P) N U D) (hP : LPr T P N U) (hV : NV T) (hn : P_n T ≤ 300) (hr : inT T root) (hs : isS (P_w T root)) (h5 : P_n P ≤ 500) : WP P (fun x => Zn T (N x)) := by
  have h1 := Zn_1 hV hn hr
  obtain ⟨a1, ⟨a2, a3, a4⟩, hq, hu, hsb⟩ := id hL
  obtain ⟨b1, b2, b3, b4, b5, b6⟩ := hP 0 (Int.le_refl _) (by omega)
  refine ⟨by omega, h5, by show Zn T (N 0) = _; rw [a2, a1], by rw [b6, a3], by rw [b1, a2]; exact hs, fun p p0 p1 => ?_, fun p p0 p1 => ?_⟩
  · obtain ⟨g1, g2, -⟩ := hq p p0 p1
    exact ⟨Zn_1 hV hn g1, g2, hP.wk hL hV hn p0 p1⟩
  · obtain ⟨u0, u1, u2, u3⟩ := hu p p0 p1
    obtain ⟨c1, c2, c3, c4, c5, c6⟩ := hP p (by omega) p1
    obtain ⟨d1, d2, d3, d4, d5, d6⟩ := hP (U p) u0 (by omega)
    obtain ⟨g1, g2, g3, k1, k2, k3⟩ := hq (U p) u0 (by omega)
    have e := Zn_eq hV hn g1
    have z1 := zc_0 (T := T) (P_1 T (N (U p)))
    have z2 := zc_0 (T := T) (P_2 T (N (U p)))
    have z3 := zc_0 (T := T) (P_3 T (N (U p)))
    have r := NK_pr (hV _ g1.1 g1.2)
    have w := NK_w (hV _ g1.1 g1.2)
    rw [c6, d1, d3, d4, d5]
    refine ⟨u0, u1, ?_, ?_⟩
    · show p + Zn T (N p) ≤ U p + Zn T (N (U p))
      rcases u3 with ⟨x1, x2, x3⟩ | ⟨x1, x2, x3⟩ | ⟨x1, x2, x3⟩
      · have : zc T (P_1 T (N (U p))) = Zn T (N p) := (zc_n x2).trans (by rw [x1])
        omega
      · have : zc T (P_2 T (N (U p))) = Zn T (N p) := (zc_n x2).trans (by rw [x1])
        omega
      · have : zc T (P_3 T (N (U p))) = Zn T (N p) := (zc_n x2).trans (by rw [x1])
        omega
    · rcases u3 with ⟨x1, x2, x3⟩ | ⟨x1, x2, x3⟩ | ⟨x1, x2, x3⟩
      · exact Or.inl (by rw [if_neg x2]; exact x3)
      · refine Or.inr (Or.inl ⟨by rw [if_neg x2]; exact x3, ?_⟩)
        have r2 := r.2.1
        have n7 := NK_kd (hV _ g1.1 g1.2)
        omega
      · refine Or.inr (Or.inr ⟨by rw [if_neg x2]; exact x3, ?_⟩)
        have r3 := r.2.2.1
        omega
theorem LD.wp (hV : NV T) (hn : P_n T ≤ 300) (h : LD T P sz) : WP P sz := by
  obtain ⟨root, N, U, D, a1, a2, a3, a4, a5, a6⟩ := h
  have w := a5.wp a4 hV hn a1 a2 a3
  exact WP_sz w a6
theorem LD.pq (hV : NV T) (hn : P_n T ≤ 300) (h : LD T P sz) : PQ P := by
  obtain ⟨root, N, U, D, a1, a2, a3, a4, a5, a6⟩ := h
  have z := Zn_1 hV hn a1
  refine ⟨by have := a4.1; omega, a3, fun p p0 p1 => ?_⟩
  obtain ⟨b1, b2, b3, b4, b5, b6⟩ := a5 p p0 p1
  obtain ⟨g1, g2, g3, -⟩ := a4.2.2.1 p p0 p1
  have w := NK_w (hV _ g1.1 g1.2)
  have e := Zn_eq hV hn g1
  have z1 := zc_0 (T := T) (P_1 T (N p))
  have z2 := zc_0 (T := T) (P_2 T (N p))
  have z3 := zc_0 (T := T) (P_3 T (N p))
  obtain ⟨p1, p2, p3⟩ := prts hV g1
  rw [b1, b3, b4, b5]
  refine ⟨by omega, ?_, ?_, ?_⟩
  · split
    · omega
    · rename_i z
      have := (zc_p hV hn (p1.resolve_left z).1).2
      omega
  · split
    · omega
    · rename_i z
      have := (zc_p hV hn (p2.resolve_left z).1).2
      omega
  · split
    · omega
    · rename_i z
      have := (zc_p hV hn (p3.resolve_left z).1).2
      omega
end LYC
/-! programs alike -/
def AG (P P' : PT) : Prop := P_n P' = P_n P ∧ ∀ q, 0 ≤ q → q < P_n P → P_w P' q = P_w P q ∧ P_v P' q = P_v P q ∧ P_1 P' q = P_1 P q ∧ P_2 P' q = P_2 P q ∧ P_3 P' q = P_3 P q ∧ P_u P' q = P_u P q
section LYD
variable {T P P' : PT} {root root' : Int} {N U D N' U' D' sz sz' th : Int → Int}
theorem likeU_iff : ∀ (f : Nat) (i : Int), likeU P P' f i = true ↔ ∀ q, i ≤ q → q < i + f → eqAt P P' q = true := by
  intro f
  induction f with
  | zero => exact fun i => ⟨fun _ q h0 h1 => by simp at h1; omega, fun _ => rfl⟩
  | succ f ih =>
    intro i
    show (eqAt P P' i && likeU P P' f (i + 1)) = true ↔ _
    rw [Bool.and_eq_true, ih]
    constructor
    · intro h q q0 q1
      by_cases z : q = i
      · rw [z]; exact h.1
      · exact h.2 q (by omega) (by push_cast at q1; omega)
    · exact fun h => ⟨h i (Int.le_refl _) (by push_cast; omega), fun q q0 q1 => h q (by omega) (by push_cast; omega)⟩
theorem eqAt_iff {q : Int} : eqAt P P' q = true ↔ (P_w P q = P_w P' q ∧ P_v P q = P_v P' q ∧ P_1 P q = P_1 P' q ∧ P_2 P q = P_2 P' q ∧ P_3 P q = P_3 P' q) := by
  unfold eqAt
  simp only [Bool.and_eq_true, decide_eq_true_eq, and_assoc]
theorem likeP_iff (h0 : 0 ≤ P_n P) : likeP P P' = true ↔ (P_n P = P_n P' ∧ ∀ q, 0 ≤ q → q < P_n P → (P_w P q = P_w P' q ∧ P_v P q = P_v P' q ∧ P_1 P q = P_1 P' q ∧ P_2 P q = P_2 P' q ∧ P_3 P q = P_3 P' q)) := by
  unfold likeP
  rw [Bool.and_eq_true, decide_eq_true_eq, likeU_iff]
  constructor
  · exact fun h => ⟨h.1, fun q q0 q1 => eqAt_iff.mp (h.2 q q0 (by omega))⟩
  · exact fun h => ⟨h.1, fun q q0 q1 => eqAt_iff.mpr (h.2 q q0 (by omega))⟩
theorem AG.like (h : AG P P') (h0 : 0 ≤ P_n P) : likeP P P' = true := (likeP_iff h0).mpr ⟨h.1.symm, fun q q0 q1 => by
  obtain ⟨a1, a2, a3, a4, a5, a6⟩ := h.2 q q0 q1
  exact ⟨a1.symm, a2.symm, a3.symm, a4.symm, a5.symm⟩⟩
theorem likeP_sy (h0 : 0 ≤ P_n P) (h0' : 0 ≤ P_n P') (h : likeP P P' = true) : likeP P' P = true := by
  obtain ⟨a, b⟩ := (likeP_iff h0).mp h
  exact (likeP_iff h0').mpr ⟨a.symm, fun q q0 q1 => by
    obtain ⟨b1, b2, b3, b4, b5⟩ := b q q0 (by omega)
    exact ⟨b1.symm, b2.symm, b3.symm, b4.symm, b5.symm⟩⟩
theorem likeP_tr {P2 : PT} (h0 : 0 ≤ P_n P) (h0' : 0 ≤ P_n P') (h : likeP P P' = true) (g : likeP P' P2 = true) : likeP P P2 = true := by
  obtain ⟨a, b⟩ := (likeP_iff h0).mp h
  obtain ⟨c, d⟩ := (likeP_iff h0').mp g
  exact (likeP_iff h0).mpr ⟨a.trans c, fun q q0 q1 => by
    obtain ⟨b1, b2, b3, b4, b5⟩ := b q q0 q1
    obtain ⟨d1, d2, d3, d4, d5⟩ := d q q0 (by omega)
    exact ⟨b1.trans d1, b2.trans d2, b3.trans d3, b4.trans d4, b5.trans d5⟩⟩
/-- the same rows: kinds and numbers -/
def SR (P P' : PT) : Prop := P_n P' = P_n P ∧ ∀ q, 0 ≤ q → q < P_n P → ck (P_w P' q) = ck (P_w P q) ∧ numC P' q = numC P q
theorem like_SR (h0 : 0 ≤ P_n P) (h : likeP P P' = true) : SR P P' := by
  obtain ⟨a, b⟩ := (likeP_iff h0).mp h
  refine ⟨a.symm, fun q q0 q1 => ?_⟩
  obtain ⟨b1, b2, b3, b4, b5⟩ := b q q0 q1
  unfold numC
  rw [b1, b2, b5]
  exact ⟨rfl, rfl⟩
theorem ck_inj {w w' : Int} (h : (0 ≤ w ∧ w ≤ 21) ∨ (100 ≤ w ∧ w ≤ 102)) (h' : (0 ≤ w' ∧ w' ≤ 21) ∨ (100 ≤ w' ∧ w' ≤ 102)) (e : ck w = ck w') : w = w' := by
  unfold ck at e
  split at e <;> split at e <;> omega
/-- kinds and numbers tell the parts -/
theorem SR.ag (hV : NV T) (hn : P_n T ≤ 300) (hL : LT T root (P_n P) N U D) (hP : LPr T P N U) (hL' : LT T root' (P_n P') N' U' D') (hP' : LPr T P' N' U') (h : SR P P') : AG P P' ∧ ∀ q, 0 ≤ q → q < P_n P → Zn T (N' q) = Zn T (N q) := by
  obtain ⟨en, hq⟩ := h
  have kd : ∀ q, 0 ≤ q → q < P_n P → P_w T (N' q) = P_w T (N q) ∧ (P_1 T (N' q) = -1 ↔ P_1 T (N q) = -1) ∧ (P_2 T (N' q) = -1 ↔ P_2 T (N q) = -1) ∧ (P_3 T (N' q) = -1 ↔ P_3 T (N q) = -1) ∧ P_v T (N' q) = P_v T (N q) := fun q q0 q1 => by
    have g := (hL.2.2.1 q q0 q1).1
    have g' := (hL'.2.2.1 q q0 (by omega)).1
    obtain ⟨b1, b2, b3, b4, b5, b6⟩ := hP q q0 q1
    obtain ⟨c1, c2, c3, c4, c5, c6⟩ := hP' q q0 (by omega)
    obtain ⟨x, y⟩ := hq q q0 q1
    rw [b1, c1] at x
    have e := ck_inj (NK_w (hV _ g'.1 g'.2)) (NK_w (hV _ g.1 g.2)) x
    obtain ⟨r1, r2, r3, r4⟩ := NK_pr (hV _ g.1 g.2)
    obtain ⟨t1, t2, t3, t4⟩ := NK_pr (hV _ g'.1 g'.2)
    unfold numC at y
    rw [b1, c1, e, b5, c5, b2, c2] at y
    rw [e] at t1 t2 t3 t4
    refine ⟨e, t1.trans r1.symm, t2.trans r2.symm, ?_, ?_⟩
    · by_cases z : P_w T (N q) = 15
      · rw [if_pos z, if_pos z] at y
        have s : ∀ {x u : Int}, 0 ≤ u → ((if x = -1 then (-1 : Int) else u) = -1 ↔ x = -1) := fun {x u} hu => by
          split <;> omega
        have z1 := zc_0 (T := T) (P_1 T (N q))
        have z2 := zc_0 (T := T) (P_2 T (N q))
        have z1' := zc_0 (T := T) (P_1 T (N' q))
        have z2' := zc_0 (T := T) (P_2 T (N' q))
        have s1 := s (x := P_3 T (N q)) (u := q + 1 + zc T (P_1 T (N q)) + zc T (P_2 T (N q))) (by omega)
        have s2 := s (x := P_3 T (N' q)) (u := q + 1 + zc T (P_1 T (N' q)) + zc T (P_2 T (N' q))) (by omega)
        rw [← s1, ← s2]
        constructor
        · intro w
          rw [if_pos w] at y
          by_cases v : (if P_3 T (N q) = -1 then (-1 : Int) else q + 1 + zc T (P_1 T (N q)) + zc T (P_2 T (N q))) = -1
          · exact v
          · rw [if_neg v] at y
            exact absurd y (by decide)
        · intro w
          rw [if_pos w] at y
          by_cases v : (if P_3 T (N' q) = -1 then (-1 : Int) else q + 1 + zc T (P_1 T (N' q)) + zc T (P_2 T (N' q))) = -1
          · exact v
          · rw [if_neg v] at y
            exact absurd y (by decide)
      · exact (t3 z).trans (r3 z).symm
    · by_cases z : P_w T (N q) = 15
      · rw [r4 z, t4 z]
      · rw [if_neg z, if_neg z] at y
        exact y
  have key : ∀ (f : Nat) (q : Int), P_n P ≤ q + f → 0 ≤ q → q < P_n P → zc T (P_1 T (N' q)) = zc T (P_1 T (N q)) ∧ zc T (P_2 T (N' q)) = zc T (P_2 T (N q)) ∧ Zn T (N' q) = Zn T (N q) := by
    intro f
    induction f with
    | zero => intro q h _ _; simp at h; omega
    | succ f ih =>
      intro q hf q0 q1
      obtain ⟨g1, g2, g3, k1, k2, k3⟩ := hL.2.2.1 q q0 q1
      obtain ⟨g1', g2', g3', k1', k2', k3'⟩ := hL'.2.2.1 q q0 (by omega)
      obtain ⟨d0, d1, d2, d3, d4⟩ := kd q q0 q1
      have e := Zn_eq hV hn g1
      have e' := Zn_eq hV hn g1'
      have z1 := zc_0 (T := T) (P_1 T (N q))
      have z2 := zc_0 (T := T) (P_2 T (N q))
      have z3 := zc_0 (T := T) (P_3 T (N q))
      obtain ⟨p1, p2, p3⟩ := prts hV g1
      have one : zc T (P_1 T (N' q)) = zc T (P_1 T (N q)) := by
        by_cases y : P_1 T (N q) = -1
        · rw [y, d1.mpr y]
        · have c := zc_p hV hn (p1.resolve_left y).1
          rw [zc_n y, zc_n (fun w => y (d1.mp w)), ← (k1 y).1, ← (k1' (fun w => y (d1.mp w))).1]
          exact (ih (q + 1) (by push_cast at hf; omega) (by omega) (by omega)).2.2
      have two : zc T (P_2 T (N' q)) = zc T (P_2 T (N q)) := by
        by_cases y : P_2 T (N q) = -1
        · rw [y, d2.mpr y]
        · have c := zc_p hV hn (p2.resolve_left y).1
          have w' := (k2' (fun w => y (d2.mp w))).1
          rw [one] at w'
          rw [zc_n y, zc_n (fun w => y (d2.mp w)), ← (k2 y).1, ← w']
          exact (ih _ (by push_cast at hf; omega) (by omega) (by omega)).2.2
      have three : zc T (P_3 T (N' q)) = zc T (P_3 T (N q)) := by
        by_cases y : P_3 T (N q) = -1
        · rw [y, d3.mpr y]
        · have c := zc_p hV hn (p3.resolve_left y).1
          have w' := (k3' (fun w => y (d3.mp w))).1
          rw [one, two] at w'
          rw [zc_n y, zc_n (fun w => y (d3.mp w)), ← (k3 y).1, ← w']
          exact (ih _ (by push_cast at hf; omega) (by omega) (by omega)).2.2
      exact ⟨one, two, by omega⟩
  have key' := fun q q0 q1 => key (P_n P - q).toNat q (by omega) q0 q1
  refine ⟨⟨en, fun q q0 q1 => ?_⟩, fun q q0 q1 => (key' q q0 q1).2.2⟩
  obtain ⟨k1, k2, k3⟩ := key' q q0 q1
  obtain ⟨d0, d1, d2, d3, d4⟩ := kd q q0 q1
  obtain ⟨b1, b2, b3, b4, b5, b6⟩ := hP q q0 q1
  obtain ⟨c1, c2, c3, c4, c5, c6⟩ := hP' q q0 (by omega)
  have iff_if : ∀ {x y u : Int}, (x = -1 ↔ y = -1) → (if x = -1 then (-1 : Int) else u) = if y = -1 then -1 else u := fun {x y u} h => by
    by_cases z : y = -1
    · rw [if_pos z, if_pos (h.mpr z)]
    · rw [if_neg z, if_neg (fun w => z (h.mp w))]
  rw [b1, b2, b3, b4, b5, b6, c1, c2, c3, c4, c5, c6, k1, k2]
  refine ⟨d0, d4, iff_if d1, iff_if d2, iff_if d3, ?_⟩
  by_cases z : q = 0
  · rw [z, hL.2.1.2.1, hL'.2.1.2.1]
  · obtain ⟨u0, u1, u2, u3⟩ := hL.2.2.2.1 q (by omega) q1
    obtain ⟨m1, m2, m3⟩ := key' (U q) u0 (by omega)
    obtain ⟨x0, x1, x2, x3, x4⟩ := kd (U q) u0 (by omega)
    obtain ⟨g1', g2', g3', k1', k2', k3'⟩ := hL'.2.2.1 (U q) u0 (by omega)
    rw [m1] at k2' k3'
    rw [m2] at k3'
    rcases u3 with ⟨y1, y2, y3⟩ | ⟨y1, y2, y3⟩ | ⟨y1, y2, y3⟩
    · have := (k1' (fun w => y2 (x1.mp w))).2.1
      rw [← y3] at this
      exact this
    · have := (k2' (fun w => y2 (x2.mp w))).2.1
      rw [← y3] at this
      exact this
    · have := (k3' (fun w => y2 (x3.mp w))).2.1
      rw [← y3] at this
      exact this
/-- the same layout -/
theorem LPr.ag (hn : P_n P' = P_n P) (hP : LPr T P N U) (hP' : LPr T P' N U) : AG P P' := ⟨hn, fun q q0 q1 => by
  obtain ⟨b1, b2, b3, b4, b5, b6⟩ := hP q q0 q1
  obtain ⟨c1, c2, c3, c4, c5, c6⟩ := hP' q q0 (by omega)
  exact ⟨c1.trans b1.symm, c2.trans b2.symm, c3.trans b3.symm, c4.trans b4.symm, c5.trans b5.symm, c6.trans b6.symm⟩⟩
theorem upR_ag (hW : WP P sz) (h : AG P P') : ∀ (f : Nat) (q : Int), q = -1 ∨ (0 ≤ q ∧ q < P_n P) → upR P' f q = upR P f q := by
  intro f
  induction f with
  | zero => intro q _; rfl
  | succ f ih =>
    intro q hq
    rcases hq with rfl | hq
    · simp [upR]
    · obtain ⟨a1, a2, a3, a4, a5, a6⟩ := h.2 q hq.1 hq.2
      simp only [upR]
      rw [a1, a6]
      have : P_u P q = -1 ∨ (0 ≤ P_u P q ∧ P_u P q < P_n P) := by
        by_cases z : q = 0
        · rw [z]; exact Or.inl hW.2.2.2.1
        · have := hW.2.2.2.2.2.2 q (by omega) hq.2
          omega
      rw [ih _ this]
theorem isPh_ag (hW : WP P sz) (h : AG P P') {p : Int} (p0 : 0 ≤ p) (p1 : p < P_n P) : isPh P' p = isPh P p := by
  obtain ⟨a1, a2, a3, a4, a5, a6⟩ := h.2 p p0 p1
  unfold isPh
  rw [a1, a6, upR_ag hW h]
  by_cases z : p = 0
  · rw [z]; exact Or.inl hW.2.2.2.1
  · have := hW.2.2.2.2.2.2 p (by omega) p1
    omega
theorem phA_ag (hW : WP P sz) (h : AG P P') : ∀ (f : Nat) (p k : Int), 0 ≤ p → phA P' f p k = phA P f p k := by
  intro f
  induction f with
  | zero => intro p k _; rfl
  | succ f ih =>
    intro p k p0
    simp only [phA]
    rw [h.1]
    by_cases z : P_n P ≤ p
    · rw [if_pos z, if_pos z]
    · rw [if_neg z, if_neg z, isPh_ag hW h p0 (by omega), ih (p + 1) (k - 1) (by omega), ih (p + 1) k (by omega)]
theorem TH.ag (hW : WP P sz) (h : AG P P') (hT : TH P th) : TH P' th := fun p p0 p1 hs => by
  have p1 : p < P_n P := by have := h.1; omega
  obtain ⟨a1, a2, a3, a4, a5, a6⟩ := h.2 p p0 p1
  rw [a1] at hs
  have := hT p p0 p1 hs
  rw [a6, h.1]
  by_cases z : P_u P p = -1
  · rw [if_pos z] at this ⊢
    exact this
  · have u : 0 ≤ P_u P p ∧ P_u P p < P_n P := by
      by_cases y : p = 0
      · exact absurd (by rw [y]; exact hW.2.2.2.1) z
      · have := hW.2.2.2.2.2.2 p (by omega) p1
        omega
    obtain ⟨b1, b2, b3, b4, b5, b6⟩ := h.2 (P_u P p) u.1 u.2
    rw [b1, b3, b4, isPh_ag hW h u.1 u.2]
    exact this
/-- the same rows hold both -/
theorem RW.ag {s : Q_S} {r : Nat} (hW : WP P sz) (h : AG P P') (hz : ∀ q, 0 ≤ q → q < P_n P → sz' q = sz q) (hR : RW s r P sz th) : RW s r P' sz' th := by
  obtain ⟨n, np, r1, r2, r3, r4, r5, r6, r7, r8, r9⟩ := hR
  refine ⟨n, np, r1, by rw [h.1]; exact r2, r3, r4, r5, fun p p0 p1 => ?_, fun p p0 p1 he => ?_, fun k k0 k1 => ?_, fun k k0 => ?_⟩
  · have p1 : p < P_n P := by have := h.1; omega
    obtain ⟨a1, a2, a3, a4, a5, a6⟩ := h.2 p p0 p1
    obtain ⟨b1, b2, b3, b4⟩ := r6 p p0 p1
    unfold numC
    rw [a1, a2, a5, hz p p0 p1]
    exact ⟨b1, b2, b3, b4⟩
  · have p1 : p < P_n P := by have := h.1; omega
    obtain ⟨a1, a2, a3, a4, a5, a6⟩ := h.2 p p0 p1
    rw [a1] at he
    obtain ⟨b1, b2, b3, b4, b5⟩ := r7 p p0 p1 he
    rw [a1, h.1, hz p p0 p1]
    refine ⟨b1, b2, b3, b4, fun w0 w5 => ?_⟩
    have wk := (hW.2.2.2.2.2.1 p p0 p1).2.2
    have c2 : C2 P sz p := by
      rcases WK_E wk he with ⟨x1, x2, x3, x4⟩ | ⟨x1, x2, x3, x4⟩ | ⟨x1, x2, x3, x4, x5, x6⟩
      · omega
      · omega
      · exact x3
    have s1 := (hW.2.2.2.2.2.1 (p + 1) (by omega) c2.1.2.2).1
    rw [hz (p + 1) (by omega) c2.1.2.2, hz (p + 1 + sz (p + 1)) (by omega) c2.2.2.2]
    exact b5 w0 w5
  · rw [phA_ag hW h _ _ _ (Int.le_refl _)]
    exact r8 k k0 k1
  · rw [phA_ag hW h _ _ _ (Int.le_refl _)]
    exact r9 k k0
end LYD
