/-! THE CLASS'S layOut: what comes behind -/
section CLT
variable {o : X_O} {T : PT} {N U D : Int → Int} {root n : Int} {s s0 s1 s2 : Q_S} {i d p : Int} {L : List (Int × Int)}
/-- the loop that lays the places -/
theorem d_31_1 (ho : o 1 = some (66, fun i => x_WANTED.getD i 0)) (hs0 : SH s0) (hV : NV T) (hN : NRc T s0) (hL : LT T root n N U D) (hn5 : n ≤ 500) {Q : Q_S × Unit → Prop} (K : ∀ s', KY s0 s' → LA T N D s' n → QW (fun m => g_31 o m 2 s' 6 0 0) Q) : ∀ (f : Nat) (p : Int) (s : Q_S) (L : List (Int × Int)), p + f = n → 0 ≤ p → KY s0 s → LA T N D s p → SK s L → q_F s 6 5 = L.length → PLs T n N D p L → QW (fun m => g_31 o m 1 s 6 0 p) Q := by
  have hn := hN.2.1
  intro f
  induction f with
  | zero =>
    intro p s L hp p0 hK hA hS h5 hP
    have pn : p = n := by simp at hp; exact hp
    have hs := hK.sh hs0
    cases L with
    | cons x L => obtain ⟨-, -, h3, -⟩ := hP; omega
    | nil =>
      have h5 : q_F s 6 5 = 0 := h5
      have k := K s hK (pn ▸ hA)
      refine QW_s ?_
      simp only [g_31]
      refine QW_g (by unfold q_in; omega) ?_
      refine QW_by (fun _ => k) (fun _ => ?_)
      refine QW_p (k_gi (hs _ _ rfl) rfl) ?_
      rw [h5]
      refine QW_g (by decide) ?_
      refine QW_it (by decide) ?_
      exact k
  | succ f ih =>
    intro p s L hp p0 hK hA hS h5 hP
    push_cast at hp
    have hs := hK.sh hs0
    cases L with
    | nil => have hP : p = n := hP; omega
    | cons x L =>
      obtain ⟨i, d⟩ := x
      have len := hP.len hV hn hL _ _ p0
      obtain ⟨e1, e2, e3⟩ := hS
      have h5 : q_F s 6 5 = L.length + 1 := by rw [h5]; simp
      simp only [List.length_cons] at len
      push_cast at len
      refine QW_s ?_
      simp only [g_31]
      refine QW_g (by unfold q_in; omega) ?_
      refine QW_if (by omega) ?_
      refine QW_p (k_gi (hs _ _ rfl) rfl) ?_
      rw [h5]
      refine QW_g (by unfold q_in; omega) ?_
      refine QW_if (by omega) ?_
      refine QW_p (k_gi (hs _ _ rfl) rfl) ?_
      rw [h5]
      refine QW_p (k_pi (hs _ _ rfl) rfl rfl) ?_
      rw [show ((L.length : Int) + 1 - 1) = L.length by omega]
      have c1 : KY s (q_sf s 6 5 L.length) := KY.sf (by decide)
      have f1 : q_F (q_sf s 6 5 L.length) 6 5 = L.length := by rw [q_F_sf, if_pos ⟨rfl, rfl⟩]
      have I1 : ∀ a j, a ≠ 6 → q_I (q_sf s 6 5 L.length) a j = q_I s a j := fun a j ha => by rw [q_I_sf, if_neg (fun z => ha z.1)]
      have L1 : ∀ a j, q_L (q_sf s 6 5 L.length) a j = q_L s a j := fun a j => rfl
      generalize q_sf s 6 5 L.length = t1 at c1 f1 I1 L1
      have hs1 := c1.sh hs
      have A1 : LA T N D t1 p := by
        refine ⟨(I1 7 _ (by decide)).trans hA.1, fun x x0 x1 => ?_⟩
        rw [I1 8 _ (by decide), L1, I1 10 _ (by decide), I1 12 _ (by decide), I1 13 _ (by decide), I1 17 _ (by decide)]
        exact hA.2 x x0 x1
      have S1 : SK t1 L := SK.mv L e3 (fun j _ _ => ⟨I1 15 _ (by decide), I1 16 _ (by decide)⟩)
      refine QW_p (k_gv (hs1 _ _ rfl) rfl rfl) ?_
      refine QW_p (k_gi (hs1 _ _ rfl) rfl) ?_
      rw [f1]
      refine QW_p (k_ia (hs1 _ _ rfl) (by omega) (by omega) (by decide)) ?_
      refine QW_p (k_gv (hs1 _ _ rfl) rfl rfl) ?_
      refine QW_p (k_gi (hs1 _ _ rfl) rfl) ?_
      rw [f1]
      refine QW_p (k_ia (hs1 _ _ rfl) (by omega) (by omega) (by decide)) ?_
      rw [I1 15 _ (by decide), I1 16 _ (by decide), e1, e2]
      refine QW_p (k_rc (hs1 _ _ rfl)) ?_
      refine QW_c (d_33 ho hs1 hV ((hK.tr c1).nr hN) hL hn5 p0 hP A1 S1 f1) (fun q hq => ?_)
      obtain ⟨L', y1, y2, y3, y4, y5⟩ := hq
      exact ih (p + 1) q.1 L' (by omega) (by omega) ((hK.tr c1).tr y5) y1 y2 y3 y4
end CLT
/-! what comes when a statement is over -/
/-- the right side of TH -/
def thF (P : PT) (th : Int → Int) (p : Int) : Int :=
  if P_u P p = -1 then -1 - P_n P
  else if P_w P (P_u P p) = 14 then (if p = P_1 P (P_u P p) then P_2 P (P_u P p) else th (P_u P p))
  else if P_w P (P_u P p) = 15 then th (P_u P p)
  else if P_w P (P_u P p) = 16 then (if p = P_2 P (P_u P p) then -1 - P_u P p else th (P_u P p))
  else if P_w P (P_u P p) = 21 then (if isPh P (P_u P p) = true then -1 - P_u P p else th (P_u P p))
  else -1 - P_u P p
/-- parts tied up to place p -/
def TI (P : PT) (s : Q_S) (p : Int) : Prop := q_F s 7 7 = P_n P ∧
  (∀ x, 0 ≤ x → x < P_n P → isS (P_w P x) → P_u P x < p → q_I s 11 x = thF P (q_I s 11) x) ∧
  (∀ x, 0 ≤ x → x < P_n P → q_I s 17 x = if P_u P x < p ∧ upR P 500 (P_u P x) = -1 then 1 else 0) ∧
  (∃ c : Int, q_F s 7 8 = c ∧ 0 ≤ c ∧ c ≤ p ∧ (∀ k, 1 ≤ k → k ≤ c → q_I s 14 (k - 1) = phA P 501 0 k ∧ 0 ≤ phA P 501 0 k) ∧ (∀ k, c < k → phA P 501 0 k = phA P (501 - p.toNat) p (k - c)))
/-- kinds, numbers, sizes, ranks -/
def TK (P : PT) (sz rk : Int → Int) (s : Q_S) : Prop := ∀ x, 0 ≤ x → x < P_n P → q_I s 8 x = ck (P_w P x) ∧ q_L s 9 x = numC P x ∧ q_I s 10 x = sz x ∧ q_I s 12 x = rk x ∧ q_I s 13 (rk x) = x
/-- what tying leaves alone -/
def KZ (s s' : Q_S) : Prop := KY s s' ∧ (∀ a, a = 8 ∨ a = 10 ∨ a = 12 ∨ a = 13 → ∀ j, q_I s' a j = q_I s a j) ∧ (∀ j, q_L s' 9 j = q_L s 9 j) ∧ q_F s' 7 7 = q_F s 7 7
section CLU
variable {o : X_O} {P : PT} {sz rk : Int → Int} {s s0 s1 s2 : Q_S} {p : Int}
theorem KZ.tr (h : KZ s s1) (g : KZ s1 s2) : KZ s s2 := ⟨h.1.tr g.1, fun a ha j => (g.2.1 a ha j).trans (h.2.1 a ha j), fun j => (g.2.2.1 j).trans (h.2.2.1 j), g.2.2.2.trans h.2.2.2⟩
theorem KZ.rf : KZ s s := ⟨KY.rf, fun _ _ _ => rfl, fun _ => rfl, rfl⟩
theorem TK.kz (h : TK P sz rk s) (g : KZ s s1) : TK P sz rk s1 := fun x x0 x1 => by
  obtain ⟨a1, a2, a3, a4, a5⟩ := h x x0 x1
  exact ⟨(g.2.1 8 (by decide) _).trans a1, (g.2.2.1 _).trans a2, (g.2.1 10 (by decide) _).trans a3, (g.2.1 12 (by decide) _).trans a4, (g.2.1 13 (by decide) _).trans a5⟩
theorem upR_f (hW : WP P sz) : ∀ (f g : Nat) (q : Int), q = -1 ∨ (0 ≤ q ∧ q < P_n P) → q < f → q < g → upR P f q = upR P g q := by
  intro f
  induction f with
  | zero =>
    intro g q hq hf _
    have : q = -1 := by omega
    subst this
    cases g with
    | zero => rfl
    | succ g => simp [upR]
  | succ f ih =>
    intro g q hq hf hg
    cases g with
    | zero =>
      have : q = -1 := by omega
      subst this
      simp [upR]
    | succ g =>
      simp only [upR]
      by_cases z : ¬ q = -1 ∧ P_w P q = 14
      · rw [if_pos z, if_pos z]
        have q0 := hq.resolve_left z.1
        by_cases y : q = 0
        · have := hW.2.2.2.1
          rw [y, this]
          exact ih g (-1) (Or.inl rfl) (by omega) (by omega)
        · have u := hW.2.2.2.2.2.2 q (by omega) q0.2
          exact ih g _ (Or.inr ⟨u.1, by omega⟩) (by push_cast at hf; omega) (by push_cast at hg; omega)
      · rw [if_neg z, if_neg z]
/-- up the rows from a place, by what is above it -/
theorem upR_s (hW : WP P sz) {x : Int} (x0 : 0 ≤ x) (x1 : x < P_n P) : upR P 500 x = if P_w P x = 14 then upR P 500 (P_u P x) else x := by
  show (if ¬ x = -1 ∧ P_w P x = 14 then upR P 499 (P_u P x) else x) = _
  have n5 := hW.2.1
  by_cases z : P_w P x = 14
  · rw [if_pos ⟨by omega, z⟩, if_pos z]
    by_cases y : x = 0
    · have := hW.2.2.2.1
      rw [y, this]
      exact upR_f hW 499 500 (-1) (Or.inl rfl) (by decide) (by decide)
    · have u := hW.2.2.2.2.2.2 x (by omega) x1
      exact upR_f hW 499 500 _ (Or.inr ⟨u.1, by omega⟩) (by omega) (by omega)
  · rw [if_neg (fun w => z w.2), if_neg z]
theorem isPh_iff {x : Int} : isPh P x = true ↔ P_w P x = 21 ∧ upR P 500 (P_u P x) = -1 := by
  unfold isPh
  rw [Bool.and_eq_true, decide_eq_true_eq, decide_eq_true_eq]
/-- another place's parts -/
theorem thF_mv {th th' : Int → Int} {x : Int} (h : P_u P x ≠ -1 → th' (P_u P x) = th (P_u P x)) : thF P th' x = thF P th x := by
  unfold thF
  by_cases z : P_u P x = -1
  · rw [if_pos z, if_pos z]
  · rw [h z]
/-- the step of TI: a set X of places gets its values -/
theorem TI.st {s' : Q_S} (hW : WP P sz) (h : TI P s p) (p0 : 0 ≤ p) (p1 : p < P_n P) (hZ : KZ s s')
    (h11 : ∀ x, 0 ≤ x → x < P_n P → ¬ (P_u P x = p ∧ isS (P_w P x)) → q_I s' 11 x = q_I s 11 x)
    (h11' : ∀ x, 0 ≤ x → x < P_n P → P_u P x = p → isS (P_w P x) → q_I s' 11 x = thF P (q_I s 11) x)
    (h17 : ∀ x, 0 ≤ x → x < P_n P → q_I s' 17 x = if P_u P x = p ∧ P_w P p = 14 then q_I s 17 p else q_I s 17 x)
    (h14 : if isPh P p = true then (∀ c, q_F s 7 8 = c → q_F s' 7 8 = c + 1 ∧ q_I s' 14 c = p ∧ ∀ j, j ≠ c → q_I s' 14 j = q_I s 14 j) else q_F s' 7 8 = q_F s 7 8 ∧ ∀ j, q_I s' 14 j = q_I s 14 j) : TI P s' (p + 1) := by
  obtain ⟨a1, a2, a3, c, a4, a5, a6, a7, a8⟩ := h
  have n5 := hW.2.1
  have up : ∀ x, 0 ≤ x → x < P_n P → P_u P x < x := fun x x0 x1 => by
    by_cases z : x = 0
    · rw [z, hW.2.2.2.1]; omega
    · exact (hW.2.2.2.2.2.2 x (by omega) x1).2.1
  have ur : ∀ x, 0 ≤ x → x < P_n P → P_u P x = -1 ∨ (0 ≤ P_u P x ∧ P_u P x < P_n P) := fun x x0 x1 => by
    by_cases z : x = 0
    · rw [z]; exact Or.inl hW.2.2.2.1
    · have := hW.2.2.2.2.2.2 x (by omega) x1
      omega
  refine ⟨hZ.2.2.2.trans a1, fun x x0 x1 hx hu => ?_, fun x x0 x1 => ?_, ?_⟩
  · by_cases z : P_u P x = p
    · rw [h11' x x0 x1 z hx]
      refine (thF_mv (fun y => ?_)).symm
      rw [z]
      exact h11 p p0 p1 (fun w => by have := up p p0 p1; omega)
    · rw [h11 x x0 x1 (fun w => z w.1), a2 x x0 x1 hx (by omega)]
      refine (thF_mv (fun y => ?_)).symm
      have := (ur x x0 x1).resolve_left y
      exact h11 _ this.1 this.2 (fun w => by have := up _ this.1 this.2; omega)
  · rw [h17 x x0 x1]
    by_cases z : P_u P x = p
    · rw [z, upR_s hW p0 p1]
      by_cases y : P_w P p = 14
      · rw [if_pos ⟨rfl, y⟩, if_pos y, a3 p p0 p1]
        have := up p p0 p1
        by_cases w : upR P 500 (P_u P p) = -1
        · rw [if_pos ⟨by omega, w⟩, if_pos ⟨by omega, w⟩]
        · rw [if_neg (fun v => w v.2), if_neg (fun v => w v.2)]
      · rw [if_neg (fun w => y w.2), if_neg y, a3 x x0 x1, z, if_neg (fun w => by omega), if_neg (fun w => by omega)]
    · rw [if_neg (fun w => z w.1), a3 x x0 x1]
      by_cases w : upR P 500 (P_u P x) = -1
      · by_cases v : P_u P x < p
        · rw [if_pos ⟨v, w⟩, if_pos ⟨by omega, w⟩]
        · rw [if_neg (fun u => v u.1), if_neg (fun u => v (by omega))]
      · rw [if_neg (fun v => w v.2), if_neg (fun v => w v.2)]
  · have ph : ∀ k, phA P (501 - p.toNat) p k = if isPh P p = true then (if k - 1 = 0 then p else phA P (501 - (p + 1).toNat) (p + 1) (k - 1)) else phA P (501 - (p + 1).toNat) (p + 1) k := fun k => by
      rw [show 501 - p.toNat = (501 - (p + 1).toNat) + 1 by omega]
      show (if P_n P ≤ p then -1 else _) = _
      rw [if_neg (by omega)]
    by_cases z : isPh P p = true
    · rw [if_pos z] at h14
      obtain ⟨b1, b2, b3⟩ := h14 c a4
      refine ⟨c + 1, b1, by omega, by omega, fun k k0 k1 => ?_, fun k hk => ?_⟩
      · by_cases y : k = c + 1
        · have e := a8 k (by omega)
          rw [ph, if_pos z, if_pos (by omega)] at e
          rw [e, y, show c + 1 - 1 = c by omega, b2]
          exact ⟨rfl, p0⟩
        · rw [b3 (k - 1) (by omega)]
          exact a7 k k0 (by omega)
      · have e := a8 k (by omega)
        rw [ph, if_pos z, if_neg (by omega)] at e
        rw [e, show k - c - 1 = k - (c + 1) by omega]
    · rw [if_neg z] at h14
      refine ⟨c, h14.1.trans a4, a5, by omega, fun k k0 k1 => ?_, fun k hk => ?_⟩
      · rw [h14.2]
        exact a7 k k0 k1
      · have e := a8 k hk
        rw [ph, if_neg z] at e
        exact e
/-- secondPart, thirdPart of the layout's own rows -/
theorem d_37l (hs : SH s) (p0 : 0 ≤ p) (p1 : p + 1 < 500) : QW (fun m => g_37 o m 0 s 7 p) (fun q => q = (s, p + 1 + q_I s 10 (p + 1))) := by
  refine QW_s ?_
  simp only [g_37]
  refine QW_p (k_gv (hs _ _ rfl) rfl rfl) ?_
  refine QW_p (k_ia (hs _ _ rfl) (by omega) (by omega) (by decide)) ?_
  exact QW_ret rfl
theorem d_38l (hs : SH s) (p0 : 0 ≤ p) (p1 : p + 1 < 500) (h0 : 0 ≤ p + 1 + q_I s 10 (p + 1)) (h1 : p + 1 + q_I s 10 (p + 1) < 500) : QW (fun m => g_38 o m 0 s 7 p) (fun q => q = (s, p + 1 + q_I s 10 (p + 1) + q_I s 10 (p + 1 + q_I s 10 (p + 1)))) := by
  refine QW_s ?_
  simp only [g_38]
  refine QW_p (k_rc (hs _ _ rfl)) ?_
  refine QW_e (d_37l hs p0 p1) ?_
  refine QW_p (k_gv (hs _ _ rfl) rfl rfl) ?_
  refine QW_p (k_ia (hs _ _ rfl) h0 h1 (by decide)) ?_
  exact QW_ret rfl
/-- addPhase -/
theorem d_35 (hs : SH s) (p0 : 0 ≤ p) (p5 : p < 500) (hb : q_I s 17 p = 0 ∨ q_I s 17 p = 1) (hc : 0 ≤ q_F s 7 8 ∧ q_F s 7 8 < 500) : QW (fun m => g_35 o m 0 s 6 p) (fun q => q = (if q_I s 17 p = 0 then s else q_sf (q_si s 14 (q_F s 7 8) p) 7 8 (q_F s 7 8 + 1), ())) := by
  refine QW_s ?_
  simp only [g_35]
  refine QW_p (k_gv (hs _ _ rfl) rfl rfl) ?_
  refine QW_p (k_ba (hs _ _ rfl) (by omega) (by omega) (by decide)) ?_
  refine QW_g (by unfold q_in; omega) ?_
  refine QW_by (fun z => ?_) (fun z => ?_)
  · rw [if_pos z]
    refine QW_s ?_
    simp only [g_35]
    exact QW_ret rfl
  · rw [if_neg z]
    refine QW_p (k_gv (hs _ _ rfl) rfl rfl) ?_
    refine QW_p (k_gv (hs _ _ rfl) rfl rfl) ?_
    refine QW_p (k_gv (hs _ _ rfl) rfl rfl) ?_
    refine QW_p (k_gi (hs _ _ rfl) rfl) ?_
    refine QW_p (k_is (hs _ _ rfl) (by omega) (by omega) (by decide)) ?_
    refine QW_p (k_gv (hs _ _ rfl) rfl rfl) ?_
    refine QW_p (k_gi (hs _ _ rfl) rfl) ?_
    rw [show q_F (q_si s 14 (q_F s 7 8) p) 7 8 = q_F s 7 8 by rw [q_F_si, if_neg (fun z => absurd z.1 (by decide))]]
    refine QW_p (k_pi (hs _ _ rfl) rfl rfl) ?_
    refine QW_s ?_
    simp only [g_35]
    exact QW_ret rfl
end CLU
