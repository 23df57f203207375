/-! A PROGRAM LAID OUT: what stands at each place -/
def Zn (T : PT) (i : Int) : Int := nsz T 301 i
/-- a part's places, none if there is no part -/
def zc (T : PT) (x : Int) : Int := if x = -1 then 0 else Zn T x
/-- the node that stands at a place, what is above it, how deep it is -/
def ly (T : PT) : Nat → Int → Int → Int → Int → Int → Int × Int × Int
  | 0, i, _, u, d, _ => (i, u, d)
  | f + 1, i, p, u, d, q =>
    if q ≤ p then (i, u, d)
    else if q < p + 1 + zc T (P_1 T i) then ly T f (P_1 T i) (p + 1) p (d + 1) q
    else if q < p + 1 + zc T (P_1 T i) + zc T (P_2 T i) then ly T f (P_2 T i) (p + 1 + zc T (P_1 T i)) p (d + 1) q
    else ly T f (P_3 T i) (p + 1 + zc T (P_1 T i) + zc T (P_2 T i)) p (d + 1) q
/-- node k at q is a part of node j at v -/
def CH (T : PT) (j v k q : Int) : Prop := (k = P_1 T j ∧ P_1 T j ≠ -1 ∧ q = v + 1) ∨ (k = P_2 T j ∧ P_2 T j ≠ -1 ∧ q = v + 1 + zc T (P_1 T j)) ∨ (k = P_3 T j ∧ P_3 T j ≠ -1 ∧ q = v + 1 + zc T (P_1 T j) + zc T (P_2 T j))
def inT (T : PT) (i : Int) : Prop := 0 ≤ i ∧ i < P_n T
section LYA
variable {T : PT} {i : Int}
theorem Zn_eq (hV : NV T) (hn : P_n T ≤ 300) (h : inT T i) : Zn T i = 1 + zc T (P_1 T i) + zc T (P_2 T i) + zc T (P_3 T i) := by
  obtain ⟨h0, h1⟩ := h
  obtain ⟨p1, p2, p3⟩ := NK_p (hV i h0 h1)
  have e : ∀ x, (x = -1 ∨ (0 ≤ x ∧ x < i)) → (if x = -1 then 0 else nsz T 300 x) = zc T x := fun x hx => by
    unfold zc
    by_cases z : x = -1
    · rw [if_pos z, if_pos z]
    · rw [if_neg z, if_neg z]
      exact nsz_f hV 300 301 x (by omega) (by omega) (by omega) (by omega)
  rw [← e _ p1, ← e _ p2, ← e _ p3]
  rfl
theorem zc_0 (x : Int) : 0 ≤ zc T x := by
  unfold zc
  split
  · omega
  · exact nsz_0 _ _ _
theorem Zn_1 (hV : NV T) (hn : P_n T ≤ 300) (h : inT T i) : 1 ≤ Zn T i := by
  have := Zn_eq hV hn h
  have := zc_0 (T := T) (P_1 T i)
  have := zc_0 (T := T) (P_2 T i)
  have := zc_0 (T := T) (P_3 T i)
  omega
theorem zc_m : zc T (-1) = 0 := if_pos rfl
theorem zc_n {x : Int} (h : ¬ x = -1) : zc T x = Zn T x := if_neg h
theorem zc_p (hV : NV T) (hn : P_n T ≤ 300) {x : Int} (h : inT T x) : zc T x = Zn T x ∧ 1 ≤ zc T x := by
  have e := zc_n (T := T) (x := x) (by have := h.1; omega)
  rw [e]
  exact ⟨rfl, Zn_1 hV hn h⟩
/-- a node's parts are nodes before it -/
theorem prts (hV : NV T) (h : inT T i) : (P_1 T i = -1 ∨ (inT T (P_1 T i) ∧ P_1 T i < i)) ∧ (P_2 T i = -1 ∨ (inT T (P_2 T i) ∧ P_2 T i < i)) ∧ (P_3 T i = -1 ∨ (inT T (P_3 T i) ∧ P_3 T i < i)) := by
  obtain ⟨h0, h1⟩ := h
  obtain ⟨p1, p2, p3⟩ := NK_p (hV i h0 h1)
  unfold inT
  omega
/-- in which part a place is -/
theorem pw (hV : NV T) (hn : P_n T ≤ 300) (h : inT T i) {p q : Int} (h0 : p < q) (h1 : q < p + Zn T i) :
    (q < p + 1 + zc T (P_1 T i) ∧ (inT T (P_1 T i) ∧ P_1 T i < i) ∧ zc T (P_1 T i) = Zn T (P_1 T i)) ∨
    (¬ q < p + 1 + zc T (P_1 T i) ∧ q < p + 1 + zc T (P_1 T i) + zc T (P_2 T i) ∧ (inT T (P_2 T i) ∧ P_2 T i < i) ∧ zc T (P_2 T i) = Zn T (P_2 T i)) ∨
    (¬ q < p + 1 + zc T (P_1 T i) ∧ ¬ q < p + 1 + zc T (P_1 T i) + zc T (P_2 T i) ∧ (inT T (P_3 T i) ∧ P_3 T i < i) ∧ zc T (P_3 T i) = Zn T (P_3 T i)) := by
  have e := Zn_eq hV hn h
  obtain ⟨p1, p2, p3⟩ := prts hV h
  have m := zc_m (T := T)
  by_cases a : q < p + 1 + zc T (P_1 T i)
  · refine Or.inl ⟨a, ?_⟩
    rcases p1 with z | z
    · rw [z, m] at a
      omega
    · exact ⟨z, (zc_p hV hn z.1).1⟩
  · by_cases b : q < p + 1 + zc T (P_1 T i) + zc T (P_2 T i)
    · refine Or.inr (Or.inl ⟨a, b, ?_⟩)
      rcases p2 with z | z
      · rw [z, m] at b
        omega
      · exact ⟨z, (zc_p hV hn z.1).1⟩
    · refine Or.inr (Or.inr ⟨a, b, ?_⟩)
      rcases p3 with z | z
      · rw [z, m] at e
        omega
      · exact ⟨z, (zc_p hV hn z.1).1⟩
theorem ly_0 (f : Nat) (p u d : Int) {q : Int} (h : q ≤ p) : ly T f i p u d q = (i, u, d) := by
  cases f with
  | zero => rfl
  | succ f => exact if_pos h
theorem ly_1 (f : Nat) (p u d : Int) {q : Int} (h : p < q) (a : q < p + 1 + zc T (P_1 T i)) : ly T (f + 1) i p u d q = ly T f (P_1 T i) (p + 1) p (d + 1) q := by
  show (if q ≤ p then _ else if _ then _ else _) = _
  rw [if_neg (by omega), if_pos a]
theorem ly_2 (f : Nat) (p u d : Int) {q : Int} (h : p < q) (a : ¬ q < p + 1 + zc T (P_1 T i)) (b : q < p + 1 + zc T (P_1 T i) + zc T (P_2 T i)) : ly T (f + 1) i p u d q = ly T f (P_2 T i) (p + 1 + zc T (P_1 T i)) p (d + 1) q := by
  show (if q ≤ p then _ else if _ then _ else if _ then _ else _) = _
  rw [if_neg (by omega), if_neg a, if_pos b]
theorem ly_3 (f : Nat) (p u d : Int) {q : Int} (h : p < q) (a : ¬ q < p + 1 + zc T (P_1 T i)) (b : ¬ q < p + 1 + zc T (P_1 T i) + zc T (P_2 T i)) : ly T (f + 1) i p u d q = ly T f (P_3 T i) (p + 1 + zc T (P_1 T i) + zc T (P_2 T i)) p (d + 1) q := by
  show (if q ≤ p then _ else if _ then _ else if _ then _ else _) = _
  rw [if_neg (by omega), if_neg a, if_neg b]
/-- the node at a place is a node, and its places are within -/
theorem ly_rg (hV : NV T) (hn : P_n T ≤ 300) : ∀ (f : Nat) (i p u d q : Int), inT T i → i < f → p ≤ q → q < p + Zn T i → inT T (ly T f i p u d q).1 ∧ q + Zn T (ly T f i p u d q).1 ≤ p + Zn T i ∧ d ≤ (ly T f i p u d q).2.2 := by
  intro f
  induction f with
  | zero => intro i p u d q hi h; have := hi.1; omega
  | succ f ih =>
    intro i p u d q hi hf h0 h1
    by_cases z : q ≤ p
    · rw [ly_0 _ _ _ _ z]
      exact ⟨hi, by show q + Zn T i ≤ _; omega, Int.le_refl _⟩
    · have e := Zn_eq hV hn hi
      have z1 := zc_0 (T := T) (P_1 T i)
      have z2 := zc_0 (T := T) (P_2 T i)
      have z3 := zc_0 (T := T) (P_3 T i)
      rcases pw hV hn hi (show p < q by omega) h1 with ⟨a, g, k⟩ | ⟨a, b, g, k⟩ | ⟨a, b, g, k⟩
      · rw [ly_1 _ _ _ _ (by omega) a]
        obtain ⟨x1, x2, x3⟩ := ih (P_1 T i) (p + 1) p (d + 1) q g.1 (by have := g.2; omega) (by omega) (by omega)
        exact ⟨x1, by omega, by omega⟩
      · rw [ly_2 _ _ _ _ (by omega) a b]
        obtain ⟨x1, x2, x3⟩ := ih (P_2 T i) (p + 1 + zc T (P_1 T i)) p (d + 1) q g.1 (by have := g.2; omega) (by omega) (by omega)
        exact ⟨x1, by omega, by omega⟩
      · rw [ly_3 _ _ _ _ (by omega) a b]
        obtain ⟨x1, x2, x3⟩ := ih (P_3 T i) (p + 1 + zc T (P_1 T i) + zc T (P_2 T i)) p (d + 1) q g.1 (by have := g.2; omega) (by omega) (by omega)
        exact ⟨x1, by omega, by omega⟩
/-- where a node's parts stand -/
def KDs (T : PT) (L : Int → Int × Int × Int) (q : Int) : Prop :=
  (P_1 T (L q).1 ≠ -1 → L (q + 1) = (P_1 T (L q).1, q, (L q).2.2 + 1)) ∧
  (P_2 T (L q).1 ≠ -1 → L (q + 1 + zc T (P_1 T (L q).1)) = (P_2 T (L q).1, q, (L q).2.2 + 1)) ∧
  (P_3 T (L q).1 ≠ -1 → L (q + 1 + zc T (P_1 T (L q).1) + zc T (P_2 T (L q).1)) = (P_3 T (L q).1, q, (L q).2.2 + 1))
/-- a part's layout is the whole's -/
theorem KDs.mv {L L' : Int → Int × Int × Int} {q lo hi : Int} (hV : NV T) (hn : P_n T ≤ 300) (h : KDs T L q) (h0 : lo ≤ q) (h1 : q + Zn T (L q).1 ≤ hi) (hT : inT T (L q).1) (e : ∀ x, lo ≤ x → x < hi → L' x = L x) : KDs T L' q := by
  have k := Zn_eq hV hn hT
  have z1 := zc_0 (T := T) (P_1 T (L q).1)
  have z2 := zc_0 (T := T) (P_2 T (L q).1)
  have z3 := zc_0 (T := T) (P_3 T (L q).1)
  obtain ⟨p1, p2, p3⟩ := prts hV hT
  unfold KDs
  rw [e q h0 (by omega)]
  refine ⟨fun z => ?_, fun z => ?_, fun z => ?_⟩
  · have := (zc_p hV hn (p1.resolve_left z).1).2
    rw [e _ (by omega) (by omega)]
    exact h.1 z
  · have := (zc_p hV hn (p2.resolve_left z).1).2
    rw [e _ (by omega) (by omega)]
    exact h.2.1 z
  · have := (zc_p hV hn (p3.resolve_left z).1).2
    rw [e _ (by omega) (by omega)]
    exact h.2.2 z
theorem ly_kd (hV : NV T) (hn : P_n T ≤ 300) : ∀ (f : Nat) (i p u d q : Int), inT T i → i < f → p ≤ q → q < p + Zn T i → KDs T (ly T f i p u d) q := by
  intro f
  induction f with
  | zero => intro i p u d q hi h; have := hi.1; omega
  | succ f ih =>
    intro i p u d q hi hf h0 h1
    have e := Zn_eq hV hn hi
    have z1 := zc_0 (T := T) (P_1 T i)
    have z2 := zc_0 (T := T) (P_2 T i)
    have z3 := zc_0 (T := T) (P_3 T i)
    obtain ⟨p1, p2, p3⟩ := prts hV hi
    by_cases z : q ≤ p
    · have eq : q = p := by omega
      subst eq
      unfold KDs
      rw [ly_0 _ _ _ _ z]
      refine ⟨fun y => ?_, fun y => ?_, fun y => ?_⟩
      · have := (zc_p hV hn (p1.resolve_left y).1).2
        show ly T (f + 1) i q u d (q + 1) = _
        rw [ly_1 _ _ _ _ (by omega) (by omega), ly_0 _ _ _ _ (by omega)]
      · have := (zc_p hV hn (p2.resolve_left y).1).2
        show ly T (f + 1) i q u d (q + 1 + zc T (P_1 T i)) = _
        rw [ly_2 _ _ _ _ (by omega) (by omega) (by omega), ly_0 _ _ _ _ (by omega)]
      · have := (zc_p hV hn (p3.resolve_left y).1).2
        show ly T (f + 1) i q u d (q + 1 + zc T (P_1 T i) + zc T (P_2 T i)) = _
        rw [ly_3 _ _ _ _ (by omega) (by omega) (by omega), ly_0 _ _ _ _ (by omega)]
    · rcases pw hV hn hi (show p < q by omega) h1 with ⟨a, g, k⟩ | ⟨a, b, g, k⟩ | ⟨a, b, g, k⟩
      · have r := ly_rg hV hn f (P_1 T i) (p + 1) p (d + 1) q g.1 (by have := g.2; omega) (by omega) (by omega)
        exact (ih (P_1 T i) (p + 1) p (d + 1) q g.1 (by have := g.2; omega) (by omega) (by omega)).mv hV hn (lo := p + 1) (hi := p + 1 + Zn T (P_1 T i)) (by omega) r.2.1 r.1 (fun x x0 x1 => ly_1 _ _ _ _ (by omega) (by omega))
      · have r := ly_rg hV hn f (P_2 T i) (p + 1 + zc T (P_1 T i)) p (d + 1) q g.1 (by have := g.2; omega) (by omega) (by omega)
        exact (ih (P_2 T i) (p + 1 + zc T (P_1 T i)) p (d + 1) q g.1 (by have := g.2; omega) (by omega) (by omega)).mv hV hn (lo := p + 1 + zc T (P_1 T i)) (hi := p + 1 + zc T (P_1 T i) + Zn T (P_2 T i)) (by omega) r.2.1 r.1 (fun x x0 x1 => ly_2 _ _ _ _ (by omega) (by omega) (by omega))
      · have r := ly_rg hV hn f (P_3 T i) (p + 1 + zc T (P_1 T i) + zc T (P_2 T i)) p (d + 1) q g.1 (by have := g.2; omega) (by omega) (by omega)
        exact (ih (P_3 T i) (p + 1 + zc T (P_1 T i) + zc T (P_2 T i)) p (d + 1) q g.1 (by have := g.2; omega) (by omega) (by omega)).mv hV hn (lo := p + 1 + zc T (P_1 T i) + zc T (P_2 T i)) (hi := p + 1 + zc T (P_1 T i) + zc T (P_2 T i) + Zn T (P_3 T i)) (by omega) r.2.1 r.1 (fun x x0 x1 => ly_3 _ _ _ _ (by omega) (by omega) (by omega))
/-- what is above a place -/
def UP (T : PT) (L : Int → Int × Int × Int) (lo q : Int) : Prop := lo ≤ (L q).2.1 ∧ (L q).2.1 < q ∧ (L q).2.2 = (L (L q).2.1).2.2 + 1 ∧ CH T (L (L q).2.1).1 (L q).2.1 (L q).1 q
theorem UP.mv {L L' : Int → Int × Int × Int} {q lo lo' : Int} (h : UP T L lo q) (hl : lo' ≤ lo) (e : ∀ x, lo ≤ x → x ≤ q → L' x = L x) : UP T L' lo' q := by
  obtain ⟨h1, h2, h3, h4⟩ := h
  unfold UP
  rw [e q (by omega) (Int.le_refl _), e _ h1 (by omega)]
  exact ⟨by omega, h2, h3, h4⟩
theorem ly_up (hV : NV T) (hn : P_n T ≤ 300) : ∀ (f : Nat) (i p u d q : Int), inT T i → i < f → p < q → q < p + Zn T i → UP T (ly T f i p u d) p q := by
  intro f
  induction f with
  | zero => intro i p u d q hi h; have := hi.1; omega
  | succ f ih =>
    intro i p u d q hi hf h0 h1
    have e := Zn_eq hV hn hi
    have z1 := zc_0 (T := T) (P_1 T i)
    have z2 := zc_0 (T := T) (P_2 T i)
    have z3 := zc_0 (T := T) (P_3 T i)
    rcases pw hV hn hi h0 h1 with ⟨a, g, k⟩ | ⟨a, b, g, k⟩ | ⟨a, b, g, k⟩
    · by_cases z : q = p + 1
      · subst z
        unfold UP
        rw [ly_1 _ _ _ _ h0 a, ly_0 _ _ _ _ (Int.le_refl _)]
        show p ≤ p ∧ p < p + 1 ∧ d + 1 = (ly T (f + 1) i p u d p).2.2 + 1 ∧ CH T (ly T (f + 1) i p u d p).1 p (P_1 T i) (p + 1)
        rw [ly_0 _ _ _ _ (Int.le_refl _)]
        exact ⟨Int.le_refl _, by omega, rfl, Or.inl ⟨rfl, (show P_1 T i ≠ -1 by have := g.1.1; omega), rfl⟩⟩
      · exact (ih (P_1 T i) (p + 1) p (d + 1) q g.1 (by have := g.2; omega) (by omega) (by omega)).mv (by omega) (fun x x0 x1 => ly_1 _ _ _ _ (by omega) (by omega))
    · by_cases z : q = p + 1 + zc T (P_1 T i)
      · unfold UP
        rw [ly_2 _ _ _ _ h0 a b, ly_0 _ _ _ _ (by omega)]
        show p ≤ p ∧ p < q ∧ d + 1 = (ly T (f + 1) i p u d p).2.2 + 1 ∧ CH T (ly T (f + 1) i p u d p).1 p (P_2 T i) q
        rw [ly_0 _ _ _ _ (Int.le_refl _)]
        exact ⟨Int.le_refl _, by omega, rfl, Or.inr (Or.inl ⟨rfl, (show P_2 T i ≠ -1 by have := g.1.1; omega), z⟩)⟩
      · exact (ih (P_2 T i) (p + 1 + zc T (P_1 T i)) p (d + 1) q g.1 (by have := g.2; omega) (by omega) (by omega)).mv (by omega) (fun x x0 x1 => ly_2 _ _ _ _ (by omega) (by omega) (by omega))
    · by_cases z : q = p + 1 + zc T (P_1 T i) + zc T (P_2 T i)
      · unfold UP
        rw [ly_3 _ _ _ _ h0 a b, ly_0 _ _ _ _ (by omega)]
        show p ≤ p ∧ p < q ∧ d + 1 = (ly T (f + 1) i p u d p).2.2 + 1 ∧ CH T (ly T (f + 1) i p u d p).1 p (P_3 T i) q
        rw [ly_0 _ _ _ _ (Int.le_refl _)]
        exact ⟨Int.le_refl _, by omega, rfl, Or.inr (Or.inr ⟨rfl, (show P_3 T i ≠ -1 by have := g.1.1; omega), z⟩)⟩
      · exact (ih (P_3 T i) (p + 1 + zc T (P_1 T i) + zc T (P_2 T i)) p (d + 1) q g.1 (by have := g.2; omega) (by omega) (by omega)).mv (by omega) (fun x x0 x1 => ly_3 _ _ _ _ (by omega) (by omega) (by omega))
/-- what stands within a place is laid out as its node is -/
theorem ly_sub (hV : NV T) (hn : P_n T ≤ 300) : ∀ (f : Nat) (i p u d q : Int), inT T i → i < f → p ≤ q → q < p + Zn T i → ∃ g : Nat, (ly T f i p u d q).1 < g ∧ ∀ x, q ≤ x → x < q + Zn T (ly T f i p u d q).1 → ly T f i p u d x = ly T g (ly T f i p u d q).1 q (ly T f i p u d q).2.1 (ly T f i p u d q).2.2 x := by
  intro f
  induction f with
  | zero => intro i p u d q hi h; have := hi.1; omega
  | succ f ih =>
    intro i p u d q hi hf h0 h1
    by_cases z : q ≤ p
    · have eq : q = p := by omega
      subst eq
      rw [ly_0 _ _ _ _ z]
      exact ⟨f + 1, hf, fun x _ _ => rfl⟩
    · have e := Zn_eq hV hn hi
      have z1 := zc_0 (T := T) (P_1 T i)
      have z2 := zc_0 (T := T) (P_2 T i)
      have z3 := zc_0 (T := T) (P_3 T i)
      rcases pw hV hn hi (show p < q by omega) h1 with ⟨a, g, k⟩ | ⟨a, b, g, k⟩ | ⟨a, b, g, k⟩
      · have r := ly_rg hV hn f (P_1 T i) (p + 1) p (d + 1) q g.1 (by have := g.2; omega) (by omega) (by omega)
        obtain ⟨m, m1, m2⟩ := ih (P_1 T i) (p + 1) p (d + 1) q g.1 (by have := g.2; omega) (by omega) (by omega)
        rw [ly_1 _ _ _ _ (by omega) a]
        exact ⟨m, m1, fun x x0 x1 => (ly_1 _ _ _ _ (by omega) (by omega)).trans (m2 x x0 x1)⟩
      · have r := ly_rg hV hn f (P_2 T i) (p + 1 + zc T (P_1 T i)) p (d + 1) q g.1 (by have := g.2; omega) (by omega) (by omega)
        obtain ⟨m, m1, m2⟩ := ih (P_2 T i) (p + 1 + zc T (P_1 T i)) p (d + 1) q g.1 (by have := g.2; omega) (by omega) (by omega)
        rw [ly_2 _ _ _ _ (by omega) a b]
        exact ⟨m, m1, fun x x0 x1 => (ly_2 _ _ _ _ (by omega) (by omega) (by omega)).trans (m2 x x0 x1)⟩
      · have r := ly_rg hV hn f (P_3 T i) (p + 1 + zc T (P_1 T i) + zc T (P_2 T i)) p (d + 1) q g.1 (by have := g.2; omega) (by omega) (by omega)
        obtain ⟨m, m1, m2⟩ := ih (P_3 T i) (p + 1 + zc T (P_1 T i) + zc T (P_2 T i)) p (d + 1) q g.1 (by have := g.2; omega) (by omega) (by omega)
        rw [ly_3 _ _ _ _ (by omega) a b]
        exact ⟨m, m1, fun x x0 x1 => (ly_3 _ _ _ _ (by omega) (by omega) (by omega)).trans (m2 x x0 x1)⟩
end LYA
/-- a layout: nodes, what is above, how deep -/
def LT (T : PT) (root n : Int) (N U D : Int → Int) : Prop :=
  n = Zn T root ∧ (N 0 = root ∧ U 0 = -1 ∧ D 0 = 0) ∧
  (∀ q, 0 ≤ q → q < n → inT T (N q) ∧ q + Zn T (N q) ≤ n ∧ 0 ≤ D q ∧
    (P_1 T (N q) ≠ -1 → N (q + 1) = P_1 T (N q) ∧ U (q + 1) = q ∧ D (q + 1) = D q + 1) ∧
    (P_2 T (N q) ≠ -1 → N (q + 1 + zc T (P_1 T (N q))) = P_2 T (N q) ∧ U (q + 1 + zc T (P_1 T (N q))) = q ∧ D (q + 1 + zc T (P_1 T (N q))) = D q + 1) ∧
    (P_3 T (N q) ≠ -1 → N (q + 1 + zc T (P_1 T (N q)) + zc T (P_2 T (N q))) = P_3 T (N q) ∧ U (q + 1 + zc T (P_1 T (N q)) + zc T (P_2 T (N q))) = q ∧ D (q + 1 + zc T (P_1 T (N q)) + zc T (P_2 T (N q))) = D q + 1)) ∧
  (∀ q, 0 < q → q < n → 0 ≤ U q ∧ U q < q ∧ D q = D (U q) + 1 ∧ CH T (N (U q)) (U q) (N q) q) ∧
  (∀ p x, 0 ≤ p → p < n → p < x → x < p + Zn T (N p) → D p < D x ∧ x + Zn T (N x) ≤ p + Zn T (N p))
def lyN (T : PT) (root q : Int) : Int := (ly T 301 root 0 (-1) 0 q).1
def lyU (T : PT) (root q : Int) : Int := (ly T 301 root 0 (-1) 0 q).2.1
def lyD (T : PT) (root q : Int) : Int := (ly T 301 root 0 (-1) 0 q).2.2
/-- every node has its layout -/
theorem ly_LT {T : PT} {root : Int} (hV : NV T) (hn : P_n T ≤ 300) (h : inT T root) : LT T root (Zn T root) (lyN T root) (lyU T root) (lyD T root) := by
  have hf : root < (301 : Nat) := by have := h.2; omega
  have e0 : ly T 301 root 0 (-1) 0 0 = (root, -1, 0) := ly_0 _ _ _ _ (Int.le_refl _)
  refine ⟨rfl, ⟨by unfold lyN; rw [e0], by unfold lyU; rw [e0], by unfold lyD; rw [e0]⟩, fun q q0 q1 => ?_, fun q q0 q1 => ?_, fun p x p0 p1 x0 x1 => ?_⟩
  · obtain ⟨a1, a2, a3⟩ := ly_rg hV hn 301 root 0 (-1) 0 q h hf q0 (by omega)
    obtain ⟨b1, b2, b3⟩ := ly_kd hV hn 301 root 0 (-1) 0 q h hf q0 (by omega)
    refine ⟨a1, by unfold lyN; omega, a3, fun z => ?_, fun z => ?_, fun z => ?_⟩
    · have b := b1 z
      unfold lyN lyU lyD
      rw [b]
      exact ⟨rfl, rfl, rfl⟩
    · have b := b2 z
      unfold lyN lyU lyD
      rw [b]
      exact ⟨rfl, rfl, rfl⟩
    · have b := b3 z
      unfold lyN lyU lyD
      rw [b]
      exact ⟨rfl, rfl, rfl⟩
  · exact ly_up hV hn 301 root 0 (-1) 0 q h hf q0 (by omega)
  · obtain ⟨g, g1, g2⟩ := ly_sub hV hn 301 root 0 (-1) 0 p h hf p0 (by omega)
    have gi := (ly_rg hV hn 301 root 0 (-1) 0 p h hf p0 (by omega)).1
    have x1 : x < p + Zn T (ly T 301 root 0 (-1) 0 p).1 := x1
    have r := ly_rg hV hn g _ p (ly T 301 root 0 (-1) 0 p).2.1 (ly T 301 root 0 (-1) 0 p).2.2 x gi g1 (by omega) x1
    obtain ⟨u1, u2, u3, u4⟩ := ly_up hV hn g _ p (ly T 301 root 0 (-1) 0 p).2.1 (ly T 301 root 0 (-1) 0 p).2.2 x gi g1 x0 x1
    have r2 := (ly_rg hV hn g _ p (ly T 301 root 0 (-1) 0 p).2.1 (ly T 301 root 0 (-1) 0 p).2.2 _ gi g1 u1 (by omega)).2.2
    have hx := g2 x (by omega) x1
    unfold lyN lyD
    rw [hx]
    exact ⟨by omega, r.2.1⟩
section LYB
variable {T : PT} {root n : Int} {N U D : Int → Int}
/-- a place's next, where its own places end -/
theorem LT.nx (hL : LT T root n N U D) (hV : NV T) (hn : P_n T ≤ 300) : ∀ (f : Nat) (p : Int), p < f → 0 ≤ p → p + Zn T (N p) < n → D (p + Zn T (N p)) ≤ D p := by
  obtain ⟨a1, ⟨a2, a3, a4⟩, hq, hu, -⟩ := hL
  intro f
  induction f with
  | zero => intro p h; omega
  | succ f ih =>
    intro p hf p0 p1
    by_cases z : p = 0
    · subst z
      rw [a2, a1] at p1
      omega
    · have zq : 1 ≤ Zn T (N p) := by
        refine Zn_1 hV hn (hq p p0 ?_).1
        by_cases y : p < n
        · exact y
        · exfalso
          have : 0 ≤ Zn T (N p) := nsz_0 _ _ _
          omega
      obtain ⟨u0, u1, u2, u3⟩ := hu p (by omega) (by omega)
      obtain ⟨g1, g2, g3, k1, k2, k3⟩ := hq (U p) u0 (by omega)
      have e := Zn_eq hV hn g1
      have m := zc_m (T := T)
      have i := ih (U p) (by omega) u0
      have last : p + Zn T (N p) = U p + Zn T (N (U p)) → D (p + Zn T (N p)) ≤ D p := fun y => by
        rw [y] at p1 ⊢
        have := i p1
        omega
      rcases u3 with ⟨c1, c2, c3⟩ | ⟨c1, c2, c3⟩ | ⟨c1, c2, c3⟩
      · have z1 : zc T (P_1 T (N (U p))) = Zn T (N p) := by rw [← c1]; exact zc_n (by rw [c1]; exact c2)
        by_cases y2 : P_2 T (N (U p)) = -1
        · by_cases y3 : P_3 T (N (U p)) = -1
          · rw [y2, y3, m] at e
            exact last (by omega)
          · rw [y2, m] at e k3
            obtain ⟨x1, x2, x3⟩ := k3 y3
            rw [show p + Zn T (N p) = U p + 1 + zc T (P_1 T (N (U p))) + 0 by omega, x3]
            omega
        · obtain ⟨x1, x2, x3⟩ := k2 y2
          rw [show p + Zn T (N p) = U p + 1 + zc T (P_1 T (N (U p))) by omega, x3]
          omega
      · have z1 : zc T (P_2 T (N (U p))) = Zn T (N p) := by rw [← c1]; exact zc_n (by rw [c1]; exact c2)
        by_cases y3 : P_3 T (N (U p)) = -1
        · rw [y3, m] at e
          exact last (by omega)
        · obtain ⟨x1, x2, x3⟩ := k3 y3
          rw [show p + Zn T (N p) = U p + 1 + zc T (P_1 T (N (U p))) + zc T (P_2 T (N (U p))) by omega, x3]
          omega
      · have z1 : zc T (P_3 T (N (U p))) = Zn T (N p) := by rw [← c1]; exact zc_n (by rw [c1]; exact c2)
        exact last (by omega)
/-- a second part has a first one before it -/
theorem NK_12 {i : Int} (h : NK T i) : (P_1 T i = -1 → P_2 T i = -1) ∧ (P_2 T i = -1 → P_3 T i = -1) := by
  unfold NK pE pT at h
  omega
theorem LT.st (hL : LT T root n N U D) (hV : NV T) (hn : P_n T ≤ 300) {p : Int} (p0 : 0 ≤ p) (p1 : p + 1 < n) : D (p + 1) ≤ D p + 1 := by
  have hL' := hL
  obtain ⟨a1, ⟨a2, a3, a4⟩, hq, hu, -⟩ := hL
  obtain ⟨g1, g2, g3, k1, k2, k3⟩ := hq p p0 (by omega)
  by_cases y : P_1 T (N p) = -1
  · have o := NK_12 (hV _ g1.1 g1.2)
    have e := Zn_eq hV hn g1
    rw [y, o.1 y, o.2 (o.1 y), zc_m] at e
    have := hL'.nx hV hn (p + 1).toNat p (by omega) p0 (by omega)
    rw [e] at this
    have e2 : p + (1 + 0 + 0 + 0) = p + 1 := by omega
    rw [e2] at this
    omega
  · obtain ⟨x1, x2, x3⟩ := k1 y
    omega
theorem LT.mono (hL : LT T root n N U D) (hV : NV T) (hn : P_n T ≤ 300) : ∀ (f : Nat) (p : Int), 0 ≤ p → p + f < n → p - D p ≤ p + f - D (p + f) := by
  intro f
  induction f with
  | zero => intro p _ _; simp
  | succ f ih =>
    intro p p0 p1
    have a := ih p p0 (by push_cast at p1; omega)
    have b := hL.st hV hn (p := p + f) (by omega) (by push_cast at p1; omega)
    push_cast
    rw [show p + ((f : Int) + 1) = p + f + 1 by omega]
    omega
/-- ranks: places of parts come before -/
theorem LT.rank (hL : LT T root n N U D) (hV : NV T) (hn : P_n T ≤ 300) {p q : Int} (p0 : 0 ≤ p) (pq : p < q) (q1 : q < n) : p + Zn T (N p) - 1 - D p ≠ q + Zn T (N q) - 1 - D q := by
  have zq : 1 ≤ Zn T (N q) := Zn_1 hV hn (hL.2.2.1 q (by omega) q1).1
  by_cases y : q < p + Zn T (N p)
  · have := hL.2.2.2.2 p q p0 (by omega) pq y
    omega
  · have zp : 1 ≤ Zn T (N p) := Zn_1 hV hn (hL.2.2.1 p (by omega) (by omega)).1
    have a := hL.nx hV hn (p + 1).toNat p (by omega) p0 (by omega)
    have b := hL.mono hV hn (q - (p + Zn T (N p))).toNat (p + Zn T (N p)) (by omega) (by omega)
    rw [show p + Zn T (N p) + ((q - (p + Zn T (N p))).toNat : Int) = q by omega] at b
    omega
end LYB
