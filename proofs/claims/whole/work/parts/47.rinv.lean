/-! THE REFERENCE'S RUN, REPRESENTED: frames by their numbers, branches by theirs -/
def US (s : Q_S) (X : List Int) : Prop := (∀ x, 0 ≤ x → x < 6144 → q_I s 61 x = 0 ∨ q_I s 61 x = 1) ∧ (∀ x, 0 ≤ x → x < 6144 → (q_I s 61 x = 1 ↔ x ∈ X))
def UB (s : Q_S) (B : List Int) : Prop := (∀ x, 0 ≤ x → x < 104 → q_I s 69 x = 0 ∨ q_I s 69 x = 1) ∧ (∀ x, 0 ≤ x → x < 104 → (q_I s 69 x = 1 ↔ x ∈ B))
def SMX (s s' : Q_S) (X : List Int) : Prop := ∀ x, x ∈ X → q_I s' 55 x = q_I s 55 x ∧ q_I s' 56 x = q_I s 56 x ∧ q_I s' 57 x = q_I s 57 x ∧ q_I s' 59 x = q_I s 59 x ∧ q_I s' 60 x = q_I s 60 x ∧ q_L s' 58 x = q_L s 58 x
def SMB (s s' : Q_S) (B : List Int) : Prop := ∀ b, b ∈ B → q_I s' 62 b = q_I s 62 b ∧ q_I s' 63 b = q_I s 63 b ∧ q_I s' 64 b = q_I s 64 b ∧ q_I s' 65 b = q_I s 65 b ∧ q_L s' 66 b = q_L s 66 b ∧ q_L s' 67 b = q_L s 67 b ∧ q_L s' 68 b = q_L s 68 b
/-- a branch's frames, inner first -/
def rpS (s : Q_S) (base u : Int) : List FR → List Int → Int → Prop
  | [], [], x => x = u
  | (p, a) :: t, y :: ys, x => x = y ∧ 0 ≤ y ∧ y < 6144 ∧ y ≠ u ∧ q_I s 55 y = p ∧ q_I s 57 y = base + t.length + 1 ∧ q_L s 58 y = a ∧ rpS s base u t ys (q_I s 56 y)
  | _, _, _ => False
def UD (s : Q_S) (u base : Int) : Prop := (u = -1 ∧ base = 0) ∨ (0 ≤ u ∧ u < 6144 ∧ q_I s 57 u = base)
def rpB (s : Q_S) (P : PT) (base u b : Int) (c : CT) (xs : List Int) : Prop :=
  0 ≤ b ∧ b < 104 ∧ q_I s 62 b = c.1 ∧ q_I s 63 b = c.2.1 ∧ (c.1 = 1 → q_I s 65 b = c.2.2.1.1 ∧ q_L s 66 b = c.2.2.1.2.1 ∧ (P_w P c.2.1 = 13 → q_L s 67 b = c.2.2.1.2.2.1 ∧ q_L s 68 b = c.2.2.1.2.2.2)) ∧ rpS s base u c.2.2.2 xs (q_I s 64 b)
/-- what no run touches -/
def KP (s s' : Q_S) : Prop := s'.1 = s.1 ∧ s'.2.1 = s.2.1 ∧ s'.2.2.1 = s.2.2.1 ∧ (∀ c, (c < 38 ∨ (39 ≤ c ∧ c ≤ 51) ∨ 71 ≤ c) → ∀ j, q_I s' c j = q_I s c j ∧ q_L s' c j = q_L s c j) ∧
  (q_F s' 38 0 = q_F s 38 0 ∧ q_F s' 38 1 = q_F s 38 1 ∧ q_F s' 38 8 = q_F s 38 8 ∧ q_F s' 38 16 = q_F s 38 16 ∧ q_F s' 38 17 = q_F s 38 17 ∧ q_F s' 38 19 = q_F s 38 19 ∧ q_F s' 38 49 = q_F s 38 49 ∧ q_F s' 38 50 = q_F s 38 50)
theorem KP.rf (s : Q_S) : KP s s := ⟨rfl, rfl, rfl, fun _ _ _ => ⟨rfl, rfl⟩, rfl, rfl, rfl, rfl, rfl, rfl, rfl, rfl⟩
theorem KP.tr {s s1 s2 : Q_S} (h : KP s s1) (g : KP s1 s2) : KP s s2 := by
  obtain ⟨a1, a2, a3, a4, a5⟩ := h
  obtain ⟨b1, b2, b3, b4, b5⟩ := g
  refine ⟨b1.trans a1, b2.trans a2, b3.trans a3, fun c hc j => ⟨(b4 c hc j).1.trans (a4 c hc j).1, (b4 c hc j).2.trans (a4 c hc j).2⟩, ?_⟩
  obtain ⟨c1, c2, c3, c4, c5, c6, c7, c8⟩ := a5
  obtain ⟨d1, d2, d3, d4, d5, d6, d7, d8⟩ := b5
  exact ⟨d1.trans c1, d2.trans c2, d3.trans c3, d4.trans c4, d5.trans c5, d6.trans c6, d7.trans c7, d8.trans c8⟩
theorem KP.sh {s s' : Q_S} (h : KP s s') (hs : SH s) : SH s' := fun c t e => by
  show s'.2.2.1 c = _
  rw [h.2.2.1]
  exact hs c t e
theorem KP.si {s : Q_S} {a : Nat} {j v : Int} (h : 52 ≤ a ∧ a ≤ 70) : KP s (q_si s a j v) := by
  have e : ∀ f : Nat, q_F (q_si s a j v) 38 f = q_F s 38 f := fun f => by rw [q_F_si, if_neg (fun z => by have := z.1; omega)]
  refine ⟨rfl, rfl, rfl, fun c hc i => ⟨?_, rfl⟩, e 0, e 1, e 8, e 16, e 17, e 19, e 49, e 50⟩
  rw [q_I_si, if_neg (fun z => by have := z.1; omega)]
theorem KP.sl {s : Q_S} {a : Nat} {j : Int} {v : Int64} (h : 52 ≤ a ∧ a ≤ 70) : KP s (q_sl s a j v) := by
  refine ⟨rfl, rfl, rfl, fun c hc i => ⟨rfl, ?_⟩, rfl, rfl, rfl, rfl, rfl, rfl, rfl, rfl⟩
  rw [q_L_sl, if_neg (fun z => by have := z.1; omega)]
theorem KP.sf {s : Q_S} {f : Nat} {v : Int} (h : f ∉ [0, 1, 8, 16, 17, 19, 49, 50]) : KP s (q_sf s 38 f v) := by
  simp only [List.mem_cons, List.not_mem_nil, or_false, not_or] at h
  obtain ⟨h0, h1, h2, h3, h4, h5, h6, h7⟩ := h
  have e : ∀ g : Nat, ¬ f = g → q_F (q_sf s 38 f v) 38 g = q_F s 38 g := fun g hg => by rw [q_F_sf, if_neg (fun z => hg z.2.symm)]
  refine ⟨rfl, rfl, rfl, fun c hc i => ⟨?_, rfl⟩, e 0 h0, e 1 h1, e 8 h2, e 16 h3, e 17 h4, e 19 h5, e 49 h6, e 50 h7⟩
  rw [q_I_sf, if_neg (fun z => by have := z.1; omega)]
theorem KP.mP {s s' : Q_S} (h : KP s s') (k : Int) : m_P s' k = m_P s k := by
  have e := h.2.2.2.1
  unfold m_P
  rw [(e 45 (by omega) k).1, show (fun p => q_I s' 46 (500 * k + p)) = fun p => q_I s 46 (500 * k + p) from funext fun p => (e 46 (by omega) _).1, show (fun p => q_L s' 47 (500 * k + p)) = fun p => q_L s 47 (500 * k + p) from funext fun p => (e 47 (by omega) _).2,
    show (fun p => q_I s' 48 (500 * k + p)) = fun p => q_I s 48 (500 * k + p) from funext fun p => (e 48 (by omega) _).1, show (fun p => q_I s' 49 (500 * k + p)) = fun p => q_I s 49 (500 * k + p) from funext fun p => (e 49 (by omega) _).1,
    show (fun p => q_I s' 50 (500 * k + p)) = fun p => q_I s 50 (500 * k + p) from funext fun p => (e 50 (by omega) _).1, show (fun p => q_I s' 51 (500 * k + p)) = fun p => q_I s 51 (500 * k + p) from funext fun p => (e 51 (by omega) _).1]
/-- the numbers of the run -/
def GM (Ps : Int → PT) (nP sec : Int) (sig : Int → Int64) (G : GT) (s : Q_S) : Prop :=
  (q_F s 38 8 = nP ∧ (q_F s 38 47 = 0 → q_F s 38 22 = 0) ∧ 0 ≤ q_F s 38 36 ∧ q_F s 38 36 < 6144) ∧ q_F s 38 19 = sec ∧ (∀ k, 0 ≤ k → k < nP → m_P s k = Ps k) ∧ (∀ j, 0 ≤ j → j < 16 → q_L s 44 j = sig j) ∧
  (∀ j, 0 ≤ j → j < 16 → q_L s 53 j = G_v G j) ∧ (∀ j, 0 ≤ j → j < 8 → q_L s 52 j = G_o G j) ∧ (∀ j, 0 ≤ j → j < 8 → q_I s 54 j = G_n G j) ∧
  q_F s 38 20 = G_ph G ∧ q_F s 38 21 = G_sw G ∧ q_F s 38 18 = G_pg G ∧ q_F s 38 46 = G_bg G ∧ q_F s 38 45 = G_sd G
/-- all that is asked of a branch that is run: its frames xs, those of the others RX, the other branches RB -/
def RS (Ps : Int → PT) (nP sec : Int) (sig : Int → Int64) (s : Q_S) (G : GT) (base u b : Int) (c : CT) (xs RX RB : List Int) : Prop :=
  SH s ∧ GM Ps nP sec sig G s ∧ rpB s (Ps (G_pg G)) base u b c xs ∧ (∀ x ∈ xs, q_I s 59 x = -1) ∧ (xs ++ RX).Nodup ∧ US s (xs ++ RX) ∧ (b :: RB).Nodup ∧ UB s (b :: RB) ∧ UD s u base ∧ (u = -1 ∨ u ∈ RX) ∧
  q_F s 38 47 = 0 ∧ 0 ≤ q_F s 38 36 ∧ q_F s 38 36 < 6144
theorem rpS_same {s s' : Q_S} {base u : Int} : ∀ (st : List FR) (xs : List Int) (x : Int), (∀ y ∈ xs, q_I s' 55 y = q_I s 55 y ∧ q_I s' 56 y = q_I s 56 y ∧ q_I s' 57 y = q_I s 57 y ∧ q_L s' 58 y = q_L s 58 y) → rpS s base u st xs x → rpS s' base u st xs x := by
  intro st
  induction st with
  | nil =>
    intro xs x h g
    cases xs with
    | nil => exact g
    | cons y ys => exact g
  | cons f t ih =>
    intro xs x h g
    obtain ⟨p, a⟩ := f
    cases xs with
    | nil => exact g
    | cons y ys =>
      obtain ⟨g1, g2, g3, g4, g5, g6, g7, g8⟩ := g
      obtain ⟨e1, e2, e3, e4⟩ := h y List.mem_cons_self
      refine ⟨g1, g2, g3, g4, e1.trans g5, e3.trans g6, e4.trans g7, ?_⟩
      rw [e2]
      exact ih ys _ (fun z hz => h z (List.mem_cons_of_mem _ hz)) g8
theorem rpS_top {s : Q_S} {base u : Int} {st : List FR} {xs : List Int} {x : Int} (hu : UD s u base) (h : rpS s base u st xs x) : dpth s x = base + st.length ∧ (x = -1 ∨ (0 ≤ x ∧ x < 6144)) ∧ xs.length = st.length := by
  cases st with
  | nil =>
    cases xs with
    | nil =>
      have e : x = u := h
      subst e
      unfold dpth
      rcases hu with ⟨h1, h2⟩ | ⟨h1, h2, h3⟩
      · rw [if_pos h1]
        simp [h1, h2]
      · rw [if_neg (by omega)]
        simp [h1, h2, h3]
    | cons y ys => exact h.elim
  | cons f t =>
    obtain ⟨p, a⟩ := f
    cases xs with
    | nil => exact h.elim
    | cons y ys =>
      obtain ⟨g1, g2, g3, g4, g5, g6, g7, g8⟩ := h
      subst g1
      have hl : ∀ (t : List FR) (ys : List Int) (z : Int), rpS s base u t ys z → ys.length = t.length := by
        intro t
        induction t with
        | nil =>
          intro ys z h
          cases ys with
          | nil => rfl
          | cons _ _ => exact h.elim
        | cons f t ih =>
          intro ys z h
          obtain ⟨p, a⟩ := f
          cases ys with
          | nil => exact h.elim
          | cons w ws => simp [ih ws _ h.2.2.2.2.2.2.2]
      unfold dpth
      rw [if_neg (by omega)]
      refine ⟨?_, by omega, by simp [hl t ys _ g8]⟩
      rw [g6]
      simp
      omega
/-- a list too short misses a number -/
theorem l_free : ∀ (n : Nat) (l : List Int), l.length < n → ∃ x : Int, 0 ≤ x ∧ x < n ∧ x ∉ l := by
  intro n
  induction n with
  | zero => intro l h; omega
  | succ n ih =>
    intro l h
    by_cases hm : (n : Int) ∈ l
    · obtain ⟨x, h0, h1, h2⟩ := ih (l.erase (n : Int)) (by rw [List.length_erase_of_mem hm]; have := List.length_pos_of_mem hm; omega)
      exact ⟨x, h0, by omega, fun hx => h2 ((List.mem_erase_of_ne (by omega)).mpr hx)⟩
    · exact ⟨n, by omega, by omega, hm⟩
