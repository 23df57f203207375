/-! INVARIANTS OF THE ABSTRACT RUN: a branch's frames are those around its place; how many phases there can be -/
def CN (P : PT) (side : Option Int) : Nat → Int → List FR → Prop
  | 0, _, _ => False
  | f + 1, p, st =>
    if P_u P p = -1 then st = [] ∧ side = none
    else if P_w P (P_u P p) = 14 ∨ P_w P (P_u P p) = 15 ∨ P_w P (P_u P p) = 21 then CN P side f (P_u P p) st
    else if P_w P (P_u P p) = 16 then (if p = P_2 P (P_u P p) then ∃ a t, st = (P_u P p, a) :: t ∧ CN P side f (P_u P p) t else CN P side f (P_u P p) st)
    else if P_w P (P_u P p) = 17 then ∃ a t, st = (P_u P p, a) :: t ∧ 1 ≤ a ∧ CN P side f (P_u P p) t
    else if P_w P (P_u P p) = 18 then st = [] ∧ side = some (P_u P p)
    else if P_w P (P_u P p) = 20 then ∃ x a t, st = (x, a) :: t ∧ 0 ≤ x ∧ x < P_n P ∧ P_w P x = 19 ∧ CN P side f x t
    else False
def CNS (P : PT) (side : Option Int) (p : Int) (st : List FR) : Prop := ∃ f, CN P side f p st
/-- only rows are above -/
def RA (P : PT) : Nat → Int → Prop
  | 0, _ => False
  | f + 1, p => P_u P p = -1 ∨ (P_w P (P_u P p) = 14 ∧ RA P f (P_u P p))
/-- r is p or above it -/
def AN (P : PT) (r : Int) : Nat → Int → Prop
  | 0, p => r = p
  | f + 1, p => r = p ∨ (¬ P_u P p = -1 ∧ AN P r f (P_u P p))
/-- the outermost frame's place, or the place itself -/
def lastP : List FR → Int → Int
  | [], p => p
  | (x, _) :: t, _ => lastP t x
def PHI (P : PT) (sz : Int → Int) (ph : Int) (c : CT) : Prop :=
  (c.1 = 3 ∧ c.2.2.2 = [] ∧ (∃ f, RA P f c.2.1) ∧ ph ≤ c.2.1 + sz c.2.1 - 1) ∨
  (∃ r f g, AN P r f (lastP c.2.2.2 c.2.1) ∧ RA P g r ∧ ph ≤ r)
/-- a branch as it is between steps -/
def VC (P : PT) (sz : Int → Int) (sec ph : Int) (side : Option Int) (base : Int) (c : CT) : Prop :=
  0 ≤ base ∧ base + c.2.2.2.length ≤ 60 ∧ 0 ≤ ph ∧ ph ≤ 500 ∧
  ((c.1 = 0 ∧ c.2.2.2 = []) ∨
   ((c.1 = 1 ∨ c.1 = 2 ∨ c.1 = 3) ∧ 0 ≤ c.2.1 ∧ c.2.1 < P_n P ∧ isS (P_w P c.2.1) ∧ CNS P side c.2.1 c.2.2.2 ∧ (side = none → PHI P sz ph c) ∧ (c.1 = 1 → (P_w P c.2.1 = 12 ∨ P_w P c.2.1 = 13) ∧ 0 ≤ c.2.2.1.1 ∧ c.2.2.1.1 ≤ sec ∧ 1 ≤ c.2.2.1.2.1))
   ∨ (c.1 = 4 ∧ 0 ≤ c.2.1 ∧ c.2.1 < P_n P ∧ P_w P c.2.1 = 18 ∧ ∃ t, c.2.2.2 = (c.2.1, 0) :: t ∧ CNS P side c.2.1 t ∧ (side = none → PHI P sz ph c)))
theorem AN_le {P : PT} {sz : Int → Int} (hW : WP P sz) {r : Int} : ∀ (f : Nat) (p : Int), 0 ≤ p → p < P_n P → AN P r f p → r ≤ p ∧ 0 ≤ r ∧ r < P_n P := by
  intro f
  induction f with
  | zero => intro p h0 h1 h; have e : r = p := h; omega
  | succ f ih =>
    intro p h0 h1 h
    rcases h with e | ⟨h2, h3⟩
    · omega
    · by_cases z : p = 0
      · rw [z] at h2; exact absurd hW.2.2.2.1 h2
      · have := hW.2.2.2.2.2.2 p (by omega) h1
        have := ih (P_u P p) (by omega) (by omega) h3
        omega
theorem AN_self {P : PT} {p : Int} : AN P p 0 p := rfl
theorem upR_RA {P : PT} : ∀ (f : Nat) (p : Int), upR P f (P_u P p) = -1 → ∃ g, RA P g p := by
  intro f
  induction f with
  | zero => intro p h; exact ⟨1, Or.inl h⟩
  | succ f ih =>
    intro p h
    simp only [upR] at h
    by_cases c : ¬ P_u P p = -1 ∧ P_w P (P_u P p) = 14
    · rw [if_pos c] at h
      obtain ⟨g, hg⟩ := ih _ h
      exact ⟨g + 1, Or.inr ⟨c.2, hg⟩⟩
    · rw [if_neg c] at h
      exact ⟨1, Or.inl h⟩
theorem isPh_RA {P : PT} {p : Int} (h : isPh P p = true) : P_w P p = 21 ∧ ∃ g, RA P g p := by
  unfold isPh at h
  simp only [Bool.and_eq_true, decide_eq_true_eq] at h
  exact ⟨h.1, upR_RA _ _ h.2⟩
/-- a statement's kinds, in short -/
theorem WK_S {P : PT} {sz : Int → Int} {p : Int} (h : WK P sz p) (hs : isS (P_w P p)) :
    (P_w P p = 10 ∨ P_w P p = 11 ∨ P_w P p = 12 ∨ P_w P p = 13 ∨ P_w P p = 19) ∨
    (P_w P p = 14 ∧ C2 P sz p ∧ isS (P_w P (p + 1)) ∧ isS (P_w P (p + 1 + sz (p + 1))) ∧ sz p = 1 + sz (p + 1) + sz (p + 1 + sz (p + 1))) ∨
    (P_w P p = 15 ∧ C2 P sz p ∧ isS (P_w P (p + 1 + sz (p + 1))) ∧ (P_3 P p = -1 ∨ (C3 P sz p ∧ isS (P_w P (p + 1 + sz (p + 1) + sz (p + 1 + sz (p + 1))))))) ∨
    (P_w P p = 16 ∧ C3 P sz p ∧ isS (P_w P (p + 1 + sz (p + 1))) ∧ isS (P_w P (p + 1 + sz (p + 1) + sz (p + 1 + sz (p + 1))))) ∨
    (P_w P p = 17 ∧ C2 P sz p ∧ isS (P_w P (p + 1 + sz (p + 1)))) ∨
    (P_w P p = 18 ∧ C2 P sz p ∧ isS (P_w P (p + 1)) ∧ isS (P_w P (p + 1 + sz (p + 1)))) ∨
    (P_w P p = 20 ∧ C1 P p ∧ isS (P_w P (p + 1))) ∨
    (P_w P p = 21 ∧ C1 P p ∧ isS (P_w P (p + 1)) ∧ sz p = 1 + sz (p + 1)) := by
  unfold isS at hs
  rcases h with h | h | h | h | h | h | h | h | h | h | h | h | h | h | h | h
  · exfalso; have := h.1; omega
  · exfalso; have := h.1; omega
  · exfalso; have := h.2.1; omega
  · exact Or.inl (Or.inl h.1)
  · exact Or.inl (Or.inr (Or.inl h.1))
  · exact Or.inl (Or.inr (Or.inr (Or.inl h.1)))
  · exact Or.inl (Or.inr (Or.inr (Or.inr (Or.inl h.1))))
  · exact Or.inr (Or.inl ⟨h.1, h.2.1, h.2.2.1, h.2.2.2.1, h.2.2.2.2⟩)
  · exact Or.inr (Or.inr (Or.inl ⟨h.1, h.2.1, h.2.2.2.1, Or.inl h.2.2.2.2.1⟩))
  · exact Or.inr (Or.inr (Or.inl ⟨h.1, h.2.1.1, h.2.2.2.1, Or.inr ⟨h.2.1, h.2.2.2.2.1⟩⟩))
  · exact Or.inr (Or.inr (Or.inr (Or.inl ⟨h.1, h.2.1, h.2.2.2.1, h.2.2.2.2.1⟩)))
  · exact Or.inr (Or.inr (Or.inr (Or.inr (Or.inl ⟨h.1, h.2.1, h.2.2.2.1⟩))))
  · exact Or.inr (Or.inr (Or.inr (Or.inr (Or.inr (Or.inl ⟨h.1, h.2.1, h.2.2.1, h.2.2.2.1⟩)))))
  · exact Or.inl (Or.inr (Or.inr (Or.inr (Or.inr h.1))))
  · exact Or.inr (Or.inr (Or.inr (Or.inr (Or.inr (Or.inr (Or.inl ⟨h.1, h.2.1, h.2.2.1⟩))))))
  · exact Or.inr (Or.inr (Or.inr (Or.inr (Or.inr (Or.inr (Or.inr h))))))
section CNX
variable {P : PT} {sz : Int → Int} {side : Option Int} {p q : Int} {st : List FR}
/-- into a part that makes no frame -/
theorem CNS.into (h : CNS P side p st) (hu : P_u P q = p) (hp : ¬ p = -1) (hw : (P_w P p = 14 ∨ P_w P p = 15 ∨ P_w P p = 21) ∨ (P_w P p = 16 ∧ ¬ q = P_2 P p)) : CNS P side q st := by
  obtain ⟨f, h⟩ := h
  refine ⟨f + 1, ?_⟩
  simp only [CN]
  rw [hu, if_neg hp]
  rcases hw with hw | ⟨hw, hq⟩
  · rw [if_pos hw]; exact h
  · rw [if_neg (by omega), if_pos hw, if_neg hq]; exact h
theorem CNS.lim {a : Int64} (h : CNS P side p st) (hu : P_u P q = p) (hp : ¬ p = -1) (hw : P_w P p = 16) (hq : q = P_2 P p) : CNS P side q ((p, a) :: st) := by
  obtain ⟨f, h⟩ := h
  refine ⟨f + 1, ?_⟩
  simp only [CN]
  rw [hu, if_neg hp, if_neg (by omega), if_pos hw, if_pos hq]
  exact ⟨a, st, rfl, h⟩
theorem CNS.rpt {a : Int64} (h : CNS P side p st) (hu : P_u P q = p) (hp : ¬ p = -1) (hw : P_w P p = 17) (ha : 1 ≤ a) : CNS P side q ((p, a) :: st) := by
  obtain ⟨f, h⟩ := h
  refine ⟨f + 1, ?_⟩
  simp only [CN]
  rw [hu, if_neg hp, if_neg (by omega), if_neg (by omega), if_pos hw]
  exact ⟨a, st, rfl, ha, h⟩
theorem CNS.call {x : Int} {a : Int64} (h : CNS P side x st) (hu : ¬ P_u P q = -1) (hw : P_w P (P_u P q) = 20) (h0 : 0 ≤ x) (h1 : x < P_n P) (hx : P_w P x = 19) : CNS P side q ((x, a) :: st) := by
  obtain ⟨f, h⟩ := h
  refine ⟨f + 1, ?_⟩
  simp only [CN]
  rw [if_neg hu, if_neg (by omega), if_neg (by omega), if_neg (by omega), if_neg (by omega), if_pos hw]
  exact ⟨x, a, st, rfl, h0, h1, hx, h⟩
theorem CNS.sid (hu : P_u P q = p) (hp : ¬ p = -1) (hw : P_w P p = 18) : CNS P (some p) q [] := by
  refine ⟨1, ?_⟩
  simp only [CN]
  rw [hu, if_neg hp, if_neg (by omega), if_neg (by omega), if_neg (by omega), if_pos hw]
  simp
theorem CNS.root (h : P_u P q = -1) : CNS P none q [] := ⟨1, by simp [CN, h]⟩
theorem RA.cns : ∀ (f : Nat) (p : Int), RA P f p → CNS P none p [] := by
  intro f
  induction f with
  | zero => intro p h; exact h.elim
  | succ f ih =>
    intro p h
    by_cases c : P_u P p = -1
    · exact CNS.root c
    · rcases h with h | ⟨h1, h2⟩
      · exact absurd h c
      · exact (ih _ h2).into rfl c (Or.inl (Or.inl h1))
/-- what is above tells the frames -/
theorem CNS.inv (h : CNS P side p st) :
    (P_u P p = -1 ∧ st = [] ∧ side = none) ∨
    (¬ P_u P p = -1 ∧ (((P_w P (P_u P p) = 14 ∨ P_w P (P_u P p) = 15 ∨ P_w P (P_u P p) = 21) ∨ (P_w P (P_u P p) = 16 ∧ ¬ p = P_2 P (P_u P p))) ∧ CNS P side (P_u P p) st)) ∨
    (¬ P_u P p = -1 ∧ P_w P (P_u P p) = 16 ∧ p = P_2 P (P_u P p) ∧ ∃ a t, st = (P_u P p, a) :: t ∧ CNS P side (P_u P p) t) ∨
    (¬ P_u P p = -1 ∧ P_w P (P_u P p) = 17 ∧ ∃ a t, st = (P_u P p, a) :: t ∧ 1 ≤ a ∧ CNS P side (P_u P p) t) ∨
    (¬ P_u P p = -1 ∧ P_w P (P_u P p) = 18 ∧ st = [] ∧ side = some (P_u P p)) ∨
    (¬ P_u P p = -1 ∧ P_w P (P_u P p) = 20 ∧ ∃ x a t, st = (x, a) :: t ∧ 0 ≤ x ∧ x < P_n P ∧ P_w P x = 19 ∧ CNS P side x t) := by
  obtain ⟨f, h⟩ := h
  cases f with
  | zero => exact h.elim
  | succ f =>
    simp only [CN] at h
    split at h
    · rename_i c
      exact Or.inl ⟨c, h⟩
    · rename_i c
      split at h
      · rename_i c1
        exact Or.inr (Or.inl ⟨c, Or.inl c1, f, h⟩)
      · split at h
        · rename_i c2
          split at h
          · rename_i c3
            obtain ⟨a, t, e, h⟩ := h
            exact Or.inr (Or.inr (Or.inl ⟨c, c2, c3, a, t, e, f, h⟩))
          · rename_i c3
            exact Or.inr (Or.inl ⟨c, Or.inr ⟨c2, c3⟩, f, h⟩)
        · split at h
          · rename_i c2
            obtain ⟨a, t, e, e1, h⟩ := h
            exact Or.inr (Or.inr (Or.inr (Or.inl ⟨c, c2, a, t, e, e1, f, h⟩)))
          · split at h
            · rename_i c2
              exact Or.inr (Or.inr (Or.inr (Or.inr (Or.inl ⟨c, c2, h⟩))))
            · split at h
              · rename_i c2
                obtain ⟨x, a, t, e, e1, e2, e3, h⟩ := h
                exact Or.inr (Or.inr (Or.inr (Or.inr (Or.inr ⟨c, c2, x, a, t, e, e1, e2, e3, f, h⟩))))
              · exact h.elim
end CNX
