/-! THE CLASS'S leaf AND node -/
section CNH
variable {o : X_O} {T : PT} {s : Q_S} {i w a b c : Int} {v : Int64}
/-- what fits is what is kept -/
theorem nd_fit (w0 : 0 ≤ w) (w1 : w < 22) : (ndA T w a b c).isSome = (decide (¬ wnt w 0 = 0) && fitA T (wnt w 0) a && fitA T (wnt w 1) b && fitA T (wnt w 2) c) := by
  rcases (by omega : w = 0 ∨ w = 1 ∨ w = 2 ∨ w = 3 ∨ w = 4 ∨ w = 5 ∨ w = 6 ∨ w = 7 ∨ w = 8 ∨ w = 9 ∨ w = 10 ∨ w = 11 ∨ w = 12 ∨ w = 13 ∨ w = 14 ∨ w = 15 ∨ w = 16 ∨ w = 17 ∨ w = 18 ∨ w = 19 ∨ w = 20 ∨ w = 21) with rfl | rfl | rfl | rfl | rfl | rfl | rfl | rfl | rfl | rfl | rfl | rfl | rfl | rfl | rfl | rfl | rfl | rfl | rfl | rfl | rfl | rfl
  · rw [show wnt 0 0 = 1 by decide, show wnt 0 1 = 1 by decide, show wnt 0 2 = 0 by decide]
    show (if (eE T a && eE T b) = true then some (0, a, b, -1) else none : Option (Int × Int × Int × Int)).isSome = (true && eE T a && eE T b && true)
    generalize eE T a = x0
    generalize eE T b = x1
    cases x0 <;> cases x1 <;> rfl
  · rw [show wnt 1 0 = 1 by decide, show wnt 1 1 = 1 by decide, show wnt 1 2 = 0 by decide]
    show (if (eE T a && eE T b) = true then some (0, a, b, -1) else none : Option (Int × Int × Int × Int)).isSome = (true && eE T a && eE T b && true)
    generalize eE T a = x0
    generalize eE T b = x1
    cases x0 <;> cases x1 <;> rfl
  · rw [show wnt 2 0 = 1 by decide, show wnt 2 1 = 1 by decide, show wnt 2 2 = 0 by decide]
    show (if (eE T a && eE T b) = true then some (0, a, b, -1) else none : Option (Int × Int × Int × Int)).isSome = (true && eE T a && eE T b && true)
    generalize eE T a = x0
    generalize eE T b = x1
    cases x0 <;> cases x1 <;> rfl
  · rw [show wnt 3 0 = 1 by decide, show wnt 3 1 = 1 by decide, show wnt 3 2 = 0 by decide]
    show (if (eE T a && eE T b) = true then some (0, a, b, -1) else none : Option (Int × Int × Int × Int)).isSome = (true && eE T a && eE T b && true)
    generalize eE T a = x0
    generalize eE T b = x1
    cases x0 <;> cases x1 <;> rfl
  · rw [show wnt 4 0 = 1 by decide, show wnt 4 1 = 1 by decide, show wnt 4 2 = 0 by decide]
    show (if (eE T a && eE T b) = true then some (0, a, b, -1) else none : Option (Int × Int × Int × Int)).isSome = (true && eE T a && eE T b && true)
    generalize eE T a = x0
    generalize eE T b = x1
    cases x0 <;> cases x1 <;> rfl
  · rw [show wnt 5 0 = 1 by decide, show wnt 5 1 = 1 by decide, show wnt 5 2 = 0 by decide]
    show (if (eE T a && eE T b) = true then some (0, a, b, -1) else none : Option (Int × Int × Int × Int)).isSome = (true && eE T a && eE T b && true)
    generalize eE T a = x0
    generalize eE T b = x1
    cases x0 <;> cases x1 <;> rfl
  · rw [show wnt 6 0 = 1 by decide, show wnt 6 1 = 0 by decide, show wnt 6 2 = 0 by decide]
    show (if (eE T a) = true then some (0, a, -1, -1) else none : Option (Int × Int × Int × Int)).isSome = (true && eE T a && true && true)
    generalize eE T a = x0
    cases x0 <;> rfl
  · rw [show wnt 7 0 = 0 by decide]
    rfl
  · rw [show wnt 8 0 = 0 by decide]
    rfl
  · rw [show wnt 9 0 = 0 by decide]
    rfl
  · rw [show wnt 10 0 = 4 by decide, show wnt 10 1 = 1 by decide, show wnt 10 2 = 0 by decide]
    show (if (i8 8 a && eE T b) = true then some (a, b, -1, -1) else none : Option (Int × Int × Int × Int)).isSome = (true && i8 8 a && eE T b && true)
    generalize i8 8 a = x0
    generalize eE T b = x1
    cases x0 <;> cases x1 <;> rfl
  · rw [show wnt 11 0 = 5 by decide, show wnt 11 1 = 1 by decide, show wnt 11 2 = 0 by decide]
    show (if (i8 16 a && eE T b) = true then some (a, b, -1, -1) else none : Option (Int × Int × Int × Int)).isSome = (true && i8 16 a && eE T b && true)
    generalize i8 16 a = x0
    generalize eE T b = x1
    cases x0 <;> cases x1 <;> rfl
  · rw [show wnt 12 0 = 1 by decide, show wnt 12 1 = 0 by decide, show wnt 12 2 = 0 by decide]
    show (if (eE T a) = true then some (0, a, -1, -1) else none : Option (Int × Int × Int × Int)).isSome = (true && eE T a && true && true)
    generalize eE T a = x0
    cases x0 <;> rfl
  · rw [show wnt 13 0 = 4 by decide, show wnt 13 1 = 1 by decide, show wnt 13 2 = 1 by decide]
    show (if (i8 8 a && eE T b && eE T c) = true then some (a, b, c, -1) else none : Option (Int × Int × Int × Int)).isSome = (true && i8 8 a && eE T b && eE T c)
    generalize i8 8 a = x0
    generalize eE T b = x1
    generalize eE T c = x2
    cases x0 <;> cases x1 <;> cases x2 <;> rfl
  · rw [show wnt 14 0 = 2 by decide, show wnt 14 1 = 2 by decide, show wnt 14 2 = 0 by decide]
    show (if (eS T a && eS T b) = true then some (0, a, b, -1) else none : Option (Int × Int × Int × Int)).isSome = (true && eS T a && eS T b && true)
    generalize eS T a = x0
    generalize eS T b = x1
    cases x0 <;> cases x1 <;> rfl
  · rw [show wnt 15 0 = 1 by decide, show wnt 15 1 = 2 by decide, show wnt 15 2 = 3 by decide]
    show (if (eE T a && eS T b && (decide (c = -1) || eS T c)) = true then some (0, a, b, c) else none : Option (Int × Int × Int × Int)).isSome = (true && eE T a && eS T b && (decide (c = -1) || eS T c))
    generalize eE T a = x0
    generalize eS T b = x1
    generalize (decide (c = -1) || eS T c) = x2
    cases x0 <;> cases x1 <;> cases x2 <;> rfl
  · rw [show wnt 16 0 = 1 by decide, show wnt 16 1 = 2 by decide, show wnt 16 2 = 2 by decide]
    show (if (eE T a && eS T b && eS T c) = true then some (0, a, b, c) else none : Option (Int × Int × Int × Int)).isSome = (true && eE T a && eS T b && eS T c)
    generalize eE T a = x0
    generalize eS T b = x1
    generalize eS T c = x2
    cases x0 <;> cases x1 <;> cases x2 <;> rfl
  · rw [show wnt 17 0 = 1 by decide, show wnt 17 1 = 2 by decide, show wnt 17 2 = 0 by decide]
    show (if (eE T a && eS T b) = true then some (0, a, b, -1) else none : Option (Int × Int × Int × Int)).isSome = (true && eE T a && eS T b && true)
    generalize eE T a = x0
    generalize eS T b = x1
    cases x0 <;> cases x1 <;> rfl
  · rw [show wnt 18 0 = 2 by decide, show wnt 18 1 = 2 by decide, show wnt 18 2 = 0 by decide]
    show (if (eS T a && eS T b) = true then some (0, a, b, -1) else none : Option (Int × Int × Int × Int)).isSome = (true && eS T a && eS T b && true)
    generalize eS T a = x0
    generalize eS T b = x1
    cases x0 <;> cases x1 <;> rfl
  · rw [show wnt 19 0 = 6 by decide, show wnt 19 1 = 0 by decide, show wnt 19 2 = 0 by decide]
    show (if (i8 8 a) = true then some (a, -1, -1, -1) else none : Option (Int × Int × Int × Int)).isSome = (true && i8 8 a && true && true)
    generalize i8 8 a = x0
    cases x0 <;> rfl
  · rw [show wnt 20 0 = 6 by decide, show wnt 20 1 = 2 by decide, show wnt 20 2 = 0 by decide]
    show (if (i8 8 a && eS T b) = true then some (a, b, -1, -1) else none : Option (Int × Int × Int × Int)).isSome = (true && i8 8 a && eS T b && true)
    generalize i8 8 a = x0
    generalize eS T b = x1
    cases x0 <;> cases x1 <;> rfl
  · rw [show wnt 21 0 = 2 by decide, show wnt 21 1 = 0 by decide, show wnt 21 2 = 0 by decide]
    show (if (eS T a) = true then some (0, a, -1, -1) else none : Option (Int × Int × Int × Int)).isSome = (true && eS T a && true && true)
    generalize eS T a = x0
    cases x0 <;> rfl
theorem nd_w (h : ¬ (0 ≤ w ∧ w < 22)) : ndA T w a b c = none := by
  unfold ndA
  repeat rw [if_neg (by omega)]
theorem o64 {x : Int} (h : 0 ≤ x ∧ x < 16) : (Int64.ofInt x).toInt = x := Int64.toInt_ofInt_of_le (by omega) (by omega)
theorem i8_p {n : Int} (h : i8 n a = true) (hn : n ≤ 16) : rgI (Int64.ofInt a) n := by
  have h := of_decide_eq_true h
  unfold rgI
  rw [o64 (by omega)]
  exact h
theorem and2 {x y : Bool} (h : (x && y) = true) : x = true ∧ y = true := by
  cases x <;> cases y <;> first | exact ⟨rfl, rfl⟩ | exact absurd h (by decide)
/-- what is kept is a node -/
theorem NK_new (hV : NV T) {r : Int × Int × Int × Int} (h : ndA T w a b c = some r) : NK (addN T w (Int64.ofInt r.1) r.2.1 r.2.2.1 r.2.2.2) (P_n T) := by
  have hw : 0 ≤ w ∧ w < 22 := by
    by_cases z : 0 ≤ w ∧ w < 22
    · exact z
    · rw [nd_w z] at h; cases h
  have E : ∀ {j x : Int} {y : Int64} {p q u : Int}, eE T j = true → pE (addN T x y p q u) (P_n T) j := fun h => pE_add (eE_p hV h) (Int.le_refl _)
  have S : ∀ {j x : Int} {y : Int64} {p q u : Int}, eS T j = true → pT (addN T x y p q u) (P_n T) j := fun h => pT_add (eS_p hV h) (Int.le_refl _)
  obtain ⟨e0, e4, e1, e2, e3⟩ := add_s (T := T) (w := w) (v := Int64.ofInt r.1) (a := r.2.1) (b := r.2.2.1) (c := r.2.2.2)
  unfold NK
  rw [e0, e4, e1, e2, e3]
  clear e0 e4 e1 e2 e3
  rcases (by omega : w = 0 ∨ w = 1 ∨ w = 2 ∨ w = 3 ∨ w = 4 ∨ w = 5 ∨ w = 6 ∨ w = 7 ∨ w = 8 ∨ w = 9 ∨ w = 10 ∨ w = 11 ∨ w = 12 ∨ w = 13 ∨ w = 14 ∨ w = 15 ∨ w = 16 ∨ w = 17 ∨ w = 18 ∨ w = 19 ∨ w = 20 ∨ w = 21) with rfl | rfl | rfl | rfl | rfl | rfl | rfl | rfl | rfl | rfl | rfl | rfl | rfl | rfl | rfl | rfl | rfl | rfl | rfl | rfl | rfl | rfl
  · have h : (if (eE T a && eE T b) = true then some (0, a, b, -1) else none : Option (Int × Int × Int × Int)) = some r := h
    by_cases z : (eE T a && eE T b) = true
    · rw [if_pos z] at h
      have h := (Option.some.inj h).symm
      subst h
      obtain ⟨z1, z2⟩ := and2 z
      exact Or.inr (Or.inr (Or.inl ⟨⟨by decide, by decide⟩, E z1, E z2, rfl, rfl⟩))
    · rw [if_neg z] at h; cases h
  · have h : (if (eE T a && eE T b) = true then some (0, a, b, -1) else none : Option (Int × Int × Int × Int)) = some r := h
    by_cases z : (eE T a && eE T b) = true
    · rw [if_pos z] at h
      have h := (Option.some.inj h).symm
      subst h
      obtain ⟨z1, z2⟩ := and2 z
      exact Or.inr (Or.inr (Or.inl ⟨⟨by decide, by decide⟩, E z1, E z2, rfl, rfl⟩))
    · rw [if_neg z] at h; cases h
  · have h : (if (eE T a && eE T b) = true then some (0, a, b, -1) else none : Option (Int × Int × Int × Int)) = some r := h
    by_cases z : (eE T a && eE T b) = true
    · rw [if_pos z] at h
      have h := (Option.some.inj h).symm
      subst h
      obtain ⟨z1, z2⟩ := and2 z
      exact Or.inr (Or.inr (Or.inl ⟨⟨by decide, by decide⟩, E z1, E z2, rfl, rfl⟩))
    · rw [if_neg z] at h; cases h
  · have h : (if (eE T a && eE T b) = true then some (0, a, b, -1) else none : Option (Int × Int × Int × Int)) = some r := h
    by_cases z : (eE T a && eE T b) = true
    · rw [if_pos z] at h
      have h := (Option.some.inj h).symm
      subst h
      obtain ⟨z1, z2⟩ := and2 z
      exact Or.inr (Or.inr (Or.inl ⟨⟨by decide, by decide⟩, E z1, E z2, rfl, rfl⟩))
    · rw [if_neg z] at h; cases h
  · have h : (if (eE T a && eE T b) = true then some (0, a, b, -1) else none : Option (Int × Int × Int × Int)) = some r := h
    by_cases z : (eE T a && eE T b) = true
    · rw [if_pos z] at h
      have h := (Option.some.inj h).symm
      subst h
      obtain ⟨z1, z2⟩ := and2 z
      exact Or.inr (Or.inr (Or.inl ⟨⟨by decide, by decide⟩, E z1, E z2, rfl, rfl⟩))
    · rw [if_neg z] at h; cases h
  · have h : (if (eE T a && eE T b) = true then some (0, a, b, -1) else none : Option (Int × Int × Int × Int)) = some r := h
    by_cases z : (eE T a && eE T b) = true
    · rw [if_pos z] at h
      have h := (Option.some.inj h).symm
      subst h
      obtain ⟨z1, z2⟩ := and2 z
      exact Or.inr (Or.inr (Or.inl ⟨⟨by decide, by decide⟩, E z1, E z2, rfl, rfl⟩))
    · rw [if_neg z] at h; cases h
  · have h : (if (eE T a) = true then some (0, a, -1, -1) else none : Option (Int × Int × Int × Int)) = some r := h
    by_cases z : (eE T a) = true
    · rw [if_pos z] at h
      have h := (Option.some.inj h).symm
      subst h
      have z1 := z
      exact Or.inr (Or.inl ⟨Or.inl rfl, E z1, rfl, rfl, rfl⟩)
    · rw [if_neg z] at h; cases h
  · exact absurd (show (none : Option (Int × Int × Int × Int)) = some r from h) (by intro z; cases z)
  · exact absurd (show (none : Option (Int × Int × Int × Int)) = some r from h) (by intro z; cases z)
  · exact absurd (show (none : Option (Int × Int × Int × Int)) = some r from h) (by intro z; cases z)
  · have h : (if (i8 8 a && eE T b) = true then some (a, b, -1, -1) else none : Option (Int × Int × Int × Int)) = some r := h
    by_cases z : (i8 8 a && eE T b) = true
    · rw [if_pos z] at h
      have h := (Option.some.inj h).symm
      subst h
      obtain ⟨z1, z2⟩ := and2 z
      exact Or.inr (Or.inr (Or.inr (Or.inl ⟨rfl, E z2, rfl, rfl, i8_p z1 (by decide)⟩)))
    · rw [if_neg z] at h; cases h
  · have h : (if (i8 16 a && eE T b) = true then some (a, b, -1, -1) else none : Option (Int × Int × Int × Int)) = some r := h
    by_cases z : (i8 16 a && eE T b) = true
    · rw [if_pos z] at h
      have h := (Option.some.inj h).symm
      subst h
      obtain ⟨z1, z2⟩ := and2 z
      exact Or.inr (Or.inr (Or.inr (Or.inr (Or.inl ⟨rfl, E z2, rfl, rfl, i8_p z1 (by decide)⟩))))
    · rw [if_neg z] at h; cases h
  · have h : (if (eE T a) = true then some (0, a, -1, -1) else none : Option (Int × Int × Int × Int)) = some r := h
    by_cases z : (eE T a) = true
    · rw [if_pos z] at h
      have h := (Option.some.inj h).symm
      subst h
      have z1 := z
      exact Or.inr (Or.inl ⟨Or.inr rfl, E z1, rfl, rfl, rfl⟩)
    · rw [if_neg z] at h; cases h
  · have h : (if (i8 8 a && eE T b && eE T c) = true then some (a, b, c, -1) else none : Option (Int × Int × Int × Int)) = some r := h
    by_cases z : (i8 8 a && eE T b && eE T c) = true
    · rw [if_pos z] at h
      have h := (Option.some.inj h).symm
      subst h
      obtain ⟨z12, z3⟩ := and2 z
      obtain ⟨z1, z2⟩ := and2 z12
      exact Or.inr (Or.inr (Or.inr (Or.inr (Or.inr (Or.inl ⟨rfl, E z2, E z3, rfl, i8_p z1 (by decide)⟩)))))
    · rw [if_neg z] at h; cases h
  · have h : (if (eS T a && eS T b) = true then some (0, a, b, -1) else none : Option (Int × Int × Int × Int)) = some r := h
    by_cases z : (eS T a && eS T b) = true
    · rw [if_pos z] at h
      have h := (Option.some.inj h).symm
      subst h
      obtain ⟨z1, z2⟩ := and2 z
      exact Or.inr (Or.inr (Or.inr (Or.inr (Or.inr (Or.inr (Or.inl ⟨Or.inl rfl, S z1, S z2, rfl, rfl⟩))))))
    · rw [if_neg z] at h; cases h
  · have h : (if (eE T a && eS T b && (decide (c = -1) || eS T c)) = true then some (0, a, b, c) else none : Option (Int × Int × Int × Int)) = some r := h
    by_cases z : (eE T a && eS T b && (decide (c = -1) || eS T c)) = true
    · rw [if_pos z] at h
      have h := (Option.some.inj h).symm
      subst h
      obtain ⟨z12, z3⟩ := and2 z
      obtain ⟨z1, z2⟩ := and2 z12
      exact Or.inr (Or.inr (Or.inr (Or.inr (Or.inr (Or.inr (Or.inr (Or.inl ⟨rfl, E z1, S z2, (Bool.or_eq_true _ _ ▸ z3).imp of_decide_eq_true S, rfl⟩)))))))
    · rw [if_neg z] at h; cases h
  · have h : (if (eE T a && eS T b && eS T c) = true then some (0, a, b, c) else none : Option (Int × Int × Int × Int)) = some r := h
    by_cases z : (eE T a && eS T b && eS T c) = true
    · rw [if_pos z] at h
      have h := (Option.some.inj h).symm
      subst h
      obtain ⟨z12, z3⟩ := and2 z
      obtain ⟨z1, z2⟩ := and2 z12
      exact Or.inr (Or.inr (Or.inr (Or.inr (Or.inr (Or.inr (Or.inr (Or.inr (Or.inl ⟨rfl, E z1, S z2, S z3, rfl⟩))))))))
    · rw [if_neg z] at h; cases h
  · have h : (if (eE T a && eS T b) = true then some (0, a, b, -1) else none : Option (Int × Int × Int × Int)) = some r := h
    by_cases z : (eE T a && eS T b) = true
    · rw [if_pos z] at h
      have h := (Option.some.inj h).symm
      subst h
      obtain ⟨z1, z2⟩ := and2 z
      exact Or.inr (Or.inr (Or.inr (Or.inr (Or.inr (Or.inr (Or.inr (Or.inr (Or.inr (Or.inl ⟨rfl, E z1, S z2, rfl, rfl⟩)))))))))
    · rw [if_neg z] at h; cases h
  · have h : (if (eS T a && eS T b) = true then some (0, a, b, -1) else none : Option (Int × Int × Int × Int)) = some r := h
    by_cases z : (eS T a && eS T b) = true
    · rw [if_pos z] at h
      have h := (Option.some.inj h).symm
      subst h
      obtain ⟨z1, z2⟩ := and2 z
      exact Or.inr (Or.inr (Or.inr (Or.inr (Or.inr (Or.inr (Or.inl ⟨Or.inr rfl, S z1, S z2, rfl, rfl⟩))))))
    · rw [if_neg z] at h; cases h
  · have h : (if (i8 8 a) = true then some (a, -1, -1, -1) else none : Option (Int × Int × Int × Int)) = some r := h
    by_cases z : (i8 8 a) = true
    · rw [if_pos z] at h
      have h := (Option.some.inj h).symm
      subst h
      have z1 := z
      exact Or.inr (Or.inr (Or.inr (Or.inr (Or.inr (Or.inr (Or.inr (Or.inr (Or.inr (Or.inr (Or.inl ⟨rfl, rfl, rfl, rfl, i8_p z1 (by decide)⟩))))))))))
    · rw [if_neg z] at h; cases h
  · have h : (if (i8 8 a && eS T b) = true then some (a, b, -1, -1) else none : Option (Int × Int × Int × Int)) = some r := h
    by_cases z : (i8 8 a && eS T b) = true
    · rw [if_pos z] at h
      have h := (Option.some.inj h).symm
      subst h
      obtain ⟨z1, z2⟩ := and2 z
      exact Or.inr (Or.inr (Or.inr (Or.inr (Or.inr (Or.inr (Or.inr (Or.inr (Or.inr (Or.inr (Or.inr (Or.inl ⟨rfl, S z2, rfl, rfl, i8_p z1 (by decide)⟩)))))))))))
    · rw [if_neg z] at h; cases h
  · have h : (if (eS T a) = true then some (0, a, -1, -1) else none : Option (Int × Int × Int × Int)) = some r := h
    by_cases z : (eS T a) = true
    · rw [if_pos z] at h
      have h := (Option.some.inj h).symm
      subst h
      have z1 := z
      exact Or.inr (Or.inr (Or.inr (Or.inr (Or.inr (Or.inr (Or.inr (Or.inr (Or.inr (Or.inr (Or.inr (Or.inr (⟨rfl, S z1, rfl, rfl, rfl⟩))))))))))))
    · rw [if_neg z] at h; cases h
theorem NV_add (hV : NV T) (h0 : 0 ≤ P_n T) (h : NK (addN T w v a b c) (P_n T)) : NV (addN T w v a b c) := by
  intro i i0 i1
  have i1 : i < P_n T + 1 := i1
  by_cases z : i = P_n T
  · rw [z]; exact h
  · exact NK_add (hV i i0 (by omega)) (by omega)
theorem NK_leaf (hi : 0 ≤ i ∧ i ≤ 2) (hv : i = 0 ∨ rgI v 16) : NK (addN T (100 + i) v (-1) (-1) (-1)) (P_n T) := by
  obtain ⟨e0, e4, e1, e2, e3⟩ := add_s (T := T) (w := 100 + i) (v := v) (a := -1) (b := -1) (c := -1)
  unfold NK
  rw [e0, e4, e1, e2, e3]
  exact Or.inl ⟨by omega, by omega, rfl, rfl, rfl, fun z => hv.elim (fun y => absurd (by omega : 100 + i = 100) z) id⟩
/-- the class's rows, one more -/
theorem NRc.add {s' : Q_S} (h : NRc T s) (hV : NV T) (hn : P_n T < 300) (h4 : q_F s' 1 4 = P_n T + 1) (o2 : ∀ i, i ≠ P_n T → q_I s' 2 i = q_I s 2 i ∧ q_I s' 5 i = q_I s 5 i ∧ q_L s' 4 i = q_L s 4 i) (o3 : ∀ j, j < P_n T * 3 → q_I s' 3 j = q_I s 3 j) (hr : NCr (addN T w v a b c) s' (P_n T)) (h5 : q_I s' 5 (P_n T) = m501 (nsz (addN T w v a b c) 301 (P_n T))) : NRc (addN T w v a b c) s' := by
  obtain ⟨n0, n1, n2, n3, n4⟩ := h
  have en : P_n (addN T w v a b c) = P_n T + 1 := rfl
  refine ⟨by omega, by omega, h4, fun i i0 i1 => ?_, fun i i0 i1 => ?_⟩
  · rw [en] at i1
    by_cases z : i = P_n T
    · rw [z]; exact ⟨hr, h5⟩
    · obtain ⟨⟨r1, r2, r3, r4, r5⟩, r6⟩ := n3 i i0 (by omega)
      obtain ⟨y1, y2, y3⟩ := o2 i z
      obtain ⟨e0, e4, e1, e2, e3⟩ := add_o (T := T) (w := w) (v := v) (a := a) (b := b) (c := c) z
      have ep : ∀ j, prt (addN T w v a b c) i j = prt T i j := fun j => by unfold prt; rw [e0, e1, e2, e3]
      refine ⟨⟨by rw [y1, e0]; exact r1, fun j j0 j3 hj => ?_, fun hw => ?_, fun hw => ?_, fun hw => ?_⟩, by rw [y2, nsz_add hV 301 i i0 (by omega)]; exact r6⟩
      · rw [ep] at hj ⊢
        rw [o3 _ (by omega)]
        exact r2 j j0 j3 hj
      · rw [e0] at hw
        rw [e3, o3 _ (by omega)]
        exact r3 hw
      · rw [e0] at hw
        rw [e4, o3 _ (by omega)]
        exact r4 hw
      · rw [e0] at hw
        rw [e4, y3]
        exact r5 hw
  · rw [en] at i0
    rw [(o2 i (by omega)).2.2]
    exact n4 i (by omega) i1
def cLf (s : Q_S) (k : Int) (v : Int64) : Q_S := q_sf (q_si (q_sl (q_si s 2 (q_F s 1 4) k) 4 (q_F s 1 4) v) 5 (q_F s 1 4) 1) 1 4 (q_F s 1 4 + 1)
theorem d_20 (hs : SH s) (hn : 0 ≤ q_F s 1 4 ∧ q_F s 1 4 ≤ 300) (hi : q_in i) : QW (fun n => g_20 o n 0 s 1 i v 0 0 0) (fun q => q = if (0 ≤ i ∧ i ≤ 2) ∧ (i = 0 ∨ (0 ≤ v ∧ v ≤ 15)) then (if q_F s 1 4 = 300 then (s, -2) else (cLf s (30 + i) v, q_F s 1 4)) else (s, -1)) := by
  generalize hr : (if (0 ≤ i ∧ i ≤ 2) ∧ (i = 0 ∨ (0 ≤ v ∧ v ≤ 15)) then (if q_F s 1 4 = 300 then (s, -2) else (cLf s (30 + i) v, q_F s 1 4)) else (s, -1)) = r
  have K1 : ¬ ((0 ≤ i ∧ i ≤ 2) ∧ (i = 0 ∨ (0 ≤ v ∧ v ≤ 15))) → QW (fun n => g_20 o n 1 s 0 0 0 0 0 0) (fun q => q = r) := fun z => by
    rw [if_neg z] at hr
    refine QW_s ?_
    simp only [g_20]
    exact QW_ret hr
  have K3 : ¬ ((0 ≤ i ∧ i ≤ 2) ∧ (i = 0 ∨ (0 ≤ v ∧ v ≤ 15))) → QW (fun n => g_20 o n 3 s 0 0 0 0 0 0) (fun q => q = r) := fun z => by
    rw [if_neg z] at hr
    refine QW_s ?_
    simp only [g_20]
    exact QW_ret hr
  have K4 : ((0 ≤ i ∧ i ≤ 2) ∧ (i = 0 ∨ (0 ≤ v ∧ v ≤ 15))) → QW (fun n => g_20 o n 4 s 1 0 v (30 + i) 0 0) (fun q => q = r) := fun z => by
    rw [if_pos z] at hr
    refine QW_s ?_
    simp only [g_20]
    refine QW_p (k_gi (hs _ _ rfl) rfl) ?_
    refine QW_g (by unfold q_in; omega) ?_
    refine QW_by (fun y => ?_) (fun y => ?_)
    · rw [if_neg (show ¬ q_F s 1 4 = 300 by omega)] at hr
      refine QW_p (k_gv (hs _ _ rfl) rfl rfl) ?_
      refine QW_p (k_gi (hs _ _ rfl) rfl) ?_
      refine QW_p (k_is (hs _ _ rfl) (by omega) (by omega) (by decide)) ?_
      refine QW_p (k_gv (hs _ _ rfl) rfl rfl) ?_
      refine QW_p (k_gi (hs _ _ rfl) rfl) ?_
      rw [show q_F (q_si s 2 (q_F s 1 4) (30 + i)) 1 4 = q_F s 1 4 by rw [q_F_si, if_neg (fun z => absurd z.1 (by decide))]]
      refine QW_p (k_ls (hs _ _ rfl) (by omega) (by omega) (by decide)) ?_
      refine QW_p (k_gv (hs _ _ rfl) rfl rfl) ?_
      refine QW_p (k_gi (hs _ _ rfl) rfl) ?_
      rw [show q_F (q_sl (q_si s 2 (q_F s 1 4) (30 + i)) 4 (q_F s 1 4) v) 1 4 = q_F s 1 4 by rw [q_F_sl, q_F_si, if_neg (fun z => absurd z.1 (by decide))]]
      refine QW_p (k_is (hs _ _ rfl) (by omega) (by omega) (by decide)) ?_
      refine QW_p (k_gi (hs _ _ rfl) rfl) ?_
      rw [show q_F (q_si (q_sl (q_si s 2 (q_F s 1 4) (30 + i)) 4 (q_F s 1 4) v) 5 (q_F s 1 4) 1) 1 4 = q_F s 1 4 by rw [q_F_si, if_neg (fun z => absurd z.1 (by decide)), q_F_sl, q_F_si, if_neg (fun z => absurd z.1 (by decide))]]
      refine QW_p (k_pi (hs _ _ rfl) rfl rfl) ?_
      refine QW_p (k_gi (hs _ _ rfl) rfl) ?_
      rw [q_F_sf, if_pos ⟨rfl, rfl⟩]
      refine QW_ret ?_
      rw [← hr]
      unfold cLf
      rw [show q_F s 1 4 + 1 - 1 = q_F s 1 4 by omega]
    · rw [if_pos (show q_F s 1 4 = 300 by omega)] at hr
      exact QW_ret hr
  have K2 : (0 ≤ i ∧ i ≤ 2) → ¬ i = 0 → 0 ≤ v → QW (fun n => g_20 o n 2 s 1 0 v (30 + i) v 16) (fun q => q = r) := fun z y x => by
    refine QW_s ?_
    simp only [g_20]
    refine QW_g (by decide) ?_
    have e16 : (Int64.ofInt 16) = 16 := rfl
    have lt : v < Int64.ofInt 16 ↔ v ≤ 15 := by
      rw [e16, Int64.lt_iff_toInt_lt, Int64.le_iff_toInt_le]
      have e1 : (16 : Int64).toInt = 16 := rfl
      have e2 : (15 : Int64).toInt = 15 := rfl
      omega
    refine QW_by (fun u => K4 ⟨z, Or.inr ⟨x, lt.mp u⟩⟩) (fun u => K3 (fun t => ?_))
    rcases t.2 with t | t
    · exact y t
    · exact u (lt.mpr t.2)
  refine QW_s ?_
  simp only [g_20]
  refine QW_g hi ?_
  refine QW_by (fun c1 => K1 (fun z => by omega)) (fun c1 => ?_)
  refine QW_g hi ?_
  refine QW_by (fun c2 => ?_) (fun c2 => K1 (fun z => by omega))
  refine QW_g (by unfold q_in; omega) ?_
  refine QW_by (fun c3 => K4 ⟨by omega, Or.inl (by omega)⟩) (fun c3 => ?_)
  refine QW_by (fun c4 => K3 (fun z => ?_)) (fun c4 => ?_)
  · rcases z.2 with y | y
    · omega
    · exact absurd y.1 (Int64.not_le.mpr c4)
  · refine QW_g (by unfold q_in; omega) ?_
    exact QW_by (fun c5 => K2 (by omega) (by omega) (Int64.not_lt.mp c4)) (fun c5 => K2 (by omega) (by omega) (Int64.not_lt.mp c4))
end CNH
