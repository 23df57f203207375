/-! THE ABSTRACT PROGRAM: how many places, what stands there, its number, its parts, what is above; and what an expression is worth -/
abbrev PT : Type := Int × (Int → Int) × (Int → Int64) × (Int → Int) × (Int → Int) × (Int → Int) × (Int → Int)
def P_n (P : PT) : Int := P.1
def P_w (P : PT) : Int → Int := P.2.1
def P_v (P : PT) : Int → Int64 := P.2.2.1
def P_1 (P : PT) : Int → Int := P.2.2.2.1
def P_2 (P : PT) : Int → Int := P.2.2.2.2.1
def P_3 (P : PT) : Int → Int := P.2.2.2.2.2.1
def P_u (P : PT) : Int → Int := P.2.2.2.2.2.2
def tbl (x : Int) : Int := if x = 0 then 1 else if x = 1 then 2 else if x = 2 then 3 else if x = 3 then 5 else if x = 4 then 8 else if x = 5 then 13 else if x = 6 then 21 else if x = 7 then 34 else if x = 8 then 55 else 89
def opA (w : Int) (x y : Int64) (p : Int) : Int64 ⊕ (Int × Int) :=
  if w = 0 then .inl (x + y) else if w = 1 then .inl (x - y) else if w = 2 then .inl (x * y) else if w = 3 then (if y = 0 then .inr (1, p) else .inl (x / y)) else if w = 4 then .inl (if x < y then 1 else 0) else .inl (if x = y then 1 else 0)
/-- an expression's worth, or its first fault and where; the first number is more than its places -/
def ev (P : PT) (sig val : Int → Int64) : Nat → Int → Int64 ⊕ (Int × Int)
  | 0, _ => .inl 0
  | f + 1, p =>
    if P_w P p = 100 then .inl (P_v P p)
    else if P_w P p = 101 then .inl (sig (P_v P p).toInt)
    else if P_w P p = 102 then .inl (val (P_v P p).toInt)
    else match ev P sig val f (P_1 P p) with
      | .inr x => .inr x
      | .inl x =>
        if P_w P p = 6 then (if x < 0 ∨ 9 < x then .inr (2, p) else .inl (Int64.ofInt (tbl x.toInt)))
        else match ev P sig val f (P_2 P p) with
          | .inr y => .inr y
          | .inl y => opA (P_w P p) x y p
def isE (w : Int) : Prop := (0 ≤ w ∧ w ≤ 6) ∨ (100 ≤ w ∧ w ≤ 102)
def isS (w : Int) : Prop := 10 ≤ w ∧ w ≤ 21
/-- a part, two, three, in their places -/
def C1 (P : PT) (p : Int) : Prop := P_1 P p = p + 1 ∧ P_u P (p + 1) = p ∧ p + 1 < P_n P
def C2 (P : PT) (sz : Int → Int) (p : Int) : Prop := C1 P p ∧ P_2 P p = p + 1 + sz (p + 1) ∧ P_u P (p + 1 + sz (p + 1)) = p ∧ p + 1 + sz (p + 1) < P_n P
def C3 (P : PT) (sz : Int → Int) (p : Int) : Prop := C2 P sz p ∧ P_3 P p = p + 1 + sz (p + 1) + sz (p + 1 + sz (p + 1)) ∧ P_u P (p + 1 + sz (p + 1) + sz (p + 1 + sz (p + 1))) = p ∧ p + 1 + sz (p + 1) + sz (p + 1 + sz (p + 1)) < P_n P
def rgI (x : Int64) (n : Int) : Prop := 0 ≤ x.toInt ∧ x.toInt < n
/-- a place's kind says what its parts are -/
def WK (P : PT) (sz : Int → Int) (p : Int) : Prop :=
  (100 ≤ P_w P p ∧ P_w P p ≤ 102 ∧ sz p = 1 ∧ (P_w P p ≠ 100 → rgI (P_v P p) 16)) ∨
  (P_w P p = 6 ∧ C1 P p ∧ isE (P_w P (p + 1)) ∧ sz p = 1 + sz (p + 1)) ∨
  (0 ≤ P_w P p ∧ P_w P p ≤ 5 ∧ C2 P sz p ∧ isE (P_w P (p + 1)) ∧ isE (P_w P (p + 1 + sz (p + 1))) ∧ sz p = 1 + sz (p + 1) + sz (p + 1 + sz (p + 1))) ∨
  (P_w P p = 10 ∧ C1 P p ∧ isE (P_w P (p + 1)) ∧ rgI (P_v P p) 8 ∧ sz p = 1 + sz (p + 1)) ∨
  (P_w P p = 11 ∧ C1 P p ∧ isE (P_w P (p + 1)) ∧ rgI (P_v P p) 16 ∧ sz p = 1 + sz (p + 1)) ∨
  (P_w P p = 12 ∧ C1 P p ∧ isE (P_w P (p + 1)) ∧ sz p = 1 + sz (p + 1)) ∨
  (P_w P p = 13 ∧ C2 P sz p ∧ isE (P_w P (p + 1)) ∧ isE (P_w P (p + 1 + sz (p + 1))) ∧ rgI (P_v P p) 8 ∧ sz p = 1 + sz (p + 1) + sz (p + 1 + sz (p + 1))) ∨
  (P_w P p = 14 ∧ C2 P sz p ∧ isS (P_w P (p + 1)) ∧ isS (P_w P (p + 1 + sz (p + 1))) ∧ sz p = 1 + sz (p + 1) + sz (p + 1 + sz (p + 1))) ∨
  (P_w P p = 15 ∧ C2 P sz p ∧ isE (P_w P (p + 1)) ∧ isS (P_w P (p + 1 + sz (p + 1))) ∧ P_3 P p = -1 ∧ sz p = 1 + sz (p + 1) + sz (p + 1 + sz (p + 1))) ∨
  (P_w P p = 15 ∧ C3 P sz p ∧ isE (P_w P (p + 1)) ∧ isS (P_w P (p + 1 + sz (p + 1))) ∧ isS (P_w P (p + 1 + sz (p + 1) + sz (p + 1 + sz (p + 1)))) ∧ sz p = 1 + sz (p + 1) + sz (p + 1 + sz (p + 1)) + sz (p + 1 + sz (p + 1) + sz (p + 1 + sz (p + 1)))) ∨
  (P_w P p = 16 ∧ C3 P sz p ∧ isE (P_w P (p + 1)) ∧ isS (P_w P (p + 1 + sz (p + 1))) ∧ isS (P_w P (p + 1 + sz (p + 1) + sz (p + 1 + sz (p + 1)))) ∧ sz p = 1 + sz (p + 1) + sz (p + 1 + sz (p + 1)) + sz (p + 1 + sz (p + 1) + sz (p + 1 + sz (p + 1)))) ∨
  (P_w P p = 17 ∧ C2 P sz p ∧ isE (P_w P (p + 1)) ∧ isS (P_w P (p + 1 + sz (p + 1))) ∧ sz p = 1 + sz (p + 1) + sz (p + 1 + sz (p + 1))) ∨
  (P_w P p = 18 ∧ C2 P sz p ∧ isS (P_w P (p + 1)) ∧ isS (P_w P (p + 1 + sz (p + 1))) ∧ sz p = 1 + sz (p + 1) + sz (p + 1 + sz (p + 1))) ∨
  (P_w P p = 19 ∧ rgI (P_v P p) 8 ∧ sz p = 1) ∨
  (P_w P p = 20 ∧ C1 P p ∧ isS (P_w P (p + 1)) ∧ rgI (P_v P p) 8 ∧ sz p = 1 + sz (p + 1)) ∨
  (P_w P p = 21 ∧ C1 P p ∧ isS (P_w P (p + 1)) ∧ sz p = 1 + sz (p + 1))
/-- a program as make lays it -/
def WP (P : PT) (sz : Int → Int) : Prop := 1 ≤ P_n P ∧ P_n P ≤ 500 ∧ sz 0 = P_n P ∧ P_u P 0 = -1 ∧ isS (P_w P 0) ∧
  (∀ p, 0 ≤ p → p < P_n P → 1 ≤ sz p ∧ p + sz p ≤ P_n P ∧ WK P sz p) ∧
  (∀ p, 0 < p → p < P_n P → 0 ≤ P_u P p ∧ P_u P p < p ∧ p + sz p ≤ P_u P p + sz (P_u P p) ∧ (p = P_1 P (P_u P p) ∨ (p = P_2 P (P_u P p) ∧ ((0 ≤ P_w P (P_u P p) ∧ P_w P (P_u P p) ≤ 5) ∨ (13 ≤ P_w P (P_u P p) ∧ P_w P (P_u P p) ≤ 18))) ∨ (p = P_3 P (P_u P p) ∧ (P_w P (P_u P p) = 15 ∨ P_w P (P_u P p) = 16))))
/-- an expression's kinds -/
theorem WK_E {P : PT} {sz : Int → Int} {p : Int} (h : WK P sz p) (he : isE (P_w P p)) :
    (100 ≤ P_w P p ∧ P_w P p ≤ 102 ∧ sz p = 1 ∧ (P_w P p ≠ 100 → rgI (P_v P p) 16)) ∨
    (P_w P p = 6 ∧ C1 P p ∧ isE (P_w P (p + 1)) ∧ sz p = 1 + sz (p + 1)) ∨
    (0 ≤ P_w P p ∧ P_w P p ≤ 5 ∧ C2 P sz p ∧ isE (P_w P (p + 1)) ∧ isE (P_w P (p + 1 + sz (p + 1))) ∧ sz p = 1 + sz (p + 1) + sz (p + 1 + sz (p + 1))) := by
  unfold isE at he
  rcases h with h | h | h | h | h | h | h | h | h | h | h | h | h | h | h | h
  · exact Or.inl h
  · exact Or.inr (Or.inl h)
  · exact Or.inr (Or.inr h)
  all_goals (have := h.1; omega)
theorem tbl_le (x : Int) : 1 ≤ tbl x ∧ tbl x ≤ 89 := by
  unfold tbl
  repeat' split
  all_goals omega
theorem WK_rg {P : PT} {sz : Int → Int} {p : Int} (h : WK P sz p) : 0 ≤ P_w P p ∧ P_w P p ≤ 102 := by
  rcases h with h | h | h | h | h | h | h | h | h | h | h | h | h | h | h | h
  all_goals (have := h.1; have := h.2.1; omega)
