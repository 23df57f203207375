/-! RULES OVER THE STORE IN WHOLE NUMBERS -/
theorem q_lt0 {x : Int} (hx : q_in x) : Int32.ofInt x < 0 ↔ x < 0 := by rw [q_z]; exact q_lt hx q_i0
theorem q_le0 {x : Int} (hx : q_in x) : Int32.ofInt x ≤ 0 ↔ x ≤ 0 := by rw [q_z]; exact q_le hx q_i0
theorem q_gt0 {x : Int} (hx : q_in x) : 0 < Int32.ofInt x ↔ 0 < x := by rw [q_z]; exact q_lt q_i0 hx
theorem q_ge0 {x : Int} (hx : q_in x) : 0 ≤ Int32.ofInt x ↔ 0 ≤ x := by rw [q_z]; exact q_le q_i0 hx
theorem q_eq0 {x : Int} (hx : q_in x) : Int32.ofInt x = 0 ↔ x = 0 := by rw [q_z]; exact q_eq hx q_i0
theorem q_not {x : Int} : Int32.ofInt x ^^^ Int32.ofInt (-1) = Int32.ofInt (-1 - x) := by
  rw [show Int32.ofInt (-1) = -1 from rfl, Int32.xor_neg_one, Int32.not_eq_neg_sub, Int32.ofInt_sub, show Int32.ofInt (-1) = -1 from rfl]
  generalize Int32.ofInt x = a
  rw [Int32.sub_eq_add_neg, Int32.sub_eq_add_neg, Int32.add_comm]
theorem q_rem {x y : Int} (hx : 0 ≤ x) (hx' : x < 2147483648) (hy : 0 < y) (hy' : y < 2147483648) : Int32.ofInt x - Int32.ofInt x / Int32.ofInt y * Int32.ofInt y = Int32.ofInt (x % y) := by
  have e : Int32.ofInt x / Int32.ofInt y = Int32.ofInt (x / y) := by
    have h0 : 0 ≤ x / y := Int.ediv_nonneg hx (by omega)
    have h1 : x / y ≤ x := Int.ediv_le_self y hx
    rw [← Int32.toInt_inj, q_ti ⟨by omega, by omega⟩, Int32.toInt_div_of_ne_right _ _ (fun q => ?_), q_ti ⟨by omega, by omega⟩, q_ti ⟨by omega, by omega⟩, Int.tdiv_eq_ediv_of_nonneg hx]
    have q2 := congrArg Int32.toInt q
    rw [q_ti ⟨by omega, by omega⟩] at q2
    have : (-1 : Int32).toInt = -1 := rfl
    omega
  rw [e, ← Int32.ofInt_mul, ← Int32.ofInt_sub]
  congr 1
  rw [Int.emod_def, Int.mul_comm]
section UR
variable {o : X_O} {d mi pc pc' : Nat} {lv : X_L} {st t : List Value} {s : Y_S} {Q : Y_S → Option Value → Prop}
theorem Uadd {a b : Int} (hc : x_code mi pc = some .iadd) (hp : pc + 1 = pc') (K : Y o d mi pc' lv (.int (Int32.ofInt (a + b)) :: t) s Q) : Y o d mi pc lv (.int (Int32.ofInt b) :: .int (Int32.ofInt a) :: t) s Q := Ya hc rfl hp (by rw [Int32.ofInt_add] at K; exact K)
theorem Usub {a b : Int} (hc : x_code mi pc = some .isub) (hp : pc + 1 = pc') (K : Y o d mi pc' lv (.int (Int32.ofInt (a - b)) :: t) s Q) : Y o d mi pc lv (.int (Int32.ofInt b) :: .int (Int32.ofInt a) :: t) s Q := Ya hc rfl hp (by rw [Int32.ofInt_sub] at K; exact K)
theorem Umul {a b : Int} (hc : x_code mi pc = some .imul) (hp : pc + 1 = pc') (K : Y o d mi pc' lv (.int (Int32.ofInt (a * b)) :: t) s Q) : Y o d mi pc lv (.int (Int32.ofInt b) :: .int (Int32.ofInt a) :: t) s Q := Ya hc rfl hp (by rw [Int32.ofInt_mul] at K; exact K)
theorem Unot {a : Int} (hc : x_code mi pc = some .ixor) (hp : pc + 1 = pc') (K : Y o d mi pc' lv (.int (Int32.ofInt (-1 - a)) :: t) s Q) : Y o d mi pc lv (.int (Int32.ofInt (-1)) :: .int (Int32.ofInt a) :: t) s Q := Ya hc rfl hp (by rw [← q_not] at K; exact K)
theorem Urem {a b : Int} (hk : 0 ≤ a ∧ a < 2147483648 ∧ 0 < b ∧ b < 2147483648) (hc : x_code mi pc = some .irem) (hp : pc + 1 = pc') (K : Y o d mi pc' lv (.int (Int32.ofInt (a % b)) :: t) s Q) : Y o d mi pc lv (.int (Int32.ofInt b) :: .int (Int32.ofInt a) :: t) s Q := by
  have e : ¬ Int32.ofInt b = 0 := by
    rw [q_eq0 ⟨by omega, by omega⟩]
    omega
  refine Ya hc (if_neg e) hp ?_
  rw [← q_rem hk.1 hk.2.1 hk.2.2.1 hk.2.2.2] at K
  exact K
theorem Ui2l {a : Int} (hk : q_in a) (hc : x_code mi pc = some .i2l) (hp : pc + 1 = pc') (K : Y o d mi pc' lv (.long (Int64.ofInt a) :: t) s Q) : Y o d mi pc lv (.int (Int32.ofInt a) :: t) s Q := by
  have e : (Int32.ofInt a).toInt64 = Int64.ofInt a := by rw [← Int64.ofInt_int32ToInt, q_ti hk]
  exact Ya hc rfl hp (by rw [← e] at K; exact K)
theorem Ul2i {a : Int64} (hc : x_code mi pc = some .l2i) (hp : pc + 1 = pc') (K : Y o d mi pc' lv (.int (Int32.ofInt a.toInt) :: t) s Q) : Y o d mi pc lv (.long a :: t) s Q := Ya hc rfl hp K
theorem Uinc {k : Nat} {n : Int} {x : Int} (hc : x_code mi pc = some (.iinc k n)) (l : x_lget lv k = some (.int (Int32.ofInt x))) (hp : pc + 3 = pc') (K : ∀ lv', x_lget lv' k = some (.int (Int32.ofInt (x + n))) → x_kept false lv lv' k → Y o d mi pc' lv' st s Q) : Y o d mi pc lv st s Q := Vinc hc l hp (fun lv' h1 h2 => K lv' (by rw [Int32.ofInt_add]; exact h1) h2)
theorem Umin {x y : Int} {idx y9 na : Nat} (hk : q_in x ∧ q_in y) (hc : x_code mi pc = some (.invokestatic idx)) (hm : x_mth mi idx = some (8, y9, na)) (ht : (t.map fun v => v.category).sum ≤ 8) (hp : pc + 3 = pc') (k : Y o (d + 1) mi pc' lv (.int (Int32.ofInt (if y < x then y else x)) :: t) s Q) : Y o (d + 1) mi pc lv (.int (Int32.ofInt y) :: .int (Int32.ofInt x) :: t) s Q := by
  refine Y8 hc hm ht hp ?_
  by_cases c : y < x
  · rw [if_pos ((q_lt hk.2 hk.1).mpr c)]
    rw [if_pos c] at k
    exact k
  · rw [if_neg (fun z => c ((q_lt hk.2 hk.1).mp z))]
    rw [if_neg c] at k
    exact k
theorem Uif {P P' : Prop} {dP : Decidable P} {off : Int} {tg : Nat} {st' : List Value} {i : Instr} (hpp : P ↔ P') (hc : x_code mi pc = some i) (ha : x_alu i st = none) (hl : x_loc i lv st = none) (hh : x_heap o mi i st (y_w s) = none) (h : x_brc i st = some (@decide P dP, off, st')) (hp : x_tgt pc off = tg) (hq : pc + 3 = pc') (k1 : P' → Y o d mi tg lv st' s Q) (k2 : ¬ P' → Y o d mi pc' lv st' s Q) : Y o d mi pc lv st s Q := Yif hc ha hl hh h hp hq (fun z => k1 (hpp.mp z)) (fun z => k2 (fun q => z (hpp.mpr q)))
theorem q_bool {v : Int} (h : v = 0 ∨ v = 1) : Int32.ofInt v = 0 ∨ Int32.ofInt v = 1 := by
  rcases h with e | e
  · subst e; exact Or.inl rfl
  · subst e; exact Or.inr rfl
theorem Uand {a : Int} (hc : x_code mi pc = some .iand) (hp : pc + 1 = pc') (K : Y o d mi pc' lv (.int (Int32.ofInt (a % 16)) :: t) s Q) : Y o d mi pc lv (.int (Int32.ofInt 15) :: .int (Int32.ofInt a) :: t) s Q := Ya hc rfl hp (by rw [← q_and15] at K; exact K)
theorem Utb {S S' : Q_S} {u v : Value} {p r : Int} {idx y na : Nat} (h : q_tb o S u p v = some (S', r)) (hc : x_code mi pc = some (.invokestatic idx)) (hm : x_mth mi idx = some (9, y, na)) (ht : (t.map fun v => v.category).sum ≤ 7) (hd : 12 ≤ d) (hp : pc + 3 = pc') (K : Y o d mi pc' lv (.int (Int32.ofInt r) :: t) (q_y S') Q) : Y o d mi pc lv (u :: .int (Int32.ofInt p) :: v :: t) (q_y S) Q := X9 hc hm (q_tb_x t h) (by rw [List.map_cons, List.sum_cons, y_cati]; omega) hd hp K
end UR
