/-- StepRows$Frames.standingPlace -/
def g_58 (o : X_O) : Nat → Nat → Q_S → Nat → Int → Int → Int → Int → Int → Int → Int → Option (Q_S × Int)
  | 0, _, _, _, _, _, _, _, _, _, _ => none
  | n + 1, 0, s, r0, i1, i2, i3, i4, i5, ti0, ti1 => (q_gi s 5 (.ref r0) 10).bind fun v1 => (q_rcv s 5 (.ref r0)).bind fun b7 => (g_57 o n 0 s b7 (v1) 0 0).bind fun q6 => g_58 o n 1 q6.1 r0 0 (i1) (q6.2) (0) 0 0 0
  | n + 1, 1, s, r0, i1, i2, i3, i4, i5, ti0, ti1 => (q_g (q_in i4)).bind fun _ => if 100 < i4 then g_58 o n 5 s 0 0 0 0 0 0 0 0 else (q_g (q_in i3)).bind fun _ => if i3 = (-1) then g_58 o n 5 s 0 0 0 0 0 0 0 0 else (q_gv s 5 (.ref r0) 0).bind fun v7 => (q_ia o s v7 i3).bind fun v9 => (q_g (q_in v9)).bind fun _ => if v9 = 40 then g_58 o n 2 s r0 0 (i2) (i3) (i4) 0 (0) 0 else g_58 o n 2 s r0 0 (i2) (i3) (i4) 0 (1) 0
  | n + 1, 2, s, r0, i1, i2, i3, i4, i5, ti0, ti1 => (q_g (q_in ti0)).bind fun _ => if ti0 = 0 then g_58 o n 3 s r0 0 (i2) (i3) (i4) (ti0) 0 0 else (q_g (q_in i2)).bind fun _ => if ¬ i2 = 0 then g_58 o n 3 s r0 0 (i2) (i3) (i4) (ti0) 0 0 else (q_gv s 5 (.ref r0) 1).bind fun v7 => (q_ia o s v7 i3).bind fun v9 => some (s, v9)
  | n + 1, 3, s, r0, i1, i2, i3, i4, i5, ti0, ti1 => (q_g (q_in i5)).bind fun _ => if i5 = 0 then g_58 o n 4 s r0 0 0 (i3) (i4) 0 (i2) (0) else g_58 o n 4 s r0 0 0 (i3) (i4) 0 (i2) (1)
  | n + 1, 4, s, r0, i1, i2, i3, i4, i5, ti0, ti1 => (q_rcv s 5 (.ref r0)).bind fun b5 => (g_56 o n 0 s b5 (i3) 0 0 0).bind fun q4 => (q_rcv q4.1 5 (.ref r0)).bind fun b13 => (g_57 o n 0 q4.1 b13 (q4.2) 0 0).bind fun q12 => g_58 o n 1 q12.1 r0 0 ((ti0 - ti1)) (q12.2) ((i4 + 1)) 0 0 0
  | n + 1, 5, s, r0, i1, i2, i3, i4, i5, ti0, ti1 => some (s, (-1))
  | _ + 1, _, _, _, _, _, _, _, _, _, _ => none
set_option maxRecDepth 100000 in
set_option maxHeartbeats 4000000 in
theorem c_58 (o : X_O) : ∀ n, (∀ (d : Nat) (hd : 2 ≤ d) (s : Q_S) (r0 : Nat) (i1 : Int) (i2 : Int) (i3 : Int) (i4 : Int) (i5 : Int) (ti0 : Int) (ti1 : Int) (s9 : Q_S) (r : Int), g_58 o n 0 s r0 i1 i2 i3 i4 i5 ti0 ti1 = some (s9, r) → ∀ lv : X_L, x_lget lv 0 = some (.ref r0) → x_lget lv 1 = some (.int (Int32.ofInt i1)) → Y o d 58 0 lv [] (q_y s) (fun s1 r1 => s1 = q_y s9 ∧ r1 = some (.int (Int32.ofInt r)))) ∧
    (∀ (d : Nat) (hd : 2 ≤ d) (s : Q_S) (r0 : Nat) (i1 : Int) (i2 : Int) (i3 : Int) (i4 : Int) (i5 : Int) (ti0 : Int) (ti1 : Int) (s9 : Q_S) (r : Int), g_58 o n 1 s r0 i1 i2 i3 i4 i5 ti0 ti1 = some (s9, r) → ∀ lv : X_L, x_lget lv 0 = some (.ref r0) → x_lget lv 2 = some (.int (Int32.ofInt i2)) → x_lget lv 3 = some (.int (Int32.ofInt i3)) → x_lget lv 4 = some (.int (Int32.ofInt i4)) → Y o d 58 14 lv [] (q_y s) (fun s1 r1 => s1 = q_y s9 ∧ r1 = some (.int (Int32.ofInt r)))) ∧
    (∀ (d : Nat) (hd : 2 ≤ d) (s : Q_S) (r0 : Nat) (i1 : Int) (i2 : Int) (i3 : Int) (i4 : Int) (i5 : Int) (ti0 : Int) (ti1 : Int) (s9 : Q_S) (r : Int), g_58 o n 2 s r0 i1 i2 i3 i4 i5 ti0 ti1 = some (s9, r) → ∀ lv : X_L, x_lget lv 0 = some (.ref r0) → x_lget lv 2 = some (.int (Int32.ofInt i2)) → x_lget lv 3 = some (.int (Int32.ofInt i3)) → x_lget lv 4 = some (.int (Int32.ofInt i4)) → Y o d 58 42 lv [.int (Int32.ofInt ti0)] (q_y s) (fun s1 r1 => s1 = q_y s9 ∧ r1 = some (.int (Int32.ofInt r)))) ∧
    (∀ (d : Nat) (hd : 2 ≤ d) (s : Q_S) (r0 : Nat) (i1 : Int) (i2 : Int) (i3 : Int) (i4 : Int) (i5 : Int) (ti0 : Int) (ti1 : Int) (s9 : Q_S) (r : Int), g_58 o n 3 s r0 i1 i2 i3 i4 i5 ti0 ti1 = some (s9, r) → ∀ lv : X_L, x_lget lv 0 = some (.ref r0) → x_lget lv 2 = some (.int (Int32.ofInt i2)) → x_lget lv 3 = some (.int (Int32.ofInt i3)) → x_lget lv 4 = some (.int (Int32.ofInt i4)) → x_lget lv 5 = some (.int (Int32.ofInt i5)) → Y o d 58 60 lv [] (q_y s) (fun s1 r1 => s1 = q_y s9 ∧ r1 = some (.int (Int32.ofInt r)))) ∧
    (∀ (d : Nat) (hd : 2 ≤ d) (s : Q_S) (r0 : Nat) (i1 : Int) (i2 : Int) (i3 : Int) (i4 : Int) (i5 : Int) (ti0 : Int) (ti1 : Int) (s9 : Q_S) (r : Int), g_58 o n 4 s r0 i1 i2 i3 i4 i5 ti0 ti1 = some (s9, r) → ∀ lv : X_L, x_lget lv 0 = some (.ref r0) → x_lget lv 3 = some (.int (Int32.ofInt i3)) → x_lget lv 4 = some (.int (Int32.ofInt i4)) → Y o d 58 71 lv [.int (Int32.ofInt ti1), .int (Int32.ofInt ti0)] (q_y s) (fun s1 r1 => s1 = q_y s9 ∧ r1 = some (.int (Int32.ofInt r)))) ∧
    (∀ (d : Nat) (hd : 2 ≤ d) (s : Q_S) (r0 : Nat) (i1 : Int) (i2 : Int) (i3 : Int) (i4 : Int) (i5 : Int) (ti0 : Int) (ti1 : Int) (s9 : Q_S) (r : Int), g_58 o n 5 s r0 i1 i2 i3 i4 i5 ti0 ti1 = some (s9, r) → ∀ lv : X_L, True → Y o d 58 89 lv [] (q_y s) (fun s1 r1 => s1 = q_y s9 ∧ r1 = some (.int (Int32.ofInt r)))) := by
  intro n
  induction n with
  | zero => exact ⟨fun d hd s _ _ _ _ _ _ _ _ s9 r h => (by simp only [g_58] at h; cases h), fun d hd s _ _ _ _ _ _ _ _ s9 r h => (by simp only [g_58] at h; cases h), fun d hd s _ _ _ _ _ _ _ _ s9 r h => (by simp only [g_58] at h; cases h), fun d hd s _ _ _ _ _ _ _ _ s9 r h => (by simp only [g_58] at h; cases h), fun d hd s _ _ _ _ _ _ _ _ s9 r h => (by simp only [g_58] at h; cases h), fun d hd s _ _ _ _ _ _ _ _ s9 r h => (by simp only [g_58] at h; cases h)⟩
  | succ n ih =>
    refine ⟨?_, ?_, ?_, ?_, ?_, ?_⟩
    · intro d hd s r0 i1 i2 i3 i4 i5 ti0 ti1 s9 r h lv lk0 lk1
      obtain ⟨d, rfl⟩ : ∃ x, d = x + 1 := ⟨d - 1, by omega⟩
      simp only [g_58] at h
      refine Vin rfl lk1 rfl ?_
      refine Vsin rfl rfl (fun lv lk2 hk => ?_)
      have lk0 := hk 0 _ lk0 (by decide) (by decide) (Or.inl (by decide))
      refine Van rfl lk0 rfl rfl ?_
      refine Van rfl lk0 rfl rfl ?_
      have hz := y_bind h
      clear h
      obtain ⟨v1, h2, h⟩ := hz
      refine Zgi (q_gi_y h2) rfl rfl rfl ?_
      have hz := y_bind h
      clear h
      obtain ⟨b7, h8, h⟩ := hz
      obtain ⟨eh8, fh8, wh8⟩ := y_rcv_ok h8
      cases eh8
      have hz := y_bind h
      clear h
      obtain ⟨⟨s3, r4⟩, h5, h⟩ := hz
      try dsimp only at h
      refine Vcv rfl rfl rfl wh8 rfl rfl ⟨(Nat.le_of_ble_eq_true rfl), (Nat.le_of_ble_eq_true rfl)⟩ rfl ((c_57 o n).1 _ (by omega) _ _ _ _ _ _ _ h5 _ rfl rfl) (fun z1 z2 zq => ?_)
      obtain ⟨rfl, rfl⟩ := zq
      try dsimp only [Option.toList, HAppend.hAppend, Append.append, List.append]
      refine Vsin rfl rfl (fun lv lk3 hk => ?_)
      have lk0 := hk 0 _ lk0 (by decide) (by decide) (Or.inl (by decide))
      have lk2 := hk 2 _ lk2 (by decide) (by decide) (Or.inr rfl)
      refine Vic (v := Int32.ofInt 0) rfl rfl rfl ?_
      refine Vsi rfl rfl (fun lv lk4 hk => ?_)
      have lk0 := hk 0 _ lk0 (by decide) (by decide) (Or.inl (by decide))
      have lk2 := hk 2 _ lk2 (by decide) (by decide) (Or.inl (by decide))
      have lk3 := hk 3 _ lk3 (by decide) (by decide) (Or.inr rfl)
      exact ih.2.1 _ hd _ _ _ _ _ _ _ _ _ _ _ h lv lk0 lk2 lk3 lk4
    · intro d hd s r0 i1 i2 i3 i4 i5 ti0 ti1 s9 r h lv lk0 lk2 lk3 lk4
      obtain ⟨d, rfl⟩ : ∃ x, d = x + 1 := ⟨d - 1, by omega⟩
      simp only [g_58] at h
      refine Vi rfl lk4 rfl ?_
      refine Vbp (v := Int32.ofInt 100) rfl (by decide) rfl ?_
      have hz := y_bind h
      clear h
      obtain ⟨_, h2, h⟩ := hz
      have c1 := q_g_ok h2
      refine Uif (q_lt (by decide) c1) rfl rfl rfl rfl rfl rfl rfl (fun c3 => ?_) (fun c3 => ?_)
      · rw [if_pos c3] at h
        exact ih.2.2.2.2.2 _ hd _ _ _ _ _ _ _ _ _ _ _ h lv trivial
      · rw [if_neg c3] at h
        refine Vin rfl lk3 rfl ?_
        refine Vic (v := Int32.ofInt (-1)) rfl rfl rfl ?_
        have hz := y_bind h
        clear h
        obtain ⟨_, h5, h⟩ := hz
        have c4 := q_g_ok h5
        refine Uif (q_eq c4 (by decide)) rfl rfl rfl rfl rfl rfl rfl (fun c6 => ?_) (fun c6 => ?_)
        · rw [if_pos c6] at h
          exact ih.2.2.2.2.2 _ hd _ _ _ _ _ _ _ _ _ _ _ h lv trivial
        · rw [if_neg c6] at h
          refine Van rfl lk0 rfl rfl ?_
          have hz := y_bind h
          clear h
          obtain ⟨v7, h8, h⟩ := hz
          have wv7 := (y_gv_ok h8).2
          refine Vgv h8 rfl rfl rfl ?_
          refine Vin rfl lk3 rfl ?_
          have hz := y_bind h
          clear h
          obtain ⟨v9, h10, h⟩ := hz
          refine Zia (q_ia_y h10) rfl rfl ?_
          refine Vbp (v := Int32.ofInt 40) rfl (by decide) rfl ?_
          have hz := y_bind h
          clear h
          obtain ⟨_, h12, h⟩ := hz
          have c11 := q_g_ok h12
          refine Uif (q_eq c11 (by decide)) rfl rfl rfl rfl rfl rfl rfl (fun c13 => ?_) (fun c13 => ?_)
          · rw [if_pos c13] at h
            refine Vic (v := Int32.ofInt 0) rfl rfl rfl ?_
            exact ih.2.2.1 _ hd _ _ _ _ _ _ _ _ _ _ _ h lv lk0 lk2 lk3 lk4
          · rw [if_neg c13] at h
            refine Vic (v := Int32.ofInt 1) rfl rfl rfl ?_
            refine Ygo rfl rfl rfl rfl rfl rfl ?_
            exact ih.2.2.1 _ hd _ _ _ _ _ _ _ _ _ _ _ h lv lk0 lk2 lk3 lk4
    · intro d hd s r0 i1 i2 i3 i4 i5 ti0 ti1 s9 r h lv lk0 lk2 lk3 lk4
      obtain ⟨d, rfl⟩ : ∃ x, d = x + 1 := ⟨d - 1, by omega⟩
      simp only [g_58] at h
      refine Vsi rfl rfl (fun lv lk5 hk => ?_)
      have lk0 := hk 0 _ lk0 (by decide) (by decide) (Or.inl (by decide))
      have lk2 := hk 2 _ lk2 (by decide) (by decide) (Or.inl (by decide))
      have lk3 := hk 3 _ lk3 (by decide) (by decide) (Or.inl (by decide))
      have lk4 := hk 4 _ lk4 (by decide) (by decide) (Or.inr rfl)
      refine Vi rfl lk5 rfl ?_
      have hz := y_bind h
      clear h
      obtain ⟨_, h2, h⟩ := hz
      have c1 := q_g_ok h2
      refine Uif (q_eq0 c1) rfl rfl rfl rfl rfl rfl rfl (fun c3 => ?_) (fun c3 => ?_)
      · rw [if_pos c3] at h
        exact ih.2.2.2.1 _ hd _ _ _ _ _ _ _ _ _ _ _ h lv lk0 lk2 lk3 lk4 lk5
      · rw [if_neg c3] at h
        refine Vin rfl lk2 rfl ?_
        have hz := y_bind h
        clear h
        obtain ⟨_, h5, h⟩ := hz
        have c4 := q_g_ok h5
        refine Uif (not_congr (q_eq0 c4)) rfl rfl rfl rfl rfl rfl rfl (fun c6 => ?_) (fun c6 => ?_)
        · rw [if_pos c6] at h
          exact ih.2.2.2.1 _ hd _ _ _ _ _ _ _ _ _ _ _ h lv lk0 lk2 lk3 lk4 lk5
        · rw [if_neg c6] at h
          refine Van rfl lk0 rfl rfl ?_
          have hz := y_bind h
          clear h
          obtain ⟨v7, h8, h⟩ := hz
          have wv7 := (y_gv_ok h8).2
          refine Vgv h8 rfl rfl rfl ?_
          refine Vin rfl lk3 rfl ?_
          have hz := y_bind h
          clear h
          obtain ⟨v9, h10, h⟩ := hz
          refine Zia (q_ia_y h10) rfl rfl ?_
          cases h
          exact Yret rfl rfl rfl rfl rfl rfl rfl ⟨rfl, rfl⟩
    · intro d hd s r0 i1 i2 i3 i4 i5 ti0 ti1 s9 r h lv lk0 lk2 lk3 lk4 lk5
      obtain ⟨d, rfl⟩ : ∃ x, d = x + 1 := ⟨d - 1, by omega⟩
      simp only [g_58] at h
      refine Vin rfl lk2 rfl ?_
      refine Vi rfl lk5 rfl ?_
      have hz := y_bind h
      clear h
      obtain ⟨_, h2, h⟩ := hz
      have c1 := q_g_ok h2
      refine Uif (q_eq0 c1) rfl rfl rfl rfl rfl rfl rfl (fun c3 => ?_) (fun c3 => ?_)
      · rw [if_pos c3] at h
        refine Vic (v := Int32.ofInt 0) rfl rfl rfl ?_
        exact ih.2.2.2.2.1 _ hd _ _ _ _ _ _ _ _ _ _ _ h lv lk0 lk3 lk4
      · rw [if_neg c3] at h
        refine Vic (v := Int32.ofInt 1) rfl rfl rfl ?_
        refine Ygo rfl rfl rfl rfl rfl rfl ?_
        exact ih.2.2.2.2.1 _ hd _ _ _ _ _ _ _ _ _ _ _ h lv lk0 lk3 lk4
    · intro d hd s r0 i1 i2 i3 i4 i5 ti0 ti1 s9 r h lv lk0 lk3 lk4
      obtain ⟨d, rfl⟩ : ∃ x, d = x + 1 := ⟨d - 1, by omega⟩
      simp only [g_58] at h
      refine Usub rfl rfl ?_
      refine Vsin rfl rfl (fun lv lk2 hk => ?_)
      have lk0 := hk 0 _ lk0 (by decide) (by decide) (Or.inl (by decide))
      have lk3 := hk 3 _ lk3 (by decide) (by decide) (Or.inl (by decide))
      have lk4 := hk 4 _ lk4 (by decide) (by decide) (Or.inl (by decide))
      refine Van rfl lk0 rfl rfl ?_
      refine Van rfl lk0 rfl rfl ?_
      refine Vin rfl lk3 rfl ?_
      have hz := y_bind h
      clear h
      obtain ⟨b5, h6, h⟩ := hz
      obtain ⟨eh6, fh6, wh6⟩ := y_rcv_ok h6
      cases eh6
      have hz := y_bind h
      clear h
      obtain ⟨⟨s1, r2⟩, h3, h⟩ := hz
      try dsimp only at h
      refine Vcv rfl rfl rfl wh6 rfl rfl ⟨(Nat.le_of_ble_eq_true rfl), (Nat.le_of_ble_eq_true rfl)⟩ rfl ((c_56 o n).1 _ (by omega) _ _ _ _ _ _ _ _ h3 _ rfl rfl) (fun z1 z2 zq => ?_)
      obtain ⟨rfl, rfl⟩ := zq
      try dsimp only [Option.toList, HAppend.hAppend, Append.append, List.append]
      have hz := y_bind h
      clear h
      obtain ⟨b13, h14, h⟩ := hz
      obtain ⟨eh14, fh14, wh14⟩ := y_rcv_ok h14
      cases eh14
      have hz := y_bind h
      clear h
      obtain ⟨⟨s9, r10⟩, h11, h⟩ := hz
      try dsimp only at h
      refine Vcv rfl rfl rfl wh14 rfl rfl ⟨(Nat.le_of_ble_eq_true rfl), (Nat.le_of_ble_eq_true rfl)⟩ rfl ((c_57 o n).1 _ (by omega) _ _ _ _ _ _ _ h11 _ rfl rfl) (fun z1 z2 zq => ?_)
      obtain ⟨rfl, rfl⟩ := zq
      try dsimp only [Option.toList, HAppend.hAppend, Append.append, List.append]
      refine Vsin rfl rfl (fun lv lk3 hk => ?_)
      have lk0 := hk 0 _ lk0 (by decide) (by decide) (Or.inl (by decide))
      have lk2 := hk 2 _ lk2 (by decide) (by decide) (Or.inr rfl)
      have lk4 := hk 4 _ lk4 (by decide) (by decide) (Or.inl (by decide))
      refine Uinc rfl lk4 rfl (fun lv lk4 hk => ?_)
      have lk0 := hk 0 _ lk0 (by decide) (by decide) (Or.inl (by decide))
      have lk2 := hk 2 _ lk2 (by decide) (by decide) (Or.inl (by decide))
      have lk3 := hk 3 _ lk3 (by decide) (by decide) (Or.inr rfl)
      refine Ygo rfl rfl rfl rfl rfl rfl ?_
      exact ih.2.1 _ hd _ _ _ _ _ _ _ _ _ _ _ h lv lk0 lk2 lk3 lk4
    · intro d hd s r0 i1 i2 i3 i4 i5 ti0 ti1 s9 r h lv _
      obtain ⟨d, rfl⟩ : ∃ x, d = x + 1 := ⟨d - 1, by omega⟩
      simp only [g_58] at h
      refine Vic (v := Int32.ofInt (-1)) rfl rfl rfl ?_
      cases h
      exact Yret rfl rfl rfl rfl rfl rfl rfl ⟨rfl, rfl⟩

/-- StepRows.step -/
def g_10 (o : X_O) : Nat → Nat → Q_S → Nat → Int → Option (Q_S × Int)
  | 0, _, _, _, _ => none
  | n + 1, 0, s, r0, i1 => (q_g (q_in i1)).bind fun _ => if i1 < 0 then g_10 o n 1 s 0 0 else (q_gv s 0 (.ref r0) 5).bind fun v4 => (q_rcv s 4 v4).bind fun b10 => (g_43 o n 0 s b10 0).bind fun q9 => (q_g (q_in q9.2)).bind fun _ => if ¬ q9.2 = 0 then (q_gv q9.1 0 (.ref r0) 5).bind fun v17 => (q_gv q9.1 4 v17 11).bind fun v19 => (q_rcv q9.1 5 v19).bind fun b25 => (g_58 o n 0 q9.1 b25 (i1) 0 0 0 0 0 0).bind fun q24 => some (q24.1, q24.2) else g_10 o n 1 q9.1 0 0
  | n + 1, 1, s, r0, i1 => some (s, (-1))
  | _ + 1, _, _, _, _ => none
set_option maxRecDepth 100000 in
set_option maxHeartbeats 4000000 in
theorem c_10 (o : X_O) : ∀ n, (∀ (d : Nat) (hd : 3 ≤ d) (s : Q_S) (r0 : Nat) (i1 : Int) (s9 : Q_S) (r : Int), g_10 o n 0 s r0 i1 = some (s9, r) → ∀ lv : X_L, x_lget lv 0 = some (.ref r0) → x_lget lv 1 = some (.int (Int32.ofInt i1)) → Y o d 10 0 lv [] (q_y s) (fun s1 r1 => s1 = q_y s9 ∧ r1 = some (.int (Int32.ofInt r)))) ∧
    (∀ (d : Nat) (hd : 3 ≤ d) (s : Q_S) (r0 : Nat) (i1 : Int) (s9 : Q_S) (r : Int), g_10 o n 1 s r0 i1 = some (s9, r) → ∀ lv : X_L, True → Y o d 10 14 lv [] (q_y s) (fun s1 r1 => s1 = q_y s9 ∧ r1 = some (.int (Int32.ofInt r)))) := by
  intro n
  induction n with
  | zero => exact ⟨fun d hd s _ _ s9 r h => (by simp only [g_10] at h; cases h), fun d hd s _ _ s9 r h => (by simp only [g_10] at h; cases h)⟩
  | succ n ih =>
    refine ⟨?_, ?_⟩
    · intro d hd s r0 i1 s9 r h lv lk0 lk1
      obtain ⟨d, rfl⟩ : ∃ x, d = x + 1 := ⟨d - 1, by omega⟩
      simp only [g_10] at h
      refine Vin rfl lk1 rfl ?_
      have hz := y_bind h
      clear h
      obtain ⟨_, h2, h⟩ := hz
      have c1 := q_g_ok h2
      refine Uif (q_lt0 c1) rfl rfl rfl rfl rfl rfl rfl (fun c3 => ?_) (fun c3 => ?_)
      · rw [if_pos c3] at h
        exact ih.2 _ hd _ _ _ _ _ h lv trivial
      · rw [if_neg c3] at h
        refine Van rfl lk0 rfl rfl ?_
        have hz := y_bind h
        clear h
        obtain ⟨v4, h5, h⟩ := hz
        have wv4 := (y_gv_ok h5).2
        refine Vgv h5 rfl rfl rfl ?_
        have hz := y_bind h
        clear h
        obtain ⟨b10, h11, h⟩ := hz
        obtain ⟨eh11, fh11, wh11⟩ := y_rcv_ok h11
        cases eh11
        have hz := y_bind h
        clear h
        obtain ⟨⟨s6, r7⟩, h8, h⟩ := hz
        try dsimp only at h
        refine Vcv rfl rfl rfl wh11 rfl rfl ⟨(Nat.le_of_ble_eq_true rfl), (Nat.le_of_ble_eq_true rfl)⟩ rfl ((c_43 o n).1 _ (by omega) _ _ _ _ _ h8 _ rfl) (fun z1 z2 zq => ?_)
        obtain ⟨rfl, rfl⟩ := zq
        try dsimp only [Option.toList, HAppend.hAppend, Append.append, List.append]
        have hz := y_bind h
        clear h
        obtain ⟨_, h15, h⟩ := hz
        have c14 := q_g_ok h15
        refine Uif (not_congr (q_eq0 c14)) rfl rfl rfl rfl rfl rfl rfl (fun c16 => ?_) (fun c16 => ?_)
        · rw [if_pos c16] at h
          refine Van rfl lk0 rfl rfl ?_
          have hz := y_bind h
          clear h
          obtain ⟨v17, h18, h⟩ := hz
          have wv17 := (y_gv_ok h18).2
          refine Vgv h18 rfl rfl rfl ?_
          have hz := y_bind h
          clear h
          obtain ⟨v19, h20, h⟩ := hz
          have wv19 := (y_gv_ok h20).2
          refine Vgv h20 rfl rfl rfl ?_
          refine Vin rfl lk1 rfl ?_
          have hz := y_bind h
          clear h
          obtain ⟨b25, h26, h⟩ := hz
          obtain ⟨eh26, fh26, wh26⟩ := y_rcv_ok h26
          cases eh26
          have hz := y_bind h
          clear h
          obtain ⟨⟨s21, r22⟩, h23, h⟩ := hz
          try dsimp only at h
          refine Vcv rfl rfl rfl wh26 rfl rfl ⟨(Nat.le_of_ble_eq_true rfl), (Nat.le_of_ble_eq_true rfl)⟩ rfl ((c_58 o n).1 _ (by omega) _ _ _ _ _ _ _ _ _ _ _ h23 _ rfl rfl) (fun z1 z2 zq => ?_)
          obtain ⟨rfl, rfl⟩ := zq
          try dsimp only [Option.toList, HAppend.hAppend, Append.append, List.append]
          cases h
          exact Yret rfl rfl rfl rfl rfl rfl rfl ⟨rfl, rfl⟩
        · rw [if_neg c16] at h
          exact ih.2 _ hd _ _ _ _ _ h lv trivial
    · intro d hd s r0 i1 s9 r h lv _
      obtain ⟨d, rfl⟩ : ∃ x, d = x + 1 := ⟨d - 1, by omega⟩
      simp only [g_10] at h
      refine Vic (v := Int32.ofInt (-1)) rfl rfl rfl ?_
      cases h
      exact Yret rfl rfl rfl rfl rfl rfl rfl ⟨rfl, rfl⟩

/-- StepRows.alarm -/
def g_11 (o : X_O) : Nat → Nat → Q_S → Nat → Int → Int → Option (Q_S × Int)
  | 0, _, _, _, _, _ => none
  | n + 1, 0, s, r0, i1, i2 => (q_g (q_in i1)).bind fun _ => if ¬ i1 = 0 then g_11 o n 1 s 0 0 0 else (q_gv s 0 (.ref r0) 5).bind fun v4 => (q_gi s 4 v4 0).bind fun v6 => (q_g (q_in v6)).bind fun _ => if v6 = 2 then (q_g (q_in i2)).bind fun _ => if i2 < 0 ∨ 2 < i2 then some (s, (-1)) else if i2 = 0 then (q_gv s 0 (.ref r0) 5).bind fun v14 => (q_gi s 4 v14 5).bind fun v16 => some (s, v16) else if i2 = 1 then (q_gv s 0 (.ref r0) 5).bind fun v19 => (q_gi s 4 v19 6).bind fun v21 => some (s, v21) else if i2 = 2 then (q_gv s 0 (.ref r0) 5).bind fun v24 => (q_gi s 4 v24 7).bind fun v26 => some (s, v26) else none else g_11 o n 1 s 0 0 0
  | n + 1, 1, s, r0, i1, i2 => some (s, (-1))
  | _ + 1, _, _, _, _, _ => none
set_option maxRecDepth 100000 in
set_option maxHeartbeats 4000000 in
theorem c_11 (o : X_O) : ∀ n, (∀ (d : Nat) (hd : 0 ≤ d) (s : Q_S) (r0 : Nat) (i1 : Int) (i2 : Int) (s9 : Q_S) (r : Int), g_11 o n 0 s r0 i1 i2 = some (s9, r) → ∀ lv : X_L, x_lget lv 0 = some (.ref r0) → x_lget lv 1 = some (.int (Int32.ofInt i1)) → x_lget lv 2 = some (.int (Int32.ofInt i2)) → Y o d 11 0 lv [] (q_y s) (fun s1 r1 => s1 = q_y s9 ∧ r1 = some (.int (Int32.ofInt r)))) ∧
    (∀ (d : Nat) (hd : 0 ≤ d) (s : Q_S) (r0 : Nat) (i1 : Int) (i2 : Int) (s9 : Q_S) (r : Int), g_11 o n 1 s r0 i1 i2 = some (s9, r) → ∀ lv : X_L, True → Y o d 11 15 lv [] (q_y s) (fun s1 r1 => s1 = q_y s9 ∧ r1 = some (.int (Int32.ofInt r)))) := by
  intro n
  induction n with
  | zero => exact ⟨fun d hd s _ _ _ s9 r h => (by simp only [g_11] at h; cases h), fun d hd s _ _ _ s9 r h => (by simp only [g_11] at h; cases h)⟩
  | succ n ih =>
    refine ⟨?_, ?_⟩
    · intro d hd s r0 i1 i2 s9 r h lv lk0 lk1 lk2
      simp only [g_11] at h
      refine Vin rfl lk1 rfl ?_
      have hz := y_bind h
      clear h
      obtain ⟨_, h2, h⟩ := hz
      have c1 := q_g_ok h2
      refine Uif (not_congr (q_eq0 c1)) rfl rfl rfl rfl rfl rfl rfl (fun c3 => ?_) (fun c3 => ?_)
      · rw [if_pos c3] at h
        exact ih.2 _ hd _ _ _ _ _ _ h lv trivial
      · rw [if_neg c3] at h
        refine Van rfl lk0 rfl rfl ?_
        have hz := y_bind h
        clear h
        obtain ⟨v4, h5, h⟩ := hz
        have wv4 := (y_gv_ok h5).2
        refine Vgv h5 rfl rfl rfl ?_
        have hz := y_bind h
        clear h
        obtain ⟨v6, h7, h⟩ := hz
        refine Zgi (q_gi_y h7) rfl rfl rfl ?_
        refine Vic (v := Int32.ofInt 2) rfl rfl rfl ?_
        have hz := y_bind h
        clear h
        obtain ⟨_, h9, h⟩ := hz
        have c8 := q_g_ok h9
        refine Uif (q_eq c8 (by decide)) rfl rfl rfl rfl rfl rfl rfl (fun c10 => ?_) (fun c10 => ?_)
        · rw [if_pos c10] at h
          refine Vin rfl lk2 rfl ?_
          have hz := y_bind h
          clear h
          obtain ⟨_, h12, h⟩ := hz
          have c11 := q_g_ok h12
          by_cases c13 : i2 < 0 ∨ 2 < i2
          · rw [if_pos c13] at h
            refine Ysw rfl rfl rfl rfl rfl (if_pos (by rw [q_ti c11]; exact c13)) rfl ?_
            refine Vic (v := Int32.ofInt (-1)) rfl rfl rfl ?_
            cases h
            exact Yret rfl rfl rfl rfl rfl rfl rfl ⟨rfl, rfl⟩
          rw [if_neg c13] at h
          by_cases c18 : i2 = 0
          · rw [if_pos c18] at h
            refine Vts (k := 0) (congrArg Int32.ofInt c18) rfl rfl rfl rfl rfl rfl rfl ?_
            refine Van rfl lk0 rfl rfl ?_
            have hz := y_bind h
            clear h
            obtain ⟨v14, h15, h⟩ := hz
            have wv14 := (y_gv_ok h15).2
            refine Vgv h15 rfl rfl rfl ?_
            have hz := y_bind h
            clear h
            obtain ⟨v16, h17, h⟩ := hz
            refine Zgi (q_gi_y h17) rfl rfl rfl ?_
            cases h
            exact Yret rfl rfl rfl rfl rfl rfl rfl ⟨rfl, rfl⟩
          rw [if_neg c18] at h
          by_cases c23 : i2 = 1
          · rw [if_pos c23] at h
            refine Vts (k := 1) (congrArg Int32.ofInt c23) rfl rfl rfl rfl rfl rfl rfl ?_
            refine Van rfl lk0 rfl rfl ?_
            have hz := y_bind h
            clear h
            obtain ⟨v19, h20, h⟩ := hz
            have wv19 := (y_gv_ok h20).2
            refine Vgv h20 rfl rfl rfl ?_
            have hz := y_bind h
            clear h
            obtain ⟨v21, h22, h⟩ := hz
            refine Zgi (q_gi_y h22) rfl rfl rfl ?_
            cases h
            exact Yret rfl rfl rfl rfl rfl rfl rfl ⟨rfl, rfl⟩
          rw [if_neg c23] at h
          by_cases c28 : i2 = 2
          · rw [if_pos c28] at h
            refine Vts (k := 2) (congrArg Int32.ofInt c28) rfl rfl rfl rfl rfl rfl rfl ?_
            refine Van rfl lk0 rfl rfl ?_
            have hz := y_bind h
            clear h
            obtain ⟨v24, h25, h⟩ := hz
            have wv24 := (y_gv_ok h25).2
            refine Vgv h25 rfl rfl rfl ?_
            have hz := y_bind h
            clear h
            obtain ⟨v26, h27, h⟩ := hz
            refine Zgi (q_gi_y h27) rfl rfl rfl ?_
            cases h
            exact Yret rfl rfl rfl rfl rfl rfl rfl ⟨rfl, rfl⟩
          rw [if_neg c28] at h
          cases h
        · rw [if_neg c10] at h
          exact ih.2 _ hd _ _ _ _ _ _ h lv trivial
    · intro d hd s r0 i1 i2 s9 r h lv _
      simp only [g_11] at h
      refine Vic (v := Int32.ofInt (-1)) rfl rfl rfl ?_
      cases h
      exact Yret rfl rfl rfl rfl rfl rfl rfl ⟨rfl, rfl⟩

/-- StepRows$Frames.become -/
def g_59 (o : X_O) : Nat → Nat → Q_S → Nat → Value → Option (Q_S × Unit)
  | 0, _, _, _, _ => none
  | n + 1, 0, s, r0, a1 => (q_gv s 5 (.ref r0) 0).bind fun v1 => (q_ln o s v1).bind fun v3 => (q_gi s 5 a1 12).bind fun v5 => (q_g (q_in v3 ∧ q_in v5)).bind fun _ => if v5 ≤ v3 then g_59 o n 1 s r0 (a1) else (q_gi s 5 a1 12).bind fun v10 => (q_rcv s 5 (.ref r0)).bind fun b16 => (g_50 o n 0 s b16 (v10)).bind fun q15 => g_59 o n 1 q15.1 r0 (a1)
  | n + 1, 1, s, r0, a1 => (q_gv s 5 a1 0).bind fun v1 => (q_gv s 5 (.ref r0) 0).bind fun v3 => (q_gi s 5 a1 12).bind fun v5 => (q_cp s v1 0 v3 0 v5).bind fun s7 => (q_gv s7 5 a1 1).bind fun v9 => (q_gv s7 5 (.ref r0) 1).bind fun v11 => (q_gi s7 5 a1 12).bind fun v13 => (q_cp s7 v9 0 v11 0 v13).bind fun s15 => (q_gv s15 5 a1 2).bind fun v17 => (q_gv s15 5 (.ref r0) 2).bind fun v19 => (q_gi s15 5 a1 12).bind fun v21 => (q_cp s15 v17 0 v19 0 v21).bind fun s23 => (q_gv s23 5 a1 3).bind fun v25 => (q_gv s23 5 (.ref r0) 3).bind fun v27 => (q_gi s23 5 a1 12).bind fun v29 => (q_cp s23 v25 0 v27 0 v29).bind fun s31 => (q_gv s31 5 a1 4).bind fun v33 => (q_gv s31 5 (.ref r0) 4).bind fun v35 => (q_gi s31 5 a1 12).bind fun v37 => (q_cp s31 v33 0 v35 0 v37).bind fun s39 => (q_gv s39 5 a1 5).bind fun v41 => (q_gv s39 5 (.ref r0) 5).bind fun v43 => (q_gi s39 5 a1 12).bind fun v45 => (q_cp s39 v41 0 v43 0 v45).bind fun s47 => (q_gv s47 5 a1 6).bind fun v49 => (q_gv s47 5 (.ref r0) 6).bind fun v51 => (q_gi s47 5 a1 12).bind fun v53 => (q_cp s47 v49 0 v51 0 v53).bind fun s55 => (q_gv s55 5 a1 7).bind fun v57 => (q_gv s55 5 (.ref r0) 7).bind fun v59 => (q_gi s55 5 a1 12).bind fun v61 => (q_cp s55 v57 0 v59 0 v61).bind fun s63 => (q_gv s63 5 a1 8).bind fun v65 => (q_gv s63 5 (.ref r0) 8).bind fun v67 => (q_gi s63 5 a1 12).bind fun v69 => (q_cp s63 v65 0 v67 0 v69).bind fun s71 => (q_gv s71 5 a1 9).bind fun v73 => (q_gv s71 5 (.ref r0) 9).bind fun v75 => (q_gi s71 5 a1 12).bind fun v77 => (q_cp s71 v73 0 v75 0 v77).bind fun s79 => (q_gi s79 5 a1 10).bind fun v81 => (q_pi s79 5 (.ref r0) 10 v81).bind fun s83 => (q_gi s83 5 a1 11).bind fun v85 => (q_pi s83 5 (.ref r0) 11 v85).bind fun s87 => (q_gi s87 5 a1 12).bind fun v89 => (q_pi s87 5 (.ref r0) 12 v89).bind fun s91 => (q_gi s91 5 a1 13).bind fun v93 => (q_pi s91 5 (.ref r0) 13 v93).bind fun s95 => some (s95, ())
  | _ + 1, _, _, _, _ => none
set_option maxRecDepth 100000 in
set_option maxHeartbeats 4000000 in
theorem c_59 (o : X_O) : ∀ n, (∀ (d : Nat) (hd : 3 ≤ d) (s : Q_S) (r0 : Nat) (a1 : Value) (s9 : Q_S) (r : Unit), g_59 o n 0 s r0 a1 = some (s9, r) → ∀ lv : X_L, x_lget lv 0 = some (.ref r0) → x_lget lv 1 = some a1 → y_rv a1 = true → Y o d 59 0 lv [] (q_y s) (fun s1 r1 => s1 = q_y s9 ∧ r1 = none)) ∧
    (∀ (d : Nat) (hd : 3 ≤ d) (s : Q_S) (r0 : Nat) (a1 : Value) (s9 : Q_S) (r : Unit), g_59 o n 1 s r0 a1 = some (s9, r) → ∀ lv : X_L, x_lget lv 0 = some (.ref r0) → x_lget lv 1 = some a1 → y_rv a1 = true → Y o d 59 20 lv [] (q_y s) (fun s1 r1 => s1 = q_y s9 ∧ r1 = none)) := by
  intro n
  induction n with
  | zero => exact ⟨fun d hd s _ _ s9 r h => (by simp only [g_59] at h; cases h), fun d hd s _ _ s9 r h => (by simp only [g_59] at h; cases h)⟩
  | succ n ih =>
    refine ⟨?_, ?_⟩
    · intro d hd s r0 a1 s9 r h lv lk0 lk1 rv1
      obtain ⟨d, rfl⟩ : ∃ x, d = x + 1 := ⟨d - 1, by omega⟩
      simp only [g_59] at h
      refine Van rfl lk0 rfl rfl ?_
      have hz := y_bind h
      clear h
      obtain ⟨v1, h2, h⟩ := hz
      have wv1 := (y_gv_ok h2).2
      refine Vgv h2 rfl rfl rfl ?_
      have hz := y_bind h
      clear h
      obtain ⟨v3, h4, h⟩ := hz
      refine Zln (q_ln_y h4) rfl rfl ?_
      refine Van rfl lk1 rv1 rfl ?_
      have hz := y_bind h
      clear h
      obtain ⟨v5, h6, h⟩ := hz
      refine Zgi (q_gi_y h6) rfl rfl rfl ?_
      have hz := y_bind h
      clear h
      obtain ⟨_, h8, h⟩ := hz
      have c7 := q_g_ok h8
      refine Uif (q_le c7.2 c7.1) rfl rfl rfl rfl rfl rfl rfl (fun c9 => ?_) (fun c9 => ?_)
      · rw [if_pos c9] at h
        exact ih.2 _ hd _ _ _ _ _ h lv lk0 lk1 rv1
      · rw [if_neg c9] at h
        refine Van rfl lk0 rfl rfl ?_
        refine Van rfl lk1 rv1 rfl ?_
        have hz := y_bind h
        clear h
        obtain ⟨v10, h11, h⟩ := hz
        refine Zgi (q_gi_y h11) rfl rfl rfl ?_
        have hz := y_bind h
        clear h
        obtain ⟨b16, h17, h⟩ := hz
        obtain ⟨eh17, fh17, wh17⟩ := y_rcv_ok h17
        cases eh17
        have hz := y_bind h
        clear h
        obtain ⟨⟨s12, r13⟩, h14, h⟩ := hz
        try dsimp only at h
        refine Vcv rfl rfl rfl wh17 rfl rfl ⟨(Nat.le_of_ble_eq_true rfl), (Nat.le_of_ble_eq_true rfl)⟩ rfl ((c_50 o n) _ (by omega) _ _ _ _ _ h14 _ rfl rfl) (fun z1 z2 zq => ?_)
        obtain ⟨rfl, rfl⟩ := zq
        try dsimp only [Option.toList, HAppend.hAppend, Append.append, List.append]
        exact ih.2 _ hd _ _ _ _ _ h lv lk0 lk1 rv1
    · intro d hd s r0 a1 s9 r h lv lk0 lk1 rv1
      obtain ⟨d, rfl⟩ : ∃ x, d = x + 1 := ⟨d - 1, by omega⟩
      simp only [g_59] at h
      refine Van rfl lk1 rv1 rfl ?_
      have hz := y_bind h
      clear h
      obtain ⟨v1, h2, h⟩ := hz
      have wv1 := (y_gv_ok h2).2
      refine Vgv h2 rfl rfl rfl ?_
      refine Vic (v := Int32.ofInt 0) rfl rfl rfl ?_
      refine Van rfl lk0 rfl rfl ?_
      have hz := y_bind h
      clear h
      obtain ⟨v3, h4, h⟩ := hz
      have wv3 := (y_gv_ok h4).2
      refine Vgv h4 rfl rfl rfl ?_
      refine Vic (v := Int32.ofInt 0) rfl rfl rfl ?_
      refine Van rfl lk1 rv1 rfl ?_
      have hz := y_bind h
      clear h
      obtain ⟨v5, h6, h⟩ := hz
      refine Zgi (q_gi_y h6) rfl rfl rfl ?_
      have hz := y_bind h
      clear h
      obtain ⟨s7, h8, h⟩ := hz
      refine Zcp (q_cp_y h8) rfl rfl (Nat.le_of_ble_eq_true rfl) rfl ?_
      refine Van rfl lk1 rv1 rfl ?_
      have hz := y_bind h
      clear h
      obtain ⟨v9, h10, h⟩ := hz
      have wv9 := (y_gv_ok h10).2
      refine Vgv h10 rfl rfl rfl ?_
      refine Vic (v := Int32.ofInt 0) rfl rfl rfl ?_
      refine Van rfl lk0 rfl rfl ?_
      have hz := y_bind h
      clear h
      obtain ⟨v11, h12, h⟩ := hz
      have wv11 := (y_gv_ok h12).2
      refine Vgv h12 rfl rfl rfl ?_
      refine Vic (v := Int32.ofInt 0) rfl rfl rfl ?_
      refine Van rfl lk1 rv1 rfl ?_
      have hz := y_bind h
      clear h
      obtain ⟨v13, h14, h⟩ := hz
      refine Zgi (q_gi_y h14) rfl rfl rfl ?_
      have hz := y_bind h
      clear h
      obtain ⟨s15, h16, h⟩ := hz
      refine Zcp (q_cp_y h16) rfl rfl (Nat.le_of_ble_eq_true rfl) rfl ?_
      refine Van rfl lk1 rv1 rfl ?_
      have hz := y_bind h
      clear h
      obtain ⟨v17, h18, h⟩ := hz
      have wv17 := (y_gv_ok h18).2
      refine Vgv h18 rfl rfl rfl ?_
      refine Vic (v := Int32.ofInt 0) rfl rfl rfl ?_
      refine Van rfl lk0 rfl rfl ?_
      have hz := y_bind h
      clear h
      obtain ⟨v19, h20, h⟩ := hz
      have wv19 := (y_gv_ok h20).2
      refine Vgv h20 rfl rfl rfl ?_
      refine Vic (v := Int32.ofInt 0) rfl rfl rfl ?_
      refine Van rfl lk1 rv1 rfl ?_
      have hz := y_bind h
      clear h
      obtain ⟨v21, h22, h⟩ := hz
      refine Zgi (q_gi_y h22) rfl rfl rfl ?_
      have hz := y_bind h
      clear h
      obtain ⟨s23, h24, h⟩ := hz
      refine Zcp (q_cp_y h24) rfl rfl (Nat.le_of_ble_eq_true rfl) rfl ?_
      refine Van rfl lk1 rv1 rfl ?_
      have hz := y_bind h
      clear h
      obtain ⟨v25, h26, h⟩ := hz
      have wv25 := (y_gv_ok h26).2
      refine Vgv h26 rfl rfl rfl ?_
      refine Vic (v := Int32.ofInt 0) rfl rfl rfl ?_
      refine Van rfl lk0 rfl rfl ?_
      have hz := y_bind h
      clear h
      obtain ⟨v27, h28, h⟩ := hz
      have wv27 := (y_gv_ok h28).2
      refine Vgv h28 rfl rfl rfl ?_
      refine Vic (v := Int32.ofInt 0) rfl rfl rfl ?_
      refine Van rfl lk1 rv1 rfl ?_
      have hz := y_bind h
      clear h
      obtain ⟨v29, h30, h⟩ := hz
      refine Zgi (q_gi_y h30) rfl rfl rfl ?_
      have hz := y_bind h
      clear h
      obtain ⟨s31, h32, h⟩ := hz
      refine Zcp (q_cp_y h32) rfl rfl (Nat.le_of_ble_eq_true rfl) rfl ?_
      refine Van rfl lk1 rv1 rfl ?_
      have hz := y_bind h
      clear h
      obtain ⟨v33, h34, h⟩ := hz
      have wv33 := (y_gv_ok h34).2
      refine Vgv h34 rfl rfl rfl ?_
      refine Vic (v := Int32.ofInt 0) rfl rfl rfl ?_
      refine Van rfl lk0 rfl rfl ?_
      have hz := y_bind h
      clear h
      obtain ⟨v35, h36, h⟩ := hz
      have wv35 := (y_gv_ok h36).2
      refine Vgv h36 rfl rfl rfl ?_
      refine Vic (v := Int32.ofInt 0) rfl rfl rfl ?_
      refine Van rfl lk1 rv1 rfl ?_
      have hz := y_bind h
      clear h
      obtain ⟨v37, h38, h⟩ := hz
      refine Zgi (q_gi_y h38) rfl rfl rfl ?_
      have hz := y_bind h
      clear h
      obtain ⟨s39, h40, h⟩ := hz
      refine Zcp (q_cp_y h40) rfl rfl (Nat.le_of_ble_eq_true rfl) rfl ?_
      refine Van rfl lk1 rv1 rfl ?_
      have hz := y_bind h
      clear h
      obtain ⟨v41, h42, h⟩ := hz
      have wv41 := (y_gv_ok h42).2
      refine Vgv h42 rfl rfl rfl ?_
      refine Vic (v := Int32.ofInt 0) rfl rfl rfl ?_
      refine Van rfl lk0 rfl rfl ?_
      have hz := y_bind h
      clear h
      obtain ⟨v43, h44, h⟩ := hz
      have wv43 := (y_gv_ok h44).2
      refine Vgv h44 rfl rfl rfl ?_
      refine Vic (v := Int32.ofInt 0) rfl rfl rfl ?_
      refine Van rfl lk1 rv1 rfl ?_
      have hz := y_bind h
      clear h
      obtain ⟨v45, h46, h⟩ := hz
      refine Zgi (q_gi_y h46) rfl rfl rfl ?_
      have hz := y_bind h
      clear h
      obtain ⟨s47, h48, h⟩ := hz
      refine Zcp (q_cp_y h48) rfl rfl (Nat.le_of_ble_eq_true rfl) rfl ?_
      refine Van rfl lk1 rv1 rfl ?_
      have hz := y_bind h
      clear h
      obtain ⟨v49, h50, h⟩ := hz
      have wv49 := (y_gv_ok h50).2
      refine Vgv h50 rfl rfl rfl ?_
      refine Vic (v := Int32.ofInt 0) rfl rfl rfl ?_
      refine Van rfl lk0 rfl rfl ?_
      have hz := y_bind h
      clear h
      obtain ⟨v51, h52, h⟩ := hz
      have wv51 := (y_gv_ok h52).2
      refine Vgv h52 rfl rfl rfl ?_
      refine Vic (v := Int32.ofInt 0) rfl rfl rfl ?_
      refine Van rfl lk1 rv1 rfl ?_
      have hz := y_bind h
      clear h
      obtain ⟨v53, h54, h⟩ := hz
      refine Zgi (q_gi_y h54) rfl rfl rfl ?_
      have hz := y_bind h
      clear h
      obtain ⟨s55, h56, h⟩ := hz
      refine Zcp (q_cp_y h56) rfl rfl (Nat.le_of_ble_eq_true rfl) rfl ?_
      refine Van rfl lk1 rv1 rfl ?_
      have hz := y_bind h
      clear h
      obtain ⟨v57, h58, h⟩ := hz
      have wv57 := (y_gv_ok h58).2
      refine Vgv h58 rfl rfl rfl ?_
      refine Vic (v := Int32.ofInt 0) rfl rfl rfl ?_
      refine Van rfl lk0 rfl rfl ?_
      have hz := y_bind h
      clear h
      obtain ⟨v59, h60, h⟩ := hz
      have wv59 := (y_gv_ok h60).2
      refine Vgv h60 rfl rfl rfl ?_
      refine Vic (v := Int32.ofInt 0) rfl rfl rfl ?_
      refine Van rfl lk1 rv1 rfl ?_
      have hz := y_bind h
      clear h
      obtain ⟨v61, h62, h⟩ := hz
      refine Zgi (q_gi_y h62) rfl rfl rfl ?_
      have hz := y_bind h
      clear h
      obtain ⟨s63, h64, h⟩ := hz
      refine Zcp (q_cp_y h64) rfl rfl (Nat.le_of_ble_eq_true rfl) rfl ?_
      refine Van rfl lk1 rv1 rfl ?_
      have hz := y_bind h
      clear h
      obtain ⟨v65, h66, h⟩ := hz
      have wv65 := (y_gv_ok h66).2
      refine Vgv h66 rfl rfl rfl ?_
      refine Vic (v := Int32.ofInt 0) rfl rfl rfl ?_
      refine Van rfl lk0 rfl rfl ?_
      have hz := y_bind h
      clear h
      obtain ⟨v67, h68, h⟩ := hz
      have wv67 := (y_gv_ok h68).2
      refine Vgv h68 rfl rfl rfl ?_
      refine Vic (v := Int32.ofInt 0) rfl rfl rfl ?_
      refine Van rfl lk1 rv1 rfl ?_
      have hz := y_bind h
      clear h
      obtain ⟨v69, h70, h⟩ := hz
      refine Zgi (q_gi_y h70) rfl rfl rfl ?_
      have hz := y_bind h
      clear h
      obtain ⟨s71, h72, h⟩ := hz
      refine Zcp (q_cp_y h72) rfl rfl (Nat.le_of_ble_eq_true rfl) rfl ?_
      refine Van rfl lk1 rv1 rfl ?_
      have hz := y_bind h
      clear h
      obtain ⟨v73, h74, h⟩ := hz
      have wv73 := (y_gv_ok h74).2
      refine Vgv h74 rfl rfl rfl ?_
      refine Vic (v := Int32.ofInt 0) rfl rfl rfl ?_
      refine Van rfl lk0 rfl rfl ?_
      have hz := y_bind h
      clear h
      obtain ⟨v75, h76, h⟩ := hz
      have wv75 := (y_gv_ok h76).2
      refine Vgv h76 rfl rfl rfl ?_
      refine Vic (v := Int32.ofInt 0) rfl rfl rfl ?_
      refine Van rfl lk1 rv1 rfl ?_
      have hz := y_bind h
      clear h
      obtain ⟨v77, h78, h⟩ := hz
      refine Zgi (q_gi_y h78) rfl rfl rfl ?_
      have hz := y_bind h
      clear h
      obtain ⟨s79, h80, h⟩ := hz
      refine Zcp (q_cp_y h80) rfl rfl (Nat.le_of_ble_eq_true rfl) rfl ?_
      refine Van rfl lk0 rfl rfl ?_
      refine Van rfl lk1 rv1 rfl ?_
      have hz := y_bind h
      clear h
      obtain ⟨v81, h82, h⟩ := hz
      refine Zgi (q_gi_y h82) rfl rfl rfl ?_
      have hz := y_bind h
      clear h
      obtain ⟨s83, h84, h⟩ := hz
      refine Zpi (q_pi_y h84) rfl rfl rfl rfl ?_
      refine Van rfl lk0 rfl rfl ?_
      refine Van rfl lk1 rv1 rfl ?_
      have hz := y_bind h
      clear h
      obtain ⟨v85, h86, h⟩ := hz
      refine Zgi (q_gi_y h86) rfl rfl rfl ?_
      have hz := y_bind h
      clear h
      obtain ⟨s87, h88, h⟩ := hz
      refine Zpi (q_pi_y h88) rfl rfl rfl rfl ?_
      refine Van rfl lk0 rfl rfl ?_
      refine Van rfl lk1 rv1 rfl ?_
      have hz := y_bind h
      clear h
      obtain ⟨v89, h90, h⟩ := hz
      refine Zgi (q_gi_y h90) rfl rfl rfl ?_
      have hz := y_bind h
      clear h
      obtain ⟨s91, h92, h⟩ := hz
      refine Zpi (q_pi_y h92) rfl rfl rfl rfl ?_
      refine Van rfl lk0 rfl rfl ?_
      refine Van rfl lk1 rv1 rfl ?_
      have hz := y_bind h
      clear h
      obtain ⟨v93, h94, h⟩ := hz
      refine Zgi (q_gi_y h94) rfl rfl rfl ?_
      have hz := y_bind h
      clear h
      obtain ⟨s95, h96, h⟩ := hz
      refine Zpi (q_pi_y h96) rfl rfl rfl rfl ?_
      cases h
      exact Yret rfl rfl rfl rfl rfl rfl rfl ⟨rfl, rfl⟩

/-- StepRows$Run.become -/
def g_46 (o : X_O) : Nat → Nat → Q_S → Nat → Value → Option (Q_S × Unit)
  | 0, _, _, _, _ => none
  | n + 1, 0, s, r0, a1 => (q_gi s 4 a1 0).bind fun v1 => (q_pi s 4 (.ref r0) 0 v1).bind fun s3 => (q_gv s3 4 a1 1).bind fun v5 => (q_pr s3 4 (.ref r0) 1 v5).bind fun s7 => (q_gv s7 4 a1 2).bind fun v9 => (q_pr s7 4 (.ref r0) 2 v9).bind fun s11 => (q_gi s11 4 a1 3).bind fun v13 => (q_pi s11 4 (.ref r0) 3 v13).bind fun s15 => (q_gi s15 4 a1 4).bind fun v17 => (q_pi s15 4 (.ref r0) 4 v17).bind fun s19 => (q_gi s19 4 a1 5).bind fun v21 => (q_pi s19 4 (.ref r0) 5 v21).bind fun s23 => (q_gi s23 4 a1 6).bind fun v25 => (q_pi s23 4 (.ref r0) 6 v25).bind fun s27 => (q_gi s27 4 a1 7).bind fun v29 => (q_pi s27 4 (.ref r0) 7 v29).bind fun s31 => (q_gv s31 4 a1 8).bind fun v33 => (q_gv s31 4 (.ref r0) 8).bind fun v35 => (q_cp s31 v33 0 v35 0 16).bind fun s37 => (q_gv s37 4 a1 9).bind fun v39 => (q_gv s37 4 (.ref r0) 9).bind fun v41 => (q_cp s37 v39 0 v41 0 8).bind fun s43 => (q_gv s43 4 a1 10).bind fun v45 => (q_gv s43 4 (.ref r0) 10).bind fun v47 => (q_cp s43 v45 0 v47 0 8).bind fun s49 => (q_gv s49 4 (.ref r0) 11).bind fun v51 => (q_gv s49 4 a1 11).bind fun v53 => (q_rcv s49 5 v51).bind fun b59 => (g_59 o n 0 s49 b59 (v53)).bind fun q58 => some (q58.1, ())
  | _ + 1, _, _, _, _ => none
set_option maxRecDepth 100000 in
set_option maxHeartbeats 4000000 in
theorem c_46 (o : X_O) : ∀ n, (∀ (d : Nat) (hd : 4 ≤ d) (s : Q_S) (r0 : Nat) (a1 : Value) (s9 : Q_S) (r : Unit), g_46 o n 0 s r0 a1 = some (s9, r) → ∀ lv : X_L, x_lget lv 0 = some (.ref r0) → x_lget lv 1 = some a1 → y_rv a1 = true → Y o d 46 0 lv [] (q_y s) (fun s1 r1 => s1 = q_y s9 ∧ r1 = none)) := by
  intro n
  induction n with
  | zero => exact fun d hd s _ _ s9 r h => (by simp only [g_46] at h; cases h)
  | succ n ih =>
    intro d hd s r0 a1 s9 r h lv lk0 lk1 rv1
    obtain ⟨d, rfl⟩ : ∃ x, d = x + 1 := ⟨d - 1, by omega⟩
    simp only [g_46] at h
    refine Van rfl lk0 rfl rfl ?_
    refine Van rfl lk1 rv1 rfl ?_
    have hz := y_bind h
    clear h
    obtain ⟨v1, h2, h⟩ := hz
    refine Zgi (q_gi_y h2) rfl rfl rfl ?_
    have hz := y_bind h
    clear h
    obtain ⟨s3, h4, h⟩ := hz
    refine Zpi (q_pi_y h4) rfl rfl rfl rfl ?_
    refine Van rfl lk0 rfl rfl ?_
    refine Van rfl lk1 rv1 rfl ?_
    have hz := y_bind h
    clear h
    obtain ⟨v5, h6, h⟩ := hz
    have wv5 := (y_gv_ok h6).2
    refine Vgv h6 rfl rfl rfl ?_
    have hz := y_bind h
    clear h
    obtain ⟨s7, h8, h⟩ := hz
    refine Zpr (q_pr_y h8) rfl rfl rfl rfl ?_
    refine Van rfl lk0 rfl rfl ?_
    refine Van rfl lk1 rv1 rfl ?_
    have hz := y_bind h
    clear h
    obtain ⟨v9, h10, h⟩ := hz
    have wv9 := (y_gv_ok h10).2
    refine Vgv h10 rfl rfl rfl ?_
    have hz := y_bind h
    clear h
    obtain ⟨s11, h12, h⟩ := hz
    refine Zpr (q_pr_y h12) rfl rfl rfl rfl ?_
    refine Van rfl lk0 rfl rfl ?_
    refine Van rfl lk1 rv1 rfl ?_
    have hz := y_bind h
    clear h
    obtain ⟨v13, h14, h⟩ := hz
    refine Zgi (q_gi_y h14) rfl rfl rfl ?_
    have hz := y_bind h
    clear h
    obtain ⟨s15, h16, h⟩ := hz
    refine Zpi (q_pi_y h16) rfl rfl rfl rfl ?_
    refine Van rfl lk0 rfl rfl ?_
    refine Van rfl lk1 rv1 rfl ?_
    have hz := y_bind h
    clear h
    obtain ⟨v17, h18, h⟩ := hz
    refine Zgi (q_gi_y h18) rfl rfl rfl ?_
    have hz := y_bind h
    clear h
    obtain ⟨s19, h20, h⟩ := hz
    refine Zpi (q_pi_y h20) rfl rfl rfl rfl ?_
    refine Van rfl lk0 rfl rfl ?_
    refine Van rfl lk1 rv1 rfl ?_
    have hz := y_bind h
    clear h
    obtain ⟨v21, h22, h⟩ := hz
    refine Zgi (q_gi_y h22) rfl rfl rfl ?_
    have hz := y_bind h
    clear h
    obtain ⟨s23, h24, h⟩ := hz
    refine Zpi (q_pi_y h24) rfl rfl rfl rfl ?_
    refine Van rfl lk0 rfl rfl ?_
    refine Van rfl lk1 rv1 rfl ?_
    have hz := y_bind h
    clear h
    obtain ⟨v25, h26, h⟩ := hz
    refine Zgi (q_gi_y h26) rfl rfl rfl ?_
    have hz := y_bind h
    clear h
    obtain ⟨s27, h28, h⟩ := hz
    refine Zpi (q_pi_y h28) rfl rfl rfl rfl ?_
    refine Van rfl lk0 rfl rfl ?_
    refine Van rfl lk1 rv1 rfl ?_
    have hz := y_bind h
    clear h
    obtain ⟨v29, h30, h⟩ := hz
    refine Zgi (q_gi_y h30) rfl rfl rfl ?_
    have hz := y_bind h
    clear h
    obtain ⟨s31, h32, h⟩ := hz
    refine Zpi (q_pi_y h32) rfl rfl rfl rfl ?_
    refine Van rfl lk1 rv1 rfl ?_
    have hz := y_bind h
    clear h
    obtain ⟨v33, h34, h⟩ := hz
    have wv33 := (y_gv_ok h34).2
    refine Vgv h34 rfl rfl rfl ?_
    refine Vic (v := Int32.ofInt 0) rfl rfl rfl ?_
    refine Van rfl lk0 rfl rfl ?_
    have hz := y_bind h
    clear h
    obtain ⟨v35, h36, h⟩ := hz
    have wv35 := (y_gv_ok h36).2
    refine Vgv h36 rfl rfl rfl ?_
    refine Vic (v := Int32.ofInt 0) rfl rfl rfl ?_
    refine Vbp (v := Int32.ofInt 16) rfl (by decide) rfl ?_
    have hz := y_bind h
    clear h
    obtain ⟨s37, h38, h⟩ := hz
    refine Zcp (q_cp_y h38) rfl rfl (Nat.le_of_ble_eq_true rfl) rfl ?_
    refine Van rfl lk1 rv1 rfl ?_
    have hz := y_bind h
    clear h
    obtain ⟨v39, h40, h⟩ := hz
    have wv39 := (y_gv_ok h40).2
    refine Vgv h40 rfl rfl rfl ?_
    refine Vic (v := Int32.ofInt 0) rfl rfl rfl ?_
    refine Van rfl lk0 rfl rfl ?_
    have hz := y_bind h
    clear h
    obtain ⟨v41, h42, h⟩ := hz
    have wv41 := (y_gv_ok h42).2
    refine Vgv h42 rfl rfl rfl ?_
    refine Vic (v := Int32.ofInt 0) rfl rfl rfl ?_
    refine Vbp (v := Int32.ofInt 8) rfl (by decide) rfl ?_
    have hz := y_bind h
    clear h
    obtain ⟨s43, h44, h⟩ := hz
    refine Zcp (q_cp_y h44) rfl rfl (Nat.le_of_ble_eq_true rfl) rfl ?_
    refine Van rfl lk1 rv1 rfl ?_
    have hz := y_bind h
    clear h
    obtain ⟨v45, h46, h⟩ := hz
    have wv45 := (y_gv_ok h46).2
    refine Vgv h46 rfl rfl rfl ?_
    refine Vic (v := Int32.ofInt 0) rfl rfl rfl ?_
    refine Van rfl lk0 rfl rfl ?_
    have hz := y_bind h
    clear h
    obtain ⟨v47, h48, h⟩ := hz
    have wv47 := (y_gv_ok h48).2
    refine Vgv h48 rfl rfl rfl ?_
    refine Vic (v := Int32.ofInt 0) rfl rfl rfl ?_
    refine Vbp (v := Int32.ofInt 8) rfl (by decide) rfl ?_
    have hz := y_bind h
    clear h
    obtain ⟨s49, h50, h⟩ := hz
    refine Zcp (q_cp_y h50) rfl rfl (Nat.le_of_ble_eq_true rfl) rfl ?_
    refine Van rfl lk0 rfl rfl ?_
    have hz := y_bind h
    clear h
    obtain ⟨v51, h52, h⟩ := hz
    have wv51 := (y_gv_ok h52).2
    refine Vgv h52 rfl rfl rfl ?_
    refine Van rfl lk1 rv1 rfl ?_
    have hz := y_bind h
    clear h
    obtain ⟨v53, h54, h⟩ := hz
    have wv53 := (y_gv_ok h54).2
    refine Vgv h54 rfl rfl rfl ?_
    have hz := y_bind h
    clear h
    obtain ⟨b59, h60, h⟩ := hz
    obtain ⟨eh60, fh60, wh60⟩ := y_rcv_ok h60
    cases eh60
    have hz := y_bind h
    clear h
    obtain ⟨⟨s55, r56⟩, h57, h⟩ := hz
    try dsimp only at h
    refine Vcv rfl rfl rfl wh60 rfl rfl ⟨(Nat.le_of_ble_eq_true rfl), (by simp only [List.take, List.reverse_cons, List.reverse_nil, List.nil_append, List.cons_append, List.map_cons, List.map_nil, y_cati, y_catl, y_catr, y_catn, y_cata, y_rv_cat wv53, List.sum_cons, List.sum_nil]; decide +kernel)⟩ rfl ((c_59 o n).1 _ (by omega) _ _ _ _ _ h57 _ (by simp [lv_args, x_lget, q_y1, y_cati, y_catl, y_catr, y_rv_cat wv53]) (by simp [lv_args, x_lget, q_y1, y_cati, y_catl, y_catr, y_rv_cat wv53]) wv53) (fun z1 z2 zq => ?_)
    obtain ⟨rfl, rfl⟩ := zq
    try dsimp only [Option.toList, HAppend.hAppend, Append.append, List.append]
    cases h
    exact Yret rfl rfl rfl rfl rfl rfl rfl ⟨rfl, rfl⟩

/-- StepRows.save -/
def g_12 (o : X_O) : Nat → Nat → Q_S → Nat → Option (Q_S × Int)
  | 0, _, _, _ => none
  | n + 1, 0, s, r0 => (q_gv s 0 (.ref r0) 5).bind fun v1 => (q_gi s 4 v1 0).bind fun v3 => (q_g (q_in v3)).bind fun _ => if ¬ v3 = 3 then (q_gi s 0 (.ref r0) 8).bind fun v8 => (q_g (q_in v8)).bind fun _ => if v8 < 8 then (q_no s 4).bind fun s13 => (q_gv s13 0 (.ref r0) 5).bind fun v15 => (q_gv s13 4 v15 11).bind fun v17 => (q_gi s13 5 v17 12).bind fun v19 => (g_41 o n 0 s13 (s.1) (v19)).bind fun q24 => (q_gv q24.1 0 (.ref r0) 5).bind fun v27 => (q_rcv q24.1 4 (.ref s.1)).bind fun b33 => (g_46 o n 0 q24.1 b33 (v27)).bind fun q32 => (q_gv q32.1 0 (.ref r0) 7).bind fun v37 => (q_gi q32.1 0 (.ref r0) 8).bind fun v39 => (q_as q32.1 v37 v39 (.ref s.1)).bind fun s41 => (q_gi s41 0 (.ref r0) 8).bind fun v43 => (q_pi s41 0 (.ref r0) 8 (v43 + 1)).bind fun s45 => (q_gi s45 0 (.ref r0) 8).bind fun v47 => some (s45, (v47 - 1)) else some (s, (-2)) else some (s, (-1))
  | _ + 1, _, _, _ => none
set_option maxRecDepth 100000 in
set_option maxHeartbeats 4000000 in
theorem c_12 (o : X_O) : ∀ n, (∀ (d : Nat) (hd : 5 ≤ d) (s : Q_S) (r0 : Nat) (s9 : Q_S) (r : Int), g_12 o n 0 s r0 = some (s9, r) → ∀ lv : X_L, x_lget lv 0 = some (.ref r0) → Y o d 12 0 lv [] (q_y s) (fun s1 r1 => s1 = q_y s9 ∧ r1 = some (.int (Int32.ofInt r)))) := by
  intro n
  induction n with
  | zero => exact fun d hd s _ s9 r h => (by simp only [g_12] at h; cases h)
  | succ n ih =>
    intro d hd s r0 s9 r h lv lk0
    obtain ⟨d, rfl⟩ : ∃ x, d = x + 1 := ⟨d - 1, by omega⟩
    simp only [g_12] at h
    refine Van rfl lk0 rfl rfl ?_
    have hz := y_bind h
    clear h
    obtain ⟨v1, h2, h⟩ := hz
    have wv1 := (y_gv_ok h2).2
    refine Vgv h2 rfl rfl rfl ?_
    have hz := y_bind h
    clear h
    obtain ⟨v3, h4, h⟩ := hz
    refine Zgi (q_gi_y h4) rfl rfl rfl ?_
    refine Vic (v := Int32.ofInt 3) rfl rfl rfl ?_
    have hz := y_bind h
    clear h
    obtain ⟨_, h6, h⟩ := hz
    have c5 := q_g_ok h6
    refine Uif (not_congr (q_eq c5 (by decide))) rfl rfl rfl rfl rfl rfl rfl (fun c7 => ?_) (fun c7 => ?_)
    · rw [if_pos c7] at h
      refine Van rfl lk0 rfl rfl ?_
      have hz := y_bind h
      clear h
      obtain ⟨v8, h9, h⟩ := hz
      refine Zgi (q_gi_y h9) rfl rfl rfl ?_
      refine Vbp (v := Int32.ofInt 8) rfl (by decide) rfl ?_
      have hz := y_bind h
      clear h
      obtain ⟨_, h11, h⟩ := hz
      have c10 := q_g_ok h11
      refine Uif (q_lt c10 (by decide)) rfl rfl rfl rfl rfl rfl rfl (fun c12 => ?_) (fun c12 => ?_)
      · rw [if_pos c12] at h
        have hz := y_bind h
        clear h
        obtain ⟨s13, h14, h⟩ := hz
        refine Zno (q_no_y h14) rfl rfl (by decide +kernel) rfl ?_
        refine Vdup rfl rfl rfl ?_
        refine Van rfl lk0 rfl rfl ?_
        have hz := y_bind h
        clear h
        obtain ⟨v15, h16, h⟩ := hz
        have wv15 := (y_gv_ok h16).2
        refine Vgv h16 rfl rfl rfl ?_
        have hz := y_bind h
        clear h
        obtain ⟨v17, h18, h⟩ := hz
        have wv17 := (y_gv_ok h18).2
        refine Vgv h18 rfl rfl rfl ?_
        have hz := y_bind h
        clear h
        obtain ⟨v19, h20, h⟩ := hz
        refine Zgi (q_gi_y h20) rfl rfl rfl ?_
        have hz := y_bind h
        clear h
        obtain ⟨⟨s21, r22⟩, h23, h⟩ := hz
        try dsimp only at h
        refine Vci rfl rfl (Or.inl rfl) rfl rfl ⟨(Nat.le_of_ble_eq_true rfl), (Nat.le_of_ble_eq_true rfl)⟩ rfl ((c_41 o n) _ (by omega) _ _ _ _ _ h23 _ rfl rfl) (fun z1 z2 zq => ?_)
        obtain ⟨rfl, rfl⟩ := zq
        try dsimp only [Option.toList, HAppend.hAppend, Append.append, List.append]
        refine Vsan rfl rfl rfl (fun lv lk1 hk => ?_)
        have lk0 := hk 0 _ lk0 (by decide) (by decide) (Or.inr rfl)
        refine Van rfl lk1 rfl rfl ?_
        refine Van rfl lk0 rfl rfl ?_
        have hz := y_bind h
        clear h
        obtain ⟨v27, h28, h⟩ := hz
        have wv27 := (y_gv_ok h28).2
        refine Vgv h28 rfl rfl rfl ?_
        have hz := y_bind h
        clear h
        obtain ⟨b33, h34, h⟩ := hz
        obtain ⟨eh34, fh34, wh34⟩ := y_rcv_ok h34
        cases eh34
        have hz := y_bind h
        clear h
        obtain ⟨⟨s29, r30⟩, h31, h⟩ := hz
        try dsimp only at h
        refine Vcv rfl rfl rfl wh34 rfl rfl ⟨(Nat.le_of_ble_eq_true rfl), (by simp only [List.take, List.reverse_cons, List.reverse_nil, List.nil_append, List.cons_append, List.map_cons, List.map_nil, y_cati, y_catl, y_catr, y_catn, y_cata, y_rv_cat wv27, List.sum_cons, List.sum_nil]; decide +kernel)⟩ rfl ((c_46 o n) _ (by omega) _ _ _ _ _ h31 _ (by simp [lv_args, x_lget, q_y1, y_cati, y_catl, y_catr, y_rv_cat wv27]) (by simp [lv_args, x_lget, q_y1, y_cati, y_catl, y_catr, y_rv_cat wv27]) wv27) (fun z1 z2 zq => ?_)
        obtain ⟨rfl, rfl⟩ := zq
        try dsimp only [Option.toList, HAppend.hAppend, Append.append, List.append]
        refine Van rfl lk0 rfl rfl ?_
        have hz := y_bind h
        clear h
        obtain ⟨v37, h38, h⟩ := hz
        have wv37 := (y_gv_ok h38).2
        refine Vgv h38 rfl rfl rfl ?_
        refine Van rfl lk0 rfl rfl ?_
        have hz := y_bind h
        clear h
        obtain ⟨v39, h40, h⟩ := hz
        refine Zgi (q_gi_y h40) rfl rfl rfl ?_
        refine Van rfl lk1 rfl rfl ?_
        have hz := y_bind h
        clear h
        obtain ⟨s41, h42, h⟩ := hz
        refine Zas (q_as_y h42) rfl rfl ?_
        refine Van rfl lk0 rfl rfl ?_
        refine Vdup rfl rfl rfl ?_
        have hz := y_bind h
        clear h
        obtain ⟨v43, h44, h⟩ := hz
        refine Zgi (q_gi_y h44) rfl rfl rfl ?_
        refine Vic (v := Int32.ofInt 1) rfl rfl rfl ?_
        refine Uadd rfl rfl ?_
        have hz := y_bind h
        clear h
        obtain ⟨s45, h46, h⟩ := hz
        refine Zpi (q_pi_y h46) rfl rfl rfl rfl ?_
        refine Van rfl lk0 rfl rfl ?_
        have hz := y_bind h
        clear h
        obtain ⟨v47, h48, h⟩ := hz
        refine Zgi (q_gi_y h48) rfl rfl rfl ?_
        refine Vic (v := Int32.ofInt 1) rfl rfl rfl ?_
        refine Usub rfl rfl ?_
        cases h
        exact Yret rfl rfl rfl rfl rfl rfl rfl ⟨rfl, rfl⟩
      · rw [if_neg c12] at h
        refine Vbp (v := Int32.ofInt (-2)) rfl (by decide) rfl ?_
        cases h
        exact Yret rfl rfl rfl rfl rfl rfl rfl ⟨rfl, rfl⟩
    · rw [if_neg c7] at h
      refine Vic (v := Int32.ofInt (-1)) rfl rfl rfl ?_
      cases h
      exact Yret rfl rfl rfl rfl rfl rfl rfl ⟨rfl, rfl⟩

/-- StepRows.back -/
def g_13 (o : X_O) : Nat → Nat → Q_S → Nat → Int → Option (Q_S × Int)
  | 0, _, _, _, _ => none
  | n + 1, 0, s, r0, i1 => (q_g (q_in i1)).bind fun _ => if i1 < 0 then g_13 o n 1 s 0 0 else (q_gi s 0 (.ref r0) 8).bind fun v4 => (q_g (q_in i1 ∧ q_in v4)).bind fun _ => if i1 < v4 then (q_gv s 0 (.ref r0) 5).bind fun v9 => (q_gv s 0 (.ref r0) 7).bind fun v11 => (q_aa s v11 i1).bind fun v13 => (q_rcv s 4 v9).bind fun b19 => (g_46 o n 0 s b19 (v13)).bind fun q18 => some (q18.1, 1) else g_13 o n 1 s 0 0
  | n + 1, 1, s, r0, i1 => some (s, 0)
  | _ + 1, _, _, _, _ => none
set_option maxRecDepth 100000 in
set_option maxHeartbeats 4000000 in
theorem c_13 (o : X_O) : ∀ n, (∀ (d : Nat) (hd : 5 ≤ d) (s : Q_S) (r0 : Nat) (i1 : Int) (s9 : Q_S) (r : Int), g_13 o n 0 s r0 i1 = some (s9, r) → ∀ lv : X_L, x_lget lv 0 = some (.ref r0) → x_lget lv 1 = some (.int (Int32.ofInt i1)) → Y o d 13 0 lv [] (q_y s) (fun s1 r1 => s1 = q_y s9 ∧ r1 = some (.int (Int32.ofInt r)))) ∧
    (∀ (d : Nat) (hd : 5 ≤ d) (s : Q_S) (r0 : Nat) (i1 : Int) (s9 : Q_S) (r : Int), g_13 o n 1 s r0 i1 = some (s9, r) → ∀ lv : X_L, True → Y o d 13 12 lv [] (q_y s) (fun s1 r1 => s1 = q_y s9 ∧ r1 = some (.int (Int32.ofInt r)))) := by
  intro n
  induction n with
  | zero => exact ⟨fun d hd s _ _ s9 r h => (by simp only [g_13] at h; cases h), fun d hd s _ _ s9 r h => (by simp only [g_13] at h; cases h)⟩
  | succ n ih =>
    refine ⟨?_, ?_⟩
    · intro d hd s r0 i1 s9 r h lv lk0 lk1
      obtain ⟨d, rfl⟩ : ∃ x, d = x + 1 := ⟨d - 1, by omega⟩
      simp only [g_13] at h
      refine Vin rfl lk1 rfl ?_
      have hz := y_bind h
      clear h
      obtain ⟨_, h2, h⟩ := hz
      have c1 := q_g_ok h2
      refine Uif (q_lt0 c1) rfl rfl rfl rfl rfl rfl rfl (fun c3 => ?_) (fun c3 => ?_)
      · rw [if_pos c3] at h
        exact ih.2 _ hd _ _ _ _ _ h lv trivial
      · rw [if_neg c3] at h
        refine Vin rfl lk1 rfl ?_
        refine Van rfl lk0 rfl rfl ?_
        have hz := y_bind h
        clear h
        obtain ⟨v4, h5, h⟩ := hz
        refine Zgi (q_gi_y h5) rfl rfl rfl ?_
        have hz := y_bind h
        clear h
        obtain ⟨_, h7, h⟩ := hz
        have c6 := q_g_ok h7
        refine Uif (q_lt c6.1 c6.2) rfl rfl rfl rfl rfl rfl rfl (fun c8 => ?_) (fun c8 => ?_)
        · rw [if_pos c8] at h
          refine Van rfl lk0 rfl rfl ?_
          have hz := y_bind h
          clear h
          obtain ⟨v9, h10, h⟩ := hz
          have wv9 := (y_gv_ok h10).2
          refine Vgv h10 rfl rfl rfl ?_
          refine Van rfl lk0 rfl rfl ?_
          have hz := y_bind h
          clear h
          obtain ⟨v11, h12, h⟩ := hz
          have wv11 := (y_gv_ok h12).2
          refine Vgv h12 rfl rfl rfl ?_
          refine Vin rfl lk1 rfl ?_
          have hz := y_bind h
          clear h
          obtain ⟨v13, h14, h⟩ := hz
          have wv13 := y_aa_rv (q_aa_y h14)
          refine Zaa (q_aa_y h14) rfl rfl ?_
          have hz := y_bind h
          clear h
          obtain ⟨b19, h20, h⟩ := hz
          obtain ⟨eh20, fh20, wh20⟩ := y_rcv_ok h20
          cases eh20
          have hz := y_bind h
          clear h
          obtain ⟨⟨s15, r16⟩, h17, h⟩ := hz
          try dsimp only at h
          refine Vcv rfl rfl rfl wh20 rfl rfl ⟨(Nat.le_of_ble_eq_true rfl), (by simp only [List.take, List.reverse_cons, List.reverse_nil, List.nil_append, List.cons_append, List.map_cons, List.map_nil, y_cati, y_catl, y_catr, y_catn, y_cata, y_rv_cat wv13, List.sum_cons, List.sum_nil]; decide +kernel)⟩ rfl ((c_46 o n) _ (by omega) _ _ _ _ _ h17 _ (by simp [lv_args, x_lget, q_y1, y_cati, y_catl, y_catr, y_rv_cat wv13]) (by simp [lv_args, x_lget, q_y1, y_cati, y_catl, y_catr, y_rv_cat wv13]) wv13) (fun z1 z2 zq => ?_)
          obtain ⟨rfl, rfl⟩ := zq
          try dsimp only [Option.toList, HAppend.hAppend, Append.append, List.append]
          refine Vic (v := Int32.ofInt 1) rfl rfl rfl ?_
          cases h
          exact Yret rfl rfl rfl rfl rfl rfl rfl ⟨rfl, rfl⟩
        · rw [if_neg c8] at h
          exact ih.2 _ hd _ _ _ _ _ h lv trivial
    · intro d hd s r0 i1 s9 r h lv _
      obtain ⟨d, rfl⟩ : ∃ x, d = x + 1 := ⟨d - 1, by omega⟩
      simp only [g_13] at h
      refine Vic (v := Int32.ofInt 0) rfl rfl rfl ?_
      cases h
      exact Yret rfl rfl rfl rfl rfl rfl rfl ⟨rfl, rfl⟩

/-- StepRows.swap -/
def g_14 (o : X_O) : Nat → Nat → Q_S → Nat → Int → Option (Q_S × Int)
  | 0, _, _, _, _ => none
  | n + 1, 0, s, r0, i1 => (q_rcv s 0 (.ref r0)).bind fun b5 => (g_7 o n 0 s b5 (i1) 0).bind fun q4 => (q_g (q_in q4.2)).bind fun _ => if q4.2 = 0 then g_14 o n 1 q4.1 0 0 else (q_gv q4.1 0 (.ref r0) 5).bind fun v12 => (q_rcv q4.1 4 v12).bind fun b18 => (g_43 o n 0 q4.1 b18 0).bind fun q17 => (q_g (q_in q17.2)).bind fun _ => if ¬ q17.2 = 0 then (q_gv q17.1 0 (.ref r0) 5).bind fun v25 => (q_gv q17.1 0 (.ref r0) 2).bind fun v27 => (q_aa q17.1 v27 i1).bind fun v29 => (q_pr q17.1 4 v25 2 v29).bind fun s31 => some (s31, 0) else g_14 o n 1 q17.1 0 0
  | n + 1, 1, s, r0, i1 => some (s, 1)
  | _ + 1, _, _, _, _ => none
set_option maxRecDepth 100000 in
set_option maxHeartbeats 4000000 in
theorem c_14 (o : X_O) : ∀ n, (∀ (d : Nat) (hd : 1 ≤ d) (s : Q_S) (r0 : Nat) (i1 : Int) (s9 : Q_S) (r : Int), g_14 o n 0 s r0 i1 = some (s9, r) → ∀ lv : X_L, x_lget lv 0 = some (.ref r0) → x_lget lv 1 = some (.int (Int32.ofInt i1)) → Y o d 14 0 lv [] (q_y s) (fun s1 r1 => s1 = q_y s9 ∧ r1 = some (.int (Int32.ofInt r)))) ∧
    (∀ (d : Nat) (hd : 1 ≤ d) (s : Q_S) (r0 : Nat) (i1 : Int) (s9 : Q_S) (r : Int), g_14 o n 1 s r0 i1 = some (s9, r) → ∀ lv : X_L, True → Y o d 14 18 lv [] (q_y s) (fun s1 r1 => s1 = q_y s9 ∧ r1 = some (.int (Int32.ofInt r)))) := by
  intro n
  induction n with
  | zero => exact ⟨fun d hd s _ _ s9 r h => (by simp only [g_14] at h; cases h), fun d hd s _ _ s9 r h => (by simp only [g_14] at h; cases h)⟩
  | succ n ih =>
    refine ⟨?_, ?_⟩
    · intro d hd s r0 i1 s9 r h lv lk0 lk1
      obtain ⟨d, rfl⟩ : ∃ x, d = x + 1 := ⟨d - 1, by omega⟩
      simp only [g_14] at h
      refine Van rfl lk0 rfl rfl ?_
      refine Vin rfl lk1 rfl ?_
      have hz := y_bind h
      clear h
      obtain ⟨b5, h6, h⟩ := hz
      obtain ⟨eh6, fh6, wh6⟩ := y_rcv_ok h6
      cases eh6
      have hz := y_bind h
      clear h
      obtain ⟨⟨s1, r2⟩, h3, h⟩ := hz
      try dsimp only at h
      refine Vcv rfl rfl rfl wh6 rfl rfl ⟨(Nat.le_of_ble_eq_true rfl), (Nat.le_of_ble_eq_true rfl)⟩ rfl ((c_7 o n).1 _ (by omega) _ _ _ _ _ _ h3 _ rfl rfl) (fun z1 z2 zq => ?_)
      obtain ⟨rfl, rfl⟩ := zq
      try dsimp only [Option.toList, HAppend.hAppend, Append.append, List.append]
      have hz := y_bind h
      clear h
      obtain ⟨_, h10, h⟩ := hz
      have c9 := q_g_ok h10
      refine Uif (q_eq0 c9) rfl rfl rfl rfl rfl rfl rfl (fun c11 => ?_) (fun c11 => ?_)
      · rw [if_pos c11] at h
        exact ih.2 _ hd _ _ _ _ _ h lv trivial
      · rw [if_neg c11] at h
        refine Van rfl lk0 rfl rfl ?_
        have hz := y_bind h
        clear h
        obtain ⟨v12, h13, h⟩ := hz
        have wv12 := (y_gv_ok h13).2
        refine Vgv h13 rfl rfl rfl ?_
        have hz := y_bind h
        clear h
        obtain ⟨b18, h19, h⟩ := hz
        obtain ⟨eh19, fh19, wh19⟩ := y_rcv_ok h19
        cases eh19
        have hz := y_bind h
        clear h
        obtain ⟨⟨s14, r15⟩, h16, h⟩ := hz
        try dsimp only at h
        refine Vcv rfl rfl rfl wh19 rfl rfl ⟨(Nat.le_of_ble_eq_true rfl), (Nat.le_of_ble_eq_true rfl)⟩ rfl ((c_43 o n).1 _ (by omega) _ _ _ _ _ h16 _ rfl) (fun z1 z2 zq => ?_)
        obtain ⟨rfl, rfl⟩ := zq
        try dsimp only [Option.toList, HAppend.hAppend, Append.append, List.append]
        have hz := y_bind h
        clear h
        obtain ⟨_, h23, h⟩ := hz
        have c22 := q_g_ok h23
        refine Uif (not_congr (q_eq0 c22)) rfl rfl rfl rfl rfl rfl rfl (fun c24 => ?_) (fun c24 => ?_)
        · rw [if_pos c24] at h
          refine Van rfl lk0 rfl rfl ?_
          have hz := y_bind h
          clear h
          obtain ⟨v25, h26, h⟩ := hz
          have wv25 := (y_gv_ok h26).2
          refine Vgv h26 rfl rfl rfl ?_
          refine Van rfl lk0 rfl rfl ?_
          have hz := y_bind h
          clear h
          obtain ⟨v27, h28, h⟩ := hz
          have wv27 := (y_gv_ok h28).2
          refine Vgv h28 rfl rfl rfl ?_
          refine Vin rfl lk1 rfl ?_
          have hz := y_bind h
          clear h
          obtain ⟨v29, h30, h⟩ := hz
          have wv29 := y_aa_rv (q_aa_y h30)
          refine Zaa (q_aa_y h30) rfl rfl ?_
          have hz := y_bind h
          clear h
          obtain ⟨s31, h32, h⟩ := hz
          refine Zpr (q_pr_y h32) rfl rfl rfl rfl ?_
          refine Vic (v := Int32.ofInt 0) rfl rfl rfl ?_
          cases h
          exact Yret rfl rfl rfl rfl rfl rfl rfl ⟨rfl, rfl⟩
        · rw [if_neg c24] at h
          exact ih.2 _ hd _ _ _ _ _ h lv trivial
    · intro d hd s r0 i1 s9 r h lv _
      obtain ⟨d, rfl⟩ : ∃ x, d = x + 1 := ⟨d - 1, by omega⟩
      simp only [g_14] at h
      refine Vic (v := Int32.ofInt 1) rfl rfl rfl ?_
      cases h
      exact Yret rfl rfl rfl rfl rfl rfl rfl ⟨rfl, rfl⟩

/-- StepRows.value -/
def g_15 (o : X_O) : Nat → Nat → Q_S → Nat → Int → Int64 → Option (Q_S × Int64)
  | 0, _, _, _, _, _ => none
  | n + 1, 0, s, r0, i1, tl0 => (q_g (q_in i1)).bind fun _ => if i1 < 0 then g_15 o n 1 s 0 0 0 else (q_g (q_in i1)).bind fun _ => if i1 < 16 then (q_gv s 0 (.ref r0) 5).bind fun v7 => (q_gv s 4 v7 8).bind fun v9 => (q_la s v9 i1).bind fun v11 => g_15 o n 2 s 0 0 (v11) else g_15 o n 1 s 0 0 0
  | n + 1, 1, s, r0, i1, tl0 => g_15 o n 2 s 0 0 (0)
  | n + 1, 2, s, r0, i1, tl0 => some (s, tl0)
  | _ + 1, _, _, _, _, _ => none
set_option maxRecDepth 100000 in
set_option maxHeartbeats 4000000 in
theorem c_15 (o : X_O) : ∀ n, (∀ (d : Nat) (hd : 0 ≤ d) (s : Q_S) (r0 : Nat) (i1 : Int) (tl0 : Int64) (s9 : Q_S) (r : Int64), g_15 o n 0 s r0 i1 tl0 = some (s9, r) → ∀ lv : X_L, x_lget lv 0 = some (.ref r0) → x_lget lv 1 = some (.int (Int32.ofInt i1)) → Y o d 15 0 lv [] (q_y s) (fun s1 r1 => s1 = q_y s9 ∧ r1 = some (.long r))) ∧
    (∀ (d : Nat) (hd : 0 ≤ d) (s : Q_S) (r0 : Nat) (i1 : Int) (tl0 : Int64) (s9 : Q_S) (r : Int64), g_15 o n 1 s r0 i1 tl0 = some (s9, r) → ∀ lv : X_L, True → Y o d 15 10 lv [] (q_y s) (fun s1 r1 => s1 = q_y s9 ∧ r1 = some (.long r))) ∧
    (∀ (d : Nat) (hd : 0 ≤ d) (s : Q_S) (r0 : Nat) (i1 : Int) (tl0 : Int64) (s9 : Q_S) (r : Int64), g_15 o n 2 s r0 i1 tl0 = some (s9, r) → ∀ lv : X_L, True → Y o d 15 23 lv [.long tl0] (q_y s) (fun s1 r1 => s1 = q_y s9 ∧ r1 = some (.long r))) := by
  intro n
  induction n with
  | zero => exact ⟨fun d hd s _ _ _ s9 r h => (by simp only [g_15] at h; cases h), fun d hd s _ _ _ s9 r h => (by simp only [g_15] at h; cases h), fun d hd s _ _ _ s9 r h => (by simp only [g_15] at h; cases h)⟩
  | succ n ih =>
    refine ⟨?_, ?_, ?_⟩
    · intro d hd s r0 i1 tl0 s9 r h lv lk0 lk1
      simp only [g_15] at h
      refine Vin rfl lk1 rfl ?_
      have hz := y_bind h
      clear h
      obtain ⟨_, h2, h⟩ := hz
      have c1 := q_g_ok h2
      refine Uif (q_lt0 c1) rfl rfl rfl rfl rfl rfl rfl (fun c3 => ?_) (fun c3 => ?_)
      · rw [if_pos c3] at h
        exact ih.2.1 _ hd _ _ _ _ _ _ h lv trivial
      · rw [if_neg c3] at h
        refine Vin rfl lk1 rfl ?_
        refine Vbp (v := Int32.ofInt 16) rfl (by decide) rfl ?_
        have hz := y_bind h
        clear h
        obtain ⟨_, h5, h⟩ := hz
        have c4 := q_g_ok h5
        refine Uif (q_lt c4 (by decide)) rfl rfl rfl rfl rfl rfl rfl (fun c6 => ?_) (fun c6 => ?_)
        · rw [if_pos c6] at h
          refine Van rfl lk0 rfl rfl ?_
          have hz := y_bind h
          clear h
          obtain ⟨v7, h8, h⟩ := hz
          have wv7 := (y_gv_ok h8).2
          refine Vgv h8 rfl rfl rfl ?_
          have hz := y_bind h
          clear h
          obtain ⟨v9, h10, h⟩ := hz
          have wv9 := (y_gv_ok h10).2
          refine Vgv h10 rfl rfl rfl ?_
          refine Vin rfl lk1 rfl ?_
          have hz := y_bind h
          clear h
          obtain ⟨v11, h12, h⟩ := hz
          refine Zla (q_la_y h12) rfl rfl ?_
          exact ih.2.2 _ hd _ _ _ _ _ _ h lv trivial
        · rw [if_neg c6] at h
          exact ih.2.1 _ hd _ _ _ _ _ _ h lv trivial
    · intro d hd s r0 i1 tl0 s9 r h lv _
      simp only [g_15] at h
      refine Vlc (v := 0) rfl (by decide) rfl ?_
      refine Ygo rfl rfl rfl rfl rfl rfl ?_
      exact ih.2.2 _ hd _ _ _ _ _ _ h lv trivial
    · intro d hd s r0 i1 tl0 s9 r h lv _
      simp only [g_15] at h
      cases h
      exact Yret rfl rfl rfl rfl rfl rfl rfl ⟨rfl, rfl⟩

/-- StepRows.shared -/
def g_16 (o : X_O) : Nat → Nat → Q_S → Nat → Int → Int → Int → Option (Q_S × Int)
  | 0, _, _, _, _, _, _ => none
  | n + 1, 0, s, r0, i1, i2, ti0 => (q_rcv s 0 (.ref r0)).bind fun b5 => (g_7 o n 0 s b5 (i1) 0).bind fun q4 => (q_g (q_in q4.2)).bind fun _ => if q4.2 = 0 then g_16 o n 1 q4.1 0 0 0 0 else (q_rcv q4.1 0 (.ref r0)).bind fun b16 => (g_7 o n 0 q4.1 b16 (i2) 0).bind fun q15 => (q_g (q_in q15.2)).bind fun _ => if q15.2 = 0 then g_16 o n 1 q15.1 0 0 0 0 else (q_gv q15.1 0 (.ref r0) 2).bind fun v23 => (q_aa q15.1 v23 i1).bind fun v25 => (q_gi q15.1 3 v25 9).bind fun v27 => (q_gv q15.1 0 (.ref r0) 2).bind fun v29 => (q_aa q15.1 v29 i2).bind fun v31 => (q_gi q15.1 3 v31 9).bind fun v33 => (q_g (q_in v27 ∧ q_in v33)).bind fun _ => if ¬ v27 = v33 then g_16 o n 1 q15.1 0 0 0 0 else g_16 o n 2 q15.1 0 0 0 (1)
  | n + 1, 1, s, r0, i1, i2, ti0 => g_16 o n 2 s 0 0 0 (0)
  | n + 1, 2, s, r0, i1, i2, ti0 => (q_g (ti0 = 0 ∨ ti0 = 1)).bind fun _ => some (s, ti0)
  | _ + 1, _, _, _, _, _, _ => none
set_option maxRecDepth 100000 in
set_option maxHeartbeats 4000000 in
theorem c_16 (o : X_O) : ∀ n, (∀ (d : Nat) (hd : 1 ≤ d) (s : Q_S) (r0 : Nat) (i1 : Int) (i2 : Int) (ti0 : Int) (s9 : Q_S) (r : Int), g_16 o n 0 s r0 i1 i2 ti0 = some (s9, r) → ∀ lv : X_L, x_lget lv 0 = some (.ref r0) → x_lget lv 1 = some (.int (Int32.ofInt i1)) → x_lget lv 2 = some (.int (Int32.ofInt i2)) → Y o d 16 0 lv [] (q_y s) (fun s1 r1 => s1 = q_y s9 ∧ r1 = some (.int (Int32.ofInt r)))) ∧
    (∀ (d : Nat) (hd : 1 ≤ d) (s : Q_S) (r0 : Nat) (i1 : Int) (i2 : Int) (ti0 : Int) (s9 : Q_S) (r : Int), g_16 o n 1 s r0 i1 i2 ti0 = some (s9, r) → ∀ lv : X_L, True → Y o d 16 41 lv [] (q_y s) (fun s1 r1 => s1 = q_y s9 ∧ r1 = some (.int (Int32.ofInt r)))) ∧
    (∀ (d : Nat) (hd : 1 ≤ d) (s : Q_S) (r0 : Nat) (i1 : Int) (i2 : Int) (ti0 : Int) (s9 : Q_S) (r : Int), g_16 o n 2 s r0 i1 i2 ti0 = some (s9, r) → ∀ lv : X_L, True → Y o d 16 42 lv [.int (Int32.ofInt ti0)] (q_y s) (fun s1 r1 => s1 = q_y s9 ∧ r1 = some (.int (Int32.ofInt r)))) := by
  intro n
  induction n with
  | zero => exact ⟨fun d hd s _ _ _ _ s9 r h => (by simp only [g_16] at h; cases h), fun d hd s _ _ _ _ s9 r h => (by simp only [g_16] at h; cases h), fun d hd s _ _ _ _ s9 r h => (by simp only [g_16] at h; cases h)⟩
  | succ n ih =>
    refine ⟨?_, ?_, ?_⟩
    · intro d hd s r0 i1 i2 ti0 s9 r h lv lk0 lk1 lk2
      obtain ⟨d, rfl⟩ : ∃ x, d = x + 1 := ⟨d - 1, by omega⟩
      simp only [g_16] at h
      refine Van rfl lk0 rfl rfl ?_
      refine Vin rfl lk1 rfl ?_
      have hz := y_bind h
      clear h
      obtain ⟨b5, h6, h⟩ := hz
      obtain ⟨eh6, fh6, wh6⟩ := y_rcv_ok h6
      cases eh6
      have hz := y_bind h
      clear h
      obtain ⟨⟨s1, r2⟩, h3, h⟩ := hz
      try dsimp only at h
      refine Vcv rfl rfl rfl wh6 rfl rfl ⟨(Nat.le_of_ble_eq_true rfl), (Nat.le_of_ble_eq_true rfl)⟩ rfl ((c_7 o n).1 _ (by omega) _ _ _ _ _ _ h3 _ rfl rfl) (fun z1 z2 zq => ?_)
      obtain ⟨rfl, rfl⟩ := zq
      try dsimp only [Option.toList, HAppend.hAppend, Append.append, List.append]
      have hz := y_bind h
      clear h
      obtain ⟨_, h10, h⟩ := hz
      have c9 := q_g_ok h10
      refine Uif (q_eq0 c9) rfl rfl rfl rfl rfl rfl rfl (fun c11 => ?_) (fun c11 => ?_)
      · rw [if_pos c11] at h
        exact ih.2.1 _ hd _ _ _ _ _ _ _ h lv trivial
      · rw [if_neg c11] at h
        refine Van rfl lk0 rfl rfl ?_
        refine Vin rfl lk2 rfl ?_
        have hz := y_bind h
        clear h
        obtain ⟨b16, h17, h⟩ := hz
        obtain ⟨eh17, fh17, wh17⟩ := y_rcv_ok h17
        cases eh17
        have hz := y_bind h
        clear h
        obtain ⟨⟨s12, r13⟩, h14, h⟩ := hz
        try dsimp only at h
        refine Vcv rfl rfl rfl wh17 rfl rfl ⟨(Nat.le_of_ble_eq_true rfl), (Nat.le_of_ble_eq_true rfl)⟩ rfl ((c_7 o n).1 _ (by omega) _ _ _ _ _ _ h14 _ rfl rfl) (fun z1 z2 zq => ?_)
        obtain ⟨rfl, rfl⟩ := zq
        try dsimp only [Option.toList, HAppend.hAppend, Append.append, List.append]
        have hz := y_bind h
        clear h
        obtain ⟨_, h21, h⟩ := hz
        have c20 := q_g_ok h21
        refine Uif (q_eq0 c20) rfl rfl rfl rfl rfl rfl rfl (fun c22 => ?_) (fun c22 => ?_)
        · rw [if_pos c22] at h
          exact ih.2.1 _ hd _ _ _ _ _ _ _ h lv trivial
        · rw [if_neg c22] at h
          refine Van rfl lk0 rfl rfl ?_
          have hz := y_bind h
          clear h
          obtain ⟨v23, h24, h⟩ := hz
          have wv23 := (y_gv_ok h24).2
          refine Vgv h24 rfl rfl rfl ?_
          refine Vin rfl lk1 rfl ?_
          have hz := y_bind h
          clear h
          obtain ⟨v25, h26, h⟩ := hz
          have wv25 := y_aa_rv (q_aa_y h26)
          refine Zaa (q_aa_y h26) rfl rfl ?_
          have hz := y_bind h
          clear h
          obtain ⟨v27, h28, h⟩ := hz
          refine Zgi (q_gi_y h28) rfl rfl rfl ?_
          refine Van rfl lk0 rfl rfl ?_
          have hz := y_bind h
          clear h
          obtain ⟨v29, h30, h⟩ := hz
          have wv29 := (y_gv_ok h30).2
          refine Vgv h30 rfl rfl rfl ?_
          refine Vin rfl lk2 rfl ?_
          have hz := y_bind h
          clear h
          obtain ⟨v31, h32, h⟩ := hz
          have wv31 := y_aa_rv (q_aa_y h32)
          refine Zaa (q_aa_y h32) rfl rfl ?_
          have hz := y_bind h
          clear h
          obtain ⟨v33, h34, h⟩ := hz
          refine Zgi (q_gi_y h34) rfl rfl rfl ?_
          have hz := y_bind h
          clear h
          obtain ⟨_, h36, h⟩ := hz
          have c35 := q_g_ok h36
          refine Uif (not_congr (q_eq c35.1 c35.2)) rfl rfl rfl rfl rfl rfl rfl (fun c37 => ?_) (fun c37 => ?_)
          · rw [if_pos c37] at h
            exact ih.2.1 _ hd _ _ _ _ _ _ _ h lv trivial
          · rw [if_neg c37] at h
            refine Vic (v := Int32.ofInt 1) rfl rfl rfl ?_
            refine Ygo rfl rfl rfl rfl rfl rfl ?_
            exact ih.2.2 _ hd _ _ _ _ _ _ _ h lv trivial
    · intro d hd s r0 i1 i2 ti0 s9 r h lv _
      obtain ⟨d, rfl⟩ : ∃ x, d = x + 1 := ⟨d - 1, by omega⟩
      simp only [g_16] at h
      refine Vic (v := Int32.ofInt 0) rfl rfl rfl ?_
      exact ih.2.2 _ hd _ _ _ _ _ _ _ h lv trivial
    · intro d hd s r0 i1 i2 ti0 s9 r h lv _
      obtain ⟨d, rfl⟩ : ∃ x, d = x + 1 := ⟨d - 1, by omega⟩
      simp only [g_16] at h
      have hz := y_bind h
      clear h
      obtain ⟨_, h2, h⟩ := hz
      have c1 := q_g_ok h2
      cases h
      exact Yret rfl rfl rfl rfl rfl rfl (if_pos (q_bool c1)) ⟨rfl, rfl⟩

/-- StepRows.told -/
def g_17 (o : X_O) : Nat → Nat → Q_S → Nat → Int → Int → Option (Q_S × Int)
  | 0, _, _, _, _, _ => none
  | n + 1, 0, s, r0, i1, ti0 => (q_g (q_in i1)).bind fun _ => if i1 < 0 ∨ 3 < i1 then some (s, (-1)) else if i1 = 0 then (q_gv s 0 (.ref r0) 5).bind fun v4 => (q_gi s 4 v4 3).bind fun v6 => some (s, v6) else if i1 = 1 then (q_gv s 0 (.ref r0) 5).bind fun v9 => (q_gi s 4 v9 4).bind fun v11 => some (s, v11) else if i1 = 2 then (q_gv s 0 (.ref r0) 5).bind fun v14 => (q_gv s 4 v14 1).bind fun v16 => (y_nul v16).bind fun z18 => if z18 = true then g_17 o n 1 s 0 0 ((-1)) else (q_gv s 0 (.ref r0) 5).bind fun v21 => (q_gv s 4 v21 1).bind fun v23 => (q_gi s 3 v23 9).bind fun v25 => g_17 o n 1 s 0 0 (v25) else if i1 = 3 then (q_gv s 0 (.ref r0) 5).bind fun v28 => (q_gv s 4 v28 2).bind fun v30 => (y_nul v30).bind fun z32 => if z32 = true then g_17 o n 2 s 0 0 (0) else g_17 o n 2 s 0 0 (1) else none
  | n + 1, 1, s, r0, i1, ti0 => some (s, ti0)
  | n + 1, 2, s, r0, i1, ti0 => some (s, ti0)
  | _ + 1, _, _, _, _, _ => none
set_option maxRecDepth 100000 in
set_option maxHeartbeats 4000000 in
theorem c_17 (o : X_O) : ∀ n, (∀ (d : Nat) (hd : 0 ≤ d) (s : Q_S) (r0 : Nat) (i1 : Int) (ti0 : Int) (s9 : Q_S) (r : Int), g_17 o n 0 s r0 i1 ti0 = some (s9, r) → ∀ lv : X_L, x_lget lv 0 = some (.ref r0) → x_lget lv 1 = some (.int (Int32.ofInt i1)) → Y o d 17 0 lv [] (q_y s) (fun s1 r1 => s1 = q_y s9 ∧ r1 = some (.int (Int32.ofInt r)))) ∧
    (∀ (d : Nat) (hd : 0 ≤ d) (s : Q_S) (r0 : Nat) (i1 : Int) (ti0 : Int) (s9 : Q_S) (r : Int), g_17 o n 1 s r0 i1 ti0 = some (s9, r) → ∀ lv : X_L, True → Y o d 17 72 lv [.int (Int32.ofInt ti0)] (q_y s) (fun s1 r1 => s1 = q_y s9 ∧ r1 = some (.int (Int32.ofInt r)))) ∧
    (∀ (d : Nat) (hd : 0 ≤ d) (s : Q_S) (r0 : Nat) (i1 : Int) (ti0 : Int) (s9 : Q_S) (r : Int), g_17 o n 2 s r0 i1 ti0 = some (s9, r) → ∀ lv : X_L, True → Y o d 17 88 lv [.int (Int32.ofInt ti0)] (q_y s) (fun s1 r1 => s1 = q_y s9 ∧ r1 = some (.int (Int32.ofInt r)))) := by
  intro n
  induction n with
  | zero => exact ⟨fun d hd s _ _ _ s9 r h => (by simp only [g_17] at h; cases h), fun d hd s _ _ _ s9 r h => (by simp only [g_17] at h; cases h), fun d hd s _ _ _ s9 r h => (by simp only [g_17] at h; cases h)⟩
  | succ n ih =>
    refine ⟨?_, ?_, ?_⟩
    · intro d hd s r0 i1 ti0 s9 r h lv lk0 lk1
      simp only [g_17] at h
      refine Vin rfl lk1 rfl ?_
      have hz := y_bind h
      clear h
      obtain ⟨_, h2, h⟩ := hz
      have c1 := q_g_ok h2
      by_cases c3 : i1 < 0 ∨ 3 < i1
      · rw [if_pos c3] at h
        refine Ysw rfl rfl rfl rfl rfl (if_pos (by rw [q_ti c1]; exact c3)) rfl ?_
        refine Vic (v := Int32.ofInt (-1)) rfl rfl rfl ?_
        cases h
        exact Yret rfl rfl rfl rfl rfl rfl rfl ⟨rfl, rfl⟩
      rw [if_neg c3] at h
      by_cases c8 : i1 = 0
      · rw [if_pos c8] at h
        refine Vts (k := 0) (congrArg Int32.ofInt c8) rfl rfl rfl rfl rfl rfl rfl ?_
        refine Van rfl lk0 rfl rfl ?_
        have hz := y_bind h
        clear h
        obtain ⟨v4, h5, h⟩ := hz
        have wv4 := (y_gv_ok h5).2
        refine Vgv h5 rfl rfl rfl ?_
        have hz := y_bind h
        clear h
        obtain ⟨v6, h7, h⟩ := hz
        refine Zgi (q_gi_y h7) rfl rfl rfl ?_
        cases h
        exact Yret rfl rfl rfl rfl rfl rfl rfl ⟨rfl, rfl⟩
      rw [if_neg c8] at h
      by_cases c13 : i1 = 1
      · rw [if_pos c13] at h
        refine Vts (k := 1) (congrArg Int32.ofInt c13) rfl rfl rfl rfl rfl rfl rfl ?_
        refine Van rfl lk0 rfl rfl ?_
        have hz := y_bind h
        clear h
        obtain ⟨v9, h10, h⟩ := hz
        have wv9 := (y_gv_ok h10).2
        refine Vgv h10 rfl rfl rfl ?_
        have hz := y_bind h
        clear h
        obtain ⟨v11, h12, h⟩ := hz
        refine Zgi (q_gi_y h12) rfl rfl rfl ?_
        cases h
        exact Yret rfl rfl rfl rfl rfl rfl rfl ⟨rfl, rfl⟩
      rw [if_neg c13] at h
      by_cases c27 : i1 = 2
      · rw [if_pos c27] at h
        refine Vts (k := 2) (congrArg Int32.ofInt c27) rfl rfl rfl rfl rfl rfl rfl ?_
        refine Van rfl lk0 rfl rfl ?_
        have hz := y_bind h
        clear h
        obtain ⟨v14, h15, h⟩ := hz
        have wv14 := (y_gv_ok h15).2
        refine Vgv h15 rfl rfl rfl ?_
        have hz := y_bind h
        clear h
        obtain ⟨v16, h17, h⟩ := hz
        have wv16 := (y_gv_ok h17).2
        refine Vgv h17 rfl rfl rfl ?_
        have hz := y_bind h
        clear h
        obtain ⟨z18, h19, h⟩ := hz
        refine Znonnull h19 rfl rfl rfl (fun c20 => ?_) (fun c20 => ?_)
        · rw [if_pos c20] at h
          refine Vic (v := Int32.ofInt (-1)) rfl rfl rfl ?_
          refine Ygo rfl rfl rfl rfl rfl rfl ?_
          exact ih.2.1 _ hd _ _ _ _ _ _ h lv trivial
        · rw [if_neg c20] at h
          refine Van rfl lk0 rfl rfl ?_
          have hz := y_bind h
          clear h
          obtain ⟨v21, h22, h⟩ := hz
          have wv21 := (y_gv_ok h22).2
          refine Vgv h22 rfl rfl rfl ?_
          have hz := y_bind h
          clear h
          obtain ⟨v23, h24, h⟩ := hz
          have wv23 := (y_gv_ok h24).2
          refine Vgv h24 rfl rfl rfl ?_
          have hz := y_bind h
          clear h
          obtain ⟨v25, h26, h⟩ := hz
          refine Zgi (q_gi_y h26) rfl rfl rfl ?_
          exact ih.2.1 _ hd _ _ _ _ _ _ h lv trivial
      rw [if_neg c27] at h
      by_cases c35 : i1 = 3
      · rw [if_pos c35] at h
        refine Vts (k := 3) (congrArg Int32.ofInt c35) rfl rfl rfl rfl rfl rfl rfl ?_
        refine Van rfl lk0 rfl rfl ?_
        have hz := y_bind h
        clear h
        obtain ⟨v28, h29, h⟩ := hz
        have wv28 := (y_gv_ok h29).2
        refine Vgv h29 rfl rfl rfl ?_
        have hz := y_bind h
        clear h
        obtain ⟨v30, h31, h⟩ := hz
        have wv30 := (y_gv_ok h31).2
        refine Vgv h31 rfl rfl rfl ?_
        have hz := y_bind h
        clear h
        obtain ⟨z32, h33, h⟩ := hz
        refine Znonnull h33 rfl rfl rfl (fun c34 => ?_) (fun c34 => ?_)
        · rw [if_pos c34] at h
          refine Vic (v := Int32.ofInt 0) rfl rfl rfl ?_
          refine Ygo rfl rfl rfl rfl rfl rfl ?_
          exact ih.2.2 _ hd _ _ _ _ _ _ h lv trivial
        · rw [if_neg c34] at h
          refine Vic (v := Int32.ofInt 1) rfl rfl rfl ?_
          exact ih.2.2 _ hd _ _ _ _ _ _ h lv trivial
      rw [if_neg c35] at h
      cases h
    · intro d hd s r0 i1 ti0 s9 r h lv _
      simp only [g_17] at h
      cases h
      exact Yret rfl rfl rfl rfl rfl rfl rfl ⟨rfl, rfl⟩
    · intro d hd s r0 i1 ti0 s9 r h lv _
      simp only [g_17] at h
      cases h
      exact Yret rfl rfl rfl rfl rfl rfl rfl ⟨rfl, rfl⟩

/-- StepRows.table -/
def g_18 (o : X_O) : Nat → Nat → Q_S → Nat → Int → Option (Q_S × Int)
  | 0, _, _, _, _ => none
  | n + 1, 0, s, r0, i1 => (q_g (q_in i1)).bind fun _ => if i1 < 0 then g_18 o n 1 s 0 0 else (q_ln o s (.retAddr 2)).bind fun v4 => (q_g (q_in i1 ∧ q_in v4)).bind fun _ => if i1 < v4 then (q_ia o s (.retAddr 2) i1).bind fun v9 => some (s, v9) else g_18 o n 1 s 0 0
  | n + 1, 1, s, r0, i1 => none
  | _ + 1, _, _, _, _ => none
set_option maxRecDepth 100000 in
set_option maxHeartbeats 4000000 in
theorem c_18 (o : X_O) : ∀ n, (∀ (d : Nat) (hd : 0 ≤ d) (s : Q_S) (r0 : Nat) (i1 : Int) (s9 : Q_S) (r : Int), g_18 o n 0 s r0 i1 = some (s9, r) → ∀ lv : X_L, x_lget lv 0 = some (.ref r0) → x_lget lv 1 = some (.int (Int32.ofInt i1)) → Y o d 18 0 lv [] (q_y s) (fun s1 r1 => s1 = q_y s9 ∧ r1 = some (.int (Int32.ofInt r)))) ∧
    (∀ (d : Nat) (hd : 0 ≤ d) (s : Q_S) (r0 : Nat) (i1 : Int) (s9 : Q_S) (r : Int), g_18 o n 1 s r0 i1 = some (s9, r) → ∀ lv : X_L, True → Y o d 18 12 lv [] (q_y s) (fun s1 r1 => s1 = q_y s9 ∧ r1 = some (.int (Int32.ofInt r)))) := by
  intro n
  induction n with
  | zero => exact ⟨fun d hd s _ _ s9 r h => (by simp only [g_18] at h; cases h), fun d hd s _ _ s9 r h => (by simp only [g_18] at h; cases h)⟩
  | succ n ih =>
    refine ⟨?_, ?_⟩
    · intro d hd s r0 i1 s9 r h lv lk0 lk1
      simp only [g_18] at h
      refine Vin rfl lk1 rfl ?_
      have hz := y_bind h
      clear h
      obtain ⟨_, h2, h⟩ := hz
      have c1 := q_g_ok h2
      refine Uif (q_lt0 c1) rfl rfl rfl rfl rfl rfl rfl (fun c3 => ?_) (fun c3 => ?_)
      · rw [if_pos c3] at h
        exact ih.2 _ hd _ _ _ _ _ h lv trivial
      · rw [if_neg c3] at h
        refine Vin rfl lk1 rfl ?_
        refine Yk (v := .retAddr 2) rfl rfl rfl rfl rfl ?_
        have hz := y_bind h
        clear h
        obtain ⟨v4, h5, h⟩ := hz
        refine Zln (q_ln_y h5) rfl rfl ?_
        have hz := y_bind h
        clear h
        obtain ⟨_, h7, h⟩ := hz
        have c6 := q_g_ok h7
        refine Uif (q_lt c6.1 c6.2) rfl rfl rfl rfl rfl rfl rfl (fun c8 => ?_) (fun c8 => ?_)
        · rw [if_pos c8] at h
          refine Yk (v := .retAddr 2) rfl rfl rfl rfl rfl ?_
          refine Vin rfl lk1 rfl ?_
          have hz := y_bind h
          clear h
          obtain ⟨v9, h10, h⟩ := hz
          refine Zia (q_ia_y h10) rfl rfl ?_
          cases h
          exact Yret rfl rfl rfl rfl rfl rfl rfl ⟨rfl, rfl⟩
        · rw [if_neg c8] at h
          exact ih.2 _ hd _ _ _ _ _ h lv trivial
    · intro d hd s r0 i1 s9 r h lv _
      simp only [g_18] at h
      cases h

/-- StepRowsModel.<init> -/
def g_91 (o : X_O) : Nat → Nat → Q_S → Nat → Option (Q_S × Unit)
  | 0, _, _, _ => none
  | n + 1, 0, s, r0 => (q_na s .int 300).bind fun s1 => (q_pr s1 7 (.ref r0) 2 (.ref s.1)).bind fun s3 => (q_na s3 .long 300).bind fun s5 => (q_pr s5 7 (.ref r0) 3 (.ref s3.1)).bind fun s7 => (q_na s7 .int 300).bind fun s9 => (q_pr s9 7 (.ref r0) 4 (.ref s7.1)).bind fun s11 => (q_na s11 .int 300).bind fun s13 => (q_pr s13 7 (.ref r0) 5 (.ref s11.1)).bind fun s15 => (q_na s15 .int 300).bind fun s17 => (q_pr s17 7 (.ref r0) 6 (.ref s15.1)).bind fun s19 => (q_na s19 .long 16).bind fun s21 => (q_pr s21 7 (.ref r0) 7 (.ref s19.1)).bind fun s23 => (q_na s23 .int 20).bind fun s25 => (q_pr s25 7 (.ref r0) 9 (.ref s23.1)).bind fun s27 => (q_na s27 .int 10000).bind fun s29 => (q_pr s29 7 (.ref r0) 10 (.ref s27.1)).bind fun s31 => (q_na s31 .long 10000).bind fun s33 => (q_pr s33 7 (.ref r0) 11 (.ref s31.1)).bind fun s35 => (q_na s35 .int 10000).bind fun s37 => (q_pr s37 7 (.ref r0) 12 (.ref s35.1)).bind fun s39 => (q_na s39 .int 10000).bind fun s41 => (q_pr s41 7 (.ref r0) 13 (.ref s39.1)).bind fun s43 => (q_na s43 .int 10000).bind fun s45 => (q_pr s45 7 (.ref r0) 14 (.ref s43.1)).bind fun s47 => (q_na s47 .int 10000).bind fun s49 => (q_pr s49 7 (.ref r0) 15 (.ref s47.1)).bind fun s51 => (q_pi s51 7 (.ref r0) 17 3).bind fun s53 => (q_pi s53 7 (.ref r0) 21 (-1)).bind fun s55 => (q_na s55 .long 8).bind fun s57 => (q_pr s57 7 (.ref r0) 26 (.ref s55.1)).bind fun s59 => (q_na s59 .long 16).bind fun s61 => (q_pr s61 7 (.ref r0) 27 (.ref s59.1)).bind fun s63 => (q_na s63 .int 8).bind fun s65 => (q_pr s65 7 (.ref r0) 28 (.ref s63.1)).bind fun s67 => (q_na s67 .int 6144).bind fun s69 => (q_pr s69 7 (.ref r0) 29 (.ref s67.1)).bind fun s71 => (q_na s71 .int 6144).bind fun s73 => (q_pr s73 7 (.ref r0) 30 (.ref s71.1)).bind fun s75 => (q_na s75 .int 6144).bind fun s77 => (q_pr s77 7 (.ref r0) 31 (.ref s75.1)).bind fun s79 => (q_na s79 .long 6144).bind fun s81 => (q_pr s81 7 (.ref r0) 32 (.ref s79.1)).bind fun s83 => (q_na s83 .int 6144).bind fun s85 => (q_pr s85 7 (.ref r0) 33 (.ref s83.1)).bind fun s87 => (q_na s87 .int 6144).bind fun s89 => (q_pr s89 7 (.ref r0) 34 (.ref s87.1)).bind fun s91 => (q_na s91 .boolean 6144).bind fun s93 => (q_pr s93 7 (.ref r0) 35 (.ref s91.1)).bind fun s95 => (q_na s95 .int 104).bind fun s97 => (q_pr s97 7 (.ref r0) 37 (.ref s95.1)).bind fun s99 => (q_na s99 .int 104).bind fun s101 => (q_pr s101 7 (.ref r0) 38 (.ref s99.1)).bind fun s103 => (q_na s103 .int 104).bind fun s105 => (q_pr s105 7 (.ref r0) 39 (.ref s103.1)).bind fun s107 => (q_na s107 .int 104).bind fun s109 => (q_pr s109 7 (.ref r0) 40 (.ref s107.1)).bind fun s111 => (q_na s111 .long 104).bind fun s113 => (q_pr s113 7 (.ref r0) 41 (.ref s111.1)).bind fun s115 => (q_na s115 .long 104).bind fun s117 => (q_pr s117 7 (.ref r0) 42 (.ref s115.1)).bind fun s119 => (q_na s119 .long 104).bind fun s121 => (q_pr s121 7 (.ref r0) 43 (.ref s119.1)).bind fun s123 => (q_na s123 .boolean 104).bind fun s125 => (q_pr s125 7 (.ref r0) 44 (.ref s123.1)).bind fun s127 => (q_na s127 .int 64).bind fun s129 => (q_pr s129 7 (.ref r0) 48 (.ref s127.1)).bind fun s131 => (q_na s131 .int 128).bind fun s133 => (q_pr s133 7 (.ref r0) 51 (.ref s131.1)).bind fun s135 => (q_na s135 .long 192).bind fun s137 => (q_pr s137 7 (.ref r0) 52 (.ref s135.1)).bind fun s139 => (q_na s139 .int 245760).bind fun s141 => (q_pr s141 7 (.ref r0) 53 (.ref s139.1)).bind fun s143 => (q_na s143 .long 49152).bind fun s145 => (q_pr s145 7 (.ref r0) 54 (.ref s143.1)).bind fun s147 => (q_na s147 .boolean 49152).bind fun s149 => (q_pr s149 7 (.ref r0) 55 (.ref s147.1)).bind fun s151 => (q_na s151 .int 3328).bind fun s153 => (q_pr s153 7 (.ref r0) 56 (.ref s151.1)).bind fun s155 => (q_na s155 .long 2496).bind fun s157 => (q_pr s157 7 (.ref r0) 57 (.ref s155.1)).bind fun s159 => (q_na s159 .boolean 832).bind fun s161 => (q_pr s161 7 (.ref r0) 58 (.ref s159.1)).bind fun s163 => (q_na s163 .int 64).bind fun s165 => (q_pr s165 7 (.ref r0) 59 (.ref s163.1)).bind fun s167 => some (s167, ())
  | _ + 1, _, _, _ => none
set_option maxRecDepth 100000 in
set_option maxHeartbeats 4000000 in
theorem c_91 (o : X_O) : ∀ n, (∀ (d : Nat) (hd : 1 ≤ d) (s : Q_S) (r0 : Nat) (s9 : Q_S) (r : Unit), g_91 o n 0 s r0 = some (s9, r) → ∀ lv : X_L, x_lget lv 0 = some (.ref r0) → Y o d 91 0 lv [] (q_y s) (fun s1 r1 => s1 = q_y s9 ∧ r1 = none)) := by
  intro n
  induction n with
  | zero => exact fun d hd s _ s9 r h => (by simp only [g_91] at h; cases h)
  | succ n ih =>
    intro d hd s r0 s9 r h lv lk0
    obtain ⟨d, rfl⟩ : ∃ x, d = x + 1 := ⟨d - 1, by omega⟩
    simp only [g_91] at h
    refine Van rfl lk0 rfl rfl ?_
    refine Y6 rfl rfl (Nat.le_of_ble_eq_true rfl) rfl ?_
    refine Van rfl lk0 rfl rfl ?_
    refine Vsp (v := Int32.ofInt 300) rfl (by decide) rfl ?_
    have hz := y_bind h
    clear h
    obtain ⟨s1, h2, h⟩ := hz
    refine Zna (q_na_y h2) rfl rfl rfl ?_
    have hz := y_bind h
    clear h
    obtain ⟨s3, h4, h⟩ := hz
    refine Zpr (q_pr_y h4) rfl rfl rfl rfl ?_
    refine Van rfl lk0 rfl rfl ?_
    refine Vsp (v := Int32.ofInt 300) rfl (by decide) rfl ?_
    have hz := y_bind h
    clear h
    obtain ⟨s5, h6, h⟩ := hz
    refine Zna (q_na_y h6) rfl rfl rfl ?_
    have hz := y_bind h
    clear h
    obtain ⟨s7, h8, h⟩ := hz
    refine Zpr (q_pr_y h8) rfl rfl rfl rfl ?_
    refine Van rfl lk0 rfl rfl ?_
    refine Vsp (v := Int32.ofInt 300) rfl (by decide) rfl ?_
    have hz := y_bind h
    clear h
    obtain ⟨s9, h10, h⟩ := hz
    refine Zna (q_na_y h10) rfl rfl rfl ?_
    have hz := y_bind h
    clear h
    obtain ⟨s11, h12, h⟩ := hz
    refine Zpr (q_pr_y h12) rfl rfl rfl rfl ?_
    refine Van rfl lk0 rfl rfl ?_
    refine Vsp (v := Int32.ofInt 300) rfl (by decide) rfl ?_
    have hz := y_bind h
    clear h
    obtain ⟨s13, h14, h⟩ := hz
    refine Zna (q_na_y h14) rfl rfl rfl ?_
    have hz := y_bind h
    clear h
    obtain ⟨s15, h16, h⟩ := hz
    refine Zpr (q_pr_y h16) rfl rfl rfl rfl ?_
    refine Van rfl lk0 rfl rfl ?_
    refine Vsp (v := Int32.ofInt 300) rfl (by decide) rfl ?_
    have hz := y_bind h
    clear h
    obtain ⟨s17, h18, h⟩ := hz
    refine Zna (q_na_y h18) rfl rfl rfl ?_
    have hz := y_bind h
    clear h
    obtain ⟨s19, h20, h⟩ := hz
    refine Zpr (q_pr_y h20) rfl rfl rfl rfl ?_
    refine Van rfl lk0 rfl rfl ?_
    refine Vbp (v := Int32.ofInt 16) rfl (by decide) rfl ?_
    have hz := y_bind h
    clear h
    obtain ⟨s21, h22, h⟩ := hz
    refine Zna (q_na_y h22) rfl rfl rfl ?_
    have hz := y_bind h
    clear h
    obtain ⟨s23, h24, h⟩ := hz
    refine Zpr (q_pr_y h24) rfl rfl rfl rfl ?_
    refine Van rfl lk0 rfl rfl ?_
    refine Vbp (v := Int32.ofInt 20) rfl (by decide) rfl ?_
    have hz := y_bind h
    clear h
    obtain ⟨s25, h26, h⟩ := hz
    refine Zna (q_na_y h26) rfl rfl rfl ?_
    have hz := y_bind h
    clear h
    obtain ⟨s27, h28, h⟩ := hz
    refine Zpr (q_pr_y h28) rfl rfl rfl rfl ?_
    refine Van rfl lk0 rfl rfl ?_
    refine Vsp (v := Int32.ofInt 10000) rfl (by decide) rfl ?_
    have hz := y_bind h
    clear h
    obtain ⟨s29, h30, h⟩ := hz
    refine Zna (q_na_y h30) rfl rfl rfl ?_
    have hz := y_bind h
    clear h
    obtain ⟨s31, h32, h⟩ := hz
    refine Zpr (q_pr_y h32) rfl rfl rfl rfl ?_
    refine Van rfl lk0 rfl rfl ?_
    refine Vsp (v := Int32.ofInt 10000) rfl (by decide) rfl ?_
    have hz := y_bind h
    clear h
    obtain ⟨s33, h34, h⟩ := hz
    refine Zna (q_na_y h34) rfl rfl rfl ?_
    have hz := y_bind h
    clear h
    obtain ⟨s35, h36, h⟩ := hz
    refine Zpr (q_pr_y h36) rfl rfl rfl rfl ?_
    refine Van rfl lk0 rfl rfl ?_
    refine Vsp (v := Int32.ofInt 10000) rfl (by decide) rfl ?_
    have hz := y_bind h
    clear h
    obtain ⟨s37, h38, h⟩ := hz
    refine Zna (q_na_y h38) rfl rfl rfl ?_
    have hz := y_bind h
    clear h
    obtain ⟨s39, h40, h⟩ := hz
    refine Zpr (q_pr_y h40) rfl rfl rfl rfl ?_
    refine Van rfl lk0 rfl rfl ?_
    refine Vsp (v := Int32.ofInt 10000) rfl (by decide) rfl ?_
    have hz := y_bind h
    clear h
    obtain ⟨s41, h42, h⟩ := hz
    refine Zna (q_na_y h42) rfl rfl rfl ?_
    have hz := y_bind h
    clear h
    obtain ⟨s43, h44, h⟩ := hz
    refine Zpr (q_pr_y h44) rfl rfl rfl rfl ?_
    refine Van rfl lk0 rfl rfl ?_
    refine Vsp (v := Int32.ofInt 10000) rfl (by decide) rfl ?_
    have hz := y_bind h
    clear h
    obtain ⟨s45, h46, h⟩ := hz
    refine Zna (q_na_y h46) rfl rfl rfl ?_
    have hz := y_bind h
    clear h
    obtain ⟨s47, h48, h⟩ := hz
    refine Zpr (q_pr_y h48) rfl rfl rfl rfl ?_
    refine Van rfl lk0 rfl rfl ?_
    refine Vsp (v := Int32.ofInt 10000) rfl (by decide) rfl ?_
    have hz := y_bind h
    clear h
    obtain ⟨s49, h50, h⟩ := hz
    refine Zna (q_na_y h50) rfl rfl rfl ?_
    have hz := y_bind h
    clear h
    obtain ⟨s51, h52, h⟩ := hz
    refine Zpr (q_pr_y h52) rfl rfl rfl rfl ?_
    refine Van rfl lk0 rfl rfl ?_
    refine Vic (v := Int32.ofInt 3) rfl rfl rfl ?_
    have hz := y_bind h
    clear h
    obtain ⟨s53, h54, h⟩ := hz
    refine Zpi (q_pi_y h54) rfl rfl rfl rfl ?_
    refine Van rfl lk0 rfl rfl ?_
    refine Vic (v := Int32.ofInt (-1)) rfl rfl rfl ?_
    have hz := y_bind h
    clear h
    obtain ⟨s55, h56, h⟩ := hz
    refine Zpi (q_pi_y h56) rfl rfl rfl rfl ?_
    refine Van rfl lk0 rfl rfl ?_
    refine Vbp (v := Int32.ofInt 8) rfl (by decide) rfl ?_
    have hz := y_bind h
    clear h
    obtain ⟨s57, h58, h⟩ := hz
    refine Zna (q_na_y h58) rfl rfl rfl ?_
    have hz := y_bind h
    clear h
    obtain ⟨s59, h60, h⟩ := hz
    refine Zpr (q_pr_y h60) rfl rfl rfl rfl ?_
    refine Van rfl lk0 rfl rfl ?_
    refine Vbp (v := Int32.ofInt 16) rfl (by decide) rfl ?_
    have hz := y_bind h
    clear h
    obtain ⟨s61, h62, h⟩ := hz
    refine Zna (q_na_y h62) rfl rfl rfl ?_
    have hz := y_bind h
    clear h
    obtain ⟨s63, h64, h⟩ := hz
    refine Zpr (q_pr_y h64) rfl rfl rfl rfl ?_
    refine Van rfl lk0 rfl rfl ?_
    refine Vbp (v := Int32.ofInt 8) rfl (by decide) rfl ?_
    have hz := y_bind h
    clear h
    obtain ⟨s65, h66, h⟩ := hz
    refine Zna (q_na_y h66) rfl rfl rfl ?_
    have hz := y_bind h
    clear h
    obtain ⟨s67, h68, h⟩ := hz
    refine Zpr (q_pr_y h68) rfl rfl rfl rfl ?_
    refine Van rfl lk0 rfl rfl ?_
    refine Vsp (v := Int32.ofInt 6144) rfl (by decide) rfl ?_
    have hz := y_bind h
    clear h
    obtain ⟨s69, h70, h⟩ := hz
    refine Zna (q_na_y h70) rfl rfl rfl ?_
    have hz := y_bind h
    clear h
    obtain ⟨s71, h72, h⟩ := hz
    refine Zpr (q_pr_y h72) rfl rfl rfl rfl ?_
    refine Van rfl lk0 rfl rfl ?_
    refine Vsp (v := Int32.ofInt 6144) rfl (by decide) rfl ?_
    have hz := y_bind h
    clear h
    obtain ⟨s73, h74, h⟩ := hz
    refine Zna (q_na_y h74) rfl rfl rfl ?_
    have hz := y_bind h
    clear h
    obtain ⟨s75, h76, h⟩ := hz
    refine Zpr (q_pr_y h76) rfl rfl rfl rfl ?_
    refine Van rfl lk0 rfl rfl ?_
    refine Vsp (v := Int32.ofInt 6144) rfl (by decide) rfl ?_
    have hz := y_bind h
    clear h
    obtain ⟨s77, h78, h⟩ := hz
    refine Zna (q_na_y h78) rfl rfl rfl ?_
    have hz := y_bind h
    clear h
    obtain ⟨s79, h80, h⟩ := hz
    refine Zpr (q_pr_y h80) rfl rfl rfl rfl ?_
    refine Van rfl lk0 rfl rfl ?_
    refine Vsp (v := Int32.ofInt 6144) rfl (by decide) rfl ?_
    have hz := y_bind h
    clear h
    obtain ⟨s81, h82, h⟩ := hz
    refine Zna (q_na_y h82) rfl rfl rfl ?_
    have hz := y_bind h
    clear h
    obtain ⟨s83, h84, h⟩ := hz
    refine Zpr (q_pr_y h84) rfl rfl rfl rfl ?_
    refine Van rfl lk0 rfl rfl ?_
    refine Vsp (v := Int32.ofInt 6144) rfl (by decide) rfl ?_
    have hz := y_bind h
    clear h
    obtain ⟨s85, h86, h⟩ := hz
    refine Zna (q_na_y h86) rfl rfl rfl ?_
    have hz := y_bind h
    clear h
    obtain ⟨s87, h88, h⟩ := hz
    refine Zpr (q_pr_y h88) rfl rfl rfl rfl ?_
    refine Van rfl lk0 rfl rfl ?_
    refine Vsp (v := Int32.ofInt 6144) rfl (by decide) rfl ?_
    have hz := y_bind h
    clear h
    obtain ⟨s89, h90, h⟩ := hz
    refine Zna (q_na_y h90) rfl rfl rfl ?_
    have hz := y_bind h
    clear h
    obtain ⟨s91, h92, h⟩ := hz
    refine Zpr (q_pr_y h92) rfl rfl rfl rfl ?_
    refine Van rfl lk0 rfl rfl ?_
    refine Vsp (v := Int32.ofInt 6144) rfl (by decide) rfl ?_
    have hz := y_bind h
    clear h
    obtain ⟨s93, h94, h⟩ := hz
    refine Zna (q_na_y h94) rfl rfl rfl ?_
    have hz := y_bind h
    clear h
    obtain ⟨s95, h96, h⟩ := hz
    refine Zpr (q_pr_y h96) rfl rfl rfl rfl ?_
    refine Van rfl lk0 rfl rfl ?_
    refine Vbp (v := Int32.ofInt 104) rfl (by decide) rfl ?_
    have hz := y_bind h
    clear h
    obtain ⟨s97, h98, h⟩ := hz
    refine Zna (q_na_y h98) rfl rfl rfl ?_
    have hz := y_bind h
    clear h
    obtain ⟨s99, h100, h⟩ := hz
    refine Zpr (q_pr_y h100) rfl rfl rfl rfl ?_
    refine Van rfl lk0 rfl rfl ?_
    refine Vbp (v := Int32.ofInt 104) rfl (by decide) rfl ?_
    have hz := y_bind h
    clear h
    obtain ⟨s101, h102, h⟩ := hz
    refine Zna (q_na_y h102) rfl rfl rfl ?_
    have hz := y_bind h
    clear h
    obtain ⟨s103, h104, h⟩ := hz
    refine Zpr (q_pr_y h104) rfl rfl rfl rfl ?_
    refine Van rfl lk0 rfl rfl ?_
    refine Vbp (v := Int32.ofInt 104) rfl (by decide) rfl ?_
    have hz := y_bind h
    clear h
    obtain ⟨s105, h106, h⟩ := hz
    refine Zna (q_na_y h106) rfl rfl rfl ?_
    have hz := y_bind h
    clear h
    obtain ⟨s107, h108, h⟩ := hz
    refine Zpr (q_pr_y h108) rfl rfl rfl rfl ?_
    refine Van rfl lk0 rfl rfl ?_
    refine Vbp (v := Int32.ofInt 104) rfl (by decide) rfl ?_
    have hz := y_bind h
    clear h
    obtain ⟨s109, h110, h⟩ := hz
    refine Zna (q_na_y h110) rfl rfl rfl ?_
    have hz := y_bind h
    clear h
    obtain ⟨s111, h112, h⟩ := hz
    refine Zpr (q_pr_y h112) rfl rfl rfl rfl ?_
    refine Van rfl lk0 rfl rfl ?_
    refine Vbp (v := Int32.ofInt 104) rfl (by decide) rfl ?_
    have hz := y_bind h
    clear h
    obtain ⟨s113, h114, h⟩ := hz
    refine Zna (q_na_y h114) rfl rfl rfl ?_
    have hz := y_bind h
    clear h
    obtain ⟨s115, h116, h⟩ := hz
    refine Zpr (q_pr_y h116) rfl rfl rfl rfl ?_
    refine Van rfl lk0 rfl rfl ?_
    refine Vbp (v := Int32.ofInt 104) rfl (by decide) rfl ?_
    have hz := y_bind h
    clear h
    obtain ⟨s117, h118, h⟩ := hz
    refine Zna (q_na_y h118) rfl rfl rfl ?_
    have hz := y_bind h
    clear h
    obtain ⟨s119, h120, h⟩ := hz
    refine Zpr (q_pr_y h120) rfl rfl rfl rfl ?_
    refine Van rfl lk0 rfl rfl ?_
    refine Vbp (v := Int32.ofInt 104) rfl (by decide) rfl ?_
    have hz := y_bind h
    clear h
    obtain ⟨s121, h122, h⟩ := hz
    refine Zna (q_na_y h122) rfl rfl rfl ?_
    have hz := y_bind h
    clear h
    obtain ⟨s123, h124, h⟩ := hz
    refine Zpr (q_pr_y h124) rfl rfl rfl rfl ?_
    refine Van rfl lk0 rfl rfl ?_
    refine Vbp (v := Int32.ofInt 104) rfl (by decide) rfl ?_
    have hz := y_bind h
    clear h
    obtain ⟨s125, h126, h⟩ := hz
    refine Zna (q_na_y h126) rfl rfl rfl ?_
    have hz := y_bind h
    clear h
    obtain ⟨s127, h128, h⟩ := hz
    refine Zpr (q_pr_y h128) rfl rfl rfl rfl ?_
    refine Van rfl lk0 rfl rfl ?_
    refine Vbp (v := Int32.ofInt 64) rfl (by decide) rfl ?_
    have hz := y_bind h
    clear h
    obtain ⟨s129, h130, h⟩ := hz
    refine Zna (q_na_y h130) rfl rfl rfl ?_
    have hz := y_bind h
    clear h
    obtain ⟨s131, h132, h⟩ := hz
    refine Zpr (q_pr_y h132) rfl rfl rfl rfl ?_
    refine Van rfl lk0 rfl rfl ?_
    refine Vsp (v := Int32.ofInt 128) rfl (by decide) rfl ?_
    have hz := y_bind h
    clear h
    obtain ⟨s133, h134, h⟩ := hz
    refine Zna (q_na_y h134) rfl rfl rfl ?_
    have hz := y_bind h
    clear h
    obtain ⟨s135, h136, h⟩ := hz
    refine Zpr (q_pr_y h136) rfl rfl rfl rfl ?_
    refine Van rfl lk0 rfl rfl ?_
    refine Vsp (v := Int32.ofInt 192) rfl (by decide) rfl ?_
    have hz := y_bind h
    clear h
    obtain ⟨s137, h138, h⟩ := hz
    refine Zna (q_na_y h138) rfl rfl rfl ?_
    have hz := y_bind h
    clear h
    obtain ⟨s139, h140, h⟩ := hz
    refine Zpr (q_pr_y h140) rfl rfl rfl rfl ?_
    refine Van rfl lk0 rfl rfl ?_
    refine Yk (v := .int (Int32.ofInt 245760)) rfl rfl rfl rfl rfl ?_
    have hz := y_bind h
    clear h
    obtain ⟨s141, h142, h⟩ := hz
    refine Zna (q_na_y h142) rfl rfl rfl ?_
    have hz := y_bind h
    clear h
    obtain ⟨s143, h144, h⟩ := hz
    refine Zpr (q_pr_y h144) rfl rfl rfl rfl ?_
    refine Van rfl lk0 rfl rfl ?_
    refine Yk (v := .int (Int32.ofInt 49152)) rfl rfl rfl rfl rfl ?_
    have hz := y_bind h
    clear h
    obtain ⟨s145, h146, h⟩ := hz
    refine Zna (q_na_y h146) rfl rfl rfl ?_
    have hz := y_bind h
    clear h
    obtain ⟨s147, h148, h⟩ := hz
    refine Zpr (q_pr_y h148) rfl rfl rfl rfl ?_
    refine Van rfl lk0 rfl rfl ?_
    refine Yk (v := .int (Int32.ofInt 49152)) rfl rfl rfl rfl rfl ?_
    have hz := y_bind h
    clear h
    obtain ⟨s149, h150, h⟩ := hz
    refine Zna (q_na_y h150) rfl rfl rfl ?_
    have hz := y_bind h
    clear h
    obtain ⟨s151, h152, h⟩ := hz
    refine Zpr (q_pr_y h152) rfl rfl rfl rfl ?_
    refine Van rfl lk0 rfl rfl ?_
    refine Vsp (v := Int32.ofInt 3328) rfl (by decide) rfl ?_
    have hz := y_bind h
    clear h
    obtain ⟨s153, h154, h⟩ := hz
    refine Zna (q_na_y h154) rfl rfl rfl ?_
    have hz := y_bind h
    clear h
    obtain ⟨s155, h156, h⟩ := hz
    refine Zpr (q_pr_y h156) rfl rfl rfl rfl ?_
    refine Van rfl lk0 rfl rfl ?_
    refine Vsp (v := Int32.ofInt 2496) rfl (by decide) rfl ?_
    have hz := y_bind h
    clear h
    obtain ⟨s157, h158, h⟩ := hz
    refine Zna (q_na_y h158) rfl rfl rfl ?_
    have hz := y_bind h
    clear h
    obtain ⟨s159, h160, h⟩ := hz
    refine Zpr (q_pr_y h160) rfl rfl rfl rfl ?_
    refine Van rfl lk0 rfl rfl ?_
    refine Vsp (v := Int32.ofInt 832) rfl (by decide) rfl ?_
    have hz := y_bind h
    clear h
    obtain ⟨s161, h162, h⟩ := hz
    refine Zna (q_na_y h162) rfl rfl rfl ?_
    have hz := y_bind h
    clear h
    obtain ⟨s163, h164, h⟩ := hz
    refine Zpr (q_pr_y h164) rfl rfl rfl rfl ?_
    refine Van rfl lk0 rfl rfl ?_
    refine Vbp (v := Int32.ofInt 64) rfl (by decide) rfl ?_
    have hz := y_bind h
    clear h
    obtain ⟨s165, h166, h⟩ := hz
    refine Zna (q_na_y h166) rfl rfl rfl ?_
    have hz := y_bind h
    clear h
    obtain ⟨s167, h168, h⟩ := hz
    refine Zpr (q_pr_y h168) rfl rfl rfl rfl ?_
    cases h
    exact Yret rfl rfl rfl rfl rfl rfl rfl ⟨rfl, rfl⟩

/-- StepRowsModel.thrown -/
def g_92 (o : X_O) : Nat → Nat → Q_S → Nat → Option (Q_S × Int)
  | 0, _, _, _ => none
  | n + 1, 0, s, r0 => (q_gi s 7 (.ref r0) 0).bind fun v1 => some (s, v1)
  | _ + 1, _, _, _ => none
set_option maxRecDepth 100000 in
set_option maxHeartbeats 4000000 in
theorem c_92 (o : X_O) : ∀ n, (∀ (d : Nat) (hd : 0 ≤ d) (s : Q_S) (r0 : Nat) (s9 : Q_S) (r : Int), g_92 o n 0 s r0 = some (s9, r) → ∀ lv : X_L, x_lget lv 0 = some (.ref r0) → Y o d 92 0 lv [] (q_y s) (fun s1 r1 => s1 = q_y s9 ∧ r1 = some (.int (Int32.ofInt r)))) := by
  intro n
  induction n with
  | zero => exact fun d hd s _ s9 r h => (by simp only [g_92] at h; cases h)
  | succ n ih =>
    intro d hd s r0 s9 r h lv lk0
    simp only [g_92] at h
    refine Van rfl lk0 rfl rfl ?_
    have hz := y_bind h
    clear h
    obtain ⟨v1, h2, h⟩ := hz
    refine Zgi (q_gi_y h2) rfl rfl rfl ?_
    cases h
    exact Yret rfl rfl rfl rfl rfl rfl rfl ⟨rfl, rfl⟩

/-- StepRowsModel.add -/
def g_94 (o : X_O) : Nat → Nat → Q_S → Nat → Int → Int64 → Int → Int → Int → Option (Q_S × Int)
  | 0, _, _, _, _, _, _, _, _ => none
  | n + 1, 0, s, r0, i1, l2, i4, i5, i6 => (q_gi s 7 (.ref r0) 1).bind fun v1 => (q_g (q_in v1)).bind fun _ => if ¬ v1 = 300 then (q_gv s 7 (.ref r0) 2).bind fun v6 => (q_gi s 7 (.ref r0) 1).bind fun v8 => (q_is s v6 v8 i1).bind fun s10 => (q_gv s10 7 (.ref r0) 3).bind fun v12 => (q_gi s10 7 (.ref r0) 1).bind fun v14 => (q_ls s10 v12 v14 l2).bind fun s16 => (q_gv s16 7 (.ref r0) 4).bind fun v18 => (q_gi s16 7 (.ref r0) 1).bind fun v20 => (q_is s16 v18 v20 i4).bind fun s22 => (q_gv s22 7 (.ref r0) 5).bind fun v24 => (q_gi s22 7 (.ref r0) 1).bind fun v26 => (q_is s22 v24 v26 i5).bind fun s28 => (q_gv s28 7 (.ref r0) 6).bind fun v30 => (q_gi s28 7 (.ref r0) 1).bind fun v32 => (q_is s28 v30 v32 i6).bind fun s34 => (q_gi s34 7 (.ref r0) 1).bind fun v36 => (q_pi s34 7 (.ref r0) 1 (v36 + 1)).bind fun s38 => (q_gi s38 7 (.ref r0) 1).bind fun v40 => some (s38, (v40 - 1)) else some (s, (-2))
  | _ + 1, _, _, _, _, _, _, _, _ => none
set_option maxRecDepth 100000 in
set_option maxHeartbeats 4000000 in
theorem c_94 (o : X_O) : ∀ n, (∀ (d : Nat) (hd : 0 ≤ d) (s : Q_S) (r0 : Nat) (i1 : Int) (l2 : Int64) (i4 : Int) (i5 : Int) (i6 : Int) (s9 : Q_S) (r : Int), g_94 o n 0 s r0 i1 l2 i4 i5 i6 = some (s9, r) → ∀ lv : X_L, x_lget lv 0 = some (.ref r0) → x_lget lv 1 = some (.int (Int32.ofInt i1)) → x_lget lv 2 = some (.long l2) → x_lget lv 4 = some (.int (Int32.ofInt i4)) → x_lget lv 5 = some (.int (Int32.ofInt i5)) → x_lget lv 6 = some (.int (Int32.ofInt i6)) → Y o d 94 0 lv [] (q_y s) (fun s1 r1 => s1 = q_y s9 ∧ r1 = some (.int (Int32.ofInt r)))) := by
  intro n
  induction n with
  | zero => exact fun d hd s _ _ _ _ _ _ s9 r h => (by simp only [g_94] at h; cases h)
  | succ n ih =>
    intro d hd s r0 i1 l2 i4 i5 i6 s9 r h lv lk0 lk1 lk2 lk4 lk5 lk6
    simp only [g_94] at h
    refine Van rfl lk0 rfl rfl ?_
    have hz := y_bind h
    clear h
    obtain ⟨v1, h2, h⟩ := hz
    refine Zgi (q_gi_y h2) rfl rfl rfl ?_
    refine Vsp (v := Int32.ofInt 300) rfl (by decide) rfl ?_
    have hz := y_bind h
    clear h
    obtain ⟨_, h4, h⟩ := hz
    have c3 := q_g_ok h4
    refine Uif (not_congr (q_eq c3 (by decide))) rfl rfl rfl rfl rfl rfl rfl (fun c5 => ?_) (fun c5 => ?_)
    · rw [if_pos c5] at h
      refine Van rfl lk0 rfl rfl ?_
      have hz := y_bind h
      clear h
      obtain ⟨v6, h7, h⟩ := hz
      have wv6 := (y_gv_ok h7).2
      refine Vgv h7 rfl rfl rfl ?_
      refine Van rfl lk0 rfl rfl ?_
      have hz := y_bind h
      clear h
      obtain ⟨v8, h9, h⟩ := hz
      refine Zgi (q_gi_y h9) rfl rfl rfl ?_
      refine Vin rfl lk1 rfl ?_
      have hz := y_bind h
      clear h
      obtain ⟨s10, h11, h⟩ := hz
      refine Zis (q_is_y h11) rfl rfl ?_
      refine Van rfl lk0 rfl rfl ?_
      have hz := y_bind h
      clear h
      obtain ⟨v12, h13, h⟩ := hz
      have wv12 := (y_gv_ok h13).2
      refine Vgv h13 rfl rfl rfl ?_
      refine Van rfl lk0 rfl rfl ?_
      have hz := y_bind h
      clear h
      obtain ⟨v14, h15, h⟩ := hz
      refine Zgi (q_gi_y h15) rfl rfl rfl ?_
      refine Vln rfl lk2 rfl ?_
      have hz := y_bind h
      clear h
      obtain ⟨s16, h17, h⟩ := hz
      refine Zls (q_ls_y h17) rfl rfl ?_
      refine Van rfl lk0 rfl rfl ?_
      have hz := y_bind h
      clear h
      obtain ⟨v18, h19, h⟩ := hz
      have wv18 := (y_gv_ok h19).2
      refine Vgv h19 rfl rfl rfl ?_
      refine Van rfl lk0 rfl rfl ?_
      have hz := y_bind h
      clear h
      obtain ⟨v20, h21, h⟩ := hz
      refine Zgi (q_gi_y h21) rfl rfl rfl ?_
      refine Vi rfl lk4 rfl ?_
      have hz := y_bind h
      clear h
      obtain ⟨s22, h23, h⟩ := hz
      refine Zis (q_is_y h23) rfl rfl ?_
      refine Van rfl lk0 rfl rfl ?_
      have hz := y_bind h
      clear h
      obtain ⟨v24, h25, h⟩ := hz
      have wv24 := (y_gv_ok h25).2
      refine Vgv h25 rfl rfl rfl ?_
      refine Van rfl lk0 rfl rfl ?_
      have hz := y_bind h
      clear h
      obtain ⟨v26, h27, h⟩ := hz
      refine Zgi (q_gi_y h27) rfl rfl rfl ?_
      refine Vi rfl lk5 rfl ?_
      have hz := y_bind h
      clear h
      obtain ⟨s28, h29, h⟩ := hz
      refine Zis (q_is_y h29) rfl rfl ?_
      refine Van rfl lk0 rfl rfl ?_
      have hz := y_bind h
      clear h
      obtain ⟨v30, h31, h⟩ := hz
      have wv30 := (y_gv_ok h31).2
      refine Vgv h31 rfl rfl rfl ?_
      refine Van rfl lk0 rfl rfl ?_
      have hz := y_bind h
      clear h
      obtain ⟨v32, h33, h⟩ := hz
      refine Zgi (q_gi_y h33) rfl rfl rfl ?_
      refine Vi rfl lk6 rfl ?_
      have hz := y_bind h
      clear h
      obtain ⟨s34, h35, h⟩ := hz
      refine Zis (q_is_y h35) rfl rfl ?_
      refine Van rfl lk0 rfl rfl ?_
      refine Vdup rfl rfl rfl ?_
      have hz := y_bind h
      clear h
      obtain ⟨v36, h37, h⟩ := hz
      refine Zgi (q_gi_y h37) rfl rfl rfl ?_
      refine Vic (v := Int32.ofInt 1) rfl rfl rfl ?_
      refine Uadd rfl rfl ?_
      have hz := y_bind h
      clear h
      obtain ⟨s38, h39, h⟩ := hz
      refine Zpi (q_pi_y h39) rfl rfl rfl rfl ?_
      refine Van rfl lk0 rfl rfl ?_
      have hz := y_bind h
      clear h
      obtain ⟨v40, h41, h⟩ := hz
      refine Zgi (q_gi_y h41) rfl rfl rfl ?_
      refine Vic (v := Int32.ofInt 1) rfl rfl rfl ?_
      refine Usub rfl rfl ?_
      cases h
      exact Yret rfl rfl rfl rfl rfl rfl rfl ⟨rfl, rfl⟩
    · rw [if_neg c5] at h
      refine Vbp (v := Int32.ofInt (-2)) rfl (by decide) rfl ?_
      cases h
      exact Yret rfl rfl rfl rfl rfl rfl rfl ⟨rfl, rfl⟩

/-- StepRowsModel.leaf -/
def g_93 (o : X_O) : Nat → Nat → Q_S → Nat → Int → Int64 → Option (Q_S × Int)
  | 0, _, _, _, _, _ => none
  | n + 1, 0, s, r0, i1, l2 => (q_pi s 7 (.ref r0) 0 0).bind fun s1 => (q_g (q_in i1)).bind fun _ => if i1 < 0 then g_93 o n 1 s1 0 0 0 else (q_g (q_in i1)).bind fun _ => if 2 < i1 then g_93 o n 1 s1 0 0 0 else (q_g (q_in i1)).bind fun _ => if i1 ≤ 0 then g_93 o n 2 s1 r0 (i1) (l2) else if l2 < 0 then g_93 o n 1 s1 0 0 0 else if l2 ≤ 15 then g_93 o n 2 s1 r0 (i1) (l2) else g_93 o n 1 s1 0 0 0
  | n + 1, 1, s, r0, i1, l2 => some (s, (-1))
  | n + 1, 2, s, r0, i1, l2 => (q_rcv s 7 (.ref r0)).bind fun b5 => (g_94 o n 0 s b5 ((100 + i1)) (l2) ((-1)) ((-1)) ((-1))).bind fun q4 => some (q4.1, q4.2)
  | _ + 1, _, _, _, _, _ => none
set_option maxRecDepth 100000 in
set_option maxHeartbeats 4000000 in
theorem c_93 (o : X_O) : ∀ n, (∀ (d : Nat) (hd : 1 ≤ d) (s : Q_S) (r0 : Nat) (i1 : Int) (l2 : Int64) (s9 : Q_S) (r : Int), g_93 o n 0 s r0 i1 l2 = some (s9, r) → ∀ lv : X_L, x_lget lv 0 = some (.ref r0) → x_lget lv 1 = some (.int (Int32.ofInt i1)) → x_lget lv 2 = some (.long l2) → Y o d 93 0 lv [] (q_y s) (fun s1 r1 => s1 = q_y s9 ∧ r1 = some (.int (Int32.ofInt r)))) ∧
    (∀ (d : Nat) (hd : 1 ≤ d) (s : Q_S) (r0 : Nat) (i1 : Int) (l2 : Int64) (s9 : Q_S) (r : Int), g_93 o n 1 s r0 i1 l2 = some (s9, r) → ∀ lv : X_L, True → Y o d 93 32 lv [] (q_y s) (fun s1 r1 => s1 = q_y s9 ∧ r1 = some (.int (Int32.ofInt r)))) ∧
    (∀ (d : Nat) (hd : 1 ≤ d) (s : Q_S) (r0 : Nat) (i1 : Int) (l2 : Int64) (s9 : Q_S) (r : Int), g_93 o n 2 s r0 i1 l2 = some (s9, r) → ∀ lv : X_L, x_lget lv 0 = some (.ref r0) → x_lget lv 1 = some (.int (Int32.ofInt i1)) → x_lget lv 2 = some (.long l2) → Y o d 93 34 lv [] (q_y s) (fun s1 r1 => s1 = q_y s9 ∧ r1 = some (.int (Int32.ofInt r)))) := by
  intro n
  induction n with
  | zero => exact ⟨fun d hd s _ _ _ s9 r h => (by simp only [g_93] at h; cases h), fun d hd s _ _ _ s9 r h => (by simp only [g_93] at h; cases h), fun d hd s _ _ _ s9 r h => (by simp only [g_93] at h; cases h)⟩
  | succ n ih =>
    refine ⟨?_, ?_, ?_⟩
    · intro d hd s r0 i1 l2 s9 r h lv lk0 lk1 lk2
      obtain ⟨d, rfl⟩ : ∃ x, d = x + 1 := ⟨d - 1, by omega⟩
      simp only [g_93] at h
      refine Van rfl lk0 rfl rfl ?_
      refine Vic (v := Int32.ofInt 0) rfl rfl rfl ?_
      have hz := y_bind h
      clear h
      obtain ⟨s1, h2, h⟩ := hz
      refine Zpi (q_pi_y h2) rfl rfl rfl rfl ?_
      refine Vin rfl lk1 rfl ?_
      have hz := y_bind h
      clear h
      obtain ⟨_, h4, h⟩ := hz
      have c3 := q_g_ok h4
      refine Uif (q_lt0 c3) rfl rfl rfl rfl rfl rfl rfl (fun c5 => ?_) (fun c5 => ?_)
      · rw [if_pos c5] at h
        exact ih.2.1 _ hd _ _ _ _ _ _ h lv trivial
      · rw [if_neg c5] at h
        refine Vin rfl lk1 rfl ?_
        refine Vic (v := Int32.ofInt 2) rfl rfl rfl ?_
        have hz := y_bind h
        clear h
        obtain ⟨_, h7, h⟩ := hz
        have c6 := q_g_ok h7
        refine Uif (q_lt (by decide) c6) rfl rfl rfl rfl rfl rfl rfl (fun c8 => ?_) (fun c8 => ?_)
        · rw [if_pos c8] at h
          exact ih.2.1 _ hd _ _ _ _ _ _ h lv trivial
        · rw [if_neg c8] at h
          refine Vin rfl lk1 rfl ?_
          have hz := y_bind h
          clear h
          obtain ⟨_, h10, h⟩ := hz
          have c9 := q_g_ok h10
          refine Uif (q_le0 c9) rfl rfl rfl rfl rfl rfl rfl (fun c11 => ?_) (fun c11 => ?_)
          · rw [if_pos c11] at h
            exact ih.2.2 _ hd _ _ _ _ _ _ h lv lk0 lk1 lk2
          · rw [if_neg c11] at h
            refine Vln rfl lk2 rfl ?_
            refine Vlc (v := 0) rfl (by decide) rfl ?_
            refine Ya rfl rfl rfl ?_
            refine Uif (lg_cmp_lt _ _) rfl rfl rfl rfl rfl rfl rfl (fun c12 => ?_) (fun c12 => ?_)
            · rw [if_pos c12] at h
              exact ih.2.1 _ hd _ _ _ _ _ _ h lv trivial
            · rw [if_neg c12] at h
              refine Vln rfl lk2 rfl ?_
              refine Yk (v := .long 15) rfl rfl rfl rfl rfl ?_
              refine Ya rfl rfl rfl ?_
              refine Uif (lg_cmp_le _ _) rfl rfl rfl rfl rfl rfl rfl (fun c13 => ?_) (fun c13 => ?_)
              · rw [if_pos c13] at h
                exact ih.2.2 _ hd _ _ _ _ _ _ h lv lk0 lk1 lk2
              · rw [if_neg c13] at h
                exact ih.2.1 _ hd _ _ _ _ _ _ h lv trivial
    · intro d hd s r0 i1 l2 s9 r h lv _
      obtain ⟨d, rfl⟩ : ∃ x, d = x + 1 := ⟨d - 1, by omega⟩
      simp only [g_93] at h
      refine Vic (v := Int32.ofInt (-1)) rfl rfl rfl ?_
      cases h
      exact Yret rfl rfl rfl rfl rfl rfl rfl ⟨rfl, rfl⟩
    · intro d hd s r0 i1 l2 s9 r h lv lk0 lk1 lk2
      obtain ⟨d, rfl⟩ : ∃ x, d = x + 1 := ⟨d - 1, by omega⟩
      simp only [g_93] at h
      refine Van rfl lk0 rfl rfl ?_
      refine Vbp (v := Int32.ofInt 100) rfl (by decide) rfl ?_
      refine Vin rfl lk1 rfl ?_
      refine Uadd rfl rfl ?_
      refine Vln rfl lk2 rfl ?_
      refine Vic (v := Int32.ofInt (-1)) rfl rfl rfl ?_
      refine Vic (v := Int32.ofInt (-1)) rfl rfl rfl ?_
      refine Vic (v := Int32.ofInt (-1)) rfl rfl rfl ?_
      have hz := y_bind h
      clear h
      obtain ⟨b5, h6, h⟩ := hz
      obtain ⟨eh6, fh6, wh6⟩ := y_rcv_ok h6
      cases eh6
      have hz := y_bind h
      clear h
      obtain ⟨⟨s1, r2⟩, h3, h⟩ := hz
      try dsimp only at h
      refine Vcv rfl rfl rfl wh6 rfl rfl ⟨(Nat.le_of_ble_eq_true rfl), (Nat.le_of_ble_eq_true rfl)⟩ rfl ((c_94 o n) _ (by omega) _ _ _ _ _ _ _ _ _ h3 _ rfl rfl rfl rfl rfl rfl) (fun z1 z2 zq => ?_)
      obtain ⟨rfl, rfl⟩ := zq
      try dsimp only [Option.toList, HAppend.hAppend, Append.append, List.append]
      cases h
      exact Yret rfl rfl rfl rfl rfl rfl rfl ⟨rfl, rfl⟩

/-- StepRowsModel.isExpression -/
def g_96 (o : X_O) : Nat → Nat → Q_S → Nat → Int → Int → Option (Q_S × Int)
  | 0, _, _, _, _, _ => none
  | n + 1, 0, s, r0, i1, ti0 => (q_g (q_in i1)).bind fun _ => if i1 < 0 then g_96 o n 2 s 0 0 0 else (q_gi s 7 (.ref r0) 1).bind fun v4 => (q_g (q_in i1 ∧ q_in v4)).bind fun _ => if v4 ≤ i1 then g_96 o n 2 s 0 0 0 else (q_gv s 7 (.ref r0) 2).bind fun v9 => (q_ia o s v9 i1).bind fun v11 => (q_g (q_in v11)).bind fun _ => if v11 < 10 then g_96 o n 1 s 0 0 0 else (q_gv s 7 (.ref r0) 2).bind fun v16 => (q_ia o s v16 i1).bind fun v18 => (q_g (q_in v18)).bind fun _ => if v18 < 100 then g_96 o n 2 s 0 0 0 else g_96 o n 1 s 0 0 0
  | n + 1, 1, s, r0, i1, ti0 => g_96 o n 3 s 0 0 (1)
  | n + 1, 2, s, r0, i1, ti0 => g_96 o n 3 s 0 0 (0)
  | n + 1, 3, s, r0, i1, ti0 => (q_g (ti0 = 0 ∨ ti0 = 1)).bind fun _ => some (s, ti0)
  | _ + 1, _, _, _, _, _ => none
set_option maxRecDepth 100000 in
set_option maxHeartbeats 4000000 in
theorem c_96 (o : X_O) : ∀ n, (∀ (d : Nat) (hd : 0 ≤ d) (s : Q_S) (r0 : Nat) (i1 : Int) (ti0 : Int) (s9 : Q_S) (r : Int), g_96 o n 0 s r0 i1 ti0 = some (s9, r) → ∀ lv : X_L, x_lget lv 0 = some (.ref r0) → x_lget lv 1 = some (.int (Int32.ofInt i1)) → Y o d 96 0 lv [] (q_y s) (fun s1 r1 => s1 = q_y s9 ∧ r1 = some (.int (Int32.ofInt r)))) ∧
    (∀ (d : Nat) (hd : 0 ≤ d) (s : Q_S) (r0 : Nat) (i1 : Int) (ti0 : Int) (s9 : Q_S) (r : Int), g_96 o n 1 s r0 i1 ti0 = some (s9, r) → ∀ lv : X_L, True → Y o d 96 34 lv [] (q_y s) (fun s1 r1 => s1 = q_y s9 ∧ r1 = some (.int (Int32.ofInt r)))) ∧
    (∀ (d : Nat) (hd : 0 ≤ d) (s : Q_S) (r0 : Nat) (i1 : Int) (ti0 : Int) (s9 : Q_S) (r : Int), g_96 o n 2 s r0 i1 ti0 = some (s9, r) → ∀ lv : X_L, True → Y o d 96 38 lv [] (q_y s) (fun s1 r1 => s1 = q_y s9 ∧ r1 = some (.int (Int32.ofInt r)))) ∧
    (∀ (d : Nat) (hd : 0 ≤ d) (s : Q_S) (r0 : Nat) (i1 : Int) (ti0 : Int) (s9 : Q_S) (r : Int), g_96 o n 3 s r0 i1 ti0 = some (s9, r) → ∀ lv : X_L, True → Y o d 96 39 lv [.int (Int32.ofInt ti0)] (q_y s) (fun s1 r1 => s1 = q_y s9 ∧ r1 = some (.int (Int32.ofInt r)))) := by
  intro n
  induction n with
  | zero => exact ⟨fun d hd s _ _ _ s9 r h => (by simp only [g_96] at h; cases h), fun d hd s _ _ _ s9 r h => (by simp only [g_96] at h; cases h), fun d hd s _ _ _ s9 r h => (by simp only [g_96] at h; cases h), fun d hd s _ _ _ s9 r h => (by simp only [g_96] at h; cases h)⟩
  | succ n ih =>
    refine ⟨?_, ?_, ?_, ?_⟩
    · intro d hd s r0 i1 ti0 s9 r h lv lk0 lk1
      simp only [g_96] at h
      refine Vin rfl lk1 rfl ?_
      have hz := y_bind h
      clear h
      obtain ⟨_, h2, h⟩ := hz
      have c1 := q_g_ok h2
      refine Uif (q_lt0 c1) rfl rfl rfl rfl rfl rfl rfl (fun c3 => ?_) (fun c3 => ?_)
      · rw [if_pos c3] at h
        exact ih.2.2.1 _ hd _ _ _ _ _ _ h lv trivial
      · rw [if_neg c3] at h
        refine Vin rfl lk1 rfl ?_
        refine Van rfl lk0 rfl rfl ?_
        have hz := y_bind h
        clear h
        obtain ⟨v4, h5, h⟩ := hz
        refine Zgi (q_gi_y h5) rfl rfl rfl ?_
        have hz := y_bind h
        clear h
        obtain ⟨_, h7, h⟩ := hz
        have c6 := q_g_ok h7
        refine Uif (q_le c6.2 c6.1) rfl rfl rfl rfl rfl rfl rfl (fun c8 => ?_) (fun c8 => ?_)
        · rw [if_pos c8] at h
          exact ih.2.2.1 _ hd _ _ _ _ _ _ h lv trivial
        · rw [if_neg c8] at h
          refine Van rfl lk0 rfl rfl ?_
          have hz := y_bind h
          clear h
          obtain ⟨v9, h10, h⟩ := hz
          have wv9 := (y_gv_ok h10).2
          refine Vgv h10 rfl rfl rfl ?_
          refine Vin rfl lk1 rfl ?_
          have hz := y_bind h
          clear h
          obtain ⟨v11, h12, h⟩ := hz
          refine Zia (q_ia_y h12) rfl rfl ?_
          refine Vbp (v := Int32.ofInt 10) rfl (by decide) rfl ?_
          have hz := y_bind h
          clear h
          obtain ⟨_, h14, h⟩ := hz
          have c13 := q_g_ok h14
          refine Uif (q_lt c13 (by decide)) rfl rfl rfl rfl rfl rfl rfl (fun c15 => ?_) (fun c15 => ?_)
          · rw [if_pos c15] at h
            exact ih.2.1 _ hd _ _ _ _ _ _ h lv trivial
          · rw [if_neg c15] at h
            refine Van rfl lk0 rfl rfl ?_
            have hz := y_bind h
            clear h
            obtain ⟨v16, h17, h⟩ := hz
            have wv16 := (y_gv_ok h17).2
            refine Vgv h17 rfl rfl rfl ?_
            refine Vin rfl lk1 rfl ?_
            have hz := y_bind h
            clear h
            obtain ⟨v18, h19, h⟩ := hz
            refine Zia (q_ia_y h19) rfl rfl ?_
            refine Vbp (v := Int32.ofInt 100) rfl (by decide) rfl ?_
            have hz := y_bind h
            clear h
            obtain ⟨_, h21, h⟩ := hz
            have c20 := q_g_ok h21
            refine Uif (q_lt c20 (by decide)) rfl rfl rfl rfl rfl rfl rfl (fun c22 => ?_) (fun c22 => ?_)
            · rw [if_pos c22] at h
              exact ih.2.2.1 _ hd _ _ _ _ _ _ h lv trivial
            · rw [if_neg c22] at h
              exact ih.2.1 _ hd _ _ _ _ _ _ h lv trivial
    · intro d hd s r0 i1 ti0 s9 r h lv _
      simp only [g_96] at h
      refine Vic (v := Int32.ofInt 1) rfl rfl rfl ?_
      refine Ygo rfl rfl rfl rfl rfl rfl ?_
      exact ih.2.2.2 _ hd _ _ _ _ _ _ h lv trivial
    · intro d hd s r0 i1 ti0 s9 r h lv _
      simp only [g_96] at h
      refine Vic (v := Int32.ofInt 0) rfl rfl rfl ?_
      exact ih.2.2.2 _ hd _ _ _ _ _ _ h lv trivial
    · intro d hd s r0 i1 ti0 s9 r h lv _
      simp only [g_96] at h
      have hz := y_bind h
      clear h
      obtain ⟨_, h2, h⟩ := hz
      have c1 := q_g_ok h2
      cases h
      exact Yret rfl rfl rfl rfl rfl rfl (if_pos (q_bool c1)) ⟨rfl, rfl⟩

/-- StepRowsModel.put -/
def g_97 (o : X_O) : Nat → Nat → Q_S → Nat → Int → Int → Int → Int → Int → Int → Int → Option (Q_S × Int)
  | 0, _, _, _, _, _, _, _, _, _, _ => none
  | n + 1, 0, s, r0, i1, i2, i3, i4, i5, i6, ti0 => (q_g (q_in i1)).bind fun _ => if i1 = 0 then g_97 o n 1 s 0 0 0 0 0 0 0 ((-1)) else (q_g (q_in i3)).bind fun _ => (q_rcv s 7 (.ref r0)).bind fun b10 => (g_94 o n 0 s b10 (i2) ((Int64.ofInt i3)) (i4) (i5) (i6)).bind fun q9 => g_97 o n 1 q9.1 0 0 0 0 0 0 0 (q9.2)
  | n + 1, 1, s, r0, i1, i2, i3, i4, i5, i6, ti0 => some (s, ti0)
  | _ + 1, _, _, _, _, _, _, _, _, _, _ => none
set_option maxRecDepth 100000 in
set_option maxHeartbeats 4000000 in
theorem c_97 (o : X_O) : ∀ n, (∀ (d : Nat) (hd : 1 ≤ d) (s : Q_S) (r0 : Nat) (i1 : Int) (i2 : Int) (i3 : Int) (i4 : Int) (i5 : Int) (i6 : Int) (ti0 : Int) (s9 : Q_S) (r : Int), g_97 o n 0 s r0 i1 i2 i3 i4 i5 i6 ti0 = some (s9, r) → ∀ lv : X_L, x_lget lv 0 = some (.ref r0) → x_lget lv 1 = some (.int (Int32.ofInt i1)) → x_lget lv 2 = some (.int (Int32.ofInt i2)) → x_lget lv 3 = some (.int (Int32.ofInt i3)) → x_lget lv 4 = some (.int (Int32.ofInt i4)) → x_lget lv 5 = some (.int (Int32.ofInt i5)) → x_lget lv 6 = some (.int (Int32.ofInt i6)) → Y o d 97 0 lv [] (q_y s) (fun s1 r1 => s1 = q_y s9 ∧ r1 = some (.int (Int32.ofInt r)))) ∧
    (∀ (d : Nat) (hd : 1 ≤ d) (s : Q_S) (r0 : Nat) (i1 : Int) (i2 : Int) (i3 : Int) (i4 : Int) (i5 : Int) (i6 : Int) (ti0 : Int) (s9 : Q_S) (r : Int), g_97 o n 1 s r0 i1 i2 i3 i4 i5 i6 ti0 = some (s9, r) → ∀ lv : X_L, True → Y o d 97 21 lv [.int (Int32.ofInt ti0)] (q_y s) (fun s1 r1 => s1 = q_y s9 ∧ r1 = some (.int (Int32.ofInt r)))) := by
  intro n
  induction n with
  | zero => exact ⟨fun d hd s _ _ _ _ _ _ _ _ s9 r h => (by simp only [g_97] at h; cases h), fun d hd s _ _ _ _ _ _ _ _ s9 r h => (by simp only [g_97] at h; cases h)⟩
  | succ n ih =>
    refine ⟨?_, ?_⟩
    · intro d hd s r0 i1 i2 i3 i4 i5 i6 ti0 s9 r h lv lk0 lk1 lk2 lk3 lk4 lk5 lk6
      obtain ⟨d, rfl⟩ : ∃ x, d = x + 1 := ⟨d - 1, by omega⟩
      simp only [g_97] at h
      refine Vin rfl lk1 rfl ?_
      have hz := y_bind h
      clear h
      obtain ⟨_, h2, h⟩ := hz
      have c1 := q_g_ok h2
      refine Uif (q_eq0 c1) rfl rfl rfl rfl rfl rfl rfl (fun c3 => ?_) (fun c3 => ?_)
      · rw [if_pos c3] at h
        refine Vic (v := Int32.ofInt (-1)) rfl rfl rfl ?_
        exact ih.2 _ hd _ _ _ _ _ _ _ _ _ _ _ h lv trivial
      · rw [if_neg c3] at h
        refine Van rfl lk0 rfl rfl ?_
        refine Vin rfl lk2 rfl ?_
        refine Vin rfl lk3 rfl ?_
        have hz := y_bind h
        clear h
        obtain ⟨_, h5, h⟩ := hz
        have c4 := q_g_ok h5
        refine Ui2l c4 rfl rfl ?_
        refine Vi rfl lk4 rfl ?_
        refine Vi rfl lk5 rfl ?_
        refine Vi rfl lk6 rfl ?_
        have hz := y_bind h
        clear h
        obtain ⟨b10, h11, h⟩ := hz
        obtain ⟨eh11, fh11, wh11⟩ := y_rcv_ok h11
        cases eh11
        have hz := y_bind h
        clear h
        obtain ⟨⟨s6, r7⟩, h8, h⟩ := hz
        try dsimp only at h
        refine Vcv rfl rfl rfl wh11 rfl rfl ⟨(Nat.le_of_ble_eq_true rfl), (Nat.le_of_ble_eq_true rfl)⟩ rfl ((c_94 o n) _ (by omega) _ _ _ _ _ _ _ _ _ h8 _ rfl rfl rfl rfl rfl rfl) (fun z1 z2 zq => ?_)
        obtain ⟨rfl, rfl⟩ := zq
        try dsimp only [Option.toList, HAppend.hAppend, Append.append, List.append]
        refine Ygo rfl rfl rfl rfl rfl rfl ?_
        exact ih.2 _ hd _ _ _ _ _ _ _ _ _ _ _ h lv trivial
    · intro d hd s r0 i1 i2 i3 i4 i5 i6 ti0 s9 r h lv _
      obtain ⟨d, rfl⟩ : ∃ x, d = x + 1 := ⟨d - 1, by omega⟩
      simp only [g_97] at h
      cases h
      exact Yret rfl rfl rfl rfl rfl rfl rfl ⟨rfl, rfl⟩

/-- StepRowsModel.isStatement -/
def g_98 (o : X_O) : Nat → Nat → Q_S → Nat → Int → Int → Option (Q_S × Int)
  | 0, _, _, _, _, _ => none
  | n + 1, 0, s, r0, i1, ti0 => (q_g (q_in i1)).bind fun _ => if i1 < 0 then g_98 o n 1 s 0 0 0 else (q_gi s 7 (.ref r0) 1).bind fun v4 => (q_g (q_in i1 ∧ q_in v4)).bind fun _ => if v4 ≤ i1 then g_98 o n 1 s 0 0 0 else (q_gv s 7 (.ref r0) 2).bind fun v9 => (q_ia o s v9 i1).bind fun v11 => (q_g (q_in v11)).bind fun _ => if v11 < 10 then g_98 o n 1 s 0 0 0 else (q_gv s 7 (.ref r0) 2).bind fun v16 => (q_ia o s v16 i1).bind fun v18 => (q_g (q_in v18)).bind fun _ => if 100 ≤ v18 then g_98 o n 1 s 0 0 0 else g_98 o n 2 s 0 0 (1)
  | n + 1, 1, s, r0, i1, ti0 => g_98 o n 2 s 0 0 (0)
  | n + 1, 2, s, r0, i1, ti0 => (q_g (ti0 = 0 ∨ ti0 = 1)).bind fun _ => some (s, ti0)
  | _ + 1, _, _, _, _, _ => none
set_option maxRecDepth 100000 in
set_option maxHeartbeats 4000000 in
theorem c_98 (o : X_O) : ∀ n, (∀ (d : Nat) (hd : 0 ≤ d) (s : Q_S) (r0 : Nat) (i1 : Int) (ti0 : Int) (s9 : Q_S) (r : Int), g_98 o n 0 s r0 i1 ti0 = some (s9, r) → ∀ lv : X_L, x_lget lv 0 = some (.ref r0) → x_lget lv 1 = some (.int (Int32.ofInt i1)) → Y o d 98 0 lv [] (q_y s) (fun s1 r1 => s1 = q_y s9 ∧ r1 = some (.int (Int32.ofInt r)))) ∧
    (∀ (d : Nat) (hd : 0 ≤ d) (s : Q_S) (r0 : Nat) (i1 : Int) (ti0 : Int) (s9 : Q_S) (r : Int), g_98 o n 1 s r0 i1 ti0 = some (s9, r) → ∀ lv : X_L, True → Y o d 98 38 lv [] (q_y s) (fun s1 r1 => s1 = q_y s9 ∧ r1 = some (.int (Int32.ofInt r)))) ∧
    (∀ (d : Nat) (hd : 0 ≤ d) (s : Q_S) (r0 : Nat) (i1 : Int) (ti0 : Int) (s9 : Q_S) (r : Int), g_98 o n 2 s r0 i1 ti0 = some (s9, r) → ∀ lv : X_L, True → Y o d 98 39 lv [.int (Int32.ofInt ti0)] (q_y s) (fun s1 r1 => s1 = q_y s9 ∧ r1 = some (.int (Int32.ofInt r)))) := by
  intro n
  induction n with
  | zero => exact ⟨fun d hd s _ _ _ s9 r h => (by simp only [g_98] at h; cases h), fun d hd s _ _ _ s9 r h => (by simp only [g_98] at h; cases h), fun d hd s _ _ _ s9 r h => (by simp only [g_98] at h; cases h)⟩
  | succ n ih =>
    refine ⟨?_, ?_, ?_⟩
    · intro d hd s r0 i1 ti0 s9 r h lv lk0 lk1
      simp only [g_98] at h
      refine Vin rfl lk1 rfl ?_
      have hz := y_bind h
      clear h
      obtain ⟨_, h2, h⟩ := hz
      have c1 := q_g_ok h2
      refine Uif (q_lt0 c1) rfl rfl rfl rfl rfl rfl rfl (fun c3 => ?_) (fun c3 => ?_)
      · rw [if_pos c3] at h
        exact ih.2.1 _ hd _ _ _ _ _ _ h lv trivial
      · rw [if_neg c3] at h
        refine Vin rfl lk1 rfl ?_
        refine Van rfl lk0 rfl rfl ?_
        have hz := y_bind h
        clear h
        obtain ⟨v4, h5, h⟩ := hz
        refine Zgi (q_gi_y h5) rfl rfl rfl ?_
        have hz := y_bind h
        clear h
        obtain ⟨_, h7, h⟩ := hz
        have c6 := q_g_ok h7
        refine Uif (q_le c6.2 c6.1) rfl rfl rfl rfl rfl rfl rfl (fun c8 => ?_) (fun c8 => ?_)
        · rw [if_pos c8] at h
          exact ih.2.1 _ hd _ _ _ _ _ _ h lv trivial
        · rw [if_neg c8] at h
          refine Van rfl lk0 rfl rfl ?_
          have hz := y_bind h
          clear h
          obtain ⟨v9, h10, h⟩ := hz
          have wv9 := (y_gv_ok h10).2
          refine Vgv h10 rfl rfl rfl ?_
          refine Vin rfl lk1 rfl ?_
          have hz := y_bind h
          clear h
          obtain ⟨v11, h12, h⟩ := hz
          refine Zia (q_ia_y h12) rfl rfl ?_
          refine Vbp (v := Int32.ofInt 10) rfl (by decide) rfl ?_
          have hz := y_bind h
          clear h
          obtain ⟨_, h14, h⟩ := hz
          have c13 := q_g_ok h14
          refine Uif (q_lt c13 (by decide)) rfl rfl rfl rfl rfl rfl rfl (fun c15 => ?_) (fun c15 => ?_)
          · rw [if_pos c15] at h
            exact ih.2.1 _ hd _ _ _ _ _ _ h lv trivial
          · rw [if_neg c15] at h
            refine Van rfl lk0 rfl rfl ?_
            have hz := y_bind h
            clear h
            obtain ⟨v16, h17, h⟩ := hz
            have wv16 := (y_gv_ok h17).2
            refine Vgv h17 rfl rfl rfl ?_
            refine Vin rfl lk1 rfl ?_
            have hz := y_bind h
            clear h
            obtain ⟨v18, h19, h⟩ := hz
            refine Zia (q_ia_y h19) rfl rfl ?_
            refine Vbp (v := Int32.ofInt 100) rfl (by decide) rfl ?_
            have hz := y_bind h
            clear h
            obtain ⟨_, h21, h⟩ := hz
            have c20 := q_g_ok h21
            refine Uif (q_le (by decide) c20) rfl rfl rfl rfl rfl rfl rfl (fun c22 => ?_) (fun c22 => ?_)
            · rw [if_pos c22] at h
              exact ih.2.1 _ hd _ _ _ _ _ _ h lv trivial
            · rw [if_neg c22] at h
              refine Vic (v := Int32.ofInt 1) rfl rfl rfl ?_
              refine Ygo rfl rfl rfl rfl rfl rfl ?_
              exact ih.2.2 _ hd _ _ _ _ _ _ h lv trivial
    · intro d hd s r0 i1 ti0 s9 r h lv _
      simp only [g_98] at h
      refine Vic (v := Int32.ofInt 0) rfl rfl rfl ?_
      exact ih.2.2 _ hd _ _ _ _ _ _ h lv trivial
    · intro d hd s r0 i1 ti0 s9 r h lv _
      simp only [g_98] at h
      have hz := y_bind h
      clear h
      obtain ⟨_, h2, h⟩ := hz
      have c1 := q_g_ok h2
      cases h
      exact Yret rfl rfl rfl rfl rfl rfl (if_pos (q_bool c1)) ⟨rfl, rfl⟩

