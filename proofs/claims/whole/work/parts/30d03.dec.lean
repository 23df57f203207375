/-- StepRows$Walker.beginLimit -/
def g_78 (o : X_O) : Nat → Nat → Q_S → Nat → Int → Int → Option (Q_S × Int)
  | 0, _, _, _, _, _ => none
  | n + 1, 0, s, r0, i1, ti0 => (q_rcv s 6 (.ref r0)).bind fun b5 => (g_63 o n 0 s b5 ((i1 + 1)) .null 0 0 0 0 0 0).bind fun q4 => if q4.2 = 0 then g_78 o n 1 q4.1 r0 (i1) (0) else g_78 o n 1 q4.1 r0 (i1) (1)
  | n + 1, 1, s, r0, i1, ti0 => (q_gv s 6 (.ref r0) 0).bind fun v1 => (q_rcv s 4 v1).bind fun b7 => (g_43 o n 0 s b7 0).bind fun q6 => (q_g (q_in q6.2)).bind fun _ => if ¬ q6.2 = 0 then (q_g (q_in ti0)).bind fun _ => if ¬ ti0 = 0 then (q_rcv q6.1 6 (.ref r0)).bind fun b21 => (g_79 o n 0 q6.1 b21 (16) (i1)).bind fun q20 => (q_g (q_in q20.2)).bind fun _ => if q20.2 = 0 then g_78 o n 2 q20.1 0 0 ((-1000000)) else (q_gv q20.1 6 (.ref r0) 0).bind fun v28 => (q_gv q20.1 4 v28 1).bind fun v30 => (q_rcv q20.1 3 v30).bind fun b36 => (g_37 o n 0 q20.1 b36 (i1)).bind fun q35 => g_78 o n 2 q35.1 0 0 (q35.2) else (q_gv q6.1 6 (.ref r0) 0).bind fun v40 => (q_gv q6.1 4 v40 1).bind fun v42 => (q_rcv q6.1 3 v42).bind fun b48 => (g_38 o n 0 q6.1 b48 (i1)).bind fun q47 => some (q47.1, q47.2) else some (q6.1, (-1000000))
  | n + 1, 2, s, r0, i1, ti0 => some (s, ti0)
  | _ + 1, _, _, _, _, _ => none
set_option maxRecDepth 100000 in
set_option maxHeartbeats 4000000 in
theorem c_78 (o : X_O) : ∀ n, (∀ (d : Nat) (hd : 5 ≤ d) (s : Q_S) (r0 : Nat) (i1 : Int) (ti0 : Int) (s9 : Q_S) (r : Int), g_78 o n 0 s r0 i1 ti0 = some (s9, r) → ∀ lv : X_L, x_lget lv 0 = some (.ref r0) → x_lget lv 1 = some (.int (Int32.ofInt i1)) → Y o d 78 0 lv [] (q_y s) (fun s1 r1 => s1 = q_y s9 ∧ r1 = some (.int (Int32.ofInt r)))) ∧
    (∀ (d : Nat) (hd : 5 ≤ d) (s : Q_S) (r0 : Nat) (i1 : Int) (ti0 : Int) (s9 : Q_S) (r : Int), g_78 o n 1 s r0 i1 ti0 = some (s9, r) → ∀ lv : X_L, x_lget lv 0 = some (.ref r0) → x_lget lv 1 = some (.int (Int32.ofInt i1)) → Y o d 78 17 lv [.int (Int32.ofInt ti0)] (q_y s) (fun s1 r1 => s1 = q_y s9 ∧ r1 = some (.int (Int32.ofInt r)))) ∧
    (∀ (d : Nat) (hd : 5 ≤ d) (s : Q_S) (r0 : Nat) (i1 : Int) (ti0 : Int) (s9 : Q_S) (r : Int), g_78 o n 2 s r0 i1 ti0 = some (s9, r) → ∀ lv : X_L, True → Y o d 78 73 lv [.int (Int32.ofInt ti0)] (q_y s) (fun s1 r1 => s1 = q_y s9 ∧ r1 = some (.int (Int32.ofInt r)))) := by
  intro n
  induction n with
  | zero => exact ⟨fun d hd s _ _ _ s9 r h => (by simp only [g_78] at h; cases h), fun d hd s _ _ _ s9 r h => (by simp only [g_78] at h; cases h), fun d hd s _ _ _ s9 r h => (by simp only [g_78] at h; cases h)⟩
  | succ n ih =>
    refine ⟨?_, ?_, ?_⟩
    · intro d hd s r0 i1 ti0 s9 r h lv lk0 lk1
      obtain ⟨d, rfl⟩ : ∃ x, d = x + 1 := ⟨d - 1, by omega⟩
      simp only [g_78] at h
      refine Van rfl lk0 rfl rfl ?_
      refine Vin rfl lk1 rfl ?_
      refine Vic (v := Int32.ofInt 1) rfl rfl rfl ?_
      refine Uadd rfl rfl ?_
      have hz := y_bind h
      clear h
      obtain ⟨b5, h6, h⟩ := hz
      obtain ⟨eh6, fh6, wh6⟩ := y_rcv_ok h6
      cases eh6
      have hz := y_bind h
      clear h
      obtain ⟨⟨s1, r2⟩, h3, h⟩ := hz
      try dsimp only at h
      refine Vcv rfl rfl rfl wh6 rfl rfl ⟨(Nat.le_of_ble_eq_true rfl), (Nat.le_of_ble_eq_true rfl)⟩ rfl ((c_63 o n).1 _ (by omega) _ _ _ _ _ _ _ _ _ _ _ _ h3 _ rfl rfl) (fun z1 z2 zq => ?_)
      obtain ⟨rfl, rfl⟩ := zq
      try dsimp only [Option.toList, HAppend.hAppend, Append.append, List.append]
      refine Vlc (v := 0) rfl (by decide) rfl ?_
      refine Ya rfl rfl rfl ?_
      refine Uif (lg_cmp_eq _ _) rfl rfl rfl rfl rfl rfl rfl (fun c9 => ?_) (fun c9 => ?_)
      · rw [if_pos c9] at h
        refine Vic (v := Int32.ofInt 0) rfl rfl rfl ?_
        exact ih.2.1 _ hd _ _ _ _ _ _ h lv lk0 lk1
      · rw [if_neg c9] at h
        refine Vic (v := Int32.ofInt 1) rfl rfl rfl ?_
        refine Ygo rfl rfl rfl rfl rfl rfl ?_
        exact ih.2.1 _ hd _ _ _ _ _ _ h lv lk0 lk1
    · intro d hd s r0 i1 ti0 s9 r h lv lk0 lk1
      obtain ⟨d, rfl⟩ : ∃ x, d = x + 1 := ⟨d - 1, by omega⟩
      simp only [g_78] at h
      refine Vsin rfl rfl (fun lv lk2 hk => ?_)
      have lk0 := hk 0 _ lk0 (by decide) (by decide) (Or.inl (by decide))
      have lk1 := hk 1 _ lk1 (by decide) (by decide) (Or.inr rfl)
      refine Van rfl lk0 rfl rfl ?_
      have hz := y_bind h
      clear h
      obtain ⟨v1, h2, h⟩ := hz
      have wv1 := (y_gv_ok h2).2
      refine Vgv h2 rfl rfl rfl ?_
      have hz := y_bind h
      clear h
      obtain ⟨b7, h8, h⟩ := hz
      obtain ⟨eh8, fh8, wh8⟩ := y_rcv_ok h8
      cases eh8
      have hz := y_bind h
      clear h
      obtain ⟨⟨s3, r4⟩, h5, h⟩ := hz
      try dsimp only at h
      refine Vcv rfl rfl rfl wh8 rfl rfl ⟨(Nat.le_of_ble_eq_true rfl), (Nat.le_of_ble_eq_true rfl)⟩ rfl ((c_43 o n).1 _ (by omega) _ _ _ _ _ h5 _ rfl) (fun z1 z2 zq => ?_)
      obtain ⟨rfl, rfl⟩ := zq
      try dsimp only [Option.toList, HAppend.hAppend, Append.append, List.append]
      have hz := y_bind h
      clear h
      obtain ⟨_, h12, h⟩ := hz
      have c11 := q_g_ok h12
      refine Uif (not_congr (q_eq0 c11)) rfl rfl rfl rfl rfl rfl rfl (fun c13 => ?_) (fun c13 => ?_)
      · rw [if_pos c13] at h
        refine Vin rfl lk2 rfl ?_
        have hz := y_bind h
        clear h
        obtain ⟨_, h15, h⟩ := hz
        have c14 := q_g_ok h15
        refine Uif (not_congr (q_eq0 c14)) rfl rfl rfl rfl rfl rfl rfl (fun c16 => ?_) (fun c16 => ?_)
        · rw [if_pos c16] at h
          refine Van rfl lk0 rfl rfl ?_
          refine Vbp (v := Int32.ofInt 16) rfl (by decide) rfl ?_
          refine Vin rfl lk1 rfl ?_
          have hz := y_bind h
          clear h
          obtain ⟨b21, h22, h⟩ := hz
          obtain ⟨eh22, fh22, wh22⟩ := y_rcv_ok h22
          cases eh22
          have hz := y_bind h
          clear h
          obtain ⟨⟨s17, r18⟩, h19, h⟩ := hz
          try dsimp only at h
          refine Vcv rfl rfl rfl wh22 rfl rfl ⟨(Nat.le_of_ble_eq_true rfl), (Nat.le_of_ble_eq_true rfl)⟩ rfl ((c_79 o n) _ (by omega) _ _ _ _ _ _ h19 _ rfl rfl rfl) (fun z1 z2 zq => ?_)
          obtain ⟨rfl, rfl⟩ := zq
          try dsimp only [Option.toList, HAppend.hAppend, Append.append, List.append]
          have hz := y_bind h
          clear h
          obtain ⟨_, h26, h⟩ := hz
          have c25 := q_g_ok h26
          refine Uif (q_eq0 c25) rfl rfl rfl rfl rfl rfl rfl (fun c27 => ?_) (fun c27 => ?_)
          · rw [if_pos c27] at h
            refine Yk (v := .int (Int32.ofInt (-1000000))) rfl rfl rfl rfl rfl ?_
            exact ih.2.2 _ hd _ _ _ _ _ _ h lv trivial
          · rw [if_neg c27] at h
            refine Van rfl lk0 rfl rfl ?_
            have hz := y_bind h
            clear h
            obtain ⟨v28, h29, h⟩ := hz
            have wv28 := (y_gv_ok h29).2
            refine Vgv h29 rfl rfl rfl ?_
            have hz := y_bind h
            clear h
            obtain ⟨v30, h31, h⟩ := hz
            have wv30 := (y_gv_ok h31).2
            refine Vgv h31 rfl rfl rfl ?_
            refine Vin rfl lk1 rfl ?_
            have hz := y_bind h
            clear h
            obtain ⟨b36, h37, h⟩ := hz
            obtain ⟨eh37, fh37, wh37⟩ := y_rcv_ok h37
            cases eh37
            have hz := y_bind h
            clear h
            obtain ⟨⟨s32, r33⟩, h34, h⟩ := hz
            try dsimp only at h
            refine Vcv rfl rfl rfl wh37 rfl rfl ⟨(Nat.le_of_ble_eq_true rfl), (Nat.le_of_ble_eq_true rfl)⟩ rfl ((c_37 o n) _ (by omega) _ _ _ _ _ h34 _ rfl rfl) (fun z1 z2 zq => ?_)
            obtain ⟨rfl, rfl⟩ := zq
            try dsimp only [Option.toList, HAppend.hAppend, Append.append, List.append]
            refine Ygo rfl rfl rfl rfl rfl rfl ?_
            exact ih.2.2 _ hd _ _ _ _ _ _ h lv trivial
        · rw [if_neg c16] at h
          refine Van rfl lk0 rfl rfl ?_
          have hz := y_bind h
          clear h
          obtain ⟨v40, h41, h⟩ := hz
          have wv40 := (y_gv_ok h41).2
          refine Vgv h41 rfl rfl rfl ?_
          have hz := y_bind h
          clear h
          obtain ⟨v42, h43, h⟩ := hz
          have wv42 := (y_gv_ok h43).2
          refine Vgv h43 rfl rfl rfl ?_
          refine Vin rfl lk1 rfl ?_
          have hz := y_bind h
          clear h
          obtain ⟨b48, h49, h⟩ := hz
          obtain ⟨eh49, fh49, wh49⟩ := y_rcv_ok h49
          cases eh49
          have hz := y_bind h
          clear h
          obtain ⟨⟨s44, r45⟩, h46, h⟩ := hz
          try dsimp only at h
          refine Vcv rfl rfl rfl wh49 rfl rfl ⟨(Nat.le_of_ble_eq_true rfl), (Nat.le_of_ble_eq_true rfl)⟩ rfl ((c_38 o n) _ (by omega) _ _ _ _ _ h46 _ rfl rfl) (fun z1 z2 zq => ?_)
          obtain ⟨rfl, rfl⟩ := zq
          try dsimp only [Option.toList, HAppend.hAppend, Append.append, List.append]
          cases h
          exact Yret rfl rfl rfl rfl rfl rfl rfl ⟨rfl, rfl⟩
      · rw [if_neg c13] at h
        refine Yk (v := .int (Int32.ofInt (-1000000))) rfl rfl rfl rfl rfl ?_
        cases h
        exact Yret rfl rfl rfl rfl rfl rfl rfl ⟨rfl, rfl⟩
    · intro d hd s r0 i1 ti0 s9 r h lv _
      obtain ⟨d, rfl⟩ : ∃ x, d = x + 1 := ⟨d - 1, by omega⟩
      simp only [g_78] at h
      cases h
      exact Yret rfl rfl rfl rfl rfl rfl rfl ⟨rfl, rfl⟩

/-- StepRows$Walker.beginRepeat -/
def g_80 (o : X_O) : Nat → Nat → Q_S → Nat → Int → Option (Q_S × Int)
  | 0, _, _, _, _ => none
  | n + 1, 0, s, r0, i1 => (q_rcv s 6 (.ref r0)).bind fun b5 => (g_63 o n 0 s b5 ((i1 + 1)) .null 0 0 0 0 0 0).bind fun q4 => (q_gv q4.1 6 (.ref r0) 0).bind fun v9 => (q_rcv q4.1 4 v9).bind fun b15 => (g_43 o n 0 q4.1 b15 0).bind fun q14 => (q_g (q_in q14.2)).bind fun _ => if q14.2 = 0 then g_80 o n 1 q14.1 r0 (i1) else if 1 ≤ q4.2 then (q_rcv q14.1 6 (.ref r0)).bind fun b27 => (g_79 o n 0 q14.1 b27 (17) (i1)).bind fun q26 => (q_g (q_in q26.2)).bind fun _ => if ¬ q26.2 = 0 then (q_gv q26.1 6 (.ref r0) 1).bind fun v34 => (q_gv q26.1 5 v34 7).bind fun v36 => (q_gi q26.1 6 (.ref r0) 4).bind fun v38 => (q_ls q26.1 v36 v38 q4.2).bind fun s40 => (q_gv s40 6 (.ref r0) 0).bind fun v42 => (q_gv s40 4 v42 1).bind fun v44 => (q_rcv s40 3 v44).bind fun b50 => (g_37 o n 0 s40 b50 (i1)).bind fun q49 => some (q49.1, q49.2) else some (q26.1, (-1000000)) else g_80 o n 1 q14.1 r0 (i1)
  | n + 1, 1, s, r0, i1 => (q_gv s 6 (.ref r0) 0).bind fun v1 => (q_gv s 4 v1 1).bind fun v3 => (q_gv s 3 v3 3).bind fun v5 => (q_ia o s v5 i1).bind fun v7 => some (s, v7)
  | _ + 1, _, _, _, _ => none
set_option maxRecDepth 100000 in
set_option maxHeartbeats 4000000 in
theorem c_80 (o : X_O) : ∀ n, (∀ (d : Nat) (hd : 5 ≤ d) (s : Q_S) (r0 : Nat) (i1 : Int) (s9 : Q_S) (r : Int), g_80 o n 0 s r0 i1 = some (s9, r) → ∀ lv : X_L, x_lget lv 0 = some (.ref r0) → x_lget lv 1 = some (.int (Int32.ofInt i1)) → Y o d 80 0 lv [] (q_y s) (fun s1 r1 => s1 = q_y s9 ∧ r1 = some (.int (Int32.ofInt r)))) ∧
    (∀ (d : Nat) (hd : 5 ≤ d) (s : Q_S) (r0 : Nat) (i1 : Int) (s9 : Q_S) (r : Int), g_80 o n 1 s r0 i1 = some (s9, r) → ∀ lv : X_L, x_lget lv 0 = some (.ref r0) → x_lget lv 1 = some (.int (Int32.ofInt i1)) → Y o d 80 24 lv [] (q_y s) (fun s1 r1 => s1 = q_y s9 ∧ r1 = some (.int (Int32.ofInt r)))) := by
  intro n
  induction n with
  | zero => exact ⟨fun d hd s _ _ s9 r h => (by simp only [g_80] at h; cases h), fun d hd s _ _ s9 r h => (by simp only [g_80] at h; cases h)⟩
  | succ n ih =>
    refine ⟨?_, ?_⟩
    · intro d hd s r0 i1 s9 r h lv lk0 lk1
      obtain ⟨d, rfl⟩ : ∃ x, d = x + 1 := ⟨d - 1, by omega⟩
      simp only [g_80] at h
      refine Van rfl lk0 rfl rfl ?_
      refine Vin rfl lk1 rfl ?_
      refine Vic (v := Int32.ofInt 1) rfl rfl rfl ?_
      refine Uadd rfl rfl ?_
      have hz := y_bind h
      clear h
      obtain ⟨b5, h6, h⟩ := hz
      obtain ⟨eh6, fh6, wh6⟩ := y_rcv_ok h6
      cases eh6
      have hz := y_bind h
      clear h
      obtain ⟨⟨s1, r2⟩, h3, h⟩ := hz
      try dsimp only at h
      refine Vcv rfl rfl rfl wh6 rfl rfl ⟨(Nat.le_of_ble_eq_true rfl), (Nat.le_of_ble_eq_true rfl)⟩ rfl ((c_63 o n).1 _ (by omega) _ _ _ _ _ _ _ _ _ _ _ _ h3 _ rfl rfl) (fun z1 z2 zq => ?_)
      obtain ⟨rfl, rfl⟩ := zq
      try dsimp only [Option.toList, HAppend.hAppend, Append.append, List.append]
      refine Vsln rfl rfl (fun lv lk2 hk => ?_)
      have lk0 := hk 0 _ lk0 (by decide) (by decide) (Or.inl (by decide))
      have lk1 := hk 1 _ lk1 (by decide) (by decide) (Or.inr rfl)
      refine Van rfl lk0 rfl rfl ?_
      have hz := y_bind h
      clear h
      obtain ⟨v9, h10, h⟩ := hz
      have wv9 := (y_gv_ok h10).2
      refine Vgv h10 rfl rfl rfl ?_
      have hz := y_bind h
      clear h
      obtain ⟨b15, h16, h⟩ := hz
      obtain ⟨eh16, fh16, wh16⟩ := y_rcv_ok h16
      cases eh16
      have hz := y_bind h
      clear h
      obtain ⟨⟨s11, r12⟩, h13, h⟩ := hz
      try dsimp only at h
      refine Vcv rfl rfl rfl wh16 rfl rfl ⟨(Nat.le_of_ble_eq_true rfl), (Nat.le_of_ble_eq_true rfl)⟩ rfl ((c_43 o n).1 _ (by omega) _ _ _ _ _ h13 _ rfl) (fun z1 z2 zq => ?_)
      obtain ⟨rfl, rfl⟩ := zq
      try dsimp only [Option.toList, HAppend.hAppend, Append.append, List.append]
      have hz := y_bind h
      clear h
      obtain ⟨_, h20, h⟩ := hz
      have c19 := q_g_ok h20
      refine Uif (q_eq0 c19) rfl rfl rfl rfl rfl rfl rfl (fun c21 => ?_) (fun c21 => ?_)
      · rw [if_pos c21] at h
        exact ih.2 _ hd _ _ _ _ _ h lv lk0 lk1
      · rw [if_neg c21] at h
        refine Vln rfl lk2 rfl ?_
        refine Vlc (v := 1) rfl (by decide) rfl ?_
        refine Ya rfl rfl rfl ?_
        refine Uif (lg_cmp_ge _ _) rfl rfl rfl rfl rfl rfl rfl (fun c22 => ?_) (fun c22 => ?_)
        · rw [if_pos c22] at h
          refine Van rfl lk0 rfl rfl ?_
          refine Vbp (v := Int32.ofInt 17) rfl (by decide) rfl ?_
          refine Vin rfl lk1 rfl ?_
          have hz := y_bind h
          clear h
          obtain ⟨b27, h28, h⟩ := hz
          obtain ⟨eh28, fh28, wh28⟩ := y_rcv_ok h28
          cases eh28
          have hz := y_bind h
          clear h
          obtain ⟨⟨s23, r24⟩, h25, h⟩ := hz
          try dsimp only at h
          refine Vcv rfl rfl rfl wh28 rfl rfl ⟨(Nat.le_of_ble_eq_true rfl), (Nat.le_of_ble_eq_true rfl)⟩ rfl ((c_79 o n) _ (by omega) _ _ _ _ _ _ h25 _ rfl rfl rfl) (fun z1 z2 zq => ?_)
          obtain ⟨rfl, rfl⟩ := zq
          try dsimp only [Option.toList, HAppend.hAppend, Append.append, List.append]
          have hz := y_bind h
          clear h
          obtain ⟨_, h32, h⟩ := hz
          have c31 := q_g_ok h32
          refine Uif (not_congr (q_eq0 c31)) rfl rfl rfl rfl rfl rfl rfl (fun c33 => ?_) (fun c33 => ?_)
          · rw [if_pos c33] at h
            refine Van rfl lk0 rfl rfl ?_
            have hz := y_bind h
            clear h
            obtain ⟨v34, h35, h⟩ := hz
            have wv34 := (y_gv_ok h35).2
            refine Vgv h35 rfl rfl rfl ?_
            have hz := y_bind h
            clear h
            obtain ⟨v36, h37, h⟩ := hz
            have wv36 := (y_gv_ok h37).2
            refine Vgv h37 rfl rfl rfl ?_
            refine Van rfl lk0 rfl rfl ?_
            have hz := y_bind h
            clear h
            obtain ⟨v38, h39, h⟩ := hz
            refine Zgi (q_gi_y h39) rfl rfl rfl ?_
            refine Vln rfl lk2 rfl ?_
            have hz := y_bind h
            clear h
            obtain ⟨s40, h41, h⟩ := hz
            refine Zls (q_ls_y h41) rfl rfl ?_
            refine Van rfl lk0 rfl rfl ?_
            have hz := y_bind h
            clear h
            obtain ⟨v42, h43, h⟩ := hz
            have wv42 := (y_gv_ok h43).2
            refine Vgv h43 rfl rfl rfl ?_
            have hz := y_bind h
            clear h
            obtain ⟨v44, h45, h⟩ := hz
            have wv44 := (y_gv_ok h45).2
            refine Vgv h45 rfl rfl rfl ?_
            refine Vin rfl lk1 rfl ?_
            have hz := y_bind h
            clear h
            obtain ⟨b50, h51, h⟩ := hz
            obtain ⟨eh51, fh51, wh51⟩ := y_rcv_ok h51
            cases eh51
            have hz := y_bind h
            clear h
            obtain ⟨⟨s46, r47⟩, h48, h⟩ := hz
            try dsimp only at h
            refine Vcv rfl rfl rfl wh51 rfl rfl ⟨(Nat.le_of_ble_eq_true rfl), (Nat.le_of_ble_eq_true rfl)⟩ rfl ((c_37 o n) _ (by omega) _ _ _ _ _ h48 _ rfl rfl) (fun z1 z2 zq => ?_)
            obtain ⟨rfl, rfl⟩ := zq
            try dsimp only [Option.toList, HAppend.hAppend, Append.append, List.append]
            cases h
            exact Yret rfl rfl rfl rfl rfl rfl rfl ⟨rfl, rfl⟩
          · rw [if_neg c33] at h
            refine Yk (v := .int (Int32.ofInt (-1000000))) rfl rfl rfl rfl rfl ?_
            cases h
            exact Yret rfl rfl rfl rfl rfl rfl rfl ⟨rfl, rfl⟩
        · rw [if_neg c22] at h
          exact ih.2 _ hd _ _ _ _ _ h lv lk0 lk1
    · intro d hd s r0 i1 s9 r h lv lk0 lk1
      obtain ⟨d, rfl⟩ : ∃ x, d = x + 1 := ⟨d - 1, by omega⟩
      simp only [g_80] at h
      refine Van rfl lk0 rfl rfl ?_
      have hz := y_bind h
      clear h
      obtain ⟨v1, h2, h⟩ := hz
      have wv1 := (y_gv_ok h2).2
      refine Vgv h2 rfl rfl rfl ?_
      have hz := y_bind h
      clear h
      obtain ⟨v3, h4, h⟩ := hz
      have wv3 := (y_gv_ok h4).2
      refine Vgv h4 rfl rfl rfl ?_
      have hz := y_bind h
      clear h
      obtain ⟨v5, h6, h⟩ := hz
      have wv5 := (y_gv_ok h6).2
      refine Vgv h6 rfl rfl rfl ?_
      refine Vin rfl lk1 rfl ?_
      have hz := y_bind h
      clear h
      obtain ⟨v7, h8, h⟩ := hz
      refine Zia (q_ia_y h8) rfl rfl ?_
      cases h
      exact Yret rfl rfl rfl rfl rfl rfl rfl ⟨rfl, rfl⟩

/-- StepRows$Walker.beginSide -/
def g_81 (o : X_O) : Nat → Nat → Q_S → Nat → Int → Option (Q_S × Int)
  | 0, _, _, _, _ => none
  | n + 1, 0, s, r0, i1 => (q_rcv s 6 (.ref r0)).bind fun b5 => (g_79 o n 0 s b5 (18) (i1)).bind fun q4 => (q_g (q_in q4.2)).bind fun _ => if ¬ q4.2 = 0 then (q_gv q4.1 6 (.ref r0) 1).bind fun v12 => (q_gi q4.1 5 v12 13).bind fun v14 => (q_g (q_in (1 + (2 * v14)))).bind fun _ => if (1 + (2 * v14)) ≤ 100 then (q_gv q4.1 6 (.ref r0) 1).bind fun v19 => (q_gi q4.1 6 (.ref r0) 4).bind fun v21 => (q_rcv q4.1 5 v19).bind fun b27 => (g_49 o n 0 q4.1 b27 (40) ((i1 + 1)) (v21) (0) 0 0).bind fun q26 => (q_pi q26.1 6 (.ref r0) 5 q26.2).bind fun s31 => (q_gv s31 6 (.ref r0) 1).bind fun v33 => (q_gv s31 6 (.ref r0) 0).bind fun v35 => (q_gv s31 4 v35 1).bind fun v37 => (q_rcv s31 3 v37).bind fun b43 => (g_37 o n 0 s31 b43 (i1)).bind fun q42 => (q_gi q42.1 6 (.ref r0) 4).bind fun v47 => (q_rcv q42.1 5 v33).bind fun b53 => (g_49 o n 0 q42.1 b53 (40) (q42.2) (v47) (1) 0 0).bind fun q52 => some (q52.1, (-1000000)) else (q_rcv q4.1 6 (.ref r0)).bind fun b61 => (g_70 o n 0 q4.1 b61 (4) (i1)).bind fun q60 => some (q60.1, q60.2) else some (q4.1, (-1000000))
  | _ + 1, _, _, _, _ => none
set_option maxRecDepth 100000 in
set_option maxHeartbeats 4000000 in
theorem c_81 (o : X_O) : ∀ n, (∀ (d : Nat) (hd : 5 ≤ d) (s : Q_S) (r0 : Nat) (i1 : Int) (s9 : Q_S) (r : Int), g_81 o n 0 s r0 i1 = some (s9, r) → ∀ lv : X_L, x_lget lv 0 = some (.ref r0) → x_lget lv 1 = some (.int (Int32.ofInt i1)) → Y o d 81 0 lv [] (q_y s) (fun s1 r1 => s1 = q_y s9 ∧ r1 = some (.int (Int32.ofInt r)))) := by
  intro n
  induction n with
  | zero => exact fun d hd s _ _ s9 r h => (by simp only [g_81] at h; cases h)
  | succ n ih =>
    intro d hd s r0 i1 s9 r h lv lk0 lk1
    obtain ⟨d, rfl⟩ : ∃ x, d = x + 1 := ⟨d - 1, by omega⟩
    simp only [g_81] at h
    refine Van rfl lk0 rfl rfl ?_
    refine Vbp (v := Int32.ofInt 18) rfl (by decide) rfl ?_
    refine Vin rfl lk1 rfl ?_
    have hz := y_bind h
    clear h
    obtain ⟨b5, h6, h⟩ := hz
    obtain ⟨eh6, fh6, wh6⟩ := y_rcv_ok h6
    cases eh6
    have hz := y_bind h
    clear h
    obtain ⟨⟨s1, r2⟩, h3, h⟩ := hz
    try dsimp only at h
    refine Vcv rfl rfl rfl wh6 rfl rfl ⟨(Nat.le_of_ble_eq_true rfl), (Nat.le_of_ble_eq_true rfl)⟩ rfl ((c_79 o n) _ (by omega) _ _ _ _ _ _ h3 _ rfl rfl rfl) (fun z1 z2 zq => ?_)
    obtain ⟨rfl, rfl⟩ := zq
    try dsimp only [Option.toList, HAppend.hAppend, Append.append, List.append]
    have hz := y_bind h
    clear h
    obtain ⟨_, h10, h⟩ := hz
    have c9 := q_g_ok h10
    refine Uif (not_congr (q_eq0 c9)) rfl rfl rfl rfl rfl rfl rfl (fun c11 => ?_) (fun c11 => ?_)
    · rw [if_pos c11] at h
      refine Vic (v := Int32.ofInt 1) rfl rfl rfl ?_
      refine Vic (v := Int32.ofInt 2) rfl rfl rfl ?_
      refine Van rfl lk0 rfl rfl ?_
      have hz := y_bind h
      clear h
      obtain ⟨v12, h13, h⟩ := hz
      have wv12 := (y_gv_ok h13).2
      refine Vgv h13 rfl rfl rfl ?_
      have hz := y_bind h
      clear h
      obtain ⟨v14, h15, h⟩ := hz
      refine Zgi (q_gi_y h15) rfl rfl rfl ?_
      refine Umul rfl rfl ?_
      refine Uadd rfl rfl ?_
      refine Vbp (v := Int32.ofInt 100) rfl (by decide) rfl ?_
      have hz := y_bind h
      clear h
      obtain ⟨_, h17, h⟩ := hz
      have c16 := q_g_ok h17
      refine Uif (q_le c16 (by decide)) rfl rfl rfl rfl rfl rfl rfl (fun c18 => ?_) (fun c18 => ?_)
      · rw [if_pos c18] at h
        refine Van rfl lk0 rfl rfl ?_
        refine Van rfl lk0 rfl rfl ?_
        have hz := y_bind h
        clear h
        obtain ⟨v19, h20, h⟩ := hz
        have wv19 := (y_gv_ok h20).2
        refine Vgv h20 rfl rfl rfl ?_
        refine Vbp (v := Int32.ofInt 40) rfl (by decide) rfl ?_
        refine Vin rfl lk1 rfl ?_
        refine Vic (v := Int32.ofInt 1) rfl rfl rfl ?_
        refine Uadd rfl rfl ?_
        refine Van rfl lk0 rfl rfl ?_
        have hz := y_bind h
        clear h
        obtain ⟨v21, h22, h⟩ := hz
        refine Zgi (q_gi_y h22) rfl rfl rfl ?_
        refine Vic (v := Int32.ofInt 0) rfl rfl rfl ?_
        have hz := y_bind h
        clear h
        obtain ⟨b27, h28, h⟩ := hz
        obtain ⟨eh28, fh28, wh28⟩ := y_rcv_ok h28
        cases eh28
        have hz := y_bind h
        clear h
        obtain ⟨⟨s23, r24⟩, h25, h⟩ := hz
        try dsimp only at h
        refine Vcv rfl rfl rfl wh28 rfl rfl ⟨(Nat.le_of_ble_eq_true rfl), (Nat.le_of_ble_eq_true rfl)⟩ rfl ((c_49 o n).1 _ (by omega) _ _ _ _ _ _ _ _ _ _ h25 _ rfl rfl rfl rfl rfl) (fun z1 z2 zq => ?_)
        obtain ⟨rfl, rfl⟩ := zq
        try dsimp only [Option.toList, HAppend.hAppend, Append.append, List.append]
        have hz := y_bind h
        clear h
        obtain ⟨s31, h32, h⟩ := hz
        refine Zpi (q_pi_y h32) rfl rfl rfl rfl ?_
        refine Van rfl lk0 rfl rfl ?_
        have hz := y_bind h
        clear h
        obtain ⟨v33, h34, h⟩ := hz
        have wv33 := (y_gv_ok h34).2
        refine Vgv h34 rfl rfl rfl ?_
        refine Vbp (v := Int32.ofInt 40) rfl (by decide) rfl ?_
        refine Van rfl lk0 rfl rfl ?_
        have hz := y_bind h
        clear h
        obtain ⟨v35, h36, h⟩ := hz
        have wv35 := (y_gv_ok h36).2
        refine Vgv h36 rfl rfl rfl ?_
        have hz := y_bind h
        clear h
        obtain ⟨v37, h38, h⟩ := hz
        have wv37 := (y_gv_ok h38).2
        refine Vgv h38 rfl rfl rfl ?_
        refine Vin rfl lk1 rfl ?_
        have hz := y_bind h
        clear h
        obtain ⟨b43, h44, h⟩ := hz
        obtain ⟨eh44, fh44, wh44⟩ := y_rcv_ok h44
        cases eh44
        have hz := y_bind h
        clear h
        obtain ⟨⟨s39, r40⟩, h41, h⟩ := hz
        try dsimp only at h
        refine Vcv rfl rfl rfl wh44 rfl rfl ⟨(by simp only [List.take, List.reverse_cons, List.reverse_nil, List.nil_append, List.cons_append, List.map_cons, List.map_nil, y_cati, y_catl, y_catr, y_catn, y_cata, y_rv_cat wv33, List.sum_cons, List.sum_nil]; decide +kernel), (Nat.le_of_ble_eq_true rfl)⟩ rfl ((c_37 o n) _ (by omega) _ _ _ _ _ h41 _ rfl rfl) (fun z1 z2 zq => ?_)
        obtain ⟨rfl, rfl⟩ := zq
        try dsimp only [Option.toList, HAppend.hAppend, Append.append, List.append]
        refine Van rfl lk0 rfl rfl ?_
        have hz := y_bind h
        clear h
        obtain ⟨v47, h48, h⟩ := hz
        refine Zgi (q_gi_y h48) rfl rfl rfl ?_
        refine Vic (v := Int32.ofInt 1) rfl rfl rfl ?_
        have hz := y_bind h
        clear h
        obtain ⟨b53, h54, h⟩ := hz
        obtain ⟨eh54, fh54, wh54⟩ := y_rcv_ok h54
        cases eh54
        have hz := y_bind h
        clear h
        obtain ⟨⟨s49, r50⟩, h51, h⟩ := hz
        try dsimp only at h
        refine Vcv rfl rfl rfl wh54 rfl rfl ⟨(Nat.le_of_ble_eq_true rfl), (Nat.le_of_ble_eq_true rfl)⟩ rfl ((c_49 o n).1 _ (by omega) _ _ _ _ _ _ _ _ _ _ h51 _ rfl rfl rfl rfl rfl) (fun z1 z2 zq => ?_)
        obtain ⟨rfl, rfl⟩ := zq
        try dsimp only [Option.toList, HAppend.hAppend, Append.append, List.append]
        refine Vpop rfl rfl rfl ?_
        refine Yk (v := .int (Int32.ofInt (-1000000))) rfl rfl rfl rfl rfl ?_
        cases h
        exact Yret rfl rfl rfl rfl rfl rfl rfl ⟨rfl, rfl⟩
      · rw [if_neg c18] at h
        refine Van rfl lk0 rfl rfl ?_
        refine Vic (v := Int32.ofInt 4) rfl rfl rfl ?_
        refine Vin rfl lk1 rfl ?_
        have hz := y_bind h
        clear h
        obtain ⟨b61, h62, h⟩ := hz
        obtain ⟨eh62, fh62, wh62⟩ := y_rcv_ok h62
        cases eh62
        have hz := y_bind h
        clear h
        obtain ⟨⟨s57, r58⟩, h59, h⟩ := hz
        try dsimp only at h
        refine Vcv rfl rfl rfl wh62 rfl rfl ⟨(Nat.le_of_ble_eq_true rfl), (Nat.le_of_ble_eq_true rfl)⟩ rfl ((c_70 o n) _ (by omega) _ _ _ _ _ _ h59 _ rfl rfl rfl) (fun z1 z2 zq => ?_)
        obtain ⟨rfl, rfl⟩ := zq
        try dsimp only [Option.toList, HAppend.hAppend, Append.append, List.append]
        cases h
        exact Yret rfl rfl rfl rfl rfl rfl rfl ⟨rfl, rfl⟩
    · rw [if_neg c11] at h
      refine Yk (v := .int (Int32.ofInt (-1000000))) rfl rfl rfl rfl rfl ?_
      cases h
      exact Yret rfl rfl rfl rfl rfl rfl rfl ⟨rfl, rfl⟩

/-- StepRows$Walker.call -/
def g_82 (o : X_O) : Nat → Nat → Q_S → Nat → Int → Int → Option (Q_S × Int)
  | 0, _, _, _, _, _ => none
  | n + 1, 0, s, r0, i1, ti0 => (q_gv s 6 (.ref r0) 0).bind fun v1 => (q_gv s 4 v1 10).bind fun v3 => (q_gv s 6 (.ref r0) 0).bind fun v5 => (q_gv s 4 v5 1).bind fun v7 => (q_gv s 3 v7 1).bind fun v9 => (q_la s v9 i1).bind fun v11 => (q_ia o s v3 (v11).toInt).bind fun v13 => (q_g (q_in v13)).bind fun _ => if ¬ v13 = (-1) then (q_rcv s 6 (.ref r0)).bind fun b22 => (g_79 o n 0 s b22 (19) (i1)).bind fun q21 => (q_g (q_in q21.2)).bind fun _ => if q21.2 = 0 then g_82 o n 1 q21.1 0 0 ((-1000000)) else g_82 o n 1 q21.1 0 0 (v13) else (q_rcv s 6 (.ref r0)).bind fun b33 => (g_70 o n 0 s b33 (3) (i1)).bind fun q32 => some (q32.1, q32.2)
  | n + 1, 1, s, r0, i1, ti0 => some (s, ti0)
  | _ + 1, _, _, _, _, _ => none
set_option maxRecDepth 100000 in
set_option maxHeartbeats 4000000 in
theorem c_82 (o : X_O) : ∀ n, (∀ (d : Nat) (hd : 5 ≤ d) (s : Q_S) (r0 : Nat) (i1 : Int) (ti0 : Int) (s9 : Q_S) (r : Int), g_82 o n 0 s r0 i1 ti0 = some (s9, r) → ∀ lv : X_L, x_lget lv 0 = some (.ref r0) → x_lget lv 1 = some (.int (Int32.ofInt i1)) → Y o d 82 0 lv [] (q_y s) (fun s1 r1 => s1 = q_y s9 ∧ r1 = some (.int (Int32.ofInt r)))) ∧
    (∀ (d : Nat) (hd : 5 ≤ d) (s : Q_S) (r0 : Nat) (i1 : Int) (ti0 : Int) (s9 : Q_S) (r : Int), g_82 o n 1 s r0 i1 ti0 = some (s9, r) → ∀ lv : X_L, True → Y o d 82 50 lv [.int (Int32.ofInt ti0)] (q_y s) (fun s1 r1 => s1 = q_y s9 ∧ r1 = some (.int (Int32.ofInt r)))) := by
  intro n
  induction n with
  | zero => exact ⟨fun d hd s _ _ _ s9 r h => (by simp only [g_82] at h; cases h), fun d hd s _ _ _ s9 r h => (by simp only [g_82] at h; cases h)⟩
  | succ n ih =>
    refine ⟨?_, ?_⟩
    · intro d hd s r0 i1 ti0 s9 r h lv lk0 lk1
      obtain ⟨d, rfl⟩ : ∃ x, d = x + 1 := ⟨d - 1, by omega⟩
      simp only [g_82] at h
      refine Van rfl lk0 rfl rfl ?_
      have hz := y_bind h
      clear h
      obtain ⟨v1, h2, h⟩ := hz
      have wv1 := (y_gv_ok h2).2
      refine Vgv h2 rfl rfl rfl ?_
      have hz := y_bind h
      clear h
      obtain ⟨v3, h4, h⟩ := hz
      have wv3 := (y_gv_ok h4).2
      refine Vgv h4 rfl rfl rfl ?_
      refine Van rfl lk0 rfl rfl ?_
      have hz := y_bind h
      clear h
      obtain ⟨v5, h6, h⟩ := hz
      have wv5 := (y_gv_ok h6).2
      refine Vgv h6 rfl rfl rfl ?_
      have hz := y_bind h
      clear h
      obtain ⟨v7, h8, h⟩ := hz
      have wv7 := (y_gv_ok h8).2
      refine Vgv h8 rfl rfl rfl ?_
      have hz := y_bind h
      clear h
      obtain ⟨v9, h10, h⟩ := hz
      have wv9 := (y_gv_ok h10).2
      refine Vgv h10 rfl rfl rfl ?_
      refine Vin rfl lk1 rfl ?_
      have hz := y_bind h
      clear h
      obtain ⟨v11, h12, h⟩ := hz
      refine Zla (q_la_y h12) rfl rfl ?_
      refine Ul2i rfl rfl ?_
      have hz := y_bind h
      clear h
      obtain ⟨v13, h14, h⟩ := hz
      refine Zia (q_ia_y h14) rfl rfl ?_
      refine Vsin rfl rfl (fun lv lk2 hk => ?_)
      have lk0 := hk 0 _ lk0 (by decide) (by decide) (Or.inl (by decide))
      have lk1 := hk 1 _ lk1 (by decide) (by decide) (Or.inr rfl)
      refine Vin rfl lk2 rfl ?_
      refine Vic (v := Int32.ofInt (-1)) rfl rfl rfl ?_
      have hz := y_bind h
      clear h
      obtain ⟨_, h16, h⟩ := hz
      have c15 := q_g_ok h16
      refine Uif (not_congr (q_eq c15 (by decide))) rfl rfl rfl rfl rfl rfl rfl (fun c17 => ?_) (fun c17 => ?_)
      · rw [if_pos c17] at h
        refine Van rfl lk0 rfl rfl ?_
        refine Vbp (v := Int32.ofInt 19) rfl (by decide) rfl ?_
        refine Vin rfl lk1 rfl ?_
        have hz := y_bind h
        clear h
        obtain ⟨b22, h23, h⟩ := hz
        obtain ⟨eh23, fh23, wh23⟩ := y_rcv_ok h23
        cases eh23
        have hz := y_bind h
        clear h
        obtain ⟨⟨s18, r19⟩, h20, h⟩ := hz
        try dsimp only at h
        refine Vcv rfl rfl rfl wh23 rfl rfl ⟨(Nat.le_of_ble_eq_true rfl), (Nat.le_of_ble_eq_true rfl)⟩ rfl ((c_79 o n) _ (by omega) _ _ _ _ _ _ h20 _ rfl rfl rfl) (fun z1 z2 zq => ?_)
        obtain ⟨rfl, rfl⟩ := zq
        try dsimp only [Option.toList, HAppend.hAppend, Append.append, List.append]
        have hz := y_bind h
        clear h
        obtain ⟨_, h27, h⟩ := hz
        have c26 := q_g_ok h27
        refine Uif (q_eq0 c26) rfl rfl rfl rfl rfl rfl rfl (fun c28 => ?_) (fun c28 => ?_)
        · rw [if_pos c28] at h
          refine Yk (v := .int (Int32.ofInt (-1000000))) rfl rfl rfl rfl rfl ?_
          exact ih.2 _ hd _ _ _ _ _ _ h lv trivial
        · rw [if_neg c28] at h
          refine Vin rfl lk2 rfl ?_
          refine Ygo rfl rfl rfl rfl rfl rfl ?_
          exact ih.2 _ hd _ _ _ _ _ _ h lv trivial
      · rw [if_neg c17] at h
        refine Van rfl lk0 rfl rfl ?_
        refine Vic (v := Int32.ofInt 3) rfl rfl rfl ?_
        refine Vin rfl lk1 rfl ?_
        have hz := y_bind h
        clear h
        obtain ⟨b33, h34, h⟩ := hz
        obtain ⟨eh34, fh34, wh34⟩ := y_rcv_ok h34
        cases eh34
        have hz := y_bind h
        clear h
        obtain ⟨⟨s29, r30⟩, h31, h⟩ := hz
        try dsimp only at h
        refine Vcv rfl rfl rfl wh34 rfl rfl ⟨(Nat.le_of_ble_eq_true rfl), (Nat.le_of_ble_eq_true rfl)⟩ rfl ((c_70 o n) _ (by omega) _ _ _ _ _ _ h31 _ rfl rfl rfl) (fun z1 z2 zq => ?_)
        obtain ⟨rfl, rfl⟩ := zq
        try dsimp only [Option.toList, HAppend.hAppend, Append.append, List.append]
        cases h
        exact Yret rfl rfl rfl rfl rfl rfl rfl ⟨rfl, rfl⟩
    · intro d hd s r0 i1 ti0 s9 r h lv _
      obtain ⟨d, rfl⟩ : ∃ x, d = x + 1 := ⟨d - 1, by omega⟩
      simp only [g_82] at h
      cases h
      exact Yret rfl rfl rfl rfl rfl rfl rfl ⟨rfl, rfl⟩

/-- StepRows$Walker.begin -/
def g_69 (o : X_O) : Nat → Nat → Q_S → Nat → Int → Value → Int → Option (Q_S × Int)
  | 0, _, _, _, _, _, _ => none
  | n + 1, 0, s, r0, i1, a2, i3 => (q_gv s 6 (.ref r0) 0).bind fun v1 => (q_gv s 4 v1 1).bind fun v3 => g_69 o n 1 s r0 0 (v3) (i1)
  | n + 1, 1, s, r0, i1, a2, i3 => (q_gv s 3 a2 0).bind fun v1 => (q_ia o s v1 i3).bind fun v3 => (q_g (q_in v3)).bind fun _ => if ¬ v3 = 14 then g_69 o n 2 s r0 0 (a2) (i3) else (q_gi s 3 a2 7).bind fun v8 => (q_g (q_in (i3 + 1) ∧ q_in v8)).bind fun _ => if v8 ≤ (i3 + 1) then g_69 o n 2 s r0 0 (a2) (i3) else g_69 o n 1 s r0 0 (a2) ((i3 + 1))
  | n + 1, 2, s, r0, i1, a2, i3 => (q_gi s 6 (.ref r0) 6).bind fun v1 => (q_pi s 6 (.ref r0) 6 (v1 + 1)).bind fun s3 => (q_gi s3 6 (.ref r0) 6).bind fun v5 => (q_g (q_in v5)).bind fun _ => if v5 ≤ 500 then (q_gv s3 3 a2 0).bind fun v10 => (q_ia o s3 v10 i3).bind fun v12 => (q_g (q_in v12)).bind fun _ => if v12 < 10 ∨ 20 < v12 then some (s3, (i3 + 1)) else if v12 = 10 then (q_gv s3 6 (.ref r0) 0).bind fun v17 => (q_gv s3 4 v17 9).bind fun v19 => (q_rcv s3 6 (.ref r0)).bind fun b25 => (g_71 o n 0 s3 b25 (v19) (i3)).bind fun q24 => some (q24.1, q24.2) else if v12 = 11 then (q_gv s3 6 (.ref r0) 0).bind fun v30 => (q_gv s3 4 v30 8).bind fun v32 => (q_rcv s3 6 (.ref r0)).bind fun b38 => (g_71 o n 0 s3 b38 (v32) (i3)).bind fun q37 => some (q37.1, q37.2) else if v12 = 12 then (q_rcv s3 6 (.ref r0)).bind fun b47 => (g_72 o n 0 s3 b47 (i3)).bind fun q46 => some (q46.1, q46.2) else if v12 = 13 then (q_rcv s3 6 (.ref r0)).bind fun b56 => (g_76 o n 0 s3 b56 (i3) 0 0 0).bind fun q55 => some (q55.1, q55.2) else if v12 = 14 then some (s3, (i3 + 1)) else if v12 = 15 then (q_rcv s3 6 (.ref r0)).bind fun b66 => (g_77 o n 0 s3 b66 (i3) 0).bind fun q65 => some (q65.1, q65.2) else if v12 = 16 then (q_rcv s3 6 (.ref r0)).bind fun b75 => (g_78 o n 0 s3 b75 (i3) 0).bind fun q74 => some (q74.1, q74.2) else if v12 = 17 then (q_rcv s3 6 (.ref r0)).bind fun b84 => (g_80 o n 0 s3 b84 (i3)).bind fun q83 => some (q83.1, q83.2) else if v12 = 18 then (q_rcv s3 6 (.ref r0)).bind fun b93 => (g_81 o n 0 s3 b93 (i3)).bind fun q92 => some (q92.1, q92.2) else if v12 = 19 then (q_rcv s3 6 (.ref r0)).bind fun b102 => (g_82 o n 0 s3 b102 (i3) 0).bind fun q101 => some (q101.1, q101.2) else if v12 = 20 then (q_gv s3 6 (.ref r0) 0).bind fun v107 => (q_gv s3 4 v107 10).bind fun v109 => (q_gv s3 3 a2 1).bind fun v111 => (q_la s3 v111 i3).bind fun v113 => (q_is s3 v109 (v113).toInt (i3 + 1)).bind fun s115 => (q_gv s115 3 a2 3).bind fun v117 => (q_ia o s115 v117 i3).bind fun v119 => some (s115, v119) else none else (q_rcv s3 6 (.ref r0)).bind fun b126 => (g_70 o n 0 s3 b126 (4) (i3)).bind fun q125 => some (q125.1, q125.2)
  | _ + 1, _, _, _, _, _, _ => none
set_option maxRecDepth 100000 in
set_option maxHeartbeats 4000000 in
theorem c_69 (o : X_O) : ∀ n, (∀ (d : Nat) (hd : 6 ≤ d) (s : Q_S) (r0 : Nat) (i1 : Int) (a2 : Value) (i3 : Int) (s9 : Q_S) (r : Int), g_69 o n 0 s r0 i1 a2 i3 = some (s9, r) → ∀ lv : X_L, x_lget lv 0 = some (.ref r0) → x_lget lv 1 = some (.int (Int32.ofInt i1)) → Y o d 69 0 lv [] (q_y s) (fun s1 r1 => s1 = q_y s9 ∧ r1 = some (.int (Int32.ofInt r)))) ∧
    (∀ (d : Nat) (hd : 6 ≤ d) (s : Q_S) (r0 : Nat) (i1 : Int) (a2 : Value) (i3 : Int) (s9 : Q_S) (r : Int), g_69 o n 1 s r0 i1 a2 i3 = some (s9, r) → ∀ lv : X_L, x_lget lv 0 = some (.ref r0) → x_lget lv 2 = some a2 → x_lget lv 3 = some (.int (Int32.ofInt i3)) → y_rv a2 = true → Y o d 69 10 lv [] (q_y s) (fun s1 r1 => s1 = q_y s9 ∧ r1 = some (.int (Int32.ofInt r)))) ∧
    (∀ (d : Nat) (hd : 6 ≤ d) (s : Q_S) (r0 : Nat) (i1 : Int) (a2 : Value) (i3 : Int) (s9 : Q_S) (r : Int), g_69 o n 2 s r0 i1 a2 i3 = some (s9, r) → ∀ lv : X_L, x_lget lv 0 = some (.ref r0) → x_lget lv 2 = some a2 → x_lget lv 3 = some (.int (Int32.ofInt i3)) → y_rv a2 = true → Y o d 69 37 lv [] (q_y s) (fun s1 r1 => s1 = q_y s9 ∧ r1 = some (.int (Int32.ofInt r)))) := by
  intro n
  induction n with
  | zero => exact ⟨fun d hd s _ _ _ _ s9 r h => (by simp only [g_69] at h; cases h), fun d hd s _ _ _ _ s9 r h => (by simp only [g_69] at h; cases h), fun d hd s _ _ _ _ s9 r h => (by simp only [g_69] at h; cases h)⟩
  | succ n ih =>
    refine ⟨?_, ?_, ?_⟩
    · intro d hd s r0 i1 a2 i3 s9 r h lv lk0 lk1
      obtain ⟨d, rfl⟩ : ∃ x, d = x + 1 := ⟨d - 1, by omega⟩
      simp only [g_69] at h
      refine Van rfl lk0 rfl rfl ?_
      have hz := y_bind h
      clear h
      obtain ⟨v1, h2, h⟩ := hz
      have wv1 := (y_gv_ok h2).2
      refine Vgv h2 rfl rfl rfl ?_
      have hz := y_bind h
      clear h
      obtain ⟨v3, h4, h⟩ := hz
      have wv3 := (y_gv_ok h4).2
      refine Vgv h4 rfl rfl rfl ?_
      refine Vsan rfl wv3 rfl (fun lv lk2 hk => ?_)
      have lk0 := hk 0 _ lk0 (by decide) (by decide) (Or.inl (by decide))
      have lk1 := hk 1 _ lk1 (by decide) (by decide) (Or.inr rfl)
      refine Vin rfl lk1 rfl ?_
      refine Vsin rfl rfl (fun lv lk3 hk => ?_)
      have lk0 := hk 0 _ lk0 (by decide) (by decide) (Or.inl (by decide))
      have lk2 := hk 2 _ lk2 (by decide) (by decide) (Or.inr (y_rv_cat wv3))
      exact ih.2.1 _ hd _ _ _ _ _ _ _ h lv lk0 lk2 lk3 wv3
    · intro d hd s r0 i1 a2 i3 s9 r h lv lk0 lk2 lk3 rv2
      obtain ⟨d, rfl⟩ : ∃ x, d = x + 1 := ⟨d - 1, by omega⟩
      simp only [g_69] at h
      refine Van rfl lk2 rv2 rfl ?_
      have hz := y_bind h
      clear h
      obtain ⟨v1, h2, h⟩ := hz
      have wv1 := (y_gv_ok h2).2
      refine Vgv h2 rfl rfl rfl ?_
      refine Vin rfl lk3 rfl ?_
      have hz := y_bind h
      clear h
      obtain ⟨v3, h4, h⟩ := hz
      refine Zia (q_ia_y h4) rfl rfl ?_
      refine Vbp (v := Int32.ofInt 14) rfl (by decide) rfl ?_
      have hz := y_bind h
      clear h
      obtain ⟨_, h6, h⟩ := hz
      have c5 := q_g_ok h6
      refine Uif (not_congr (q_eq c5 (by decide))) rfl rfl rfl rfl rfl rfl rfl (fun c7 => ?_) (fun c7 => ?_)
      · rw [if_pos c7] at h
        exact ih.2.2 _ hd _ _ _ _ _ _ _ h lv lk0 lk2 lk3 rv2
      · rw [if_neg c7] at h
        refine Vin rfl lk3 rfl ?_
        refine Vic (v := Int32.ofInt 1) rfl rfl rfl ?_
        refine Uadd rfl rfl ?_
        refine Van rfl lk2 rv2 rfl ?_
        have hz := y_bind h
        clear h
        obtain ⟨v8, h9, h⟩ := hz
        refine Zgi (q_gi_y h9) rfl rfl rfl ?_
        have hz := y_bind h
        clear h
        obtain ⟨_, h11, h⟩ := hz
        have c10 := q_g_ok h11
        refine Uif (q_le c10.2 c10.1) rfl rfl rfl rfl rfl rfl rfl (fun c12 => ?_) (fun c12 => ?_)
        · rw [if_pos c12] at h
          exact ih.2.2 _ hd _ _ _ _ _ _ _ h lv lk0 lk2 lk3 rv2
        · rw [if_neg c12] at h
          refine Uinc rfl lk3 rfl (fun lv lk3 hk => ?_)
          have lk0 := hk 0 _ lk0 (by decide) (by decide) (Or.inl (by decide))
          have lk2 := hk 2 _ lk2 (by decide) (by decide) (Or.inr (y_rv_cat rv2))
          refine Ygo rfl rfl rfl rfl rfl rfl ?_
          exact ih.2.1 _ hd _ _ _ _ _ _ _ h lv lk0 lk2 lk3 rv2
    · intro d hd s r0 i1 a2 i3 s9 r h lv lk0 lk2 lk3 rv2
      obtain ⟨d, rfl⟩ : ∃ x, d = x + 1 := ⟨d - 1, by omega⟩
      simp only [g_69] at h
      refine Van rfl lk0 rfl rfl ?_
      refine Vdup rfl rfl rfl ?_
      have hz := y_bind h
      clear h
      obtain ⟨v1, h2, h⟩ := hz
      refine Zgi (q_gi_y h2) rfl rfl rfl ?_
      refine Vic (v := Int32.ofInt 1) rfl rfl rfl ?_
      refine Uadd rfl rfl ?_
      have hz := y_bind h
      clear h
      obtain ⟨s3, h4, h⟩ := hz
      refine Zpi (q_pi_y h4) rfl rfl rfl rfl ?_
      refine Van rfl lk0 rfl rfl ?_
      have hz := y_bind h
      clear h
      obtain ⟨v5, h6, h⟩ := hz
      refine Zgi (q_gi_y h6) rfl rfl rfl ?_
      refine Vsp (v := Int32.ofInt 500) rfl (by decide) rfl ?_
      have hz := y_bind h
      clear h
      obtain ⟨_, h8, h⟩ := hz
      have c7 := q_g_ok h8
      refine Uif (q_le c7 (by decide)) rfl rfl rfl rfl rfl rfl rfl (fun c9 => ?_) (fun c9 => ?_)
      · rw [if_pos c9] at h
        refine Van rfl lk2 rv2 rfl ?_
        have hz := y_bind h
        clear h
        obtain ⟨v10, h11, h⟩ := hz
        have wv10 := (y_gv_ok h11).2
        refine Vgv h11 rfl rfl rfl ?_
        refine Vin rfl lk3 rfl ?_
        have hz := y_bind h
        clear h
        obtain ⟨v12, h13, h⟩ := hz
        refine Zia (q_ia_y h13) rfl rfl ?_
        have hz := y_bind h
        clear h
        obtain ⟨_, h15, h⟩ := hz
        have c14 := q_g_ok h15
        by_cases c16 : v12 < 10 ∨ 20 < v12
        · rw [if_pos c16] at h
          refine Ysw rfl rfl rfl rfl rfl (if_pos (by rw [q_ti c14]; exact c16)) rfl ?_
          refine Vin rfl lk3 rfl ?_
          refine Vic (v := Int32.ofInt 1) rfl rfl rfl ?_
          refine Uadd rfl rfl ?_
          cases h
          exact Yret rfl rfl rfl rfl rfl rfl rfl ⟨rfl, rfl⟩
        rw [if_neg c16] at h
        by_cases c29 : v12 = 10
        · rw [if_pos c29] at h
          refine Vts (k := 10) (congrArg Int32.ofInt c29) rfl rfl rfl rfl rfl rfl rfl ?_
          refine Van rfl lk0 rfl rfl ?_
          refine Van rfl lk0 rfl rfl ?_
          have hz := y_bind h
          clear h
          obtain ⟨v17, h18, h⟩ := hz
          have wv17 := (y_gv_ok h18).2
          refine Vgv h18 rfl rfl rfl ?_
          have hz := y_bind h
          clear h
          obtain ⟨v19, h20, h⟩ := hz
          have wv19 := (y_gv_ok h20).2
          refine Vgv h20 rfl rfl rfl ?_
          refine Vin rfl lk3 rfl ?_
          have hz := y_bind h
          clear h
          obtain ⟨b25, h26, h⟩ := hz
          obtain ⟨eh26, fh26, wh26⟩ := y_rcv_ok h26
          cases eh26
          have hz := y_bind h
          clear h
          obtain ⟨⟨s21, r22⟩, h23, h⟩ := hz
          try dsimp only at h
          refine Vcv rfl rfl rfl wh26 rfl rfl ⟨(Nat.le_of_ble_eq_true rfl), (by simp only [List.take, List.reverse_cons, List.reverse_nil, List.nil_append, List.cons_append, List.map_cons, List.map_nil, y_cati, y_catl, y_catr, y_catn, y_cata, y_rv_cat wv19, List.sum_cons, List.sum_nil]; decide +kernel)⟩ rfl ((c_71 o n).1 _ (by omega) _ _ _ _ _ _ h23 _ (by simp [lv_args, x_lget, q_y1, y_cati, y_catl, y_catr, y_rv_cat wv19]) (by simp [lv_args, x_lget, q_y1, y_cati, y_catl, y_catr, y_rv_cat wv19]) (by simp [lv_args, x_lget, q_y1, y_cati, y_catl, y_catr, y_rv_cat wv19]) wv19) (fun z1 z2 zq => ?_)
          obtain ⟨rfl, rfl⟩ := zq
          try dsimp only [Option.toList, HAppend.hAppend, Append.append, List.append]
          cases h
          exact Yret rfl rfl rfl rfl rfl rfl rfl ⟨rfl, rfl⟩
        rw [if_neg c29] at h
        by_cases c42 : v12 = 11
        · rw [if_pos c42] at h
          refine Vts (k := 11) (congrArg Int32.ofInt c42) rfl rfl rfl rfl rfl rfl rfl ?_
          refine Van rfl lk0 rfl rfl ?_
          refine Van rfl lk0 rfl rfl ?_
          have hz := y_bind h
          clear h
          obtain ⟨v30, h31, h⟩ := hz
          have wv30 := (y_gv_ok h31).2
          refine Vgv h31 rfl rfl rfl ?_
          have hz := y_bind h
          clear h
          obtain ⟨v32, h33, h⟩ := hz
          have wv32 := (y_gv_ok h33).2
          refine Vgv h33 rfl rfl rfl ?_
          refine Vin rfl lk3 rfl ?_
          have hz := y_bind h
          clear h
          obtain ⟨b38, h39, h⟩ := hz
          obtain ⟨eh39, fh39, wh39⟩ := y_rcv_ok h39
          cases eh39
          have hz := y_bind h
          clear h
          obtain ⟨⟨s34, r35⟩, h36, h⟩ := hz
          try dsimp only at h
          refine Vcv rfl rfl rfl wh39 rfl rfl ⟨(Nat.le_of_ble_eq_true rfl), (by simp only [List.take, List.reverse_cons, List.reverse_nil, List.nil_append, List.cons_append, List.map_cons, List.map_nil, y_cati, y_catl, y_catr, y_catn, y_cata, y_rv_cat wv32, List.sum_cons, List.sum_nil]; decide +kernel)⟩ rfl ((c_71 o n).1 _ (by omega) _ _ _ _ _ _ h36 _ (by simp [lv_args, x_lget, q_y1, y_cati, y_catl, y_catr, y_rv_cat wv32]) (by simp [lv_args, x_lget, q_y1, y_cati, y_catl, y_catr, y_rv_cat wv32]) (by simp [lv_args, x_lget, q_y1, y_cati, y_catl, y_catr, y_rv_cat wv32]) wv32) (fun z1 z2 zq => ?_)
          obtain ⟨rfl, rfl⟩ := zq
          try dsimp only [Option.toList, HAppend.hAppend, Append.append, List.append]
          cases h
          exact Yret rfl rfl rfl rfl rfl rfl rfl ⟨rfl, rfl⟩
        rw [if_neg c42] at h
        by_cases c51 : v12 = 12
        · rw [if_pos c51] at h
          refine Vts (k := 12) (congrArg Int32.ofInt c51) rfl rfl rfl rfl rfl rfl rfl ?_
          refine Van rfl lk0 rfl rfl ?_
          refine Vin rfl lk3 rfl ?_
          have hz := y_bind h
          clear h
          obtain ⟨b47, h48, h⟩ := hz
          obtain ⟨eh48, fh48, wh48⟩ := y_rcv_ok h48
          cases eh48
          have hz := y_bind h
          clear h
          obtain ⟨⟨s43, r44⟩, h45, h⟩ := hz
          try dsimp only at h
          refine Vcv rfl rfl rfl wh48 rfl rfl ⟨(Nat.le_of_ble_eq_true rfl), (Nat.le_of_ble_eq_true rfl)⟩ rfl ((c_72 o n).1 _ (by omega) _ _ _ _ _ h45 _ rfl rfl) (fun z1 z2 zq => ?_)
          obtain ⟨rfl, rfl⟩ := zq
          try dsimp only [Option.toList, HAppend.hAppend, Append.append, List.append]
          cases h
          exact Yret rfl rfl rfl rfl rfl rfl rfl ⟨rfl, rfl⟩
        rw [if_neg c51] at h
        by_cases c60 : v12 = 13
        · rw [if_pos c60] at h
          refine Vts (k := 13) (congrArg Int32.ofInt c60) rfl rfl rfl rfl rfl rfl rfl ?_
          refine Van rfl lk0 rfl rfl ?_
          refine Vin rfl lk3 rfl ?_
          have hz := y_bind h
          clear h
          obtain ⟨b56, h57, h⟩ := hz
          obtain ⟨eh57, fh57, wh57⟩ := y_rcv_ok h57
          cases eh57
          have hz := y_bind h
          clear h
          obtain ⟨⟨s52, r53⟩, h54, h⟩ := hz
          try dsimp only at h
          refine Vcv rfl rfl rfl wh57 rfl rfl ⟨(Nat.le_of_ble_eq_true rfl), (Nat.le_of_ble_eq_true rfl)⟩ rfl ((c_76 o n).1 _ (by omega) _ _ _ _ _ _ _ _ h54 _ rfl rfl) (fun z1 z2 zq => ?_)
          obtain ⟨rfl, rfl⟩ := zq
          try dsimp only [Option.toList, HAppend.hAppend, Append.append, List.append]
          cases h
          exact Yret rfl rfl rfl rfl rfl rfl rfl ⟨rfl, rfl⟩
        rw [if_neg c60] at h
        by_cases c61 : v12 = 14
        · rw [if_pos c61] at h
          refine Vts (k := 14) (congrArg Int32.ofInt c61) rfl rfl rfl rfl rfl rfl rfl ?_
          refine Vin rfl lk3 rfl ?_
          refine Vic (v := Int32.ofInt 1) rfl rfl rfl ?_
          refine Uadd rfl rfl ?_
          cases h
          exact Yret rfl rfl rfl rfl rfl rfl rfl ⟨rfl, rfl⟩
        rw [if_neg c61] at h
        by_cases c70 : v12 = 15
        · rw [if_pos c70] at h
          refine Vts (k := 15) (congrArg Int32.ofInt c70) rfl rfl rfl rfl rfl rfl rfl ?_
          refine Van rfl lk0 rfl rfl ?_
          refine Vin rfl lk3 rfl ?_
          have hz := y_bind h
          clear h
          obtain ⟨b66, h67, h⟩ := hz
          obtain ⟨eh67, fh67, wh67⟩ := y_rcv_ok h67
          cases eh67
          have hz := y_bind h
          clear h
          obtain ⟨⟨s62, r63⟩, h64, h⟩ := hz
          try dsimp only at h
          refine Vcv rfl rfl rfl wh67 rfl rfl ⟨(Nat.le_of_ble_eq_true rfl), (Nat.le_of_ble_eq_true rfl)⟩ rfl ((c_77 o n).1 _ (by omega) _ _ _ _ _ _ h64 _ rfl rfl) (fun z1 z2 zq => ?_)
          obtain ⟨rfl, rfl⟩ := zq
          try dsimp only [Option.toList, HAppend.hAppend, Append.append, List.append]
          cases h
          exact Yret rfl rfl rfl rfl rfl rfl rfl ⟨rfl, rfl⟩
        rw [if_neg c70] at h
        by_cases c79 : v12 = 16
        · rw [if_pos c79] at h
          refine Vts (k := 16) (congrArg Int32.ofInt c79) rfl rfl rfl rfl rfl rfl rfl ?_
          refine Van rfl lk0 rfl rfl ?_
          refine Vin rfl lk3 rfl ?_
          have hz := y_bind h
          clear h
          obtain ⟨b75, h76, h⟩ := hz
          obtain ⟨eh76, fh76, wh76⟩ := y_rcv_ok h76
          cases eh76
          have hz := y_bind h
          clear h
          obtain ⟨⟨s71, r72⟩, h73, h⟩ := hz
          try dsimp only at h
          refine Vcv rfl rfl rfl wh76 rfl rfl ⟨(Nat.le_of_ble_eq_true rfl), (Nat.le_of_ble_eq_true rfl)⟩ rfl ((c_78 o n).1 _ (by omega) _ _ _ _ _ _ h73 _ rfl rfl) (fun z1 z2 zq => ?_)
          obtain ⟨rfl, rfl⟩ := zq
          try dsimp only [Option.toList, HAppend.hAppend, Append.append, List.append]
          cases h
          exact Yret rfl rfl rfl rfl rfl rfl rfl ⟨rfl, rfl⟩
        rw [if_neg c79] at h
        by_cases c88 : v12 = 17
        · rw [if_pos c88] at h
          refine Vts (k := 17) (congrArg Int32.ofInt c88) rfl rfl rfl rfl rfl rfl rfl ?_
          refine Van rfl lk0 rfl rfl ?_
          refine Vin rfl lk3 rfl ?_
          have hz := y_bind h
          clear h
          obtain ⟨b84, h85, h⟩ := hz
          obtain ⟨eh85, fh85, wh85⟩ := y_rcv_ok h85
          cases eh85
          have hz := y_bind h
          clear h
          obtain ⟨⟨s80, r81⟩, h82, h⟩ := hz
          try dsimp only at h
          refine Vcv rfl rfl rfl wh85 rfl rfl ⟨(Nat.le_of_ble_eq_true rfl), (Nat.le_of_ble_eq_true rfl)⟩ rfl ((c_80 o n).1 _ (by omega) _ _ _ _ _ h82 _ rfl rfl) (fun z1 z2 zq => ?_)
          obtain ⟨rfl, rfl⟩ := zq
          try dsimp only [Option.toList, HAppend.hAppend, Append.append, List.append]
          cases h
          exact Yret rfl rfl rfl rfl rfl rfl rfl ⟨rfl, rfl⟩
        rw [if_neg c88] at h
        by_cases c97 : v12 = 18
        · rw [if_pos c97] at h
          refine Vts (k := 18) (congrArg Int32.ofInt c97) rfl rfl rfl rfl rfl rfl rfl ?_
          refine Van rfl lk0 rfl rfl ?_
          refine Vin rfl lk3 rfl ?_
          have hz := y_bind h
          clear h
          obtain ⟨b93, h94, h⟩ := hz
          obtain ⟨eh94, fh94, wh94⟩ := y_rcv_ok h94
          cases eh94
          have hz := y_bind h
          clear h
          obtain ⟨⟨s89, r90⟩, h91, h⟩ := hz
          try dsimp only at h
          refine Vcv rfl rfl rfl wh94 rfl rfl ⟨(Nat.le_of_ble_eq_true rfl), (Nat.le_of_ble_eq_true rfl)⟩ rfl ((c_81 o n) _ (by omega) _ _ _ _ _ h91 _ rfl rfl) (fun z1 z2 zq => ?_)
          obtain ⟨rfl, rfl⟩ := zq
          try dsimp only [Option.toList, HAppend.hAppend, Append.append, List.append]
          cases h
          exact Yret rfl rfl rfl rfl rfl rfl rfl ⟨rfl, rfl⟩
        rw [if_neg c97] at h
        by_cases c106 : v12 = 19
        · rw [if_pos c106] at h
          refine Vts (k := 19) (congrArg Int32.ofInt c106) rfl rfl rfl rfl rfl rfl rfl ?_
          refine Van rfl lk0 rfl rfl ?_
          refine Vin rfl lk3 rfl ?_
          have hz := y_bind h
          clear h
          obtain ⟨b102, h103, h⟩ := hz
          obtain ⟨eh103, fh103, wh103⟩ := y_rcv_ok h103
          cases eh103
          have hz := y_bind h
          clear h
          obtain ⟨⟨s98, r99⟩, h100, h⟩ := hz
          try dsimp only at h
          refine Vcv rfl rfl rfl wh103 rfl rfl ⟨(Nat.le_of_ble_eq_true rfl), (Nat.le_of_ble_eq_true rfl)⟩ rfl ((c_82 o n).1 _ (by omega) _ _ _ _ _ _ h100 _ rfl rfl) (fun z1 z2 zq => ?_)
          obtain ⟨rfl, rfl⟩ := zq
          try dsimp only [Option.toList, HAppend.hAppend, Append.append, List.append]
          cases h
          exact Yret rfl rfl rfl rfl rfl rfl rfl ⟨rfl, rfl⟩
        rw [if_neg c106] at h
        by_cases c121 : v12 = 20
        · rw [if_pos c121] at h
          refine Vts (k := 20) (congrArg Int32.ofInt c121) rfl rfl rfl rfl rfl rfl rfl ?_
          refine Van rfl lk0 rfl rfl ?_
          have hz := y_bind h
          clear h
          obtain ⟨v107, h108, h⟩ := hz
          have wv107 := (y_gv_ok h108).2
          refine Vgv h108 rfl rfl rfl ?_
          have hz := y_bind h
          clear h
          obtain ⟨v109, h110, h⟩ := hz
          have wv109 := (y_gv_ok h110).2
          refine Vgv h110 rfl rfl rfl ?_
          refine Van rfl lk2 rv2 rfl ?_
          have hz := y_bind h
          clear h
          obtain ⟨v111, h112, h⟩ := hz
          have wv111 := (y_gv_ok h112).2
          refine Vgv h112 rfl rfl rfl ?_
          refine Vin rfl lk3 rfl ?_
          have hz := y_bind h
          clear h
          obtain ⟨v113, h114, h⟩ := hz
          refine Zla (q_la_y h114) rfl rfl ?_
          refine Ul2i rfl rfl ?_
          refine Vin rfl lk3 rfl ?_
          refine Vic (v := Int32.ofInt 1) rfl rfl rfl ?_
          refine Uadd rfl rfl ?_
          have hz := y_bind h
          clear h
          obtain ⟨s115, h116, h⟩ := hz
          refine Zis (q_is_y h116) rfl rfl ?_
          refine Van rfl lk2 rv2 rfl ?_
          have hz := y_bind h
          clear h
          obtain ⟨v117, h118, h⟩ := hz
          have wv117 := (y_gv_ok h118).2
          refine Vgv h118 rfl rfl rfl ?_
          refine Vin rfl lk3 rfl ?_
          have hz := y_bind h
          clear h
          obtain ⟨v119, h120, h⟩ := hz
          refine Zia (q_ia_y h120) rfl rfl ?_
          cases h
          exact Yret rfl rfl rfl rfl rfl rfl rfl ⟨rfl, rfl⟩
        rw [if_neg c121] at h
        cases h
      · rw [if_neg c9] at h
        refine Van rfl lk0 rfl rfl ?_
        refine Vic (v := Int32.ofInt 4) rfl rfl rfl ?_
        refine Vin rfl lk3 rfl ?_
        have hz := y_bind h
        clear h
        obtain ⟨b126, h127, h⟩ := hz
        obtain ⟨eh127, fh127, wh127⟩ := y_rcv_ok h127
        cases eh127
        have hz := y_bind h
        clear h
        obtain ⟨⟨s122, r123⟩, h124, h⟩ := hz
        try dsimp only at h
        refine Vcv rfl rfl rfl wh127 rfl rfl ⟨(Nat.le_of_ble_eq_true rfl), (Nat.le_of_ble_eq_true rfl)⟩ rfl ((c_70 o n) _ (by omega) _ _ _ _ _ _ h124 _ rfl rfl rfl) (fun z1 z2 zq => ?_)
        obtain ⟨rfl, rfl⟩ := zq
        try dsimp only [Option.toList, HAppend.hAppend, Append.append, List.append]
        cases h
        exact Yret rfl rfl rfl rfl rfl rfl rfl ⟨rfl, rfl⟩

/-- StepRows$Walker.endRun -/
def g_84 (o : X_O) : Nat → Nat → Q_S → Nat → Option (Q_S × Int)
  | 0, _, _, _ => none
  | n + 1, 0, s, r0 => (q_gv s 6 (.ref r0) 0).bind fun v1 => (q_pi s 4 v1 0 0).bind fun s3 => some (s3, (-1000000))
  | _ + 1, _, _, _ => none
set_option maxRecDepth 100000 in
set_option maxHeartbeats 4000000 in
theorem c_84 (o : X_O) : ∀ n, (∀ (d : Nat) (hd : 0 ≤ d) (s : Q_S) (r0 : Nat) (s9 : Q_S) (r : Int), g_84 o n 0 s r0 = some (s9, r) → ∀ lv : X_L, x_lget lv 0 = some (.ref r0) → Y o d 84 0 lv [] (q_y s) (fun s1 r1 => s1 = q_y s9 ∧ r1 = some (.int (Int32.ofInt r)))) := by
  intro n
  induction n with
  | zero => exact fun d hd s _ s9 r h => (by simp only [g_84] at h; cases h)
  | succ n ih =>
    intro d hd s r0 s9 r h lv lk0
    simp only [g_84] at h
    refine Van rfl lk0 rfl rfl ?_
    have hz := y_bind h
    clear h
    obtain ⟨v1, h2, h⟩ := hz
    have wv1 := (y_gv_ok h2).2
    refine Vgv h2 rfl rfl rfl ?_
    refine Vic (v := Int32.ofInt 0) rfl rfl rfl ?_
    have hz := y_bind h
    clear h
    obtain ⟨s3, h4, h⟩ := hz
    refine Zpi (q_pi_y h4) rfl rfl rfl rfl ?_
    refine Yk (v := .int (Int32.ofInt (-1000000))) rfl rfl rfl rfl rfl ?_
    cases h
    exact Yret rfl rfl rfl rfl rfl rfl rfl ⟨rfl, rfl⟩

/-- StepRows$Walker.leave -/
def g_86 (o : X_O) : Nat → Nat → Q_S → Nat → Option (Q_S × Int)
  | 0, _, _, _ => none
  | n + 1, 0, s, r0 => (q_gi s 6 (.ref r0) 4).bind fun v1 => (q_g (q_in v1)).bind fun _ => if ¬ v1 = (-1) then (q_gi s 6 (.ref r0) 4).bind fun v6 => (q_gv s 6 (.ref r0) 1).bind fun v8 => (q_gv s 5 v8 1).bind fun v10 => (q_ia o s v10 v6).bind fun v12 => (q_gv s 6 (.ref r0) 1).bind fun v14 => (q_gv s 5 v14 2).bind fun v16 => (q_ia o s v16 v6).bind fun v18 => (q_pi s 6 (.ref r0) 4 v18).bind fun s20 => (q_gv s20 6 (.ref r0) 1).bind fun v22 => (q_rcv s20 5 v22).bind fun b28 => (g_54 o n 0 s20 b28 (v6)).bind fun q27 => (q_gv q27.1 6 (.ref r0) 0).bind fun v32 => (q_gv q27.1 4 v32 1).bind fun v34 => (q_gv q27.1 3 v34 3).bind fun v36 => (q_ia o q27.1 v36 v12).bind fun v38 => some (q27.1, v38) else (q_rcv s 6 (.ref r0)).bind fun b44 => (g_84 o n 0 s b44).bind fun q43 => some (q43.1, q43.2)
  | _ + 1, _, _, _ => none
set_option maxRecDepth 100000 in
set_option maxHeartbeats 4000000 in
theorem c_86 (o : X_O) : ∀ n, (∀ (d : Nat) (hd : 1 ≤ d) (s : Q_S) (r0 : Nat) (s9 : Q_S) (r : Int), g_86 o n 0 s r0 = some (s9, r) → ∀ lv : X_L, x_lget lv 0 = some (.ref r0) → Y o d 86 0 lv [] (q_y s) (fun s1 r1 => s1 = q_y s9 ∧ r1 = some (.int (Int32.ofInt r)))) := by
  intro n
  induction n with
  | zero => exact fun d hd s _ s9 r h => (by simp only [g_86] at h; cases h)
  | succ n ih =>
    intro d hd s r0 s9 r h lv lk0
    obtain ⟨d, rfl⟩ : ∃ x, d = x + 1 := ⟨d - 1, by omega⟩
    simp only [g_86] at h
    refine Van rfl lk0 rfl rfl ?_
    have hz := y_bind h
    clear h
    obtain ⟨v1, h2, h⟩ := hz
    refine Zgi (q_gi_y h2) rfl rfl rfl ?_
    refine Vic (v := Int32.ofInt (-1)) rfl rfl rfl ?_
    have hz := y_bind h
    clear h
    obtain ⟨_, h4, h⟩ := hz
    have c3 := q_g_ok h4
    refine Uif (not_congr (q_eq c3 (by decide))) rfl rfl rfl rfl rfl rfl rfl (fun c5 => ?_) (fun c5 => ?_)
    · rw [if_pos c5] at h
      refine Van rfl lk0 rfl rfl ?_
      have hz := y_bind h
      clear h
      obtain ⟨v6, h7, h⟩ := hz
      refine Zgi (q_gi_y h7) rfl rfl rfl ?_
      refine Vsin rfl rfl (fun lv lk1 hk => ?_)
      have lk0 := hk 0 _ lk0 (by decide) (by decide) (Or.inr rfl)
      refine Van rfl lk0 rfl rfl ?_
      have hz := y_bind h
      clear h
      obtain ⟨v8, h9, h⟩ := hz
      have wv8 := (y_gv_ok h9).2
      refine Vgv h9 rfl rfl rfl ?_
      have hz := y_bind h
      clear h
      obtain ⟨v10, h11, h⟩ := hz
      have wv10 := (y_gv_ok h11).2
      refine Vgv h11 rfl rfl rfl ?_
      refine Vin rfl lk1 rfl ?_
      have hz := y_bind h
      clear h
      obtain ⟨v12, h13, h⟩ := hz
      refine Zia (q_ia_y h13) rfl rfl ?_
      refine Vsin rfl rfl (fun lv lk2 hk => ?_)
      have lk0 := hk 0 _ lk0 (by decide) (by decide) (Or.inl (by decide))
      have lk1 := hk 1 _ lk1 (by decide) (by decide) (Or.inr rfl)
      refine Van rfl lk0 rfl rfl ?_
      refine Van rfl lk0 rfl rfl ?_
      have hz := y_bind h
      clear h
      obtain ⟨v14, h15, h⟩ := hz
      have wv14 := (y_gv_ok h15).2
      refine Vgv h15 rfl rfl rfl ?_
      have hz := y_bind h
      clear h
      obtain ⟨v16, h17, h⟩ := hz
      have wv16 := (y_gv_ok h17).2
      refine Vgv h17 rfl rfl rfl ?_
      refine Vin rfl lk1 rfl ?_
      have hz := y_bind h
      clear h
      obtain ⟨v18, h19, h⟩ := hz
      refine Zia (q_ia_y h19) rfl rfl ?_
      have hz := y_bind h
      clear h
      obtain ⟨s20, h21, h⟩ := hz
      refine Zpi (q_pi_y h21) rfl rfl rfl rfl ?_
      refine Van rfl lk0 rfl rfl ?_
      have hz := y_bind h
      clear h
      obtain ⟨v22, h23, h⟩ := hz
      have wv22 := (y_gv_ok h23).2
      refine Vgv h23 rfl rfl rfl ?_
      refine Vin rfl lk1 rfl ?_
      have hz := y_bind h
      clear h
      obtain ⟨b28, h29, h⟩ := hz
      obtain ⟨eh29, fh29, wh29⟩ := y_rcv_ok h29
      cases eh29
      have hz := y_bind h
      clear h
      obtain ⟨⟨s24, r25⟩, h26, h⟩ := hz
      try dsimp only at h
      refine Vcv rfl rfl rfl wh29 rfl rfl ⟨(Nat.le_of_ble_eq_true rfl), (Nat.le_of_ble_eq_true rfl)⟩ rfl ((c_54 o n).1 _ (by omega) _ _ _ _ _ h26 _ rfl rfl) (fun z1 z2 zq => ?_)
      obtain ⟨rfl, rfl⟩ := zq
      try dsimp only [Option.toList, HAppend.hAppend, Append.append, List.append]
      refine Van rfl lk0 rfl rfl ?_
      have hz := y_bind h
      clear h
      obtain ⟨v32, h33, h⟩ := hz
      have wv32 := (y_gv_ok h33).2
      refine Vgv h33 rfl rfl rfl ?_
      have hz := y_bind h
      clear h
      obtain ⟨v34, h35, h⟩ := hz
      have wv34 := (y_gv_ok h35).2
      refine Vgv h35 rfl rfl rfl ?_
      have hz := y_bind h
      clear h
      obtain ⟨v36, h37, h⟩ := hz
      have wv36 := (y_gv_ok h37).2
      refine Vgv h37 rfl rfl rfl ?_
      refine Vin rfl lk2 rfl ?_
      have hz := y_bind h
      clear h
      obtain ⟨v38, h39, h⟩ := hz
      refine Zia (q_ia_y h39) rfl rfl ?_
      cases h
      exact Yret rfl rfl rfl rfl rfl rfl rfl ⟨rfl, rfl⟩
    · rw [if_neg c5] at h
      refine Van rfl lk0 rfl rfl ?_
      have hz := y_bind h
      clear h
      obtain ⟨b44, h45, h⟩ := hz
      obtain ⟨eh45, fh45, wh45⟩ := y_rcv_ok h45
      cases eh45
      have hz := y_bind h
      clear h
      obtain ⟨⟨s40, r41⟩, h42, h⟩ := hz
      try dsimp only at h
      refine Vcv rfl rfl rfl wh45 rfl rfl ⟨(Nat.le_of_ble_eq_true rfl), (Nat.le_of_ble_eq_true rfl)⟩ rfl ((c_84 o n) _ (by omega) _ _ _ _ h42 _ rfl) (fun z1 z2 zq => ?_)
      obtain ⟨rfl, rfl⟩ := zq
      try dsimp only [Option.toList, HAppend.hAppend, Append.append, List.append]
      cases h
      exact Yret rfl rfl rfl rfl rfl rfl rfl ⟨rfl, rfl⟩

/-- StepRows$Walker.endTurn -/
def g_85 (o : X_O) : Nat → Nat → Q_S → Nat → Int → Option (Q_S × Int)
  | 0, _, _, _, _ => none
  | n + 1, 0, s, r0, i1 => (q_gi s 6 (.ref r0) 4).bind fun v1 => (q_g (q_in v1)).bind fun _ => if v1 = (-1) then g_85 o n 1 s r0 0 else (q_gv s 6 (.ref r0) 1).bind fun v6 => (q_gv s 5 v6 7).bind fun v8 => (q_gi s 6 (.ref r0) 4).bind fun v10 => (q_la s v8 v10).bind fun v12 => if v12 ≤ 1 then g_85 o n 1 s r0 0 else (q_gv s 6 (.ref r0) 1).bind fun v15 => (q_gv s 5 v15 7).bind fun v17 => (q_gi s 6 (.ref r0) 4).bind fun v19 => (q_la s v17 v19).bind fun v21 => (q_ls s v17 v19 (v21 - 1)).bind fun s23 => (q_gv s23 6 (.ref r0) 0).bind fun v25 => (q_gv s23 4 v25 1).bind fun v27 => (q_rcv s23 3 v27).bind fun b33 => (g_37 o n 0 s23 b33 (i1)).bind fun q32 => some (q32.1, q32.2)
  | n + 1, 1, s, r0, i1 => (q_rcv s 6 (.ref r0)).bind fun b5 => (g_86 o n 0 s b5).bind fun q4 => some (q4.1, q4.2)
  | _ + 1, _, _, _, _ => none
set_option maxRecDepth 100000 in
set_option maxHeartbeats 4000000 in
theorem c_85 (o : X_O) : ∀ n, (∀ (d : Nat) (hd : 2 ≤ d) (s : Q_S) (r0 : Nat) (i1 : Int) (s9 : Q_S) (r : Int), g_85 o n 0 s r0 i1 = some (s9, r) → ∀ lv : X_L, x_lget lv 0 = some (.ref r0) → x_lget lv 1 = some (.int (Int32.ofInt i1)) → Y o d 85 0 lv [] (q_y s) (fun s1 r1 => s1 = q_y s9 ∧ r1 = some (.int (Int32.ofInt r)))) ∧
    (∀ (d : Nat) (hd : 2 ≤ d) (s : Q_S) (r0 : Nat) (i1 : Int) (s9 : Q_S) (r : Int), g_85 o n 1 s r0 i1 = some (s9, r) → ∀ lv : X_L, x_lget lv 0 = some (.ref r0) → Y o d 85 53 lv [] (q_y s) (fun s1 r1 => s1 = q_y s9 ∧ r1 = some (.int (Int32.ofInt r)))) := by
  intro n
  induction n with
  | zero => exact ⟨fun d hd s _ _ s9 r h => (by simp only [g_85] at h; cases h), fun d hd s _ _ s9 r h => (by simp only [g_85] at h; cases h)⟩
  | succ n ih =>
    refine ⟨?_, ?_⟩
    · intro d hd s r0 i1 s9 r h lv lk0 lk1
      obtain ⟨d, rfl⟩ : ∃ x, d = x + 1 := ⟨d - 1, by omega⟩
      simp only [g_85] at h
      refine Van rfl lk0 rfl rfl ?_
      have hz := y_bind h
      clear h
      obtain ⟨v1, h2, h⟩ := hz
      refine Zgi (q_gi_y h2) rfl rfl rfl ?_
      refine Vic (v := Int32.ofInt (-1)) rfl rfl rfl ?_
      have hz := y_bind h
      clear h
      obtain ⟨_, h4, h⟩ := hz
      have c3 := q_g_ok h4
      refine Uif (q_eq c3 (by decide)) rfl rfl rfl rfl rfl rfl rfl (fun c5 => ?_) (fun c5 => ?_)
      · rw [if_pos c5] at h
        exact ih.2 _ hd _ _ _ _ _ h lv lk0
      · rw [if_neg c5] at h
        refine Van rfl lk0 rfl rfl ?_
        have hz := y_bind h
        clear h
        obtain ⟨v6, h7, h⟩ := hz
        have wv6 := (y_gv_ok h7).2
        refine Vgv h7 rfl rfl rfl ?_
        have hz := y_bind h
        clear h
        obtain ⟨v8, h9, h⟩ := hz
        have wv8 := (y_gv_ok h9).2
        refine Vgv h9 rfl rfl rfl ?_
        refine Van rfl lk0 rfl rfl ?_
        have hz := y_bind h
        clear h
        obtain ⟨v10, h11, h⟩ := hz
        refine Zgi (q_gi_y h11) rfl rfl rfl ?_
        have hz := y_bind h
        clear h
        obtain ⟨v12, h13, h⟩ := hz
        refine Zla (q_la_y h13) rfl rfl ?_
        refine Vlc (v := 1) rfl (by decide) rfl ?_
        refine Ya rfl rfl rfl ?_
        refine Uif (lg_cmp_le _ _) rfl rfl rfl rfl rfl rfl rfl (fun c14 => ?_) (fun c14 => ?_)
        · rw [if_pos c14] at h
          exact ih.2 _ hd _ _ _ _ _ h lv lk0
        · rw [if_neg c14] at h
          refine Van rfl lk0 rfl rfl ?_
          have hz := y_bind h
          clear h
          obtain ⟨v15, h16, h⟩ := hz
          have wv15 := (y_gv_ok h16).2
          refine Vgv h16 rfl rfl rfl ?_
          have hz := y_bind h
          clear h
          obtain ⟨v17, h18, h⟩ := hz
          have wv17 := (y_gv_ok h18).2
          refine Vgv h18 rfl rfl rfl ?_
          refine Van rfl lk0 rfl rfl ?_
          have hz := y_bind h
          clear h
          obtain ⟨v19, h20, h⟩ := hz
          refine Zgi (q_gi_y h20) rfl rfl rfl ?_
          refine Vdup2 rfl rfl (y_rv_cat wv17) rfl ?_
          have hz := y_bind h
          clear h
          obtain ⟨v21, h22, h⟩ := hz
          refine Zla (q_la_y h22) rfl rfl ?_
          refine Vlc (v := 1) rfl (by decide) rfl ?_
          refine Ya rfl rfl rfl ?_
          have hz := y_bind h
          clear h
          obtain ⟨s23, h24, h⟩ := hz
          refine Zls (q_ls_y h24) rfl rfl ?_
          refine Van rfl lk0 rfl rfl ?_
          have hz := y_bind h
          clear h
          obtain ⟨v25, h26, h⟩ := hz
          have wv25 := (y_gv_ok h26).2
          refine Vgv h26 rfl rfl rfl ?_
          have hz := y_bind h
          clear h
          obtain ⟨v27, h28, h⟩ := hz
          have wv27 := (y_gv_ok h28).2
          refine Vgv h28 rfl rfl rfl ?_
          refine Vin rfl lk1 rfl ?_
          have hz := y_bind h
          clear h
          obtain ⟨b33, h34, h⟩ := hz
          obtain ⟨eh34, fh34, wh34⟩ := y_rcv_ok h34
          cases eh34
          have hz := y_bind h
          clear h
          obtain ⟨⟨s29, r30⟩, h31, h⟩ := hz
          try dsimp only at h
          refine Vcv rfl rfl rfl wh34 rfl rfl ⟨(Nat.le_of_ble_eq_true rfl), (Nat.le_of_ble_eq_true rfl)⟩ rfl ((c_37 o n) _ (by omega) _ _ _ _ _ h31 _ rfl rfl) (fun z1 z2 zq => ?_)
          obtain ⟨rfl, rfl⟩ := zq
          try dsimp only [Option.toList, HAppend.hAppend, Append.append, List.append]
          cases h
          exact Yret rfl rfl rfl rfl rfl rfl rfl ⟨rfl, rfl⟩
    · intro d hd s r0 i1 s9 r h lv lk0
      obtain ⟨d, rfl⟩ : ∃ x, d = x + 1 := ⟨d - 1, by omega⟩
      simp only [g_85] at h
      refine Van rfl lk0 rfl rfl ?_
      have hz := y_bind h
      clear h
      obtain ⟨b5, h6, h⟩ := hz
      obtain ⟨eh6, fh6, wh6⟩ := y_rcv_ok h6
      cases eh6
      have hz := y_bind h
      clear h
      obtain ⟨⟨s1, r2⟩, h3, h⟩ := hz
      try dsimp only at h
      refine Vcv rfl rfl rfl wh6 rfl rfl ⟨(Nat.le_of_ble_eq_true rfl), (Nat.le_of_ble_eq_true rfl)⟩ rfl ((c_86 o n) _ (by omega) _ _ _ _ h3 _ rfl) (fun z1 z2 zq => ?_)
      obtain ⟨rfl, rfl⟩ := zq
      try dsimp only [Option.toList, HAppend.hAppend, Append.append, List.append]
      cases h
      exact Yret rfl rfl rfl rfl rfl rfl rfl ⟨rfl, rfl⟩

/-- StepRows$Walker.endBranch -/
def g_87 (o : X_O) : Nat → Nat → Q_S → Nat → Option (Q_S × Int)
  | 0, _, _, _ => none
  | n + 1, 0, s, r0 => (q_gi s 6 (.ref r0) 4).bind fun v1 => (q_g (q_in v1)).bind fun _ => if v1 = (-1) then g_87 o n 1 s r0 else (q_gv s 6 (.ref r0) 1).bind fun v6 => (q_gv s 5 v6 3).bind fun v8 => (q_gi s 6 (.ref r0) 4).bind fun v10 => (q_ia o s v8 v10).bind fun v12 => (q_g (q_in v12)).bind fun _ => if v12 = (-1) then g_87 o n 1 s r0 else (q_gi s 6 (.ref r0) 4).bind fun v17 => (q_rcv s 6 (.ref r0)).bind fun b23 => (g_75 o n 0 s b23 (v17)).bind fun q22 => some (q22.1, q22.2)
  | n + 1, 1, s, r0 => (q_gi s 6 (.ref r0) 4).bind fun v1 => (q_g (q_in v1)).bind fun _ => if v1 = (-1) then g_87 o n 2 s r0 else (q_gv s 6 (.ref r0) 1).bind fun v6 => (q_gv s 5 v6 4).bind fun v8 => (q_gi s 6 (.ref r0) 4).bind fun v10 => (q_ia o s v8 v10).bind fun v12 => (q_g (q_in v12)).bind fun _ => if v12 = (-1) then g_87 o n 2 s r0 else (q_gv s 6 (.ref r0) 1).bind fun v17 => (q_gv s 6 (.ref r0) 1).bind fun v19 => (q_gv s 5 v19 4).bind fun v21 => (q_gi s 6 (.ref r0) 4).bind fun v23 => (q_ia o s v21 v23).bind fun v25 => (q_rcv s 5 v17).bind fun b31 => (g_57 o n 0 s b31 (v25) 0 0).bind fun q30 => (q_pi q30.1 6 (.ref r0) 5 q30.2).bind fun s35 => some (s35, (-1000000))
  | n + 1, 2, s, r0 => (q_rcv s 6 (.ref r0)).bind fun b5 => (g_86 o n 0 s b5).bind fun q4 => some (q4.1, q4.2)
  | _ + 1, _, _, _ => none
set_option maxRecDepth 100000 in
set_option maxHeartbeats 4000000 in
theorem c_87 (o : X_O) : ∀ n, (∀ (d : Nat) (hd : 3 ≤ d) (s : Q_S) (r0 : Nat) (s9 : Q_S) (r : Int), g_87 o n 0 s r0 = some (s9, r) → ∀ lv : X_L, x_lget lv 0 = some (.ref r0) → Y o d 87 0 lv [] (q_y s) (fun s1 r1 => s1 = q_y s9 ∧ r1 = some (.int (Int32.ofInt r)))) ∧
    (∀ (d : Nat) (hd : 3 ≤ d) (s : Q_S) (r0 : Nat) (s9 : Q_S) (r : Int), g_87 o n 1 s r0 = some (s9, r) → ∀ lv : X_L, x_lget lv 0 = some (.ref r0) → Y o d 87 33 lv [] (q_y s) (fun s1 r1 => s1 = q_y s9 ∧ r1 = some (.int (Int32.ofInt r)))) ∧
    (∀ (d : Nat) (hd : 3 ≤ d) (s : Q_S) (r0 : Nat) (s9 : Q_S) (r : Int), g_87 o n 2 s r0 = some (s9, r) → ∀ lv : X_L, x_lget lv 0 = some (.ref r0) → Y o d 87 83 lv [] (q_y s) (fun s1 r1 => s1 = q_y s9 ∧ r1 = some (.int (Int32.ofInt r)))) := by
  intro n
  induction n with
  | zero => exact ⟨fun d hd s _ s9 r h => (by simp only [g_87] at h; cases h), fun d hd s _ s9 r h => (by simp only [g_87] at h; cases h), fun d hd s _ s9 r h => (by simp only [g_87] at h; cases h)⟩
  | succ n ih =>
    refine ⟨?_, ?_, ?_⟩
    · intro d hd s r0 s9 r h lv lk0
      obtain ⟨d, rfl⟩ : ∃ x, d = x + 1 := ⟨d - 1, by omega⟩
      simp only [g_87] at h
      refine Van rfl lk0 rfl rfl ?_
      have hz := y_bind h
      clear h
      obtain ⟨v1, h2, h⟩ := hz
      refine Zgi (q_gi_y h2) rfl rfl rfl ?_
      refine Vic (v := Int32.ofInt (-1)) rfl rfl rfl ?_
      have hz := y_bind h
      clear h
      obtain ⟨_, h4, h⟩ := hz
      have c3 := q_g_ok h4
      refine Uif (q_eq c3 (by decide)) rfl rfl rfl rfl rfl rfl rfl (fun c5 => ?_) (fun c5 => ?_)
      · rw [if_pos c5] at h
        exact ih.2.1 _ hd _ _ _ _ h lv lk0
      · rw [if_neg c5] at h
        refine Van rfl lk0 rfl rfl ?_
        have hz := y_bind h
        clear h
        obtain ⟨v6, h7, h⟩ := hz
        have wv6 := (y_gv_ok h7).2
        refine Vgv h7 rfl rfl rfl ?_
        have hz := y_bind h
        clear h
        obtain ⟨v8, h9, h⟩ := hz
        have wv8 := (y_gv_ok h9).2
        refine Vgv h9 rfl rfl rfl ?_
        refine Van rfl lk0 rfl rfl ?_
        have hz := y_bind h
        clear h
        obtain ⟨v10, h11, h⟩ := hz
        refine Zgi (q_gi_y h11) rfl rfl rfl ?_
        have hz := y_bind h
        clear h
        obtain ⟨v12, h13, h⟩ := hz
        refine Zia (q_ia_y h13) rfl rfl ?_
        refine Vic (v := Int32.ofInt (-1)) rfl rfl rfl ?_
        have hz := y_bind h
        clear h
        obtain ⟨_, h15, h⟩ := hz
        have c14 := q_g_ok h15
        refine Uif (q_eq c14 (by decide)) rfl rfl rfl rfl rfl rfl rfl (fun c16 => ?_) (fun c16 => ?_)
        · rw [if_pos c16] at h
          exact ih.2.1 _ hd _ _ _ _ h lv lk0
        · rw [if_neg c16] at h
          refine Van rfl lk0 rfl rfl ?_
          refine Van rfl lk0 rfl rfl ?_
          have hz := y_bind h
          clear h
          obtain ⟨v17, h18, h⟩ := hz
          refine Zgi (q_gi_y h18) rfl rfl rfl ?_
          have hz := y_bind h
          clear h
          obtain ⟨b23, h24, h⟩ := hz
          obtain ⟨eh24, fh24, wh24⟩ := y_rcv_ok h24
          cases eh24
          have hz := y_bind h
          clear h
          obtain ⟨⟨s19, r20⟩, h21, h⟩ := hz
          try dsimp only at h
          refine Vcv rfl rfl rfl wh24 rfl rfl ⟨(Nat.le_of_ble_eq_true rfl), (Nat.le_of_ble_eq_true rfl)⟩ rfl ((c_75 o n) _ (by omega) _ _ _ _ _ h21 _ rfl rfl) (fun z1 z2 zq => ?_)
          obtain ⟨rfl, rfl⟩ := zq
          try dsimp only [Option.toList, HAppend.hAppend, Append.append, List.append]
          cases h
          exact Yret rfl rfl rfl rfl rfl rfl rfl ⟨rfl, rfl⟩
    · intro d hd s r0 s9 r h lv lk0
      obtain ⟨d, rfl⟩ : ∃ x, d = x + 1 := ⟨d - 1, by omega⟩
      simp only [g_87] at h
      refine Van rfl lk0 rfl rfl ?_
      have hz := y_bind h
      clear h
      obtain ⟨v1, h2, h⟩ := hz
      refine Zgi (q_gi_y h2) rfl rfl rfl ?_
      refine Vic (v := Int32.ofInt (-1)) rfl rfl rfl ?_
      have hz := y_bind h
      clear h
      obtain ⟨_, h4, h⟩ := hz
      have c3 := q_g_ok h4
      refine Uif (q_eq c3 (by decide)) rfl rfl rfl rfl rfl rfl rfl (fun c5 => ?_) (fun c5 => ?_)
      · rw [if_pos c5] at h
        exact ih.2.2 _ hd _ _ _ _ h lv lk0
      · rw [if_neg c5] at h
        refine Van rfl lk0 rfl rfl ?_
        have hz := y_bind h
        clear h
        obtain ⟨v6, h7, h⟩ := hz
        have wv6 := (y_gv_ok h7).2
        refine Vgv h7 rfl rfl rfl ?_
        have hz := y_bind h
        clear h
        obtain ⟨v8, h9, h⟩ := hz
        have wv8 := (y_gv_ok h9).2
        refine Vgv h9 rfl rfl rfl ?_
        refine Van rfl lk0 rfl rfl ?_
        have hz := y_bind h
        clear h
        obtain ⟨v10, h11, h⟩ := hz
        refine Zgi (q_gi_y h11) rfl rfl rfl ?_
        have hz := y_bind h
        clear h
        obtain ⟨v12, h13, h⟩ := hz
        refine Zia (q_ia_y h13) rfl rfl ?_
        refine Vic (v := Int32.ofInt (-1)) rfl rfl rfl ?_
        have hz := y_bind h
        clear h
        obtain ⟨_, h15, h⟩ := hz
        have c14 := q_g_ok h15
        refine Uif (q_eq c14 (by decide)) rfl rfl rfl rfl rfl rfl rfl (fun c16 => ?_) (fun c16 => ?_)
        · rw [if_pos c16] at h
          exact ih.2.2 _ hd _ _ _ _ h lv lk0
        · rw [if_neg c16] at h
          refine Van rfl lk0 rfl rfl ?_
          refine Van rfl lk0 rfl rfl ?_
          have hz := y_bind h
          clear h
          obtain ⟨v17, h18, h⟩ := hz
          have wv17 := (y_gv_ok h18).2
          refine Vgv h18 rfl rfl rfl ?_
          refine Van rfl lk0 rfl rfl ?_
          have hz := y_bind h
          clear h
          obtain ⟨v19, h20, h⟩ := hz
          have wv19 := (y_gv_ok h20).2
          refine Vgv h20 rfl rfl rfl ?_
          have hz := y_bind h
          clear h
          obtain ⟨v21, h22, h⟩ := hz
          have wv21 := (y_gv_ok h22).2
          refine Vgv h22 rfl rfl rfl ?_
          refine Van rfl lk0 rfl rfl ?_
          have hz := y_bind h
          clear h
          obtain ⟨v23, h24, h⟩ := hz
          refine Zgi (q_gi_y h24) rfl rfl rfl ?_
          have hz := y_bind h
          clear h
          obtain ⟨v25, h26, h⟩ := hz
          refine Zia (q_ia_y h26) rfl rfl ?_
          have hz := y_bind h
          clear h
          obtain ⟨b31, h32, h⟩ := hz
          obtain ⟨eh32, fh32, wh32⟩ := y_rcv_ok h32
          cases eh32
          have hz := y_bind h
          clear h
          obtain ⟨⟨s27, r28⟩, h29, h⟩ := hz
          try dsimp only at h
          refine Vcv rfl rfl rfl wh32 rfl rfl ⟨(Nat.le_of_ble_eq_true rfl), (Nat.le_of_ble_eq_true rfl)⟩ rfl ((c_57 o n).1 _ (by omega) _ _ _ _ _ _ _ h29 _ rfl rfl) (fun z1 z2 zq => ?_)
          obtain ⟨rfl, rfl⟩ := zq
          try dsimp only [Option.toList, HAppend.hAppend, Append.append, List.append]
          have hz := y_bind h
          clear h
          obtain ⟨s35, h36, h⟩ := hz
          refine Zpi (q_pi_y h36) rfl rfl rfl rfl ?_
          refine Yk (v := .int (Int32.ofInt (-1000000))) rfl rfl rfl rfl rfl ?_
          cases h
          exact Yret rfl rfl rfl rfl rfl rfl rfl ⟨rfl, rfl⟩
    · intro d hd s r0 s9 r h lv lk0
      obtain ⟨d, rfl⟩ : ∃ x, d = x + 1 := ⟨d - 1, by omega⟩
      simp only [g_87] at h
      refine Van rfl lk0 rfl rfl ?_
      have hz := y_bind h
      clear h
      obtain ⟨b5, h6, h⟩ := hz
      obtain ⟨eh6, fh6, wh6⟩ := y_rcv_ok h6
      cases eh6
      have hz := y_bind h
      clear h
      obtain ⟨⟨s1, r2⟩, h3, h⟩ := hz
      try dsimp only at h
      refine Vcv rfl rfl rfl wh6 rfl rfl ⟨(Nat.le_of_ble_eq_true rfl), (Nat.le_of_ble_eq_true rfl)⟩ rfl ((c_86 o n) _ (by omega) _ _ _ _ h3 _ rfl) (fun z1 z2 zq => ?_)
      obtain ⟨rfl, rfl⟩ := zq
      try dsimp only [Option.toList, HAppend.hAppend, Append.append, List.append]
      cases h
      exact Yret rfl rfl rfl rfl rfl rfl rfl ⟨rfl, rfl⟩

/-- StepRows$Run.goOverToWaiting -/
def g_45 (o : X_O) : Nat → Nat → Q_S → Nat → Option (Q_S × Unit)
  | 0, _, _, _ => none
  | n + 1, 0, s, r0 => (q_gv s 4 (.ref r0) 2).bind fun v1 => (q_pr s 4 (.ref r0) 1 v1).bind fun s3 => (q_pr s3 4 (.ref r0) 2 .null).bind fun s5 => (q_gv s5 4 (.ref r0) 10).bind fun v7 => (g_149 o n 0 s5 (v7) ((-1)) 0 0).bind fun q12 => some (q12.1, ())
  | _ + 1, _, _, _ => none
set_option maxRecDepth 100000 in
set_option maxHeartbeats 4000000 in
theorem c_45 (o : X_O) : ∀ n, (∀ (d : Nat) (hd : 1 ≤ d) (s : Q_S) (r0 : Nat) (s9 : Q_S) (r : Unit), g_45 o n 0 s r0 = some (s9, r) → ∀ lv : X_L, x_lget lv 0 = some (.ref r0) → Y o d 45 0 lv [] (q_y s) (fun s1 r1 => s1 = q_y s9 ∧ r1 = none)) := by
  intro n
  induction n with
  | zero => exact fun d hd s _ s9 r h => (by simp only [g_45] at h; cases h)
  | succ n ih =>
    intro d hd s r0 s9 r h lv lk0
    obtain ⟨d, rfl⟩ : ∃ x, d = x + 1 := ⟨d - 1, by omega⟩
    simp only [g_45] at h
    refine Van rfl lk0 rfl rfl ?_
    refine Van rfl lk0 rfl rfl ?_
    have hz := y_bind h
    clear h
    obtain ⟨v1, h2, h⟩ := hz
    have wv1 := (y_gv_ok h2).2
    refine Vgv h2 rfl rfl rfl ?_
    have hz := y_bind h
    clear h
    obtain ⟨s3, h4, h⟩ := hz
    refine Zpr (q_pr_y h4) rfl rfl rfl rfl ?_
    refine Van rfl lk0 rfl rfl ?_
    refine Ya rfl rfl rfl ?_
    have hz := y_bind h
    clear h
    obtain ⟨s5, h6, h⟩ := hz
    refine Zpr (q_pr_y h6) rfl rfl rfl rfl ?_
    refine Van rfl lk0 rfl rfl ?_
    have hz := y_bind h
    clear h
    obtain ⟨v7, h8, h⟩ := hz
    have wv7 := (y_gv_ok h8).2
    refine Vgv h8 rfl rfl rfl ?_
    refine Vic (v := Int32.ofInt (-1)) rfl rfl rfl ?_
    have hz := y_bind h
    clear h
    obtain ⟨⟨s9, r10⟩, h11, h⟩ := hz
    try dsimp only at h
    refine Vcs rfl rfl (Nat.le_of_ble_eq_true rfl) rfl rfl ⟨(Nat.le_of_ble_eq_true rfl), (by simp only [List.take, List.reverse_cons, List.reverse_nil, List.nil_append, List.cons_append, List.map_cons, List.map_nil, y_cati, y_catl, y_catr, y_catn, y_cata, y_rv_cat wv7, List.sum_cons, List.sum_nil]; decide +kernel)⟩ rfl ((c_149 o n).1 _ (by omega) _ _ _ _ _ _ _ h11 _ (by simp [lv_args, x_lget, q_y1, y_cati, y_catl, y_catr, y_rv_cat wv7]) (by simp [lv_args, x_lget, q_y1, y_cati, y_catl, y_catr, y_rv_cat wv7]) wv7) (fun z1 z2 zq => ?_)
    obtain ⟨rfl, rfl⟩ := zq
    try dsimp only [Option.toList, HAppend.hAppend, Append.append, List.append]
    cases h
    exact Yret rfl rfl rfl rfl rfl rfl rfl ⟨rfl, rfl⟩

/-- StepRows$Walker.endPhase -/
def g_88 (o : X_O) : Nat → Nat → Q_S → Nat → Int → Option (Q_S × Int)
  | 0, _, _, _, _ => none
  | n + 1, 0, s, r0, i1 => (q_gv s 6 (.ref r0) 0).bind fun v1 => (q_gi s 4 v1 4).bind fun v3 => (q_pi s 4 v1 4 (v3 + 1)).bind fun s5 => (q_gv s5 6 (.ref r0) 0).bind fun v7 => (q_gv s5 4 v7 2).bind fun v9 => (y_nul v9).bind fun z11 => if z11 = true then (q_gv s5 6 (.ref r0) 0).bind fun v14 => (q_gv s5 4 v14 1).bind fun v16 => (q_gv s5 3 v16 3).bind fun v18 => (q_ia o s5 v18 i1).bind fun v20 => some (s5, v20) else (q_gv s5 6 (.ref r0) 0).bind fun v22 => (q_rcv s5 4 v22).bind fun b28 => (g_45 o n 0 s5 b28).bind fun q27 => (q_gv q27.1 6 (.ref r0) 0).bind fun v32 => (q_gi q27.1 4 v32 4).bind fun v34 => (q_gv q27.1 6 (.ref r0) 0).bind fun v36 => (q_gv q27.1 4 v36 1).bind fun v38 => (q_gi q27.1 3 v38 8).bind fun v40 => (q_g (q_in v34 ∧ q_in v40)).bind fun _ => if v34 ≤ v40 then (q_gv q27.1 6 (.ref r0) 0).bind fun v45 => (q_gv q27.1 4 v45 1).bind fun v47 => (q_gv q27.1 3 v47 3).bind fun v49 => (q_gv q27.1 6 (.ref r0) 0).bind fun v51 => (q_gv q27.1 4 v51 1).bind fun v53 => (q_gv q27.1 3 v53 6).bind fun v55 => (q_gv q27.1 6 (.ref r0) 0).bind fun v57 => (q_gi q27.1 4 v57 4).bind fun v59 => (q_ia o q27.1 v55 (v59 - 1)).bind fun v61 => (q_ia o q27.1 v49 v61).bind fun v63 => some (q27.1, v63) else (q_rcv q27.1 6 (.ref r0)).bind fun b69 => (g_84 o n 0 q27.1 b69).bind fun q68 => some (q68.1, q68.2)
  | _ + 1, _, _, _, _ => none
set_option maxRecDepth 100000 in
set_option maxHeartbeats 4000000 in
theorem c_88 (o : X_O) : ∀ n, (∀ (d : Nat) (hd : 2 ≤ d) (s : Q_S) (r0 : Nat) (i1 : Int) (s9 : Q_S) (r : Int), g_88 o n 0 s r0 i1 = some (s9, r) → ∀ lv : X_L, x_lget lv 0 = some (.ref r0) → x_lget lv 1 = some (.int (Int32.ofInt i1)) → Y o d 88 0 lv [] (q_y s) (fun s1 r1 => s1 = q_y s9 ∧ r1 = some (.int (Int32.ofInt r)))) := by
  intro n
  induction n with
  | zero => exact fun d hd s _ _ s9 r h => (by simp only [g_88] at h; cases h)
  | succ n ih =>
    intro d hd s r0 i1 s9 r h lv lk0 lk1
    obtain ⟨d, rfl⟩ : ∃ x, d = x + 1 := ⟨d - 1, by omega⟩
    simp only [g_88] at h
    refine Van rfl lk0 rfl rfl ?_
    have hz := y_bind h
    clear h
    obtain ⟨v1, h2, h⟩ := hz
    have wv1 := (y_gv_ok h2).2
    refine Vgv h2 rfl rfl rfl ?_
    refine Vdup rfl (y_rv_cat wv1) rfl ?_
    have hz := y_bind h
    clear h
    obtain ⟨v3, h4, h⟩ := hz
    refine Zgi (q_gi_y h4) rfl rfl rfl ?_
    refine Vic (v := Int32.ofInt 1) rfl rfl rfl ?_
    refine Uadd rfl rfl ?_
    have hz := y_bind h
    clear h
    obtain ⟨s5, h6, h⟩ := hz
    refine Zpi (q_pi_y h6) rfl rfl rfl rfl ?_
    refine Van rfl lk0 rfl rfl ?_
    have hz := y_bind h
    clear h
    obtain ⟨v7, h8, h⟩ := hz
    have wv7 := (y_gv_ok h8).2
    refine Vgv h8 rfl rfl rfl ?_
    have hz := y_bind h
    clear h
    obtain ⟨v9, h10, h⟩ := hz
    have wv9 := (y_gv_ok h10).2
    refine Vgv h10 rfl rfl rfl ?_
    have hz := y_bind h
    clear h
    obtain ⟨z11, h12, h⟩ := hz
    refine Znonnull h12 rfl rfl rfl (fun c13 => ?_) (fun c13 => ?_)
    · rw [if_pos c13] at h
      refine Van rfl lk0 rfl rfl ?_
      have hz := y_bind h
      clear h
      obtain ⟨v14, h15, h⟩ := hz
      have wv14 := (y_gv_ok h15).2
      refine Vgv h15 rfl rfl rfl ?_
      have hz := y_bind h
      clear h
      obtain ⟨v16, h17, h⟩ := hz
      have wv16 := (y_gv_ok h17).2
      refine Vgv h17 rfl rfl rfl ?_
      have hz := y_bind h
      clear h
      obtain ⟨v18, h19, h⟩ := hz
      have wv18 := (y_gv_ok h19).2
      refine Vgv h19 rfl rfl rfl ?_
      refine Vin rfl lk1 rfl ?_
      have hz := y_bind h
      clear h
      obtain ⟨v20, h21, h⟩ := hz
      refine Zia (q_ia_y h21) rfl rfl ?_
      cases h
      exact Yret rfl rfl rfl rfl rfl rfl rfl ⟨rfl, rfl⟩
    · rw [if_neg c13] at h
      refine Van rfl lk0 rfl rfl ?_
      have hz := y_bind h
      clear h
      obtain ⟨v22, h23, h⟩ := hz
      have wv22 := (y_gv_ok h23).2
      refine Vgv h23 rfl rfl rfl ?_
      have hz := y_bind h
      clear h
      obtain ⟨b28, h29, h⟩ := hz
      obtain ⟨eh29, fh29, wh29⟩ := y_rcv_ok h29
      cases eh29
      have hz := y_bind h
      clear h
      obtain ⟨⟨s24, r25⟩, h26, h⟩ := hz
      try dsimp only at h
      refine Vcv rfl rfl rfl wh29 rfl rfl ⟨(Nat.le_of_ble_eq_true rfl), (Nat.le_of_ble_eq_true rfl)⟩ rfl ((c_45 o n) _ (by omega) _ _ _ _ h26 _ rfl) (fun z1 z2 zq => ?_)
      obtain ⟨rfl, rfl⟩ := zq
      try dsimp only [Option.toList, HAppend.hAppend, Append.append, List.append]
      refine Van rfl lk0 rfl rfl ?_
      have hz := y_bind h
      clear h
      obtain ⟨v32, h33, h⟩ := hz
      have wv32 := (y_gv_ok h33).2
      refine Vgv h33 rfl rfl rfl ?_
      have hz := y_bind h
      clear h
      obtain ⟨v34, h35, h⟩ := hz
      refine Zgi (q_gi_y h35) rfl rfl rfl ?_
      refine Van rfl lk0 rfl rfl ?_
      have hz := y_bind h
      clear h
      obtain ⟨v36, h37, h⟩ := hz
      have wv36 := (y_gv_ok h37).2
      refine Vgv h37 rfl rfl rfl ?_
      have hz := y_bind h
      clear h
      obtain ⟨v38, h39, h⟩ := hz
      have wv38 := (y_gv_ok h39).2
      refine Vgv h39 rfl rfl rfl ?_
      have hz := y_bind h
      clear h
      obtain ⟨v40, h41, h⟩ := hz
      refine Zgi (q_gi_y h41) rfl rfl rfl ?_
      have hz := y_bind h
      clear h
      obtain ⟨_, h43, h⟩ := hz
      have c42 := q_g_ok h43
      refine Uif (q_le c42.1 c42.2) rfl rfl rfl rfl rfl rfl rfl (fun c44 => ?_) (fun c44 => ?_)
      · rw [if_pos c44] at h
        refine Van rfl lk0 rfl rfl ?_
        have hz := y_bind h
        clear h
        obtain ⟨v45, h46, h⟩ := hz
        have wv45 := (y_gv_ok h46).2
        refine Vgv h46 rfl rfl rfl ?_
        have hz := y_bind h
        clear h
        obtain ⟨v47, h48, h⟩ := hz
        have wv47 := (y_gv_ok h48).2
        refine Vgv h48 rfl rfl rfl ?_
        have hz := y_bind h
        clear h
        obtain ⟨v49, h50, h⟩ := hz
        have wv49 := (y_gv_ok h50).2
        refine Vgv h50 rfl rfl rfl ?_
        refine Van rfl lk0 rfl rfl ?_
        have hz := y_bind h
        clear h
        obtain ⟨v51, h52, h⟩ := hz
        have wv51 := (y_gv_ok h52).2
        refine Vgv h52 rfl rfl rfl ?_
        have hz := y_bind h
        clear h
        obtain ⟨v53, h54, h⟩ := hz
        have wv53 := (y_gv_ok h54).2
        refine Vgv h54 rfl rfl rfl ?_
        have hz := y_bind h
        clear h
        obtain ⟨v55, h56, h⟩ := hz
        have wv55 := (y_gv_ok h56).2
        refine Vgv h56 rfl rfl rfl ?_
        refine Van rfl lk0 rfl rfl ?_
        have hz := y_bind h
        clear h
        obtain ⟨v57, h58, h⟩ := hz
        have wv57 := (y_gv_ok h58).2
        refine Vgv h58 rfl rfl rfl ?_
        have hz := y_bind h
        clear h
        obtain ⟨v59, h60, h⟩ := hz
        refine Zgi (q_gi_y h60) rfl rfl rfl ?_
        refine Vic (v := Int32.ofInt 1) rfl rfl rfl ?_
        refine Usub rfl rfl ?_
        have hz := y_bind h
        clear h
        obtain ⟨v61, h62, h⟩ := hz
        refine Zia (q_ia_y h62) rfl rfl ?_
        have hz := y_bind h
        clear h
        obtain ⟨v63, h64, h⟩ := hz
        refine Zia (q_ia_y h64) rfl rfl ?_
        cases h
        exact Yret rfl rfl rfl rfl rfl rfl rfl ⟨rfl, rfl⟩
      · rw [if_neg c44] at h
        refine Van rfl lk0 rfl rfl ?_
        have hz := y_bind h
        clear h
        obtain ⟨b69, h70, h⟩ := hz
        obtain ⟨eh70, fh70, wh70⟩ := y_rcv_ok h70
        cases eh70
        have hz := y_bind h
        clear h
        obtain ⟨⟨s65, r66⟩, h67, h⟩ := hz
        try dsimp only at h
        refine Vcv rfl rfl rfl wh70 rfl rfl ⟨(Nat.le_of_ble_eq_true rfl), (Nat.le_of_ble_eq_true rfl)⟩ rfl ((c_84 o n) _ (by omega) _ _ _ _ h67 _ rfl) (fun z1 z2 zq => ?_)
        obtain ⟨rfl, rfl⟩ := zq
        try dsimp only [Option.toList, HAppend.hAppend, Append.append, List.append]
        cases h
        exact Yret rfl rfl rfl rfl rfl rfl rfl ⟨rfl, rfl⟩

/-- StepRows$Walker.endPart -/
def g_83 (o : X_O) : Nat → Nat → Q_S → Nat → Int → Option (Q_S × Int)
  | 0, _, _, _, _ => none
  | n + 1, 0, s, r0, i1 => (q_gv s 6 (.ref r0) 0).bind fun v1 => (q_gv s 4 v1 1).bind fun v3 => (q_gi s 3 v3 7).bind fun v5 => (q_g (q_in i1 ∧ q_in v5)).bind fun _ => if i1 < v5 then (q_gv s 6 (.ref r0) 0).bind fun v10 => (q_gv s 4 v10 1).bind fun v12 => (q_gv s 3 v12 0).bind fun v14 => (q_ia o s v14 i1).bind fun v16 => (q_g (q_in v16)).bind fun _ => if v16 < 17 ∨ 21 < v16 then (q_rcv s 6 (.ref r0)).bind fun b24 => (g_86 o n 0 s b24).bind fun q23 => some (q23.1, q23.2) else if v16 = 17 then (q_rcv s 6 (.ref r0)).bind fun b33 => (g_85 o n 0 s b33 (i1)).bind fun q32 => some (q32.1, q32.2) else if v16 = 18 then (q_rcv s 6 (.ref r0)).bind fun b42 => (g_87 o n 0 s b42).bind fun q41 => some (q41.1, q41.2) else if v16 = 19 then (q_rcv s 6 (.ref r0)).bind fun b51 => (g_86 o n 0 s b51).bind fun q50 => some (q50.1, q50.2) else if v16 = 20 then (q_rcv s 6 (.ref r0)).bind fun b60 => (g_86 o n 0 s b60).bind fun q59 => some (q59.1, q59.2) else if v16 = 21 then (q_rcv s 6 (.ref r0)).bind fun b69 => (g_88 o n 0 s b69 (i1)).bind fun q68 => some (q68.1, q68.2) else none else (q_rcv s 6 (.ref r0)).bind fun b78 => (g_84 o n 0 s b78).bind fun q77 => some (q77.1, q77.2)
  | _ + 1, _, _, _, _ => none
set_option maxRecDepth 100000 in
set_option maxHeartbeats 4000000 in
theorem c_83 (o : X_O) : ∀ n, (∀ (d : Nat) (hd : 4 ≤ d) (s : Q_S) (r0 : Nat) (i1 : Int) (s9 : Q_S) (r : Int), g_83 o n 0 s r0 i1 = some (s9, r) → ∀ lv : X_L, x_lget lv 0 = some (.ref r0) → x_lget lv 1 = some (.int (Int32.ofInt i1)) → Y o d 83 0 lv [] (q_y s) (fun s1 r1 => s1 = q_y s9 ∧ r1 = some (.int (Int32.ofInt r)))) := by
  intro n
  induction n with
  | zero => exact fun d hd s _ _ s9 r h => (by simp only [g_83] at h; cases h)
  | succ n ih =>
    intro d hd s r0 i1 s9 r h lv lk0 lk1
    obtain ⟨d, rfl⟩ : ∃ x, d = x + 1 := ⟨d - 1, by omega⟩
    simp only [g_83] at h
    refine Vin rfl lk1 rfl ?_
    refine Van rfl lk0 rfl rfl ?_
    have hz := y_bind h
    clear h
    obtain ⟨v1, h2, h⟩ := hz
    have wv1 := (y_gv_ok h2).2
    refine Vgv h2 rfl rfl rfl ?_
    have hz := y_bind h
    clear h
    obtain ⟨v3, h4, h⟩ := hz
    have wv3 := (y_gv_ok h4).2
    refine Vgv h4 rfl rfl rfl ?_
    have hz := y_bind h
    clear h
    obtain ⟨v5, h6, h⟩ := hz
    refine Zgi (q_gi_y h6) rfl rfl rfl ?_
    have hz := y_bind h
    clear h
    obtain ⟨_, h8, h⟩ := hz
    have c7 := q_g_ok h8
    refine Uif (q_lt c7.1 c7.2) rfl rfl rfl rfl rfl rfl rfl (fun c9 => ?_) (fun c9 => ?_)
    · rw [if_pos c9] at h
      refine Van rfl lk0 rfl rfl ?_
      have hz := y_bind h
      clear h
      obtain ⟨v10, h11, h⟩ := hz
      have wv10 := (y_gv_ok h11).2
      refine Vgv h11 rfl rfl rfl ?_
      have hz := y_bind h
      clear h
      obtain ⟨v12, h13, h⟩ := hz
      have wv12 := (y_gv_ok h13).2
      refine Vgv h13 rfl rfl rfl ?_
      have hz := y_bind h
      clear h
      obtain ⟨v14, h15, h⟩ := hz
      have wv14 := (y_gv_ok h15).2
      refine Vgv h15 rfl rfl rfl ?_
      refine Vin rfl lk1 rfl ?_
      have hz := y_bind h
      clear h
      obtain ⟨v16, h17, h⟩ := hz
      refine Zia (q_ia_y h17) rfl rfl ?_
      have hz := y_bind h
      clear h
      obtain ⟨_, h19, h⟩ := hz
      have c18 := q_g_ok h19
      by_cases c28 : v16 < 17 ∨ 21 < v16
      · rw [if_pos c28] at h
        refine Ysw rfl rfl rfl rfl rfl (if_pos (by rw [q_ti c18]; exact c28)) rfl ?_
        refine Van rfl lk0 rfl rfl ?_
        have hz := y_bind h
        clear h
        obtain ⟨b24, h25, h⟩ := hz
        obtain ⟨eh25, fh25, wh25⟩ := y_rcv_ok h25
        cases eh25
        have hz := y_bind h
        clear h
        obtain ⟨⟨s20, r21⟩, h22, h⟩ := hz
        try dsimp only at h
        refine Vcv rfl rfl rfl wh25 rfl rfl ⟨(Nat.le_of_ble_eq_true rfl), (Nat.le_of_ble_eq_true rfl)⟩ rfl ((c_86 o n) _ (by omega) _ _ _ _ h22 _ rfl) (fun z1 z2 zq => ?_)
        obtain ⟨rfl, rfl⟩ := zq
        try dsimp only [Option.toList, HAppend.hAppend, Append.append, List.append]
        cases h
        exact Yret rfl rfl rfl rfl rfl rfl rfl ⟨rfl, rfl⟩
      rw [if_neg c28] at h
      by_cases c37 : v16 = 17
      · rw [if_pos c37] at h
        refine Vts (k := 17) (congrArg Int32.ofInt c37) rfl rfl rfl rfl rfl rfl rfl ?_
        refine Van rfl lk0 rfl rfl ?_
        refine Vin rfl lk1 rfl ?_
        have hz := y_bind h
        clear h
        obtain ⟨b33, h34, h⟩ := hz
        obtain ⟨eh34, fh34, wh34⟩ := y_rcv_ok h34
        cases eh34
        have hz := y_bind h
        clear h
        obtain ⟨⟨s29, r30⟩, h31, h⟩ := hz
        try dsimp only at h
        refine Vcv rfl rfl rfl wh34 rfl rfl ⟨(Nat.le_of_ble_eq_true rfl), (Nat.le_of_ble_eq_true rfl)⟩ rfl ((c_85 o n).1 _ (by omega) _ _ _ _ _ h31 _ rfl rfl) (fun z1 z2 zq => ?_)
        obtain ⟨rfl, rfl⟩ := zq
        try dsimp only [Option.toList, HAppend.hAppend, Append.append, List.append]
        cases h
        exact Yret rfl rfl rfl rfl rfl rfl rfl ⟨rfl, rfl⟩
      rw [if_neg c37] at h
      by_cases c46 : v16 = 18
      · rw [if_pos c46] at h
        refine Vts (k := 18) (congrArg Int32.ofInt c46) rfl rfl rfl rfl rfl rfl rfl ?_
        refine Van rfl lk0 rfl rfl ?_
        have hz := y_bind h
        clear h
        obtain ⟨b42, h43, h⟩ := hz
        obtain ⟨eh43, fh43, wh43⟩ := y_rcv_ok h43
        cases eh43
        have hz := y_bind h
        clear h
        obtain ⟨⟨s38, r39⟩, h40, h⟩ := hz
        try dsimp only at h
        refine Vcv rfl rfl rfl wh43 rfl rfl ⟨(Nat.le_of_ble_eq_true rfl), (Nat.le_of_ble_eq_true rfl)⟩ rfl ((c_87 o n).1 _ (by omega) _ _ _ _ h40 _ rfl) (fun z1 z2 zq => ?_)
        obtain ⟨rfl, rfl⟩ := zq
        try dsimp only [Option.toList, HAppend.hAppend, Append.append, List.append]
        cases h
        exact Yret rfl rfl rfl rfl rfl rfl rfl ⟨rfl, rfl⟩
      rw [if_neg c46] at h
      by_cases c55 : v16 = 19
      · rw [if_pos c55] at h
        refine Vts (k := 19) (congrArg Int32.ofInt c55) rfl rfl rfl rfl rfl rfl rfl ?_
        refine Van rfl lk0 rfl rfl ?_
        have hz := y_bind h
        clear h
        obtain ⟨b51, h52, h⟩ := hz
        obtain ⟨eh52, fh52, wh52⟩ := y_rcv_ok h52
        cases eh52
        have hz := y_bind h
        clear h
        obtain ⟨⟨s47, r48⟩, h49, h⟩ := hz
        try dsimp only at h
        refine Vcv rfl rfl rfl wh52 rfl rfl ⟨(Nat.le_of_ble_eq_true rfl), (Nat.le_of_ble_eq_true rfl)⟩ rfl ((c_86 o n) _ (by omega) _ _ _ _ h49 _ rfl) (fun z1 z2 zq => ?_)
        obtain ⟨rfl, rfl⟩ := zq
        try dsimp only [Option.toList, HAppend.hAppend, Append.append, List.append]
        cases h
        exact Yret rfl rfl rfl rfl rfl rfl rfl ⟨rfl, rfl⟩
      rw [if_neg c55] at h
      by_cases c64 : v16 = 20
      · rw [if_pos c64] at h
        refine Vts (k := 20) (congrArg Int32.ofInt c64) rfl rfl rfl rfl rfl rfl rfl ?_
        refine Van rfl lk0 rfl rfl ?_
        have hz := y_bind h
        clear h
        obtain ⟨b60, h61, h⟩ := hz
        obtain ⟨eh61, fh61, wh61⟩ := y_rcv_ok h61
        cases eh61
        have hz := y_bind h
        clear h
        obtain ⟨⟨s56, r57⟩, h58, h⟩ := hz
        try dsimp only at h
        refine Vcv rfl rfl rfl wh61 rfl rfl ⟨(Nat.le_of_ble_eq_true rfl), (Nat.le_of_ble_eq_true rfl)⟩ rfl ((c_86 o n) _ (by omega) _ _ _ _ h58 _ rfl) (fun z1 z2 zq => ?_)
        obtain ⟨rfl, rfl⟩ := zq
        try dsimp only [Option.toList, HAppend.hAppend, Append.append, List.append]
        cases h
        exact Yret rfl rfl rfl rfl rfl rfl rfl ⟨rfl, rfl⟩
      rw [if_neg c64] at h
      by_cases c73 : v16 = 21
      · rw [if_pos c73] at h
        refine Vts (k := 21) (congrArg Int32.ofInt c73) rfl rfl rfl rfl rfl rfl rfl ?_
        refine Van rfl lk0 rfl rfl ?_
        refine Vin rfl lk1 rfl ?_
        have hz := y_bind h
        clear h
        obtain ⟨b69, h70, h⟩ := hz
        obtain ⟨eh70, fh70, wh70⟩ := y_rcv_ok h70
        cases eh70
        have hz := y_bind h
        clear h
        obtain ⟨⟨s65, r66⟩, h67, h⟩ := hz
        try dsimp only at h
        refine Vcv rfl rfl rfl wh70 rfl rfl ⟨(Nat.le_of_ble_eq_true rfl), (Nat.le_of_ble_eq_true rfl)⟩ rfl ((c_88 o n) _ (by omega) _ _ _ _ _ h67 _ rfl rfl) (fun z1 z2 zq => ?_)
        obtain ⟨rfl, rfl⟩ := zq
        try dsimp only [Option.toList, HAppend.hAppend, Append.append, List.append]
        cases h
        exact Yret rfl rfl rfl rfl rfl rfl rfl ⟨rfl, rfl⟩
      rw [if_neg c73] at h
      cases h
    · rw [if_neg c9] at h
      refine Van rfl lk0 rfl rfl ?_
      have hz := y_bind h
      clear h
      obtain ⟨b78, h79, h⟩ := hz
      obtain ⟨eh79, fh79, wh79⟩ := y_rcv_ok h79
      cases eh79
      have hz := y_bind h
      clear h
      obtain ⟨⟨s74, r75⟩, h76, h⟩ := hz
      try dsimp only at h
      refine Vcv rfl rfl rfl wh79 rfl rfl ⟨(Nat.le_of_ble_eq_true rfl), (Nat.le_of_ble_eq_true rfl)⟩ rfl ((c_84 o n) _ (by omega) _ _ _ _ h76 _ rfl) (fun z1 z2 zq => ?_)
      obtain ⟨rfl, rfl⟩ := zq
      try dsimp only [Option.toList, HAppend.hAppend, Append.append, List.append]
      cases h
      exact Yret rfl rfl rfl rfl rfl rfl rfl ⟨rfl, rfl⟩

/-- StepRows$Walker.moveRamp -/
def g_90 (o : X_O) : Nat → Nat → Q_S → Nat → Int → Int64 → Int64 → Int64 → Option (Q_S × Unit)
  | 0, _, _, _, _, _, _, _ => none
  | n + 1, 0, s, r0, i1, l2, l6, tl0 => (q_gv s 6 (.ref r0) 1).bind fun v1 => (q_gv s 5 v1 8).bind fun v3 => (q_la s v3 i1).bind fun v5 => (q_gv s 6 (.ref r0) 1).bind fun v7 => (q_gv s 5 v7 9).bind fun v9 => (q_la s v9 i1).bind fun v11 => (q_gv s 6 (.ref r0) 1).bind fun v13 => (q_gv s 5 v13 7).bind fun v15 => (q_la s v15 i1).bind fun v17 => if v17 ≤ l2 then g_90 o n 1 s r0 (i1) 0 (v11) 0 else if v17 ≤ 0 then g_90 o n 1 s r0 (i1) 0 (v11) 0 else (q_g (¬ v17 = 0)).bind fun _ => g_90 o n 2 s r0 (i1) 0 0 ((v5 + (((v11 - v5) * l2) / v17)))
  | n + 1, 1, s, r0, i1, l2, l6, tl0 => g_90 o n 2 s r0 (i1) 0 0 (l6)
  | n + 1, 2, s, r0, i1, l2, l6, tl0 => (q_gv s 6 (.ref r0) 0).bind fun v1 => (q_gv s 4 v1 9).bind fun v3 => (q_gv s 6 (.ref r0) 0).bind fun v5 => (q_gv s 4 v5 1).bind fun v7 => (q_gv s 3 v7 1).bind fun v9 => (q_gv s 6 (.ref r0) 1).bind fun v11 => (q_gv s 5 v11 1).bind fun v13 => (q_ia o s v13 i1).bind fun v15 => (q_la s v9 v15).bind fun v17 => (q_ls s v3 (v17).toInt tl0).bind fun s19 => some (s19, ())
  | _ + 1, _, _, _, _, _, _, _ => none
set_option maxRecDepth 100000 in
set_option maxHeartbeats 4000000 in
theorem c_90 (o : X_O) : ∀ n, (∀ (d : Nat) (hd : 0 ≤ d) (s : Q_S) (r0 : Nat) (i1 : Int) (l2 : Int64) (l6 : Int64) (tl0 : Int64) (s9 : Q_S) (r : Unit), g_90 o n 0 s r0 i1 l2 l6 tl0 = some (s9, r) → ∀ lv : X_L, x_lget lv 0 = some (.ref r0) → x_lget lv 1 = some (.int (Int32.ofInt i1)) → x_lget lv 2 = some (.long l2) → Y o d 90 0 lv [] (q_y s) (fun s1 r1 => s1 = q_y s9 ∧ r1 = none)) ∧
    (∀ (d : Nat) (hd : 0 ≤ d) (s : Q_S) (r0 : Nat) (i1 : Int) (l2 : Int64) (l6 : Int64) (tl0 : Int64) (s9 : Q_S) (r : Unit), g_90 o n 1 s r0 i1 l2 l6 tl0 = some (s9, r) → ∀ lv : X_L, x_lget lv 0 = some (.ref r0) → x_lget lv 1 = some (.int (Int32.ofInt i1)) → x_lget lv 6 = some (.long l6) → Y o d 90 63 lv [] (q_y s) (fun s1 r1 => s1 = q_y s9 ∧ r1 = none)) ∧
    (∀ (d : Nat) (hd : 0 ≤ d) (s : Q_S) (r0 : Nat) (i1 : Int) (l2 : Int64) (l6 : Int64) (tl0 : Int64) (s9 : Q_S) (r : Unit), g_90 o n 2 s r0 i1 l2 l6 tl0 = some (s9, r) → ∀ lv : X_L, x_lget lv 0 = some (.ref r0) → x_lget lv 1 = some (.int (Int32.ofInt i1)) → Y o d 90 65 lv [.long tl0] (q_y s) (fun s1 r1 => s1 = q_y s9 ∧ r1 = none)) := by
  intro n
  induction n with
  | zero => exact ⟨fun d hd s _ _ _ _ _ s9 r h => (by simp only [g_90] at h; cases h), fun d hd s _ _ _ _ _ s9 r h => (by simp only [g_90] at h; cases h), fun d hd s _ _ _ _ _ s9 r h => (by simp only [g_90] at h; cases h)⟩
  | succ n ih =>
    refine ⟨?_, ?_, ?_⟩
    · intro d hd s r0 i1 l2 l6 tl0 s9 r h lv lk0 lk1 lk2
      simp only [g_90] at h
      refine Van rfl lk0 rfl rfl ?_
      have hz := y_bind h
      clear h
      obtain ⟨v1, h2, h⟩ := hz
      have wv1 := (y_gv_ok h2).2
      refine Vgv h2 rfl rfl rfl ?_
      have hz := y_bind h
      clear h
      obtain ⟨v3, h4, h⟩ := hz
      have wv3 := (y_gv_ok h4).2
      refine Vgv h4 rfl rfl rfl ?_
      refine Vin rfl lk1 rfl ?_
      have hz := y_bind h
      clear h
      obtain ⟨v5, h6, h⟩ := hz
      refine Zla (q_la_y h6) rfl rfl ?_
      refine Vsl rfl rfl (fun lv lk4 hk => ?_)
      have lk0 := hk 0 _ lk0 (by decide) (by decide) (Or.inl (by decide))
      have lk1 := hk 1 _ lk1 (by decide) (by decide) (Or.inl (by decide))
      have lk2 := hk 2 _ lk2 (by decide) (by decide) (Or.inl (by decide))
      refine Van rfl lk0 rfl rfl ?_
      have hz := y_bind h
      clear h
      obtain ⟨v7, h8, h⟩ := hz
      have wv7 := (y_gv_ok h8).2
      refine Vgv h8 rfl rfl rfl ?_
      have hz := y_bind h
      clear h
      obtain ⟨v9, h10, h⟩ := hz
      have wv9 := (y_gv_ok h10).2
      refine Vgv h10 rfl rfl rfl ?_
      refine Vin rfl lk1 rfl ?_
      have hz := y_bind h
      clear h
      obtain ⟨v11, h12, h⟩ := hz
      refine Zla (q_la_y h12) rfl rfl ?_
      refine Vsl rfl rfl (fun lv lk6 hk => ?_)
      have lk0 := hk 0 _ lk0 (by decide) (by decide) (Or.inl (by decide))
      have lk1 := hk 1 _ lk1 (by decide) (by decide) (Or.inl (by decide))
      have lk2 := hk 2 _ lk2 (by decide) (by decide) (Or.inl (by decide))
      have lk4 := hk 4 _ lk4 (by decide) (by decide) (Or.inl (by decide))
      refine Van rfl lk0 rfl rfl ?_
      have hz := y_bind h
      clear h
      obtain ⟨v13, h14, h⟩ := hz
      have wv13 := (y_gv_ok h14).2
      refine Vgv h14 rfl rfl rfl ?_
      have hz := y_bind h
      clear h
      obtain ⟨v15, h16, h⟩ := hz
      have wv15 := (y_gv_ok h16).2
      refine Vgv h16 rfl rfl rfl ?_
      refine Vin rfl lk1 rfl ?_
      have hz := y_bind h
      clear h
      obtain ⟨v17, h18, h⟩ := hz
      refine Zla (q_la_y h18) rfl rfl ?_
      refine Vsl rfl rfl (fun lv lk8 hk => ?_)
      have lk0 := hk 0 _ lk0 (by decide) (by decide) (Or.inl (by decide))
      have lk1 := hk 1 _ lk1 (by decide) (by decide) (Or.inl (by decide))
      have lk2 := hk 2 _ lk2 (by decide) (by decide) (Or.inl (by decide))
      have lk4 := hk 4 _ lk4 (by decide) (by decide) (Or.inl (by decide))
      have lk6 := hk 6 _ lk6 (by decide) (by decide) (Or.inl (by decide))
      refine Vln rfl lk2 rfl ?_
      refine Vl rfl lk8 rfl ?_
      refine Ya rfl rfl rfl ?_
      refine Uif (lg_cmp_ge _ _) rfl rfl rfl rfl rfl rfl rfl (fun c19 => ?_) (fun c19 => ?_)
      · rw [if_pos c19] at h
        exact ih.2.1 _ hd _ _ _ _ _ _ _ _ h lv lk0 lk1 lk6
      · rw [if_neg c19] at h
        refine Vl rfl lk8 rfl ?_
        refine Vlc (v := 0) rfl (by decide) rfl ?_
        refine Ya rfl rfl rfl ?_
        refine Uif (lg_cmp_le _ _) rfl rfl rfl rfl rfl rfl rfl (fun c20 => ?_) (fun c20 => ?_)
        · rw [if_pos c20] at h
          exact ih.2.1 _ hd _ _ _ _ _ _ _ _ h lv lk0 lk1 lk6
        · rw [if_neg c20] at h
          refine Vl rfl lk4 rfl ?_
          refine Vl rfl lk6 rfl ?_
          refine Vl rfl lk4 rfl ?_
          refine Ya rfl rfl rfl ?_
          refine Vln rfl lk2 rfl ?_
          refine Ya rfl rfl rfl ?_
          refine Vl rfl lk8 rfl ?_
          have hz := y_bind h
          clear h
          obtain ⟨_, h22, h⟩ := hz
          have c21 := q_g_ok h22
          refine Ya rfl (if_neg c21) rfl ?_
          refine Ya rfl rfl rfl ?_
          refine Ygo rfl rfl rfl rfl rfl rfl ?_
          exact ih.2.2 _ hd _ _ _ _ _ _ _ _ h lv lk0 lk1
    · intro d hd s r0 i1 l2 l6 tl0 s9 r h lv lk0 lk1 lk6
      simp only [g_90] at h
      refine Vl rfl lk6 rfl ?_
      exact ih.2.2 _ hd _ _ _ _ _ _ _ _ h lv lk0 lk1
    · intro d hd s r0 i1 l2 l6 tl0 s9 r h lv lk0 lk1
      simp only [g_90] at h
      refine Vsl rfl rfl (fun lv lk10 hk => ?_)
      have lk0 := hk 0 _ lk0 (by decide) (by decide) (Or.inl (by decide))
      have lk1 := hk 1 _ lk1 (by decide) (by decide) (Or.inl (by decide))
      refine Van rfl lk0 rfl rfl ?_
      have hz := y_bind h
      clear h
      obtain ⟨v1, h2, h⟩ := hz
      have wv1 := (y_gv_ok h2).2
      refine Vgv h2 rfl rfl rfl ?_
      have hz := y_bind h
      clear h
      obtain ⟨v3, h4, h⟩ := hz
      have wv3 := (y_gv_ok h4).2
      refine Vgv h4 rfl rfl rfl ?_
      refine Van rfl lk0 rfl rfl ?_
      have hz := y_bind h
      clear h
      obtain ⟨v5, h6, h⟩ := hz
      have wv5 := (y_gv_ok h6).2
      refine Vgv h6 rfl rfl rfl ?_
      have hz := y_bind h
      clear h
      obtain ⟨v7, h8, h⟩ := hz
      have wv7 := (y_gv_ok h8).2
      refine Vgv h8 rfl rfl rfl ?_
      have hz := y_bind h
      clear h
      obtain ⟨v9, h10, h⟩ := hz
      have wv9 := (y_gv_ok h10).2
      refine Vgv h10 rfl rfl rfl ?_
      refine Van rfl lk0 rfl rfl ?_
      have hz := y_bind h
      clear h
      obtain ⟨v11, h12, h⟩ := hz
      have wv11 := (y_gv_ok h12).2
      refine Vgv h12 rfl rfl rfl ?_
      have hz := y_bind h
      clear h
      obtain ⟨v13, h14, h⟩ := hz
      have wv13 := (y_gv_ok h14).2
      refine Vgv h14 rfl rfl rfl ?_
      refine Vin rfl lk1 rfl ?_
      have hz := y_bind h
      clear h
      obtain ⟨v15, h16, h⟩ := hz
      refine Zia (q_ia_y h16) rfl rfl ?_
      have hz := y_bind h
      clear h
      obtain ⟨v17, h18, h⟩ := hz
      refine Zla (q_la_y h18) rfl rfl ?_
      refine Ul2i rfl rfl ?_
      refine Vl rfl lk10 rfl ?_
      have hz := y_bind h
      clear h
      obtain ⟨s19, h20, h⟩ := hz
      refine Zls (q_ls_y h20) rfl rfl ?_
      cases h
      exact Yret rfl rfl rfl rfl rfl rfl rfl ⟨rfl, rfl⟩

/-- StepRows$Walker.visit -/
def g_89 (o : X_O) : Nat → Nat → Q_S → Nat → Int → Int → Int64 → Option (Q_S × Int)
  | 0, _, _, _, _, _, _ => none
  | n + 1, 0, s, r0, i1, i2, l3 => (q_gv s 6 (.ref r0) 1).bind fun v1 => (q_gv s 5 v1 1).bind fun v3 => (q_ia o s v3 i1).bind fun v5 => (q_gv s 6 (.ref r0) 1).bind fun v7 => (q_gv s 5 v7 2).bind fun v9 => (q_ia o s v9 i1).bind fun v11 => (q_pi s 6 (.ref r0) 4 v11).bind fun s13 => (q_gv s13 6 (.ref r0) 1).bind fun v15 => (q_gv s13 5 v15 0).bind fun v17 => (q_ia o s13 v17 i1).bind fun v19 => (q_g (q_in v19)).bind fun _ => if ¬ v19 = 40 then (q_gv s13 6 (.ref r0) 0).bind fun v24 => (q_gi s13 4 v24 3).bind fun v26 => (q_gv s13 6 (.ref r0) 1).bind fun v28 => (q_gv s13 5 v28 6).bind fun v30 => (q_ia o s13 v30 i1).bind fun v32 => (q_g (q_in (v26 - v32))).bind fun _ => (q_gv s13 6 (.ref r0) 1).bind fun v36 => (q_gv s13 5 v36 0).bind fun v38 => (q_ia o s13 v38 i1).bind fun v40 => (q_g (q_in v40)).bind fun _ => if ¬ v40 = 13 then g_89 o n 1 s13 r0 (i1) (v5) ((Int64.ofInt (v26 - v32))) else (q_rcv s13 6 (.ref r0)).bind fun b49 => (g_90 o n 0 s13 b49 (i1) ((Int64.ofInt (v26 - v32))) 0 0).bind fun q48 => g_89 o n 1 q48.1 r0 (i1) (v5) ((Int64.ofInt (v26 - v32))) else (q_gv s13 6 (.ref r0) 1).bind fun v53 => (q_rcv s13 5 v53).bind fun b59 => (g_54 o n 0 s13 b59 (i1)).bind fun q58 => some (q58.1, v5)
  | n + 1, 1, s, r0, i1, i2, l3 => (q_gv s 6 (.ref r0) 1).bind fun v1 => (q_gv s 5 v1 7).bind fun v3 => (q_la s v3 i1).bind fun v5 => if v5 ≤ l3 then (q_gv s 6 (.ref r0) 1).bind fun v8 => (q_rcv s 5 v8).bind fun b14 => (g_54 o n 0 s b14 (i1)).bind fun q13 => (q_gv q13.1 6 (.ref r0) 0).bind fun v18 => (q_gv q13.1 4 v18 1).bind fun v20 => (q_gv q13.1 3 v20 3).bind fun v22 => (q_ia o q13.1 v22 i2).bind fun v24 => some (q13.1, v24) else (q_rcv s 6 (.ref r0)).bind fun b30 => (g_75 o n 0 s b30 (i1)).bind fun q29 => some (q29.1, q29.2)
  | _ + 1, _, _, _, _, _, _ => none
set_option maxRecDepth 100000 in
set_option maxHeartbeats 4000000 in
theorem c_89 (o : X_O) : ∀ n, (∀ (d : Nat) (hd : 3 ≤ d) (s : Q_S) (r0 : Nat) (i1 : Int) (i2 : Int) (l3 : Int64) (s9 : Q_S) (r : Int), g_89 o n 0 s r0 i1 i2 l3 = some (s9, r) → ∀ lv : X_L, x_lget lv 0 = some (.ref r0) → x_lget lv 1 = some (.int (Int32.ofInt i1)) → Y o d 89 0 lv [] (q_y s) (fun s1 r1 => s1 = q_y s9 ∧ r1 = some (.int (Int32.ofInt r)))) ∧
    (∀ (d : Nat) (hd : 3 ≤ d) (s : Q_S) (r0 : Nat) (i1 : Int) (i2 : Int) (l3 : Int64) (s9 : Q_S) (r : Int), g_89 o n 1 s r0 i1 i2 l3 = some (s9, r) → ∀ lv : X_L, x_lget lv 0 = some (.ref r0) → x_lget lv 1 = some (.int (Int32.ofInt i1)) → x_lget lv 2 = some (.int (Int32.ofInt i2)) → x_lget lv 3 = some (.long l3) → Y o d 89 86 lv [] (q_y s) (fun s1 r1 => s1 = q_y s9 ∧ r1 = some (.int (Int32.ofInt r)))) := by
  intro n
  induction n with
  | zero => exact ⟨fun d hd s _ _ _ _ s9 r h => (by simp only [g_89] at h; cases h), fun d hd s _ _ _ _ s9 r h => (by simp only [g_89] at h; cases h)⟩
  | succ n ih =>
    refine ⟨?_, ?_⟩
    · intro d hd s r0 i1 i2 l3 s9 r h lv lk0 lk1
      obtain ⟨d, rfl⟩ : ∃ x, d = x + 1 := ⟨d - 1, by omega⟩
      simp only [g_89] at h
      refine Van rfl lk0 rfl rfl ?_
      have hz := y_bind h
      clear h
      obtain ⟨v1, h2, h⟩ := hz
      have wv1 := (y_gv_ok h2).2
      refine Vgv h2 rfl rfl rfl ?_
      have hz := y_bind h
      clear h
      obtain ⟨v3, h4, h⟩ := hz
      have wv3 := (y_gv_ok h4).2
      refine Vgv h4 rfl rfl rfl ?_
      refine Vin rfl lk1 rfl ?_
      have hz := y_bind h
      clear h
      obtain ⟨v5, h6, h⟩ := hz
      refine Zia (q_ia_y h6) rfl rfl ?_
      refine Vsin rfl rfl (fun lv lk2 hk => ?_)
      have lk0 := hk 0 _ lk0 (by decide) (by decide) (Or.inl (by decide))
      have lk1 := hk 1 _ lk1 (by decide) (by decide) (Or.inr rfl)
      refine Van rfl lk0 rfl rfl ?_
      refine Van rfl lk0 rfl rfl ?_
      have hz := y_bind h
      clear h
      obtain ⟨v7, h8, h⟩ := hz
      have wv7 := (y_gv_ok h8).2
      refine Vgv h8 rfl rfl rfl ?_
      have hz := y_bind h
      clear h
      obtain ⟨v9, h10, h⟩ := hz
      have wv9 := (y_gv_ok h10).2
      refine Vgv h10 rfl rfl rfl ?_
      refine Vin rfl lk1 rfl ?_
      have hz := y_bind h
      clear h
      obtain ⟨v11, h12, h⟩ := hz
      refine Zia (q_ia_y h12) rfl rfl ?_
      have hz := y_bind h
      clear h
      obtain ⟨s13, h14, h⟩ := hz
      refine Zpi (q_pi_y h14) rfl rfl rfl rfl ?_
      refine Van rfl lk0 rfl rfl ?_
      have hz := y_bind h
      clear h
      obtain ⟨v15, h16, h⟩ := hz
      have wv15 := (y_gv_ok h16).2
      refine Vgv h16 rfl rfl rfl ?_
      have hz := y_bind h
      clear h
      obtain ⟨v17, h18, h⟩ := hz
      have wv17 := (y_gv_ok h18).2
      refine Vgv h18 rfl rfl rfl ?_
      refine Vin rfl lk1 rfl ?_
      have hz := y_bind h
      clear h
      obtain ⟨v19, h20, h⟩ := hz
      refine Zia (q_ia_y h20) rfl rfl ?_
      refine Vbp (v := Int32.ofInt 40) rfl (by decide) rfl ?_
      have hz := y_bind h
      clear h
      obtain ⟨_, h22, h⟩ := hz
      have c21 := q_g_ok h22
      refine Uif (not_congr (q_eq c21 (by decide))) rfl rfl rfl rfl rfl rfl rfl (fun c23 => ?_) (fun c23 => ?_)
      · rw [if_pos c23] at h
        refine Van rfl lk0 rfl rfl ?_
        have hz := y_bind h
        clear h
        obtain ⟨v24, h25, h⟩ := hz
        have wv24 := (y_gv_ok h25).2
        refine Vgv h25 rfl rfl rfl ?_
        have hz := y_bind h
        clear h
        obtain ⟨v26, h27, h⟩ := hz
        refine Zgi (q_gi_y h27) rfl rfl rfl ?_
        refine Van rfl lk0 rfl rfl ?_
        have hz := y_bind h
        clear h
        obtain ⟨v28, h29, h⟩ := hz
        have wv28 := (y_gv_ok h29).2
        refine Vgv h29 rfl rfl rfl ?_
        have hz := y_bind h
        clear h
        obtain ⟨v30, h31, h⟩ := hz
        have wv30 := (y_gv_ok h31).2
        refine Vgv h31 rfl rfl rfl ?_
        refine Vin rfl lk1 rfl ?_
        have hz := y_bind h
        clear h
        obtain ⟨v32, h33, h⟩ := hz
        refine Zia (q_ia_y h33) rfl rfl ?_
        refine Usub rfl rfl ?_
        have hz := y_bind h
        clear h
        obtain ⟨_, h35, h⟩ := hz
        have c34 := q_g_ok h35
        refine Ui2l c34 rfl rfl ?_
        refine Vsln rfl rfl (fun lv lk3 hk => ?_)
        have lk0 := hk 0 _ lk0 (by decide) (by decide) (Or.inl (by decide))
        have lk1 := hk 1 _ lk1 (by decide) (by decide) (Or.inl (by decide))
        have lk2 := hk 2 _ lk2 (by decide) (by decide) (Or.inr rfl)
        refine Van rfl lk0 rfl rfl ?_
        have hz := y_bind h
        clear h
        obtain ⟨v36, h37, h⟩ := hz
        have wv36 := (y_gv_ok h37).2
        refine Vgv h37 rfl rfl rfl ?_
        have hz := y_bind h
        clear h
        obtain ⟨v38, h39, h⟩ := hz
        have wv38 := (y_gv_ok h39).2
        refine Vgv h39 rfl rfl rfl ?_
        refine Vin rfl lk1 rfl ?_
        have hz := y_bind h
        clear h
        obtain ⟨v40, h41, h⟩ := hz
        refine Zia (q_ia_y h41) rfl rfl ?_
        refine Vbp (v := Int32.ofInt 13) rfl (by decide) rfl ?_
        have hz := y_bind h
        clear h
        obtain ⟨_, h43, h⟩ := hz
        have c42 := q_g_ok h43
        refine Uif (not_congr (q_eq c42 (by decide))) rfl rfl rfl rfl rfl rfl rfl (fun c44 => ?_) (fun c44 => ?_)
        · rw [if_pos c44] at h
          exact ih.2 _ hd _ _ _ _ _ _ _ h lv lk0 lk1 lk2 lk3
        · rw [if_neg c44] at h
          refine Van rfl lk0 rfl rfl ?_
          refine Vin rfl lk1 rfl ?_
          refine Vln rfl lk3 rfl ?_
          have hz := y_bind h
          clear h
          obtain ⟨b49, h50, h⟩ := hz
          obtain ⟨eh50, fh50, wh50⟩ := y_rcv_ok h50
          cases eh50
          have hz := y_bind h
          clear h
          obtain ⟨⟨s45, r46⟩, h47, h⟩ := hz
          try dsimp only at h
          refine Vcv rfl rfl rfl wh50 rfl rfl ⟨(Nat.le_of_ble_eq_true rfl), (Nat.le_of_ble_eq_true rfl)⟩ rfl ((c_90 o n).1 _ (by omega) _ _ _ _ _ _ _ _ h47 _ rfl rfl rfl) (fun z1 z2 zq => ?_)
          obtain ⟨rfl, rfl⟩ := zq
          try dsimp only [Option.toList, HAppend.hAppend, Append.append, List.append]
          exact ih.2 _ hd _ _ _ _ _ _ _ h lv lk0 lk1 lk2 lk3
      · rw [if_neg c23] at h
        refine Van rfl lk0 rfl rfl ?_
        have hz := y_bind h
        clear h
        obtain ⟨v53, h54, h⟩ := hz
        have wv53 := (y_gv_ok h54).2
        refine Vgv h54 rfl rfl rfl ?_
        refine Vin rfl lk1 rfl ?_
        have hz := y_bind h
        clear h
        obtain ⟨b59, h60, h⟩ := hz
        obtain ⟨eh60, fh60, wh60⟩ := y_rcv_ok h60
        cases eh60
        have hz := y_bind h
        clear h
        obtain ⟨⟨s55, r56⟩, h57, h⟩ := hz
        try dsimp only at h
        refine Vcv rfl rfl rfl wh60 rfl rfl ⟨(Nat.le_of_ble_eq_true rfl), (Nat.le_of_ble_eq_true rfl)⟩ rfl ((c_54 o n).1 _ (by omega) _ _ _ _ _ h57 _ rfl rfl) (fun z1 z2 zq => ?_)
        obtain ⟨rfl, rfl⟩ := zq
        try dsimp only [Option.toList, HAppend.hAppend, Append.append, List.append]
        refine Vin rfl lk2 rfl ?_
        cases h
        exact Yret rfl rfl rfl rfl rfl rfl rfl ⟨rfl, rfl⟩
    · intro d hd s r0 i1 i2 l3 s9 r h lv lk0 lk1 lk2 lk3
      obtain ⟨d, rfl⟩ : ∃ x, d = x + 1 := ⟨d - 1, by omega⟩
      simp only [g_89] at h
      refine Vln rfl lk3 rfl ?_
      refine Van rfl lk0 rfl rfl ?_
      have hz := y_bind h
      clear h
      obtain ⟨v1, h2, h⟩ := hz
      have wv1 := (y_gv_ok h2).2
      refine Vgv h2 rfl rfl rfl ?_
      have hz := y_bind h
      clear h
      obtain ⟨v3, h4, h⟩ := hz
      have wv3 := (y_gv_ok h4).2
      refine Vgv h4 rfl rfl rfl ?_
      refine Vin rfl lk1 rfl ?_
      have hz := y_bind h
      clear h
      obtain ⟨v5, h6, h⟩ := hz
      refine Zla (q_la_y h6) rfl rfl ?_
      refine Ya rfl rfl rfl ?_
      refine Uif (lg_cmp_ge _ _) rfl rfl rfl rfl rfl rfl rfl (fun c7 => ?_) (fun c7 => ?_)
      · rw [if_pos c7] at h
        refine Van rfl lk0 rfl rfl ?_
        have hz := y_bind h
        clear h
        obtain ⟨v8, h9, h⟩ := hz
        have wv8 := (y_gv_ok h9).2
        refine Vgv h9 rfl rfl rfl ?_
        refine Vin rfl lk1 rfl ?_
        have hz := y_bind h
        clear h
        obtain ⟨b14, h15, h⟩ := hz
        obtain ⟨eh15, fh15, wh15⟩ := y_rcv_ok h15
        cases eh15
        have hz := y_bind h
        clear h
        obtain ⟨⟨s10, r11⟩, h12, h⟩ := hz
        try dsimp only at h
        refine Vcv rfl rfl rfl wh15 rfl rfl ⟨(Nat.le_of_ble_eq_true rfl), (Nat.le_of_ble_eq_true rfl)⟩ rfl ((c_54 o n).1 _ (by omega) _ _ _ _ _ h12 _ rfl rfl) (fun z1 z2 zq => ?_)
        obtain ⟨rfl, rfl⟩ := zq
        try dsimp only [Option.toList, HAppend.hAppend, Append.append, List.append]
        refine Van rfl lk0 rfl rfl ?_
        have hz := y_bind h
        clear h
        obtain ⟨v18, h19, h⟩ := hz
        have wv18 := (y_gv_ok h19).2
        refine Vgv h19 rfl rfl rfl ?_
        have hz := y_bind h
        clear h
        obtain ⟨v20, h21, h⟩ := hz
        have wv20 := (y_gv_ok h21).2
        refine Vgv h21 rfl rfl rfl ?_
        have hz := y_bind h
        clear h
        obtain ⟨v22, h23, h⟩ := hz
        have wv22 := (y_gv_ok h23).2
        refine Vgv h23 rfl rfl rfl ?_
        refine Vin rfl lk2 rfl ?_
        have hz := y_bind h
        clear h
        obtain ⟨v24, h25, h⟩ := hz
        refine Zia (q_ia_y h25) rfl rfl ?_
        cases h
        exact Yret rfl rfl rfl rfl rfl rfl rfl ⟨rfl, rfl⟩
      · rw [if_neg c7] at h
        refine Van rfl lk0 rfl rfl ?_
        refine Vin rfl lk1 rfl ?_
        have hz := y_bind h
        clear h
        obtain ⟨b30, h31, h⟩ := hz
        obtain ⟨eh31, fh31, wh31⟩ := y_rcv_ok h31
        cases eh31
        have hz := y_bind h
        clear h
        obtain ⟨⟨s26, r27⟩, h28, h⟩ := hz
        try dsimp only at h
        refine Vcv rfl rfl rfl wh31 rfl rfl ⟨(Nat.le_of_ble_eq_true rfl), (Nat.le_of_ble_eq_true rfl)⟩ rfl ((c_75 o n) _ (by omega) _ _ _ _ _ h28 _ rfl rfl) (fun z1 z2 zq => ?_)
        obtain ⟨rfl, rfl⟩ := zq
        try dsimp only [Option.toList, HAppend.hAppend, Append.append, List.append]
        cases h
        exact Yret rfl rfl rfl rfl rfl rfl rfl ⟨rfl, rfl⟩

/-- StepRows$Walker.goOn -/
def g_68 (o : X_O) : Nat → Nat → Q_S → Nat → Int → Int → Option (Q_S × Unit)
  | 0, _, _, _, _, _ => none
  | n + 1, 0, s, r0, i1, i2 => (q_pi s 6 (.ref r0) 6 0).bind fun s1 => (q_gv s1 6 (.ref r0) 1).bind fun v3 => (q_gv s1 6 (.ref r0) 1).bind fun v5 => (q_gi s1 5 v5 10).bind fun v7 => (q_rcv s1 5 v3).bind fun b13 => (g_57 o n 0 s1 b13 (v7) 0 0).bind fun q12 => (q_pi q12.1 6 (.ref r0) 5 q12.2).bind fun s17 => g_68 o n 1 s17 r0 ((-1000000)) (0)
  | n + 1, 1, s, r0, i1, i2 => (q_g (q_in i2)).bind fun _ => if 1000000 ≤ i2 then g_68 o n 3 s 0 0 0 else (q_gv s 6 (.ref r0) 0).bind fun v4 => (q_rcv s 4 v4).bind fun b10 => (g_43 o n 0 s b10 0).bind fun q9 => (q_g (q_in q9.2)).bind fun _ => if q9.2 = 0 then g_68 o n 3 q9.1 0 0 0 else (q_g (q_in i1)).bind fun _ => if i1 < 0 then (q_g (q_in i1)).bind fun _ => if i1 = (-1000000) then (q_gi q9.1 6 (.ref r0) 5).bind fun v23 => (q_g (q_in v23)).bind fun _ => if v23 = (-1) then g_68 o n 3 q9.1 0 0 0 else (q_gi q9.1 6 (.ref r0) 5).bind fun v28 => (q_rcv q9.1 6 (.ref r0)).bind fun b34 => (g_89 o n 0 q9.1 b34 (v28) 0 0).bind fun q33 => g_68 o n 2 q33.1 r0 (q33.2) (i2) else (q_rcv q9.1 6 (.ref r0)).bind fun b42 => (g_83 o n 0 q9.1 b42 ((-1 - i1))).bind fun q41 => g_68 o n 2 q41.1 r0 (q41.2) (i2) else (q_rcv q9.1 6 (.ref r0)).bind fun b50 => (g_69 o n 0 q9.1 b50 (i1) .null 0).bind fun q49 => g_68 o n 2 q49.1 r0 (q49.2) (i2)
  | n + 1, 2, s, r0, i1, i2 => g_68 o n 1 s r0 (i1) ((i2 + 1))
  | n + 1, 3, s, r0, i1, i2 => some (s, ())
  | _ + 1, _, _, _, _, _ => none
set_option maxRecDepth 100000 in
set_option maxHeartbeats 4000000 in
theorem c_68 (o : X_O) : ∀ n, (∀ (d : Nat) (hd : 7 ≤ d) (s : Q_S) (r0 : Nat) (i1 : Int) (i2 : Int) (s9 : Q_S) (r : Unit), g_68 o n 0 s r0 i1 i2 = some (s9, r) → ∀ lv : X_L, x_lget lv 0 = some (.ref r0) → Y o d 68 0 lv [] (q_y s) (fun s1 r1 => s1 = q_y s9 ∧ r1 = none)) ∧
    (∀ (d : Nat) (hd : 7 ≤ d) (s : Q_S) (r0 : Nat) (i1 : Int) (i2 : Int) (s9 : Q_S) (r : Unit), g_68 o n 1 s r0 i1 i2 = some (s9, r) → ∀ lv : X_L, x_lget lv 0 = some (.ref r0) → x_lget lv 1 = some (.int (Int32.ofInt i1)) → x_lget lv 2 = some (.int (Int32.ofInt i2)) → Y o d 68 28 lv [] (q_y s) (fun s1 r1 => s1 = q_y s9 ∧ r1 = none)) ∧
    (∀ (d : Nat) (hd : 7 ≤ d) (s : Q_S) (r0 : Nat) (i1 : Int) (i2 : Int) (s9 : Q_S) (r : Unit), g_68 o n 2 s r0 i1 i2 = some (s9, r) → ∀ lv : X_L, x_lget lv 0 = some (.ref r0) → x_lget lv 1 = some (.int (Int32.ofInt i1)) → x_lget lv 2 = some (.int (Int32.ofInt i2)) → Y o d 68 91 lv [] (q_y s) (fun s1 r1 => s1 = q_y s9 ∧ r1 = none)) ∧
    (∀ (d : Nat) (hd : 7 ≤ d) (s : Q_S) (r0 : Nat) (i1 : Int) (i2 : Int) (s9 : Q_S) (r : Unit), g_68 o n 3 s r0 i1 i2 = some (s9, r) → ∀ lv : X_L, True → Y o d 68 97 lv [] (q_y s) (fun s1 r1 => s1 = q_y s9 ∧ r1 = none)) := by
  intro n
  induction n with
  | zero => exact ⟨fun d hd s _ _ _ s9 r h => (by simp only [g_68] at h; cases h), fun d hd s _ _ _ s9 r h => (by simp only [g_68] at h; cases h), fun d hd s _ _ _ s9 r h => (by simp only [g_68] at h; cases h), fun d hd s _ _ _ s9 r h => (by simp only [g_68] at h; cases h)⟩
  | succ n ih =>
    refine ⟨?_, ?_, ?_, ?_⟩
    · intro d hd s r0 i1 i2 s9 r h lv lk0
      obtain ⟨d, rfl⟩ : ∃ x, d = x + 1 := ⟨d - 1, by omega⟩
      simp only [g_68] at h
      refine Van rfl lk0 rfl rfl ?_
      refine Vic (v := Int32.ofInt 0) rfl rfl rfl ?_
      have hz := y_bind h
      clear h
      obtain ⟨s1, h2, h⟩ := hz
      refine Zpi (q_pi_y h2) rfl rfl rfl rfl ?_
      refine Van rfl lk0 rfl rfl ?_
      refine Van rfl lk0 rfl rfl ?_
      have hz := y_bind h
      clear h
      obtain ⟨v3, h4, h⟩ := hz
      have wv3 := (y_gv_ok h4).2
      refine Vgv h4 rfl rfl rfl ?_
      refine Van rfl lk0 rfl rfl ?_
      have hz := y_bind h
      clear h
      obtain ⟨v5, h6, h⟩ := hz
      have wv5 := (y_gv_ok h6).2
      refine Vgv h6 rfl rfl rfl ?_
      have hz := y_bind h
      clear h
      obtain ⟨v7, h8, h⟩ := hz
      refine Zgi (q_gi_y h8) rfl rfl rfl ?_
      have hz := y_bind h
      clear h
      obtain ⟨b13, h14, h⟩ := hz
      obtain ⟨eh14, fh14, wh14⟩ := y_rcv_ok h14
      cases eh14
      have hz := y_bind h
      clear h
      obtain ⟨⟨s9, r10⟩, h11, h⟩ := hz
      try dsimp only at h
      refine Vcv rfl rfl rfl wh14 rfl rfl ⟨(Nat.le_of_ble_eq_true rfl), (Nat.le_of_ble_eq_true rfl)⟩ rfl ((c_57 o n).1 _ (by omega) _ _ _ _ _ _ _ h11 _ rfl rfl) (fun z1 z2 zq => ?_)
      obtain ⟨rfl, rfl⟩ := zq
      try dsimp only [Option.toList, HAppend.hAppend, Append.append, List.append]
      have hz := y_bind h
      clear h
      obtain ⟨s17, h18, h⟩ := hz
      refine Zpi (q_pi_y h18) rfl rfl rfl rfl ?_
      refine Yk (v := .int (Int32.ofInt (-1000000))) rfl rfl rfl rfl rfl ?_
      refine Vsin rfl rfl (fun lv lk1 hk => ?_)
      have lk0 := hk 0 _ lk0 (by decide) (by decide) (Or.inr rfl)
      refine Vic (v := Int32.ofInt 0) rfl rfl rfl ?_
      refine Vsin rfl rfl (fun lv lk2 hk => ?_)
      have lk0 := hk 0 _ lk0 (by decide) (by decide) (Or.inl (by decide))
      have lk1 := hk 1 _ lk1 (by decide) (by decide) (Or.inr rfl)
      exact ih.2.1 _ hd _ _ _ _ _ _ h lv lk0 lk1 lk2
    · intro d hd s r0 i1 i2 s9 r h lv lk0 lk1 lk2
      obtain ⟨d, rfl⟩ : ∃ x, d = x + 1 := ⟨d - 1, by omega⟩
      simp only [g_68] at h
      refine Vin rfl lk2 rfl ?_
      refine Yk (v := .int (Int32.ofInt 1000000)) rfl rfl rfl rfl rfl ?_
      have hz := y_bind h
      clear h
      obtain ⟨_, h2, h⟩ := hz
      have c1 := q_g_ok h2
      refine Uif (q_le (by decide) c1) rfl rfl rfl rfl rfl rfl rfl (fun c3 => ?_) (fun c3 => ?_)
      · rw [if_pos c3] at h
        exact ih.2.2.2 _ hd _ _ _ _ _ _ h lv trivial
      · rw [if_neg c3] at h
        refine Van rfl lk0 rfl rfl ?_
        have hz := y_bind h
        clear h
        obtain ⟨v4, h5, h⟩ := hz
        have wv4 := (y_gv_ok h5).2
        refine Vgv h5 rfl rfl rfl ?_
        have hz := y_bind h
        clear h
        obtain ⟨b10, h11, h⟩ := hz
        obtain ⟨eh11, fh11, wh11⟩ := y_rcv_ok h11
        cases eh11
        have hz := y_bind h
        clear h
        obtain ⟨⟨s6, r7⟩, h8, h⟩ := hz
        try dsimp only at h
        refine Vcv rfl rfl rfl wh11 rfl rfl ⟨(Nat.le_of_ble_eq_true rfl), (Nat.le_of_ble_eq_true rfl)⟩ rfl ((c_43 o n).1 _ (by omega) _ _ _ _ _ h8 _ rfl) (fun z1 z2 zq => ?_)
        obtain ⟨rfl, rfl⟩ := zq
        try dsimp only [Option.toList, HAppend.hAppend, Append.append, List.append]
        have hz := y_bind h
        clear h
        obtain ⟨_, h15, h⟩ := hz
        have c14 := q_g_ok h15
        refine Uif (q_eq0 c14) rfl rfl rfl rfl rfl rfl rfl (fun c16 => ?_) (fun c16 => ?_)
        · rw [if_pos c16] at h
          exact ih.2.2.2 _ hd _ _ _ _ _ _ h lv trivial
        · rw [if_neg c16] at h
          refine Vin rfl lk1 rfl ?_
          have hz := y_bind h
          clear h
          obtain ⟨_, h18, h⟩ := hz
          have c17 := q_g_ok h18
          refine Uif (q_lt0 c17) rfl rfl rfl rfl rfl rfl rfl (fun c19 => ?_) (fun c19 => ?_)
          · rw [if_pos c19] at h
            refine Vin rfl lk1 rfl ?_
            refine Yk (v := .int (Int32.ofInt (-1000000))) rfl rfl rfl rfl rfl ?_
            have hz := y_bind h
            clear h
            obtain ⟨_, h21, h⟩ := hz
            have c20 := q_g_ok h21
            refine Uif (q_eq c20 (by decide)) rfl rfl rfl rfl rfl rfl rfl (fun c22 => ?_) (fun c22 => ?_)
            · rw [if_pos c22] at h
              refine Van rfl lk0 rfl rfl ?_
              have hz := y_bind h
              clear h
              obtain ⟨v23, h24, h⟩ := hz
              refine Zgi (q_gi_y h24) rfl rfl rfl ?_
              refine Vic (v := Int32.ofInt (-1)) rfl rfl rfl ?_
              have hz := y_bind h
              clear h
              obtain ⟨_, h26, h⟩ := hz
              have c25 := q_g_ok h26
              refine Uif (q_eq c25 (by decide)) rfl rfl rfl rfl rfl rfl rfl (fun c27 => ?_) (fun c27 => ?_)
              · rw [if_pos c27] at h
                exact ih.2.2.2 _ hd _ _ _ _ _ _ h lv trivial
              · rw [if_neg c27] at h
                refine Van rfl lk0 rfl rfl ?_
                refine Van rfl lk0 rfl rfl ?_
                have hz := y_bind h
                clear h
                obtain ⟨v28, h29, h⟩ := hz
                refine Zgi (q_gi_y h29) rfl rfl rfl ?_
                have hz := y_bind h
                clear h
                obtain ⟨b34, h35, h⟩ := hz
                obtain ⟨eh35, fh35, wh35⟩ := y_rcv_ok h35
                cases eh35
                have hz := y_bind h
                clear h
                obtain ⟨⟨s30, r31⟩, h32, h⟩ := hz
                try dsimp only at h
                refine Vcv rfl rfl rfl wh35 rfl rfl ⟨(Nat.le_of_ble_eq_true rfl), (Nat.le_of_ble_eq_true rfl)⟩ rfl ((c_89 o n).1 _ (by omega) _ _ _ _ _ _ _ h32 _ rfl rfl) (fun z1 z2 zq => ?_)
                obtain ⟨rfl, rfl⟩ := zq
                try dsimp only [Option.toList, HAppend.hAppend, Append.append, List.append]
                refine Vsin rfl rfl (fun lv lk1 hk => ?_)
                have lk0 := hk 0 _ lk0 (by decide) (by decide) (Or.inr rfl)
                have lk2 := hk 2 _ lk2 (by decide) (by decide) (Or.inl (by decide))
                exact ih.2.2.1 _ hd _ _ _ _ _ _ h lv lk0 lk1 lk2
            · rw [if_neg c22] at h
              refine Van rfl lk0 rfl rfl ?_
              refine Vin rfl lk1 rfl ?_
              refine Vic (v := Int32.ofInt (-1)) rfl rfl rfl ?_
              refine Unot rfl rfl ?_
              have hz := y_bind h
              clear h
              obtain ⟨b42, h43, h⟩ := hz
              obtain ⟨eh43, fh43, wh43⟩ := y_rcv_ok h43
              cases eh43
              have hz := y_bind h
              clear h
              obtain ⟨⟨s38, r39⟩, h40, h⟩ := hz
              try dsimp only at h
              refine Vcv rfl rfl rfl wh43 rfl rfl ⟨(Nat.le_of_ble_eq_true rfl), (Nat.le_of_ble_eq_true rfl)⟩ rfl ((c_83 o n) _ (by omega) _ _ _ _ _ h40 _ rfl rfl) (fun z1 z2 zq => ?_)
              obtain ⟨rfl, rfl⟩ := zq
              try dsimp only [Option.toList, HAppend.hAppend, Append.append, List.append]
              refine Vsin rfl rfl (fun lv lk1 hk => ?_)
              have lk0 := hk 0 _ lk0 (by decide) (by decide) (Or.inr rfl)
              have lk2 := hk 2 _ lk2 (by decide) (by decide) (Or.inl (by decide))
              refine Ygo rfl rfl rfl rfl rfl rfl ?_
              exact ih.2.2.1 _ hd _ _ _ _ _ _ h lv lk0 lk1 lk2
          · rw [if_neg c19] at h
            refine Van rfl lk0 rfl rfl ?_
            refine Vin rfl lk1 rfl ?_
            have hz := y_bind h
            clear h
            obtain ⟨b50, h51, h⟩ := hz
            obtain ⟨eh51, fh51, wh51⟩ := y_rcv_ok h51
            cases eh51
            have hz := y_bind h
            clear h
            obtain ⟨⟨s46, r47⟩, h48, h⟩ := hz
            try dsimp only at h
            refine Vcv rfl rfl rfl wh51 rfl rfl ⟨(Nat.le_of_ble_eq_true rfl), (Nat.le_of_ble_eq_true rfl)⟩ rfl ((c_69 o n).1 _ (by omega) _ _ _ _ _ _ _ h48 _ rfl rfl) (fun z1 z2 zq => ?_)
            obtain ⟨rfl, rfl⟩ := zq
            try dsimp only [Option.toList, HAppend.hAppend, Append.append, List.append]
            refine Vsin rfl rfl (fun lv lk1 hk => ?_)
            have lk0 := hk 0 _ lk0 (by decide) (by decide) (Or.inr rfl)
            have lk2 := hk 2 _ lk2 (by decide) (by decide) (Or.inl (by decide))
            refine Ygo rfl rfl rfl rfl rfl rfl ?_
            exact ih.2.2.1 _ hd _ _ _ _ _ _ h lv lk0 lk1 lk2
    · intro d hd s r0 i1 i2 s9 r h lv lk0 lk1 lk2
      obtain ⟨d, rfl⟩ : ∃ x, d = x + 1 := ⟨d - 1, by omega⟩
      simp only [g_68] at h
      refine Uinc rfl lk2 rfl (fun lv lk2 hk => ?_)
      have lk0 := hk 0 _ lk0 (by decide) (by decide) (Or.inl (by decide))
      have lk1 := hk 1 _ lk1 (by decide) (by decide) (Or.inr rfl)
      refine Ygo rfl rfl rfl rfl rfl rfl ?_
      exact ih.2.1 _ hd _ _ _ _ _ _ h lv lk0 lk1 lk2
    · intro d hd s r0 i1 i2 s9 r h lv _
      obtain ⟨d, rfl⟩ : ∃ x, d = x + 1 := ⟨d - 1, by omega⟩
      simp only [g_68] at h
      cases h
      exact Yret rfl rfl rfl rfl rfl rfl rfl ⟨rfl, rfl⟩

/-- StepRows.tick -/
def g_8 (o : X_O) : Nat → Nat → Q_S → Nat → Int → Int → Option (Q_S × Int)
  | 0, _, _, _, _, _ => none
  | n + 1, 0, s, r0, i1, i2 => (q_g (q_in i1)).bind fun _ => if i1 < 0 then g_8 o n 1 s 0 0 0 else (q_g (q_in i1)).bind fun _ => if i1 ≤ 10000 then g_8 o n 2 s r0 (i1) (0) else g_8 o n 1 s 0 0 0
  | n + 1, 1, s, r0, i1, i2 => some (s, (-1))
  | n + 1, 2, s, r0, i1, i2 => (q_g (q_in i2 ∧ q_in i1)).bind fun _ => if i1 ≤ i2 then g_8 o n 3 s r0 0 0 else (q_gv s 0 (.ref r0) 5).bind fun v4 => (q_rcv s 4 v4).bind fun b10 => (g_43 o n 0 s b10 0).bind fun q9 => (q_g (q_in q9.2)).bind fun _ => if q9.2 = 0 then g_8 o n 3 q9.1 r0 0 0 else (q_gv q9.1 0 (.ref r0) 6).bind fun v17 => (q_rcv q9.1 6 v17).bind fun b23 => (g_61 o n 0 q9.1 b23 0 0).bind fun q22 => (q_gv q22.1 0 (.ref r0) 6).bind fun v27 => (q_rcv q22.1 6 v27).bind fun b33 => (g_68 o n 0 q22.1 b33 0 0).bind fun q32 => (q_gv q32.1 0 (.ref r0) 5).bind fun v37 => (q_gi q32.1 4 v37 3).bind fun v39 => (q_pi q32.1 4 v37 3 (v39 + 1)).bind fun s41 => g_8 o n 2 s41 r0 (i1) ((i2 + 1))
  | n + 1, 3, s, r0, i1, i2 => (q_gv s 0 (.ref r0) 5).bind fun v1 => (q_gi s 4 v1 0).bind fun v3 => some (s, v3)
  | _ + 1, _, _, _, _, _ => none
set_option maxRecDepth 100000 in
set_option maxHeartbeats 4000000 in
theorem c_8 (o : X_O) : ∀ n, (∀ (d : Nat) (hd : 8 ≤ d) (s : Q_S) (r0 : Nat) (i1 : Int) (i2 : Int) (s9 : Q_S) (r : Int), g_8 o n 0 s r0 i1 i2 = some (s9, r) → ∀ lv : X_L, x_lget lv 0 = some (.ref r0) → x_lget lv 1 = some (.int (Int32.ofInt i1)) → Y o d 8 0 lv [] (q_y s) (fun s1 r1 => s1 = q_y s9 ∧ r1 = some (.int (Int32.ofInt r)))) ∧
    (∀ (d : Nat) (hd : 8 ≤ d) (s : Q_S) (r0 : Nat) (i1 : Int) (i2 : Int) (s9 : Q_S) (r : Int), g_8 o n 1 s r0 i1 i2 = some (s9, r) → ∀ lv : X_L, True → Y o d 8 11 lv [] (q_y s) (fun s1 r1 => s1 = q_y s9 ∧ r1 = some (.int (Int32.ofInt r)))) ∧
    (∀ (d : Nat) (hd : 8 ≤ d) (s : Q_S) (r0 : Nat) (i1 : Int) (i2 : Int) (s9 : Q_S) (r : Int), g_8 o n 2 s r0 i1 i2 = some (s9, r) → ∀ lv : X_L, x_lget lv 0 = some (.ref r0) → x_lget lv 1 = some (.int (Int32.ofInt i1)) → x_lget lv 2 = some (.int (Int32.ofInt i2)) → Y o d 8 15 lv [] (q_y s) (fun s1 r1 => s1 = q_y s9 ∧ r1 = some (.int (Int32.ofInt r)))) ∧
    (∀ (d : Nat) (hd : 8 ≤ d) (s : Q_S) (r0 : Nat) (i1 : Int) (i2 : Int) (s9 : Q_S) (r : Int), g_8 o n 3 s r0 i1 i2 = some (s9, r) → ∀ lv : X_L, x_lget lv 0 = some (.ref r0) → Y o d 8 63 lv [] (q_y s) (fun s1 r1 => s1 = q_y s9 ∧ r1 = some (.int (Int32.ofInt r)))) := by
  intro n
  induction n with
  | zero => exact ⟨fun d hd s _ _ _ s9 r h => (by simp only [g_8] at h; cases h), fun d hd s _ _ _ s9 r h => (by simp only [g_8] at h; cases h), fun d hd s _ _ _ s9 r h => (by simp only [g_8] at h; cases h), fun d hd s _ _ _ s9 r h => (by simp only [g_8] at h; cases h)⟩
  | succ n ih =>
    refine ⟨?_, ?_, ?_, ?_⟩
    · intro d hd s r0 i1 i2 s9 r h lv lk0 lk1
      obtain ⟨d, rfl⟩ : ∃ x, d = x + 1 := ⟨d - 1, by omega⟩
      simp only [g_8] at h
      refine Vin rfl lk1 rfl ?_
      have hz := y_bind h
      clear h
      obtain ⟨_, h2, h⟩ := hz
      have c1 := q_g_ok h2
      refine Uif (q_lt0 c1) rfl rfl rfl rfl rfl rfl rfl (fun c3 => ?_) (fun c3 => ?_)
      · rw [if_pos c3] at h
        exact ih.2.1 _ hd _ _ _ _ _ _ h lv trivial
      · rw [if_neg c3] at h
        refine Vin rfl lk1 rfl ?_
        refine Vsp (v := Int32.ofInt 10000) rfl (by decide) rfl ?_
        have hz := y_bind h
        clear h
        obtain ⟨_, h5, h⟩ := hz
        have c4 := q_g_ok h5
        refine Uif (q_le c4 (by decide)) rfl rfl rfl rfl rfl rfl rfl (fun c6 => ?_) (fun c6 => ?_)
        · rw [if_pos c6] at h
          refine Vic (v := Int32.ofInt 0) rfl rfl rfl ?_
          refine Vsin rfl rfl (fun lv lk2 hk => ?_)
          have lk0 := hk 0 _ lk0 (by decide) (by decide) (Or.inl (by decide))
          have lk1 := hk 1 _ lk1 (by decide) (by decide) (Or.inr rfl)
          exact ih.2.2.1 _ hd _ _ _ _ _ _ h lv lk0 lk1 lk2
        · rw [if_neg c6] at h
          exact ih.2.1 _ hd _ _ _ _ _ _ h lv trivial
    · intro d hd s r0 i1 i2 s9 r h lv _
      obtain ⟨d, rfl⟩ : ∃ x, d = x + 1 := ⟨d - 1, by omega⟩
      simp only [g_8] at h
      refine Vic (v := Int32.ofInt (-1)) rfl rfl rfl ?_
      cases h
      exact Yret rfl rfl rfl rfl rfl rfl rfl ⟨rfl, rfl⟩
    · intro d hd s r0 i1 i2 s9 r h lv lk0 lk1 lk2
      obtain ⟨d, rfl⟩ : ∃ x, d = x + 1 := ⟨d - 1, by omega⟩
      simp only [g_8] at h
      refine Vin rfl lk2 rfl ?_
      refine Vin rfl lk1 rfl ?_
      have hz := y_bind h
      clear h
      obtain ⟨_, h2, h⟩ := hz
      have c1 := q_g_ok h2
      refine Uif (q_le c1.2 c1.1) rfl rfl rfl rfl rfl rfl rfl (fun c3 => ?_) (fun c3 => ?_)
      · rw [if_pos c3] at h
        exact ih.2.2.2 _ hd _ _ _ _ _ _ h lv lk0
      · rw [if_neg c3] at h
        refine Van rfl lk0 rfl rfl ?_
        have hz := y_bind h
        clear h
        obtain ⟨v4, h5, h⟩ := hz
        have wv4 := (y_gv_ok h5).2
        refine Vgv h5 rfl rfl rfl ?_
        have hz := y_bind h
        clear h
        obtain ⟨b10, h11, h⟩ := hz
        obtain ⟨eh11, fh11, wh11⟩ := y_rcv_ok h11
        cases eh11
        have hz := y_bind h
        clear h
        obtain ⟨⟨s6, r7⟩, h8, h⟩ := hz
        try dsimp only at h
        refine Vcv rfl rfl rfl wh11 rfl rfl ⟨(Nat.le_of_ble_eq_true rfl), (Nat.le_of_ble_eq_true rfl)⟩ rfl ((c_43 o n).1 _ (by omega) _ _ _ _ _ h8 _ rfl) (fun z1 z2 zq => ?_)
        obtain ⟨rfl, rfl⟩ := zq
        try dsimp only [Option.toList, HAppend.hAppend, Append.append, List.append]
        have hz := y_bind h
        clear h
        obtain ⟨_, h15, h⟩ := hz
        have c14 := q_g_ok h15
        refine Uif (q_eq0 c14) rfl rfl rfl rfl rfl rfl rfl (fun c16 => ?_) (fun c16 => ?_)
        · rw [if_pos c16] at h
          exact ih.2.2.2 _ hd _ _ _ _ _ _ h lv lk0
        · rw [if_neg c16] at h
          refine Van rfl lk0 rfl rfl ?_
          have hz := y_bind h
          clear h
          obtain ⟨v17, h18, h⟩ := hz
          have wv17 := (y_gv_ok h18).2
          refine Vgv h18 rfl rfl rfl ?_
          have hz := y_bind h
          clear h
          obtain ⟨b23, h24, h⟩ := hz
          obtain ⟨eh24, fh24, wh24⟩ := y_rcv_ok h24
          cases eh24
          have hz := y_bind h
          clear h
          obtain ⟨⟨s19, r20⟩, h21, h⟩ := hz
          try dsimp only at h
          refine Vcv rfl rfl rfl wh24 rfl rfl ⟨(Nat.le_of_ble_eq_true rfl), (Nat.le_of_ble_eq_true rfl)⟩ rfl ((c_61 o n).1 _ (by omega) _ _ _ _ _ _ h21 _ rfl) (fun z1 z2 zq => ?_)
          obtain ⟨rfl, rfl⟩ := zq
          try dsimp only [Option.toList, HAppend.hAppend, Append.append, List.append]
          refine Van rfl lk0 rfl rfl ?_
          have hz := y_bind h
          clear h
          obtain ⟨v27, h28, h⟩ := hz
          have wv27 := (y_gv_ok h28).2
          refine Vgv h28 rfl rfl rfl ?_
          have hz := y_bind h
          clear h
          obtain ⟨b33, h34, h⟩ := hz
          obtain ⟨eh34, fh34, wh34⟩ := y_rcv_ok h34
          cases eh34
          have hz := y_bind h
          clear h
          obtain ⟨⟨s29, r30⟩, h31, h⟩ := hz
          try dsimp only at h
          refine Vcv rfl rfl rfl wh34 rfl rfl ⟨(Nat.le_of_ble_eq_true rfl), (Nat.le_of_ble_eq_true rfl)⟩ rfl ((c_68 o n).1 _ (by omega) _ _ _ _ _ _ h31 _ rfl) (fun z1 z2 zq => ?_)
          obtain ⟨rfl, rfl⟩ := zq
          try dsimp only [Option.toList, HAppend.hAppend, Append.append, List.append]
          refine Van rfl lk0 rfl rfl ?_
          have hz := y_bind h
          clear h
          obtain ⟨v37, h38, h⟩ := hz
          have wv37 := (y_gv_ok h38).2
          refine Vgv h38 rfl rfl rfl ?_
          refine Vdup rfl (y_rv_cat wv37) rfl ?_
          have hz := y_bind h
          clear h
          obtain ⟨v39, h40, h⟩ := hz
          refine Zgi (q_gi_y h40) rfl rfl rfl ?_
          refine Vic (v := Int32.ofInt 1) rfl rfl rfl ?_
          refine Uadd rfl rfl ?_
          have hz := y_bind h
          clear h
          obtain ⟨s41, h42, h⟩ := hz
          refine Zpi (q_pi_y h42) rfl rfl rfl rfl ?_
          refine Uinc rfl lk2 rfl (fun lv lk2 hk => ?_)
          have lk0 := hk 0 _ lk0 (by decide) (by decide) (Or.inl (by decide))
          have lk1 := hk 1 _ lk1 (by decide) (by decide) (Or.inr rfl)
          refine Ygo rfl rfl rfl rfl rfl rfl ?_
          exact ih.2.2.1 _ hd _ _ _ _ _ _ h lv lk0 lk1 lk2
    · intro d hd s r0 i1 i2 s9 r h lv lk0
      obtain ⟨d, rfl⟩ : ∃ x, d = x + 1 := ⟨d - 1, by omega⟩
      simp only [g_8] at h
      refine Van rfl lk0 rfl rfl ?_
      have hz := y_bind h
      clear h
      obtain ⟨v1, h2, h⟩ := hz
      have wv1 := (y_gv_ok h2).2
      refine Vgv h2 rfl rfl rfl ?_
      have hz := y_bind h
      clear h
      obtain ⟨v3, h4, h⟩ := hz
      refine Zgi (q_gi_y h4) rfl rfl rfl ?_
      cases h
      exact Yret rfl rfl rfl rfl rfl rfl rfl ⟨rfl, rfl⟩

/-- StepRows.output -/
def g_9 (o : X_O) : Nat → Nat → Q_S → Nat → Int → Int64 → Option (Q_S × Int64)
  | 0, _, _, _, _, _ => none
  | n + 1, 0, s, r0, i1, tl0 => (q_g (q_in i1)).bind fun _ => if i1 < 0 then g_9 o n 1 s 0 0 0 else (q_g (q_in i1)).bind fun _ => if i1 < 8 then (q_gv s 0 (.ref r0) 5).bind fun v7 => (q_gv s 4 v7 9).bind fun v9 => (q_la s v9 i1).bind fun v11 => g_9 o n 2 s 0 0 (v11) else g_9 o n 1 s 0 0 0
  | n + 1, 1, s, r0, i1, tl0 => g_9 o n 2 s 0 0 (0)
  | n + 1, 2, s, r0, i1, tl0 => some (s, tl0)
  | _ + 1, _, _, _, _, _ => none
set_option maxRecDepth 100000 in
set_option maxHeartbeats 4000000 in
theorem c_9 (o : X_O) : ∀ n, (∀ (d : Nat) (hd : 0 ≤ d) (s : Q_S) (r0 : Nat) (i1 : Int) (tl0 : Int64) (s9 : Q_S) (r : Int64), g_9 o n 0 s r0 i1 tl0 = some (s9, r) → ∀ lv : X_L, x_lget lv 0 = some (.ref r0) → x_lget lv 1 = some (.int (Int32.ofInt i1)) → Y o d 9 0 lv [] (q_y s) (fun s1 r1 => s1 = q_y s9 ∧ r1 = some (.long r))) ∧
    (∀ (d : Nat) (hd : 0 ≤ d) (s : Q_S) (r0 : Nat) (i1 : Int) (tl0 : Int64) (s9 : Q_S) (r : Int64), g_9 o n 1 s r0 i1 tl0 = some (s9, r) → ∀ lv : X_L, True → Y o d 9 10 lv [] (q_y s) (fun s1 r1 => s1 = q_y s9 ∧ r1 = some (.long r))) ∧
    (∀ (d : Nat) (hd : 0 ≤ d) (s : Q_S) (r0 : Nat) (i1 : Int) (tl0 : Int64) (s9 : Q_S) (r : Int64), g_9 o n 2 s r0 i1 tl0 = some (s9, r) → ∀ lv : X_L, True → Y o d 9 23 lv [.long tl0] (q_y s) (fun s1 r1 => s1 = q_y s9 ∧ r1 = some (.long r))) := by
  intro n
  induction n with
  | zero => exact ⟨fun d hd s _ _ _ s9 r h => (by simp only [g_9] at h; cases h), fun d hd s _ _ _ s9 r h => (by simp only [g_9] at h; cases h), fun d hd s _ _ _ s9 r h => (by simp only [g_9] at h; cases h)⟩
  | succ n ih =>
    refine ⟨?_, ?_, ?_⟩
    · intro d hd s r0 i1 tl0 s9 r h lv lk0 lk1
      simp only [g_9] at h
      refine Vin rfl lk1 rfl ?_
      have hz := y_bind h
      clear h
      obtain ⟨_, h2, h⟩ := hz
      have c1 := q_g_ok h2
      refine Uif (q_lt0 c1) rfl rfl rfl rfl rfl rfl rfl (fun c3 => ?_) (fun c3 => ?_)
      · rw [if_pos c3] at h
        exact ih.2.1 _ hd _ _ _ _ _ _ h lv trivial
      · rw [if_neg c3] at h
        refine Vin rfl lk1 rfl ?_
        refine Vbp (v := Int32.ofInt 8) rfl (by decide) rfl ?_
        have hz := y_bind h
        clear h
        obtain ⟨_, h5, h⟩ := hz
        have c4 := q_g_ok h5
        refine Uif (q_lt c4 (by decide)) rfl rfl rfl rfl rfl rfl rfl (fun c6 => ?_) (fun c6 => ?_)
        · rw [if_pos c6] at h
          refine Van rfl lk0 rfl rfl ?_
          have hz := y_bind h
          clear h
          obtain ⟨v7, h8, h⟩ := hz
          have wv7 := (y_gv_ok h8).2
          refine Vgv h8 rfl rfl rfl ?_
          have hz := y_bind h
          clear h
          obtain ⟨v9, h10, h⟩ := hz
          have wv9 := (y_gv_ok h10).2
          refine Vgv h10 rfl rfl rfl ?_
          refine Vin rfl lk1 rfl ?_
          have hz := y_bind h
          clear h
          obtain ⟨v11, h12, h⟩ := hz
          refine Zla (q_la_y h12) rfl rfl ?_
          exact ih.2.2 _ hd _ _ _ _ _ _ h lv trivial
        · rw [if_neg c6] at h
          exact ih.2.1 _ hd _ _ _ _ _ _ h lv trivial
    · intro d hd s r0 i1 tl0 s9 r h lv _
      simp only [g_9] at h
      refine Vlc (v := 0) rfl (by decide) rfl ?_
      refine Ygo rfl rfl rfl rfl rfl rfl ?_
      exact ih.2.2 _ hd _ _ _ _ _ _ h lv trivial
    · intro d hd s r0 i1 tl0 s9 r h lv _
      simp only [g_9] at h
      cases h
      exact Yret rfl rfl rfl rfl rfl rfl rfl ⟨rfl, rfl⟩

