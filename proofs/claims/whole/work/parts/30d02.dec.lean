/-- StepRows$Walker.combine -/
def g_66 (o : X_O) : Nat → Nat → Q_S → Nat → Int → Int64 → Int64 → Int64 → Option (Q_S × Int64)
  | 0, _, _, _, _, _, _, _ => none
  | n + 1, 0, s, r0, i1, l2, l4, tl0 => (q_gv s 6 (.ref r0) 0).bind fun v1 => (q_gv s 4 v1 1).bind fun v3 => (q_gv s 3 v3 0).bind fun v5 => (q_ia o s v5 i1).bind fun v7 => (q_g (q_in v7)).bind fun _ => if v7 < 0 ∨ 5 < v7 then if ¬ l2 = l4 then g_66 o n 2 s 0 0 0 0 (0) else g_66 o n 2 s 0 0 0 0 (1) else if v7 = 0 then some (s, (l2 + l4)) else if v7 = 1 then some (s, (l2 - l4)) else if v7 = 2 then some (s, (l2 * l4)) else if v7 = 3 then (q_rcv s 6 (.ref r0)).bind fun b20 => (g_67 o n 0 s b20 (i1) (l2) (l4)).bind fun q19 => some (q19.1, q19.2) else if v7 = 4 then if l4 ≤ l2 then g_66 o n 1 s 0 0 0 0 (0) else g_66 o n 1 s 0 0 0 0 (1) else if v7 = 5 then if ¬ l2 = l4 then g_66 o n 2 s 0 0 0 0 (0) else g_66 o n 2 s 0 0 0 0 (1) else none
  | n + 1, 1, s, r0, i1, l2, l4, tl0 => some (s, tl0)
  | n + 1, 2, s, r0, i1, l2, l4, tl0 => some (s, tl0)
  | _ + 1, _, _, _, _, _, _, _ => none
set_option maxRecDepth 100000 in
set_option maxHeartbeats 4000000 in
theorem c_66 (o : X_O) : ∀ n, (∀ (d : Nat) (hd : 2 ≤ d) (s : Q_S) (r0 : Nat) (i1 : Int) (l2 : Int64) (l4 : Int64) (tl0 : Int64) (s9 : Q_S) (r : Int64), g_66 o n 0 s r0 i1 l2 l4 tl0 = some (s9, r) → ∀ lv : X_L, x_lget lv 0 = some (.ref r0) → x_lget lv 1 = some (.int (Int32.ofInt i1)) → x_lget lv 2 = some (.long l2) → x_lget lv 4 = some (.long l4) → Y o d 66 0 lv [] (q_y s) (fun s1 r1 => s1 = q_y s9 ∧ r1 = some (.long r))) ∧
    (∀ (d : Nat) (hd : 2 ≤ d) (s : Q_S) (r0 : Nat) (i1 : Int) (l2 : Int64) (l4 : Int64) (tl0 : Int64) (s9 : Q_S) (r : Int64), g_66 o n 1 s r0 i1 l2 l4 tl0 = some (s9, r) → ∀ lv : X_L, True → Y o d 66 88 lv [.long tl0] (q_y s) (fun s1 r1 => s1 = q_y s9 ∧ r1 = some (.long r))) ∧
    (∀ (d : Nat) (hd : 2 ≤ d) (s : Q_S) (r0 : Nat) (i1 : Int) (l2 : Int64) (l4 : Int64) (tl0 : Int64) (s9 : Q_S) (r : Int64), g_66 o n 2 s r0 i1 l2 l4 tl0 = some (s9, r) → ∀ lv : X_L, True → Y o d 66 101 lv [.long tl0] (q_y s) (fun s1 r1 => s1 = q_y s9 ∧ r1 = some (.long r))) := by
  intro n
  induction n with
  | zero => exact ⟨fun d hd s _ _ _ _ _ s9 r h => (by simp only [g_66] at h; cases h), fun d hd s _ _ _ _ _ s9 r h => (by simp only [g_66] at h; cases h), fun d hd s _ _ _ _ _ s9 r h => (by simp only [g_66] at h; cases h)⟩
  | succ n ih =>
    refine ⟨?_, ?_, ?_⟩
    · intro d hd s r0 i1 l2 l4 tl0 s9 r h lv lk0 lk1 lk2 lk4
      obtain ⟨d, rfl⟩ : ∃ x, d = x + 1 := ⟨d - 1, by omega⟩
      simp only [g_66] at h
      refine Van rfl lk0 rfl rfl ?_
      have hz := y_bind h
      clear h
      obtain ⟨v1, h2, h⟩ := hz
      have wv1 := (y_gv_ok h2).2
      refine Vgv h2 rfl rfl rfl ?_
      have hz := y_bind h
      clear h
      obtain ⟨v3, h4, h⟩ := hz
      have wv3 := (y_gv_ok h4).2
      refine Vgv h4 rfl rfl rfl ?_
      have hz := y_bind h
      clear h
      obtain ⟨v5, h6, h⟩ := hz
      have wv5 := (y_gv_ok h6).2
      refine Vgv h6 rfl rfl rfl ?_
      refine Vin rfl lk1 rfl ?_
      have hz := y_bind h
      clear h
      obtain ⟨v7, h8, h⟩ := hz
      refine Zia (q_ia_y h8) rfl rfl ?_
      have hz := y_bind h
      clear h
      obtain ⟨_, h10, h⟩ := hz
      have c9 := q_g_ok h10
      by_cases c12 : v7 < 0 ∨ 5 < v7
      · rw [if_pos c12] at h
        refine Ysw rfl rfl rfl rfl rfl (if_pos (by rw [q_ti c9]; exact c12)) rfl ?_
        refine Vln rfl lk2 rfl ?_
        refine Vl rfl lk4 rfl ?_
        refine Ya rfl rfl rfl ?_
        refine Uif (not_congr (lg_cmp_eq _ _)) rfl rfl rfl rfl rfl rfl rfl (fun c11 => ?_) (fun c11 => ?_)
        · rw [if_pos c11] at h
          refine Vlc (v := 0) rfl (by decide) rfl ?_
          exact ih.2.2 _ hd _ _ _ _ _ _ _ _ h lv trivial
        · rw [if_neg c11] at h
          refine Vlc (v := 1) rfl (by decide) rfl ?_
          refine Ygo rfl rfl rfl rfl rfl rfl ?_
          exact ih.2.2 _ hd _ _ _ _ _ _ _ _ h lv trivial
      rw [if_neg c12] at h
      by_cases c13 : v7 = 0
      · rw [if_pos c13] at h
        refine Vts (k := 0) (congrArg Int32.ofInt c13) rfl rfl rfl rfl rfl rfl rfl ?_
        refine Vln rfl lk2 rfl ?_
        refine Vl rfl lk4 rfl ?_
        refine Ya rfl rfl rfl ?_
        cases h
        exact Yret rfl rfl rfl rfl rfl rfl rfl ⟨rfl, rfl⟩
      rw [if_neg c13] at h
      by_cases c14 : v7 = 1
      · rw [if_pos c14] at h
        refine Vts (k := 1) (congrArg Int32.ofInt c14) rfl rfl rfl rfl rfl rfl rfl ?_
        refine Vln rfl lk2 rfl ?_
        refine Vl rfl lk4 rfl ?_
        refine Ya rfl rfl rfl ?_
        cases h
        exact Yret rfl rfl rfl rfl rfl rfl rfl ⟨rfl, rfl⟩
      rw [if_neg c14] at h
      by_cases c15 : v7 = 2
      · rw [if_pos c15] at h
        refine Vts (k := 2) (congrArg Int32.ofInt c15) rfl rfl rfl rfl rfl rfl rfl ?_
        refine Vln rfl lk2 rfl ?_
        refine Vl rfl lk4 rfl ?_
        refine Ya rfl rfl rfl ?_
        cases h
        exact Yret rfl rfl rfl rfl rfl rfl rfl ⟨rfl, rfl⟩
      rw [if_neg c15] at h
      by_cases c24 : v7 = 3
      · rw [if_pos c24] at h
        refine Vts (k := 3) (congrArg Int32.ofInt c24) rfl rfl rfl rfl rfl rfl rfl ?_
        refine Van rfl lk0 rfl rfl ?_
        refine Vin rfl lk1 rfl ?_
        refine Vln rfl lk2 rfl ?_
        refine Vl rfl lk4 rfl ?_
        have hz := y_bind h
        clear h
        obtain ⟨b20, h21, h⟩ := hz
        obtain ⟨eh21, fh21, wh21⟩ := y_rcv_ok h21
        cases eh21
        have hz := y_bind h
        clear h
        obtain ⟨⟨s16, r17⟩, h18, h⟩ := hz
        try dsimp only at h
        refine Vcv rfl rfl rfl wh21 rfl rfl ⟨(Nat.le_of_ble_eq_true rfl), (Nat.le_of_ble_eq_true rfl)⟩ rfl ((c_67 o n) _ (by omega) _ _ _ _ _ _ _ h18 _ rfl rfl rfl rfl) (fun z1 z2 zq => ?_)
        obtain ⟨rfl, rfl⟩ := zq
        try dsimp only [Option.toList, HAppend.hAppend, Append.append, List.append]
        cases h
        exact Yret rfl rfl rfl rfl rfl rfl rfl ⟨rfl, rfl⟩
      rw [if_neg c24] at h
      by_cases c26 : v7 = 4
      · rw [if_pos c26] at h
        refine Vts (k := 4) (congrArg Int32.ofInt c26) rfl rfl rfl rfl rfl rfl rfl ?_
        refine Vln rfl lk2 rfl ?_
        refine Vl rfl lk4 rfl ?_
        refine Ya rfl rfl rfl ?_
        refine Uif (lg_cmp_ge _ _) rfl rfl rfl rfl rfl rfl rfl (fun c25 => ?_) (fun c25 => ?_)
        · rw [if_pos c25] at h
          refine Vlc (v := 0) rfl (by decide) rfl ?_
          exact ih.2.1 _ hd _ _ _ _ _ _ _ _ h lv trivial
        · rw [if_neg c25] at h
          refine Vlc (v := 1) rfl (by decide) rfl ?_
          refine Ygo rfl rfl rfl rfl rfl rfl ?_
          exact ih.2.1 _ hd _ _ _ _ _ _ _ _ h lv trivial
      rw [if_neg c26] at h
      by_cases c28 : v7 = 5
      · rw [if_pos c28] at h
        refine Vts (k := 5) (congrArg Int32.ofInt c28) rfl rfl rfl rfl rfl rfl rfl ?_
        refine Vln rfl lk2 rfl ?_
        refine Vl rfl lk4 rfl ?_
        refine Ya rfl rfl rfl ?_
        refine Uif (not_congr (lg_cmp_eq _ _)) rfl rfl rfl rfl rfl rfl rfl (fun c27 => ?_) (fun c27 => ?_)
        · rw [if_pos c27] at h
          refine Vlc (v := 0) rfl (by decide) rfl ?_
          exact ih.2.2 _ hd _ _ _ _ _ _ _ _ h lv trivial
        · rw [if_neg c27] at h
          refine Vlc (v := 1) rfl (by decide) rfl ?_
          refine Ygo rfl rfl rfl rfl rfl rfl ?_
          exact ih.2.2 _ hd _ _ _ _ _ _ _ _ h lv trivial
      rw [if_neg c28] at h
      cases h
    · intro d hd s r0 i1 l2 l4 tl0 s9 r h lv _
      obtain ⟨d, rfl⟩ : ∃ x, d = x + 1 := ⟨d - 1, by omega⟩
      simp only [g_66] at h
      cases h
      exact Yret rfl rfl rfl rfl rfl rfl rfl ⟨rfl, rfl⟩
    · intro d hd s r0 i1 l2 l4 tl0 s9 r h lv _
      obtain ⟨d, rfl⟩ : ∃ x, d = x + 1 := ⟨d - 1, by omega⟩
      simp only [g_66] at h
      cases h
      exact Yret rfl rfl rfl rfl rfl rfl rfl ⟨rfl, rfl⟩

/-- StepRows$Walker.reckon -/
def g_63 (o : X_O) : Nat → Nat → Q_S → Nat → Int → Value → Int → Int → Int → Int → Int → Int64 → Option (Q_S × Int64)
  | 0, _, _, _, _, _, _, _, _, _, _, _ => none
  | n + 1, 0, s, r0, i1, a2, i3, i4, i5, i6, i7, tl0 => (q_gv s 6 (.ref r0) 0).bind fun v1 => (q_gv s 4 v1 1).bind fun v3 => (q_gv s 3 v3 4).bind fun v5 => (q_ia o s v5 i1).bind fun v7 => (q_gv s 3 v3 2).bind fun v9 => (q_ia o s v9 i1).bind fun v11 => g_63 o n 1 s r0 0 (v3) (v7) (0) (((v7 - v11) + 1)) 0 0 0
  | n + 1, 1, s, r0, i1, a2, i3, i4, i5, i6, i7, tl0 => (q_g (q_in i5 ∧ q_in i3)).bind fun _ => if i3 < i5 then g_63 o n 5 s r0 0 .null 0 0 0 0 0 0 else (q_gv s 6 (.ref r0) 0).bind fun v4 => (q_rcv s 4 v4).bind fun b10 => (g_43 o n 0 s b10 0).bind fun q9 => (q_g (q_in q9.2)).bind fun _ => if q9.2 = 0 then g_63 o n 5 q9.1 r0 0 .null 0 0 0 0 0 0 else (q_gv q9.1 3 a2 5).bind fun v17 => (q_ia o q9.1 v17 i5).bind fun v19 => (q_gv q9.1 3 a2 0).bind fun v21 => (q_ia o q9.1 v21 v19).bind fun v23 => (q_g (q_in v23)).bind fun _ => if v23 < 30 then g_63 o n 2 q9.1 r0 0 (a2) (i3) (i4) (i5) (v19) (v23) 0 else (q_g (q_in i4)).bind fun _ => if 500 ≤ i4 then g_63 o n 2 q9.1 r0 0 (a2) (i3) (i4) (i5) (v19) (v23) 0 else (q_gv q9.1 6 (.ref r0) 3).bind fun v31 => (q_gv q9.1 3 a2 1).bind fun v33 => (q_la q9.1 v33 v19).bind fun v35 => (q_rcv q9.1 6 (.ref r0)).bind fun b41 => (g_64 o n 0 q9.1 b41 (v23) (v35)).bind fun q40 => (q_ls q40.1 v31 i4 q40.2).bind fun s45 => g_63 o n 4 s45 r0 0 (a2) (i3) ((i4 + 1)) (i5) 0 0 0
  | n + 1, 2, s, r0, i1, a2, i3, i4, i5, i6, i7, tl0 => (q_g (q_in i7)).bind fun _ => if ¬ i7 = 6 then g_63 o n 3 s r0 0 (a2) (i3) (i4) (i5) (i6) 0 0 else (q_g (q_in i4)).bind fun _ => if i4 ≤ 0 then g_63 o n 3 s r0 0 (a2) (i3) (i4) (i5) (i6) 0 0 else (q_gv s 6 (.ref r0) 3).bind fun v7 => (q_gv s 6 (.ref r0) 3).bind fun v9 => (q_la s v9 (i4 - 1)).bind fun v11 => (q_rcv s 6 (.ref r0)).bind fun b17 => (g_65 o n 0 s b17 (v11) (i6)).bind fun q16 => (q_ls q16.1 v7 (i4 - 1) q16.2).bind fun s21 => g_63 o n 4 s21 r0 0 (a2) (i3) (i4) (i5) 0 0 0
  | n + 1, 3, s, r0, i1, a2, i3, i4, i5, i6, i7, tl0 => (q_g (q_in i4)).bind fun _ => if i4 ≤ 1 then g_63 o n 4 s r0 0 (a2) (i3) (i4) (i5) 0 0 0 else (q_gv s 6 (.ref r0) 3).bind fun v4 => (q_gv s 6 (.ref r0) 3).bind fun v6 => (q_la s v6 ((i4 + (-1)) - 1)).bind fun v8 => (q_gv s 6 (.ref r0) 3).bind fun v10 => (q_la s v10 (i4 + (-1))).bind fun v12 => (q_rcv s 6 (.ref r0)).bind fun b18 => (g_66 o n 0 s b18 (i6) (v8) (v12) 0).bind fun q17 => (q_ls q17.1 v4 ((i4 + (-1)) - 1) q17.2).bind fun s22 => g_63 o n 4 s22 r0 0 (a2) (i3) ((i4 + (-1))) (i5) 0 0 0
  | n + 1, 4, s, r0, i1, a2, i3, i4, i5, i6, i7, tl0 => g_63 o n 1 s r0 0 (a2) (i3) (i4) ((i5 + 1)) 0 0 0
  | n + 1, 5, s, r0, i1, a2, i3, i4, i5, i6, i7, tl0 => (q_gv s 6 (.ref r0) 0).bind fun v1 => (q_rcv s 4 v1).bind fun b7 => (g_43 o n 0 s b7 0).bind fun q6 => (q_g (q_in q6.2)).bind fun _ => if q6.2 = 0 then g_63 o n 6 q6.1 0 0 .null 0 0 0 0 0 (0) else (q_gv q6.1 6 (.ref r0) 3).bind fun v14 => (q_la q6.1 v14 0).bind fun v16 => g_63 o n 6 q6.1 0 0 .null 0 0 0 0 0 (v16)
  | n + 1, 6, s, r0, i1, a2, i3, i4, i5, i6, i7, tl0 => some (s, tl0)
  | _ + 1, _, _, _, _, _, _, _, _, _, _, _ => none
set_option maxRecDepth 100000 in
set_option maxHeartbeats 4000000 in
theorem c_63 (o : X_O) : ∀ n, (∀ (d : Nat) (hd : 3 ≤ d) (s : Q_S) (r0 : Nat) (i1 : Int) (a2 : Value) (i3 : Int) (i4 : Int) (i5 : Int) (i6 : Int) (i7 : Int) (tl0 : Int64) (s9 : Q_S) (r : Int64), g_63 o n 0 s r0 i1 a2 i3 i4 i5 i6 i7 tl0 = some (s9, r) → ∀ lv : X_L, x_lget lv 0 = some (.ref r0) → x_lget lv 1 = some (.int (Int32.ofInt i1)) → Y o d 63 0 lv [] (q_y s) (fun s1 r1 => s1 = q_y s9 ∧ r1 = some (.long r))) ∧
    (∀ (d : Nat) (hd : 3 ≤ d) (s : Q_S) (r0 : Nat) (i1 : Int) (a2 : Value) (i3 : Int) (i4 : Int) (i5 : Int) (i6 : Int) (i7 : Int) (tl0 : Int64) (s9 : Q_S) (r : Int64), g_63 o n 1 s r0 i1 a2 i3 i4 i5 i6 i7 tl0 = some (s9, r) → ∀ lv : X_L, x_lget lv 0 = some (.ref r0) → x_lget lv 2 = some a2 → x_lget lv 3 = some (.int (Int32.ofInt i3)) → x_lget lv 4 = some (.int (Int32.ofInt i4)) → x_lget lv 5 = some (.int (Int32.ofInt i5)) → y_rv a2 = true → Y o d 63 30 lv [] (q_y s) (fun s1 r1 => s1 = q_y s9 ∧ r1 = some (.long r))) ∧
    (∀ (d : Nat) (hd : 3 ≤ d) (s : Q_S) (r0 : Nat) (i1 : Int) (a2 : Value) (i3 : Int) (i4 : Int) (i5 : Int) (i6 : Int) (i7 : Int) (tl0 : Int64) (s9 : Q_S) (r : Int64), g_63 o n 2 s r0 i1 a2 i3 i4 i5 i6 i7 tl0 = some (s9, r) → ∀ lv : X_L, x_lget lv 0 = some (.ref r0) → x_lget lv 2 = some a2 → x_lget lv 3 = some (.int (Int32.ofInt i3)) → x_lget lv 4 = some (.int (Int32.ofInt i4)) → x_lget lv 5 = some (.int (Int32.ofInt i5)) → x_lget lv 6 = some (.int (Int32.ofInt i6)) → x_lget lv 7 = some (.int (Int32.ofInt i7)) → y_rv a2 = true → Y o d 63 105 lv [] (q_y s) (fun s1 r1 => s1 = q_y s9 ∧ r1 = some (.long r))) ∧
    (∀ (d : Nat) (hd : 3 ≤ d) (s : Q_S) (r0 : Nat) (i1 : Int) (a2 : Value) (i3 : Int) (i4 : Int) (i5 : Int) (i6 : Int) (i7 : Int) (tl0 : Int64) (s9 : Q_S) (r : Int64), g_63 o n 3 s r0 i1 a2 i3 i4 i5 i6 i7 tl0 = some (s9, r) → ∀ lv : X_L, x_lget lv 0 = some (.ref r0) → x_lget lv 2 = some a2 → x_lget lv 3 = some (.int (Int32.ofInt i3)) → x_lget lv 4 = some (.int (Int32.ofInt i4)) → x_lget lv 5 = some (.int (Int32.ofInt i5)) → x_lget lv 6 = some (.int (Int32.ofInt i6)) → y_rv a2 = true → Y o d 63 144 lv [] (q_y s) (fun s1 r1 => s1 = q_y s9 ∧ r1 = some (.long r))) ∧
    (∀ (d : Nat) (hd : 3 ≤ d) (s : Q_S) (r0 : Nat) (i1 : Int) (a2 : Value) (i3 : Int) (i4 : Int) (i5 : Int) (i6 : Int) (i7 : Int) (tl0 : Int64) (s9 : Q_S) (r : Int64), g_63 o n 4 s r0 i1 a2 i3 i4 i5 i6 i7 tl0 = some (s9, r) → ∀ lv : X_L, x_lget lv 0 = some (.ref r0) → x_lget lv 2 = some a2 → x_lget lv 3 = some (.int (Int32.ofInt i3)) → x_lget lv 4 = some (.int (Int32.ofInt i4)) → x_lget lv 5 = some (.int (Int32.ofInt i5)) → y_rv a2 = true → Y o d 63 184 lv [] (q_y s) (fun s1 r1 => s1 = q_y s9 ∧ r1 = some (.long r))) ∧
    (∀ (d : Nat) (hd : 3 ≤ d) (s : Q_S) (r0 : Nat) (i1 : Int) (a2 : Value) (i3 : Int) (i4 : Int) (i5 : Int) (i6 : Int) (i7 : Int) (tl0 : Int64) (s9 : Q_S) (r : Int64), g_63 o n 5 s r0 i1 a2 i3 i4 i5 i6 i7 tl0 = some (s9, r) → ∀ lv : X_L, x_lget lv 0 = some (.ref r0) → Y o d 63 190 lv [] (q_y s) (fun s1 r1 => s1 = q_y s9 ∧ r1 = some (.long r))) ∧
    (∀ (d : Nat) (hd : 3 ≤ d) (s : Q_S) (r0 : Nat) (i1 : Int) (a2 : Value) (i3 : Int) (i4 : Int) (i5 : Int) (i6 : Int) (i7 : Int) (tl0 : Int64) (s9 : Q_S) (r : Int64), g_63 o n 6 s r0 i1 a2 i3 i4 i5 i6 i7 tl0 = some (s9, r) → ∀ lv : X_L, True → Y o d 63 210 lv [.long tl0] (q_y s) (fun s1 r1 => s1 = q_y s9 ∧ r1 = some (.long r))) := by
  intro n
  induction n with
  | zero => exact ⟨fun d hd s _ _ _ _ _ _ _ _ _ s9 r h => (by simp only [g_63] at h; cases h), fun d hd s _ _ _ _ _ _ _ _ _ s9 r h => (by simp only [g_63] at h; cases h), fun d hd s _ _ _ _ _ _ _ _ _ s9 r h => (by simp only [g_63] at h; cases h), fun d hd s _ _ _ _ _ _ _ _ _ s9 r h => (by simp only [g_63] at h; cases h), fun d hd s _ _ _ _ _ _ _ _ _ s9 r h => (by simp only [g_63] at h; cases h), fun d hd s _ _ _ _ _ _ _ _ _ s9 r h => (by simp only [g_63] at h; cases h), fun d hd s _ _ _ _ _ _ _ _ _ s9 r h => (by simp only [g_63] at h; cases h)⟩
  | succ n ih =>
    refine ⟨?_, ?_, ?_, ?_, ?_, ?_, ?_⟩
    · intro d hd s r0 i1 a2 i3 i4 i5 i6 i7 tl0 s9 r h lv lk0 lk1
      obtain ⟨d, rfl⟩ : ∃ x, d = x + 1 := ⟨d - 1, by omega⟩
      simp only [g_63] at h
      refine Van rfl lk0 rfl rfl ?_
      have hz := y_bind h
      clear h
      obtain ⟨v1, h2, h⟩ := hz
      have wv1 := (y_gv_ok h2).2
      refine Vgv h2 rfl rfl rfl ?_
      have hz := y_bind h
      clear h
      obtain ⟨v3, h4, h⟩ := hz
      have wv3 := (y_gv_ok h4).2
      refine Vgv h4 rfl rfl rfl ?_
      refine Vsan rfl wv3 rfl (fun lv lk2 hk => ?_)
      have lk0 := hk 0 _ lk0 (by decide) (by decide) (Or.inl (by decide))
      have lk1 := hk 1 _ lk1 (by decide) (by decide) (Or.inr rfl)
      refine Van rfl lk2 wv3 rfl ?_
      have hz := y_bind h
      clear h
      obtain ⟨v5, h6, h⟩ := hz
      have wv5 := (y_gv_ok h6).2
      refine Vgv h6 rfl rfl rfl ?_
      refine Vin rfl lk1 rfl ?_
      have hz := y_bind h
      clear h
      obtain ⟨v7, h8, h⟩ := hz
      refine Zia (q_ia_y h8) rfl rfl ?_
      refine Vsin rfl rfl (fun lv lk3 hk => ?_)
      have lk0 := hk 0 _ lk0 (by decide) (by decide) (Or.inl (by decide))
      have lk1 := hk 1 _ lk1 (by decide) (by decide) (Or.inl (by decide))
      have lk2 := hk 2 _ lk2 (by decide) (by decide) (Or.inr (y_rv_cat wv3))
      refine Vic (v := Int32.ofInt 0) rfl rfl rfl ?_
      refine Vsi rfl rfl (fun lv lk4 hk => ?_)
      have lk0 := hk 0 _ lk0 (by decide) (by decide) (Or.inl (by decide))
      have lk1 := hk 1 _ lk1 (by decide) (by decide) (Or.inl (by decide))
      have lk2 := hk 2 _ lk2 (by decide) (by decide) (Or.inl (by decide))
      have lk3 := hk 3 _ lk3 (by decide) (by decide) (Or.inr rfl)
      refine Vin rfl lk3 rfl ?_
      refine Van rfl lk2 wv3 rfl ?_
      have hz := y_bind h
      clear h
      obtain ⟨v9, h10, h⟩ := hz
      have wv9 := (y_gv_ok h10).2
      refine Vgv h10 rfl rfl rfl ?_
      refine Vin rfl lk1 rfl ?_
      have hz := y_bind h
      clear h
      obtain ⟨v11, h12, h⟩ := hz
      refine Zia (q_ia_y h12) rfl rfl ?_
      refine Usub rfl rfl ?_
      refine Vic (v := Int32.ofInt 1) rfl rfl rfl ?_
      refine Uadd rfl rfl ?_
      refine Vsi rfl rfl (fun lv lk5 hk => ?_)
      have lk0 := hk 0 _ lk0 (by decide) (by decide) (Or.inl (by decide))
      have lk2 := hk 2 _ lk2 (by decide) (by decide) (Or.inl (by decide))
      have lk3 := hk 3 _ lk3 (by decide) (by decide) (Or.inl (by decide))
      have lk4 := hk 4 _ lk4 (by decide) (by decide) (Or.inr rfl)
      exact ih.2.1 _ hd _ _ _ _ _ _ _ _ _ _ _ _ h lv lk0 lk2 lk3 lk4 lk5 wv3
    · intro d hd s r0 i1 a2 i3 i4 i5 i6 i7 tl0 s9 r h lv lk0 lk2 lk3 lk4 lk5 rv2
      obtain ⟨d, rfl⟩ : ∃ x, d = x + 1 := ⟨d - 1, by omega⟩
      simp only [g_63] at h
      refine Vi rfl lk5 rfl ?_
      refine Vin rfl lk3 rfl ?_
      have hz := y_bind h
      clear h
      obtain ⟨_, h2, h⟩ := hz
      have c1 := q_g_ok h2
      refine Uif (q_lt c1.2 c1.1) rfl rfl rfl rfl rfl rfl rfl (fun c3 => ?_) (fun c3 => ?_)
      · rw [if_pos c3] at h
        exact ih.2.2.2.2.2.1 _ hd _ _ _ _ _ _ _ _ _ _ _ _ h lv lk0
      · rw [if_neg c3] at h
        refine Van rfl lk0 rfl rfl ?_
        have hz := y_bind h
        clear h
        obtain ⟨v4, h5, h⟩ := hz
        have wv4 := (y_gv_ok h5).2
        refine Vgv h5 rfl rfl rfl ?_
        have hz := y_bind h
        clear h
        obtain ⟨b10, h11, h⟩ := hz
        obtain ⟨eh11, fh11, wh11⟩ := y_rcv_ok h11
        cases eh11
        have hz := y_bind h
        clear h
        obtain ⟨⟨s6, r7⟩, h8, h⟩ := hz
        try dsimp only at h
        refine Vcv rfl rfl rfl wh11 rfl rfl ⟨(Nat.le_of_ble_eq_true rfl), (Nat.le_of_ble_eq_true rfl)⟩ rfl ((c_43 o n).1 _ (by omega) _ _ _ _ _ h8 _ rfl) (fun z1 z2 zq => ?_)
        obtain ⟨rfl, rfl⟩ := zq
        try dsimp only [Option.toList, HAppend.hAppend, Append.append, List.append]
        have hz := y_bind h
        clear h
        obtain ⟨_, h15, h⟩ := hz
        have c14 := q_g_ok h15
        refine Uif (q_eq0 c14) rfl rfl rfl rfl rfl rfl rfl (fun c16 => ?_) (fun c16 => ?_)
        · rw [if_pos c16] at h
          exact ih.2.2.2.2.2.1 _ hd _ _ _ _ _ _ _ _ _ _ _ _ h lv lk0
        · rw [if_neg c16] at h
          refine Van rfl lk2 rv2 rfl ?_
          have hz := y_bind h
          clear h
          obtain ⟨v17, h18, h⟩ := hz
          have wv17 := (y_gv_ok h18).2
          refine Vgv h18 rfl rfl rfl ?_
          refine Vi rfl lk5 rfl ?_
          have hz := y_bind h
          clear h
          obtain ⟨v19, h20, h⟩ := hz
          refine Zia (q_ia_y h20) rfl rfl ?_
          refine Vsi rfl rfl (fun lv lk6 hk => ?_)
          have lk0 := hk 0 _ lk0 (by decide) (by decide) (Or.inl (by decide))
          have lk2 := hk 2 _ lk2 (by decide) (by decide) (Or.inl (by decide))
          have lk3 := hk 3 _ lk3 (by decide) (by decide) (Or.inl (by decide))
          have lk4 := hk 4 _ lk4 (by decide) (by decide) (Or.inl (by decide))
          have lk5 := hk 5 _ lk5 (by decide) (by decide) (Or.inr rfl)
          refine Van rfl lk2 rv2 rfl ?_
          have hz := y_bind h
          clear h
          obtain ⟨v21, h22, h⟩ := hz
          have wv21 := (y_gv_ok h22).2
          refine Vgv h22 rfl rfl rfl ?_
          refine Vi rfl lk6 rfl ?_
          have hz := y_bind h
          clear h
          obtain ⟨v23, h24, h⟩ := hz
          refine Zia (q_ia_y h24) rfl rfl ?_
          refine Vsi rfl rfl (fun lv lk7 hk => ?_)
          have lk0 := hk 0 _ lk0 (by decide) (by decide) (Or.inl (by decide))
          have lk2 := hk 2 _ lk2 (by decide) (by decide) (Or.inl (by decide))
          have lk3 := hk 3 _ lk3 (by decide) (by decide) (Or.inl (by decide))
          have lk4 := hk 4 _ lk4 (by decide) (by decide) (Or.inl (by decide))
          have lk5 := hk 5 _ lk5 (by decide) (by decide) (Or.inl (by decide))
          have lk6 := hk 6 _ lk6 (by decide) (by decide) (Or.inr rfl)
          refine Vi rfl lk7 rfl ?_
          refine Vbp (v := Int32.ofInt 30) rfl (by decide) rfl ?_
          have hz := y_bind h
          clear h
          obtain ⟨_, h26, h⟩ := hz
          have c25 := q_g_ok h26
          refine Uif (q_lt c25 (by decide)) rfl rfl rfl rfl rfl rfl rfl (fun c27 => ?_) (fun c27 => ?_)
          · rw [if_pos c27] at h
            exact ih.2.2.1 _ hd _ _ _ _ _ _ _ _ _ _ _ _ h lv lk0 lk2 lk3 lk4 lk5 lk6 lk7 rv2
          · rw [if_neg c27] at h
            refine Vi rfl lk4 rfl ?_
            refine Vsp (v := Int32.ofInt 500) rfl (by decide) rfl ?_
            have hz := y_bind h
            clear h
            obtain ⟨_, h29, h⟩ := hz
            have c28 := q_g_ok h29
            refine Uif (q_le (by decide) c28) rfl rfl rfl rfl rfl rfl rfl (fun c30 => ?_) (fun c30 => ?_)
            · rw [if_pos c30] at h
              exact ih.2.2.1 _ hd _ _ _ _ _ _ _ _ _ _ _ _ h lv lk0 lk2 lk3 lk4 lk5 lk6 lk7 rv2
            · rw [if_neg c30] at h
              refine Van rfl lk0 rfl rfl ?_
              have hz := y_bind h
              clear h
              obtain ⟨v31, h32, h⟩ := hz
              have wv31 := (y_gv_ok h32).2
              refine Vgv h32 rfl rfl rfl ?_
              refine Vi rfl lk4 rfl ?_
              refine Van rfl lk0 rfl rfl ?_
              refine Vi rfl lk7 rfl ?_
              refine Van rfl lk2 rv2 rfl ?_
              have hz := y_bind h
              clear h
              obtain ⟨v33, h34, h⟩ := hz
              have wv33 := (y_gv_ok h34).2
              refine Vgv h34 rfl rfl rfl ?_
              refine Vi rfl lk6 rfl ?_
              have hz := y_bind h
              clear h
              obtain ⟨v35, h36, h⟩ := hz
              refine Zla (q_la_y h36) rfl rfl ?_
              have hz := y_bind h
              clear h
              obtain ⟨b41, h42, h⟩ := hz
              obtain ⟨eh42, fh42, wh42⟩ := y_rcv_ok h42
              cases eh42
              have hz := y_bind h
              clear h
              obtain ⟨⟨s37, r38⟩, h39, h⟩ := hz
              try dsimp only at h
              refine Vcv rfl rfl rfl wh42 rfl rfl ⟨(by simp only [List.take, List.reverse_cons, List.reverse_nil, List.nil_append, List.cons_append, List.map_cons, List.map_nil, y_cati, y_catl, y_catr, y_catn, y_cata, y_rv_cat wv31, List.sum_cons, List.sum_nil]; decide +kernel), (Nat.le_of_ble_eq_true rfl)⟩ rfl ((c_64 o n) _ (by omega) _ _ _ _ _ _ h39 _ rfl rfl rfl) (fun z1 z2 zq => ?_)
              obtain ⟨rfl, rfl⟩ := zq
              try dsimp only [Option.toList, HAppend.hAppend, Append.append, List.append]
              have hz := y_bind h
              clear h
              obtain ⟨s45, h46, h⟩ := hz
              refine Zls (q_ls_y h46) rfl rfl ?_
              refine Uinc rfl lk4 rfl (fun lv lk4 hk => ?_)
              have lk0 := hk 0 _ lk0 (by decide) (by decide) (Or.inl (by decide))
              have lk2 := hk 2 _ lk2 (by decide) (by decide) (Or.inl (by decide))
              have lk3 := hk 3 _ lk3 (by decide) (by decide) (Or.inr rfl)
              have lk5 := hk 5 _ lk5 (by decide) (by decide) (Or.inl (by decide))
              refine Ygo rfl rfl rfl rfl rfl rfl ?_
              exact ih.2.2.2.2.1 _ hd _ _ _ _ _ _ _ _ _ _ _ _ h lv lk0 lk2 lk3 lk4 lk5 rv2
    · intro d hd s r0 i1 a2 i3 i4 i5 i6 i7 tl0 s9 r h lv lk0 lk2 lk3 lk4 lk5 lk6 lk7 rv2
      obtain ⟨d, rfl⟩ : ∃ x, d = x + 1 := ⟨d - 1, by omega⟩
      simp only [g_63] at h
      refine Vi rfl lk7 rfl ?_
      refine Vbp (v := Int32.ofInt 6) rfl (by decide) rfl ?_
      have hz := y_bind h
      clear h
      obtain ⟨_, h2, h⟩ := hz
      have c1 := q_g_ok h2
      refine Uif (not_congr (q_eq c1 (by decide))) rfl rfl rfl rfl rfl rfl rfl (fun c3 => ?_) (fun c3 => ?_)
      · rw [if_pos c3] at h
        exact ih.2.2.2.1 _ hd _ _ _ _ _ _ _ _ _ _ _ _ h lv lk0 lk2 lk3 lk4 lk5 lk6 rv2
      · rw [if_neg c3] at h
        refine Vi rfl lk4 rfl ?_
        have hz := y_bind h
        clear h
        obtain ⟨_, h5, h⟩ := hz
        have c4 := q_g_ok h5
        refine Uif (q_le0 c4) rfl rfl rfl rfl rfl rfl rfl (fun c6 => ?_) (fun c6 => ?_)
        · rw [if_pos c6] at h
          exact ih.2.2.2.1 _ hd _ _ _ _ _ _ _ _ _ _ _ _ h lv lk0 lk2 lk3 lk4 lk5 lk6 rv2
        · rw [if_neg c6] at h
          refine Van rfl lk0 rfl rfl ?_
          have hz := y_bind h
          clear h
          obtain ⟨v7, h8, h⟩ := hz
          have wv7 := (y_gv_ok h8).2
          refine Vgv h8 rfl rfl rfl ?_
          refine Vi rfl lk4 rfl ?_
          refine Vic (v := Int32.ofInt 1) rfl rfl rfl ?_
          refine Usub rfl rfl ?_
          refine Van rfl lk0 rfl rfl ?_
          refine Van rfl lk0 rfl rfl ?_
          have hz := y_bind h
          clear h
          obtain ⟨v9, h10, h⟩ := hz
          have wv9 := (y_gv_ok h10).2
          refine Vgv h10 rfl rfl rfl ?_
          refine Vi rfl lk4 rfl ?_
          refine Vic (v := Int32.ofInt 1) rfl rfl rfl ?_
          refine Usub rfl rfl ?_
          have hz := y_bind h
          clear h
          obtain ⟨v11, h12, h⟩ := hz
          refine Zla (q_la_y h12) rfl rfl ?_
          refine Vi rfl lk6 rfl ?_
          have hz := y_bind h
          clear h
          obtain ⟨b17, h18, h⟩ := hz
          obtain ⟨eh18, fh18, wh18⟩ := y_rcv_ok h18
          cases eh18
          have hz := y_bind h
          clear h
          obtain ⟨⟨s13, r14⟩, h15, h⟩ := hz
          try dsimp only at h
          refine Vcv rfl rfl rfl wh18 rfl rfl ⟨(by simp only [List.take, List.reverse_cons, List.reverse_nil, List.nil_append, List.cons_append, List.map_cons, List.map_nil, y_cati, y_catl, y_catr, y_catn, y_cata, y_rv_cat wv7, List.sum_cons, List.sum_nil]; decide +kernel), (Nat.le_of_ble_eq_true rfl)⟩ rfl ((c_65 o n).1 _ (by omega) _ _ _ _ _ _ h15 _ rfl rfl rfl) (fun z1 z2 zq => ?_)
          obtain ⟨rfl, rfl⟩ := zq
          try dsimp only [Option.toList, HAppend.hAppend, Append.append, List.append]
          have hz := y_bind h
          clear h
          obtain ⟨s21, h22, h⟩ := hz
          refine Zls (q_ls_y h22) rfl rfl ?_
          refine Ygo rfl rfl rfl rfl rfl rfl ?_
          exact ih.2.2.2.2.1 _ hd _ _ _ _ _ _ _ _ _ _ _ _ h lv lk0 lk2 lk3 lk4 lk5 rv2
    · intro d hd s r0 i1 a2 i3 i4 i5 i6 i7 tl0 s9 r h lv lk0 lk2 lk3 lk4 lk5 lk6 rv2
      obtain ⟨d, rfl⟩ : ∃ x, d = x + 1 := ⟨d - 1, by omega⟩
      simp only [g_63] at h
      refine Vi rfl lk4 rfl ?_
      refine Vic (v := Int32.ofInt 1) rfl rfl rfl ?_
      have hz := y_bind h
      clear h
      obtain ⟨_, h2, h⟩ := hz
      have c1 := q_g_ok h2
      refine Uif (q_le c1 (by decide)) rfl rfl rfl rfl rfl rfl rfl (fun c3 => ?_) (fun c3 => ?_)
      · rw [if_pos c3] at h
        exact ih.2.2.2.2.1 _ hd _ _ _ _ _ _ _ _ _ _ _ _ h lv lk0 lk2 lk3 lk4 lk5 rv2
      · rw [if_neg c3] at h
        refine Uinc rfl lk4 rfl (fun lv lk4 hk => ?_)
        have lk0 := hk 0 _ lk0 (by decide) (by decide) (Or.inl (by decide))
        have lk2 := hk 2 _ lk2 (by decide) (by decide) (Or.inl (by decide))
        have lk3 := hk 3 _ lk3 (by decide) (by decide) (Or.inr rfl)
        have lk5 := hk 5 _ lk5 (by decide) (by decide) (Or.inl (by decide))
        have lk6 := hk 6 _ lk6 (by decide) (by decide) (Or.inl (by decide))
        refine Van rfl lk0 rfl rfl ?_
        have hz := y_bind h
        clear h
        obtain ⟨v4, h5, h⟩ := hz
        have wv4 := (y_gv_ok h5).2
        refine Vgv h5 rfl rfl rfl ?_
        refine Vi rfl lk4 rfl ?_
        refine Vic (v := Int32.ofInt 1) rfl rfl rfl ?_
        refine Usub rfl rfl ?_
        refine Van rfl lk0 rfl rfl ?_
        refine Vi rfl lk6 rfl ?_
        refine Van rfl lk0 rfl rfl ?_
        have hz := y_bind h
        clear h
        obtain ⟨v6, h7, h⟩ := hz
        have wv6 := (y_gv_ok h7).2
        refine Vgv h7 rfl rfl rfl ?_
        refine Vi rfl lk4 rfl ?_
        refine Vic (v := Int32.ofInt 1) rfl rfl rfl ?_
        refine Usub rfl rfl ?_
        have hz := y_bind h
        clear h
        obtain ⟨v8, h9, h⟩ := hz
        refine Zla (q_la_y h9) rfl rfl ?_
        refine Van rfl lk0 rfl rfl ?_
        have hz := y_bind h
        clear h
        obtain ⟨v10, h11, h⟩ := hz
        have wv10 := (y_gv_ok h11).2
        refine Vgv h11 rfl rfl rfl ?_
        refine Vi rfl lk4 rfl ?_
        have hz := y_bind h
        clear h
        obtain ⟨v12, h13, h⟩ := hz
        refine Zla (q_la_y h13) rfl rfl ?_
        have hz := y_bind h
        clear h
        obtain ⟨b18, h19, h⟩ := hz
        obtain ⟨eh19, fh19, wh19⟩ := y_rcv_ok h19
        cases eh19
        have hz := y_bind h
        clear h
        obtain ⟨⟨s14, r15⟩, h16, h⟩ := hz
        try dsimp only at h
        refine Vcv rfl rfl rfl wh19 rfl rfl ⟨(by simp only [List.take, List.reverse_cons, List.reverse_nil, List.nil_append, List.cons_append, List.map_cons, List.map_nil, y_cati, y_catl, y_catr, y_catn, y_cata, y_rv_cat wv4, List.sum_cons, List.sum_nil]; decide +kernel), (Nat.le_of_ble_eq_true rfl)⟩ rfl ((c_66 o n).1 _ (by omega) _ _ _ _ _ _ _ _ h16 _ rfl rfl rfl rfl) (fun z1 z2 zq => ?_)
        obtain ⟨rfl, rfl⟩ := zq
        try dsimp only [Option.toList, HAppend.hAppend, Append.append, List.append]
        have hz := y_bind h
        clear h
        obtain ⟨s22, h23, h⟩ := hz
        refine Zls (q_ls_y h23) rfl rfl ?_
        exact ih.2.2.2.2.1 _ hd _ _ _ _ _ _ _ _ _ _ _ _ h lv lk0 lk2 lk3 lk4 lk5 rv2
    · intro d hd s r0 i1 a2 i3 i4 i5 i6 i7 tl0 s9 r h lv lk0 lk2 lk3 lk4 lk5 rv2
      obtain ⟨d, rfl⟩ : ∃ x, d = x + 1 := ⟨d - 1, by omega⟩
      simp only [g_63] at h
      refine Uinc rfl lk5 rfl (fun lv lk5 hk => ?_)
      have lk0 := hk 0 _ lk0 (by decide) (by decide) (Or.inl (by decide))
      have lk2 := hk 2 _ lk2 (by decide) (by decide) (Or.inl (by decide))
      have lk3 := hk 3 _ lk3 (by decide) (by decide) (Or.inl (by decide))
      have lk4 := hk 4 _ lk4 (by decide) (by decide) (Or.inr rfl)
      refine Ygo rfl rfl rfl rfl rfl rfl ?_
      exact ih.2.1 _ hd _ _ _ _ _ _ _ _ _ _ _ _ h lv lk0 lk2 lk3 lk4 lk5 rv2
    · intro d hd s r0 i1 a2 i3 i4 i5 i6 i7 tl0 s9 r h lv lk0
      obtain ⟨d, rfl⟩ : ∃ x, d = x + 1 := ⟨d - 1, by omega⟩
      simp only [g_63] at h
      refine Van rfl lk0 rfl rfl ?_
      have hz := y_bind h
      clear h
      obtain ⟨v1, h2, h⟩ := hz
      have wv1 := (y_gv_ok h2).2
      refine Vgv h2 rfl rfl rfl ?_
      have hz := y_bind h
      clear h
      obtain ⟨b7, h8, h⟩ := hz
      obtain ⟨eh8, fh8, wh8⟩ := y_rcv_ok h8
      cases eh8
      have hz := y_bind h
      clear h
      obtain ⟨⟨s3, r4⟩, h5, h⟩ := hz
      try dsimp only at h
      refine Vcv rfl rfl rfl wh8 rfl rfl ⟨(Nat.le_of_ble_eq_true rfl), (Nat.le_of_ble_eq_true rfl)⟩ rfl ((c_43 o n).1 _ (by omega) _ _ _ _ _ h5 _ rfl) (fun z1 z2 zq => ?_)
      obtain ⟨rfl, rfl⟩ := zq
      try dsimp only [Option.toList, HAppend.hAppend, Append.append, List.append]
      have hz := y_bind h
      clear h
      obtain ⟨_, h12, h⟩ := hz
      have c11 := q_g_ok h12
      refine Uif (q_eq0 c11) rfl rfl rfl rfl rfl rfl rfl (fun c13 => ?_) (fun c13 => ?_)
      · rw [if_pos c13] at h
        refine Vlc (v := 0) rfl (by decide) rfl ?_
        exact ih.2.2.2.2.2.2 _ hd _ _ _ _ _ _ _ _ _ _ _ _ h lv trivial
      · rw [if_neg c13] at h
        refine Van rfl lk0 rfl rfl ?_
        have hz := y_bind h
        clear h
        obtain ⟨v14, h15, h⟩ := hz
        have wv14 := (y_gv_ok h15).2
        refine Vgv h15 rfl rfl rfl ?_
        refine Vic (v := Int32.ofInt 0) rfl rfl rfl ?_
        have hz := y_bind h
        clear h
        obtain ⟨v16, h17, h⟩ := hz
        refine Zla (q_la_y h17) rfl rfl ?_
        refine Ygo rfl rfl rfl rfl rfl rfl ?_
        exact ih.2.2.2.2.2.2 _ hd _ _ _ _ _ _ _ _ _ _ _ _ h lv trivial
    · intro d hd s r0 i1 a2 i3 i4 i5 i6 i7 tl0 s9 r h lv _
      obtain ⟨d, rfl⟩ : ∃ x, d = x + 1 := ⟨d - 1, by omega⟩
      simp only [g_63] at h
      cases h
      exact Yret rfl rfl rfl rfl rfl rfl rfl ⟨rfl, rfl⟩

/-- StepRows$Frames.firstBelow -/
def g_53 (o : X_O) : Nat → Nat → Q_S → Nat → Int → Int → Option (Q_S × Int)
  | 0, _, _, _, _, _ => none
  | n + 1, 0, s, r0, i1, ti0 => (q_gv s 5 (.ref r0) 3).bind fun v1 => (q_ia o s v1 i1).bind fun v3 => (q_g (q_in v3)).bind fun _ => if ¬ v3 = (-1) then (q_gv s 5 (.ref r0) 3).bind fun v8 => (q_ia o s v8 i1).bind fun v10 => g_53 o n 1 s 0 0 (v10) else (q_gv s 5 (.ref r0) 4).bind fun v12 => (q_ia o s v12 i1).bind fun v14 => g_53 o n 1 s 0 0 (v14)
  | n + 1, 1, s, r0, i1, ti0 => some (s, ti0)
  | _ + 1, _, _, _, _, _ => none
set_option maxRecDepth 100000 in
set_option maxHeartbeats 4000000 in
theorem c_53 (o : X_O) : ∀ n, (∀ (d : Nat) (hd : 0 ≤ d) (s : Q_S) (r0 : Nat) (i1 : Int) (ti0 : Int) (s9 : Q_S) (r : Int), g_53 o n 0 s r0 i1 ti0 = some (s9, r) → ∀ lv : X_L, x_lget lv 0 = some (.ref r0) → x_lget lv 1 = some (.int (Int32.ofInt i1)) → Y o d 53 0 lv [] (q_y s) (fun s1 r1 => s1 = q_y s9 ∧ r1 = some (.int (Int32.ofInt r)))) ∧
    (∀ (d : Nat) (hd : 0 ≤ d) (s : Q_S) (r0 : Nat) (i1 : Int) (ti0 : Int) (s9 : Q_S) (r : Int), g_53 o n 1 s r0 i1 ti0 = some (s9, r) → ∀ lv : X_L, True → Y o d 53 25 lv [.int (Int32.ofInt ti0)] (q_y s) (fun s1 r1 => s1 = q_y s9 ∧ r1 = some (.int (Int32.ofInt r)))) := by
  intro n
  induction n with
  | zero => exact ⟨fun d hd s _ _ _ s9 r h => (by simp only [g_53] at h; cases h), fun d hd s _ _ _ s9 r h => (by simp only [g_53] at h; cases h)⟩
  | succ n ih =>
    refine ⟨?_, ?_⟩
    · intro d hd s r0 i1 ti0 s9 r h lv lk0 lk1
      simp only [g_53] at h
      refine Van rfl lk0 rfl rfl ?_
      have hz := y_bind h
      clear h
      obtain ⟨v1, h2, h⟩ := hz
      have wv1 := (y_gv_ok h2).2
      refine Vgv h2 rfl rfl rfl ?_
      refine Vin rfl lk1 rfl ?_
      have hz := y_bind h
      clear h
      obtain ⟨v3, h4, h⟩ := hz
      refine Zia (q_ia_y h4) rfl rfl ?_
      refine Vic (v := Int32.ofInt (-1)) rfl rfl rfl ?_
      have hz := y_bind h
      clear h
      obtain ⟨_, h6, h⟩ := hz
      have c5 := q_g_ok h6
      refine Uif (not_congr (q_eq c5 (by decide))) rfl rfl rfl rfl rfl rfl rfl (fun c7 => ?_) (fun c7 => ?_)
      · rw [if_pos c7] at h
        refine Van rfl lk0 rfl rfl ?_
        have hz := y_bind h
        clear h
        obtain ⟨v8, h9, h⟩ := hz
        have wv8 := (y_gv_ok h9).2
        refine Vgv h9 rfl rfl rfl ?_
        refine Vin rfl lk1 rfl ?_
        have hz := y_bind h
        clear h
        obtain ⟨v10, h11, h⟩ := hz
        refine Zia (q_ia_y h11) rfl rfl ?_
        exact ih.2 _ hd _ _ _ _ _ _ h lv trivial
      · rw [if_neg c7] at h
        refine Van rfl lk0 rfl rfl ?_
        have hz := y_bind h
        clear h
        obtain ⟨v12, h13, h⟩ := hz
        have wv12 := (y_gv_ok h13).2
        refine Vgv h13 rfl rfl rfl ?_
        refine Vin rfl lk1 rfl ?_
        have hz := y_bind h
        clear h
        obtain ⟨v14, h15, h⟩ := hz
        refine Zia (q_ia_y h15) rfl rfl ?_
        refine Ygo rfl rfl rfl rfl rfl rfl ?_
        exact ih.2 _ hd _ _ _ _ _ _ h lv trivial
    · intro d hd s r0 i1 ti0 s9 r h lv _
      simp only [g_53] at h
      cases h
      exact Yret rfl rfl rfl rfl rfl rfl rfl ⟨rfl, rfl⟩

/-- StepRows$Frames.remove -/
def g_54 (o : X_O) : Nat → Nat → Q_S → Nat → Int → Option (Q_S × Unit)
  | 0, _, _, _, _ => none
  | n + 1, 0, s, r0, i1 => (q_gv s 5 (.ref r0) 2).bind fun v1 => (q_ia o s v1 i1).bind fun v3 => (q_g (q_in v3)).bind fun _ => if ¬ v3 = (-1) then (q_gv s 5 (.ref r0) 3).bind fun v8 => (q_ia o s v8 v3).bind fun v10 => (q_g (q_in v10 ∧ q_in i1)).bind fun _ => if ¬ v10 = i1 then (q_gv s 5 (.ref r0) 4).bind fun v15 => (q_is s v15 v3 (-1)).bind fun s17 => g_54 o n 1 s17 r0 (i1) else (q_gv s 5 (.ref r0) 3).bind fun v19 => (q_is s v19 v3 (-1)).bind fun s21 => g_54 o n 1 s21 r0 (i1) else (q_pi s 5 (.ref r0) 10 (-1)).bind fun s23 => g_54 o n 1 s23 r0 (i1)
  | n + 1, 1, s, r0, i1 => (q_gv s 5 (.ref r0) 0).bind fun v1 => (q_ia o s v1 i1).bind fun v3 => (q_g (q_in v3)).bind fun _ => if ¬ v3 = 18 then g_54 o n 2 s r0 (i1) else (q_gi s 5 (.ref r0) 13).bind fun v8 => (q_pi s 5 (.ref r0) 13 (v8 - 1)).bind fun s10 => g_54 o n 2 s10 r0 (i1)
  | n + 1, 2, s, r0, i1 => (q_gv s 5 (.ref r0) 2).bind fun v1 => (q_gi s 5 (.ref r0) 11).bind fun v3 => (q_is s v1 i1 v3).bind fun s5 => (q_pi s5 5 (.ref r0) 11 i1).bind fun s7 => some (s7, ())
  | _ + 1, _, _, _, _ => none
set_option maxRecDepth 100000 in
set_option maxHeartbeats 4000000 in
theorem c_54 (o : X_O) : ∀ n, (∀ (d : Nat) (hd : 0 ≤ d) (s : Q_S) (r0 : Nat) (i1 : Int) (s9 : Q_S) (r : Unit), g_54 o n 0 s r0 i1 = some (s9, r) → ∀ lv : X_L, x_lget lv 0 = some (.ref r0) → x_lget lv 1 = some (.int (Int32.ofInt i1)) → Y o d 54 0 lv [] (q_y s) (fun s1 r1 => s1 = q_y s9 ∧ r1 = none)) ∧
    (∀ (d : Nat) (hd : 0 ≤ d) (s : Q_S) (r0 : Nat) (i1 : Int) (s9 : Q_S) (r : Unit), g_54 o n 1 s r0 i1 = some (s9, r) → ∀ lv : X_L, x_lget lv 0 = some (.ref r0) → x_lget lv 1 = some (.int (Int32.ofInt i1)) → Y o d 54 47 lv [] (q_y s) (fun s1 r1 => s1 = q_y s9 ∧ r1 = none)) ∧
    (∀ (d : Nat) (hd : 0 ≤ d) (s : Q_S) (r0 : Nat) (i1 : Int) (s9 : Q_S) (r : Unit), g_54 o n 2 s r0 i1 = some (s9, r) → ∀ lv : X_L, x_lget lv 0 = some (.ref r0) → x_lget lv 1 = some (.int (Int32.ofInt i1)) → Y o d 54 68 lv [] (q_y s) (fun s1 r1 => s1 = q_y s9 ∧ r1 = none)) := by
  intro n
  induction n with
  | zero => exact ⟨fun d hd s _ _ s9 r h => (by simp only [g_54] at h; cases h), fun d hd s _ _ s9 r h => (by simp only [g_54] at h; cases h), fun d hd s _ _ s9 r h => (by simp only [g_54] at h; cases h)⟩
  | succ n ih =>
    refine ⟨?_, ?_, ?_⟩
    · intro d hd s r0 i1 s9 r h lv lk0 lk1
      simp only [g_54] at h
      refine Van rfl lk0 rfl rfl ?_
      have hz := y_bind h
      clear h
      obtain ⟨v1, h2, h⟩ := hz
      have wv1 := (y_gv_ok h2).2
      refine Vgv h2 rfl rfl rfl ?_
      refine Vin rfl lk1 rfl ?_
      have hz := y_bind h
      clear h
      obtain ⟨v3, h4, h⟩ := hz
      refine Zia (q_ia_y h4) rfl rfl ?_
      refine Vsin rfl rfl (fun lv lk2 hk => ?_)
      have lk0 := hk 0 _ lk0 (by decide) (by decide) (Or.inl (by decide))
      have lk1 := hk 1 _ lk1 (by decide) (by decide) (Or.inr rfl)
      refine Vin rfl lk2 rfl ?_
      refine Vic (v := Int32.ofInt (-1)) rfl rfl rfl ?_
      have hz := y_bind h
      clear h
      obtain ⟨_, h6, h⟩ := hz
      have c5 := q_g_ok h6
      refine Uif (not_congr (q_eq c5 (by decide))) rfl rfl rfl rfl rfl rfl rfl (fun c7 => ?_) (fun c7 => ?_)
      · rw [if_pos c7] at h
        refine Van rfl lk0 rfl rfl ?_
        have hz := y_bind h
        clear h
        obtain ⟨v8, h9, h⟩ := hz
        have wv8 := (y_gv_ok h9).2
        refine Vgv h9 rfl rfl rfl ?_
        refine Vin rfl lk2 rfl ?_
        have hz := y_bind h
        clear h
        obtain ⟨v10, h11, h⟩ := hz
        refine Zia (q_ia_y h11) rfl rfl ?_
        refine Vin rfl lk1 rfl ?_
        have hz := y_bind h
        clear h
        obtain ⟨_, h13, h⟩ := hz
        have c12 := q_g_ok h13
        refine Uif (not_congr (q_eq c12.1 c12.2)) rfl rfl rfl rfl rfl rfl rfl (fun c14 => ?_) (fun c14 => ?_)
        · rw [if_pos c14] at h
          refine Van rfl lk0 rfl rfl ?_
          have hz := y_bind h
          clear h
          obtain ⟨v15, h16, h⟩ := hz
          have wv15 := (y_gv_ok h16).2
          refine Vgv h16 rfl rfl rfl ?_
          refine Vin rfl lk2 rfl ?_
          refine Vic (v := Int32.ofInt (-1)) rfl rfl rfl ?_
          have hz := y_bind h
          clear h
          obtain ⟨s17, h18, h⟩ := hz
          refine Zis (q_is_y h18) rfl rfl ?_
          exact ih.2.1 _ hd _ _ _ _ _ h lv lk0 lk1
        · rw [if_neg c14] at h
          refine Van rfl lk0 rfl rfl ?_
          have hz := y_bind h
          clear h
          obtain ⟨v19, h20, h⟩ := hz
          have wv19 := (y_gv_ok h20).2
          refine Vgv h20 rfl rfl rfl ?_
          refine Vin rfl lk2 rfl ?_
          refine Vic (v := Int32.ofInt (-1)) rfl rfl rfl ?_
          have hz := y_bind h
          clear h
          obtain ⟨s21, h22, h⟩ := hz
          refine Zis (q_is_y h22) rfl rfl ?_
          refine Ygo rfl rfl rfl rfl rfl rfl ?_
          exact ih.2.1 _ hd _ _ _ _ _ h lv lk0 lk1
      · rw [if_neg c7] at h
        refine Van rfl lk0 rfl rfl ?_
        refine Vic (v := Int32.ofInt (-1)) rfl rfl rfl ?_
        have hz := y_bind h
        clear h
        obtain ⟨s23, h24, h⟩ := hz
        refine Zpi (q_pi_y h24) rfl rfl rfl rfl ?_
        refine Ygo rfl rfl rfl rfl rfl rfl ?_
        exact ih.2.1 _ hd _ _ _ _ _ h lv lk0 lk1
    · intro d hd s r0 i1 s9 r h lv lk0 lk1
      simp only [g_54] at h
      refine Van rfl lk0 rfl rfl ?_
      have hz := y_bind h
      clear h
      obtain ⟨v1, h2, h⟩ := hz
      have wv1 := (y_gv_ok h2).2
      refine Vgv h2 rfl rfl rfl ?_
      refine Vin rfl lk1 rfl ?_
      have hz := y_bind h
      clear h
      obtain ⟨v3, h4, h⟩ := hz
      refine Zia (q_ia_y h4) rfl rfl ?_
      refine Vbp (v := Int32.ofInt 18) rfl (by decide) rfl ?_
      have hz := y_bind h
      clear h
      obtain ⟨_, h6, h⟩ := hz
      have c5 := q_g_ok h6
      refine Uif (not_congr (q_eq c5 (by decide))) rfl rfl rfl rfl rfl rfl rfl (fun c7 => ?_) (fun c7 => ?_)
      · rw [if_pos c7] at h
        exact ih.2.2 _ hd _ _ _ _ _ h lv lk0 lk1
      · rw [if_neg c7] at h
        refine Van rfl lk0 rfl rfl ?_
        refine Vdup rfl rfl rfl ?_
        have hz := y_bind h
        clear h
        obtain ⟨v8, h9, h⟩ := hz
        refine Zgi (q_gi_y h9) rfl rfl rfl ?_
        refine Vic (v := Int32.ofInt 1) rfl rfl rfl ?_
        refine Usub rfl rfl ?_
        have hz := y_bind h
        clear h
        obtain ⟨s10, h11, h⟩ := hz
        refine Zpi (q_pi_y h11) rfl rfl rfl rfl ?_
        exact ih.2.2 _ hd _ _ _ _ _ h lv lk0 lk1
    · intro d hd s r0 i1 s9 r h lv lk0 lk1
      simp only [g_54] at h
      refine Van rfl lk0 rfl rfl ?_
      have hz := y_bind h
      clear h
      obtain ⟨v1, h2, h⟩ := hz
      have wv1 := (y_gv_ok h2).2
      refine Vgv h2 rfl rfl rfl ?_
      refine Vin rfl lk1 rfl ?_
      refine Van rfl lk0 rfl rfl ?_
      have hz := y_bind h
      clear h
      obtain ⟨v3, h4, h⟩ := hz
      refine Zgi (q_gi_y h4) rfl rfl rfl ?_
      have hz := y_bind h
      clear h
      obtain ⟨s5, h6, h⟩ := hz
      refine Zis (q_is_y h6) rfl rfl ?_
      refine Van rfl lk0 rfl rfl ?_
      refine Vin rfl lk1 rfl ?_
      have hz := y_bind h
      clear h
      obtain ⟨s7, h8, h⟩ := hz
      refine Zpi (q_pi_y h8) rfl rfl rfl rfl ?_
      cases h
      exact Yret rfl rfl rfl rfl rfl rfl rfl ⟨rfl, rfl⟩

/-- StepRows$Frames.removeBelow -/
def g_52 (o : X_O) : Nat → Nat → Q_S → Nat → Int → Int → Int → Option (Q_S × Unit)
  | 0, _, _, _, _, _, _ => none
  | n + 1, 0, s, r0, i1, i2, i3 => g_52 o n 1 s r0 (i1) (i1) (0)
  | n + 1, 1, s, r0, i1, i2, i3 => (q_g (q_in i3)).bind fun _ => if 1000000 ≤ i3 then g_52 o n 3 s 0 0 0 0 else (q_rcv s 5 (.ref r0)).bind fun b8 => (g_53 o n 0 s b8 (i2) 0).bind fun q7 => (q_g (q_in q7.2)).bind fun _ => if q7.2 = (-1) then (q_g (q_in i2 ∧ q_in i1)).bind fun _ => if ¬ i2 = i1 then (q_gv q7.1 5 (.ref r0) 2).bind fun v18 => (q_ia o q7.1 v18 i2).bind fun v20 => (q_rcv q7.1 5 (.ref r0)).bind fun b26 => (g_54 o n 0 q7.1 b26 (i2)).bind fun q25 => g_52 o n 2 q25.1 r0 (i1) (v20) (i3) else g_52 o n 3 q7.1 0 0 0 0 else g_52 o n 2 q7.1 r0 (i1) (q7.2) (i3)
  | n + 1, 2, s, r0, i1, i2, i3 => g_52 o n 1 s r0 (i1) (i2) ((i3 + 1))
  | n + 1, 3, s, r0, i1, i2, i3 => some (s, ())
  | _ + 1, _, _, _, _, _, _ => none
set_option maxRecDepth 100000 in
set_option maxHeartbeats 4000000 in
theorem c_52 (o : X_O) : ∀ n, (∀ (d : Nat) (hd : 1 ≤ d) (s : Q_S) (r0 : Nat) (i1 : Int) (i2 : Int) (i3 : Int) (s9 : Q_S) (r : Unit), g_52 o n 0 s r0 i1 i2 i3 = some (s9, r) → ∀ lv : X_L, x_lget lv 0 = some (.ref r0) → x_lget lv 1 = some (.int (Int32.ofInt i1)) → Y o d 52 0 lv [] (q_y s) (fun s1 r1 => s1 = q_y s9 ∧ r1 = none)) ∧
    (∀ (d : Nat) (hd : 1 ≤ d) (s : Q_S) (r0 : Nat) (i1 : Int) (i2 : Int) (i3 : Int) (s9 : Q_S) (r : Unit), g_52 o n 1 s r0 i1 i2 i3 = some (s9, r) → ∀ lv : X_L, x_lget lv 0 = some (.ref r0) → x_lget lv 1 = some (.int (Int32.ofInt i1)) → x_lget lv 2 = some (.int (Int32.ofInt i2)) → x_lget lv 3 = some (.int (Int32.ofInt i3)) → Y o d 52 4 lv [] (q_y s) (fun s1 r1 => s1 = q_y s9 ∧ r1 = none)) ∧
    (∀ (d : Nat) (hd : 1 ≤ d) (s : Q_S) (r0 : Nat) (i1 : Int) (i2 : Int) (i3 : Int) (s9 : Q_S) (r : Unit), g_52 o n 2 s r0 i1 i2 i3 = some (s9, r) → ∀ lv : X_L, x_lget lv 0 = some (.ref r0) → x_lget lv 1 = some (.int (Int32.ofInt i1)) → x_lget lv 2 = some (.int (Int32.ofInt i2)) → x_lget lv 3 = some (.int (Int32.ofInt i3)) → Y o d 52 53 lv [] (q_y s) (fun s1 r1 => s1 = q_y s9 ∧ r1 = none)) ∧
    (∀ (d : Nat) (hd : 1 ≤ d) (s : Q_S) (r0 : Nat) (i1 : Int) (i2 : Int) (i3 : Int) (s9 : Q_S) (r : Unit), g_52 o n 3 s r0 i1 i2 i3 = some (s9, r) → ∀ lv : X_L, True → Y o d 52 59 lv [] (q_y s) (fun s1 r1 => s1 = q_y s9 ∧ r1 = none)) := by
  intro n
  induction n with
  | zero => exact ⟨fun d hd s _ _ _ _ s9 r h => (by simp only [g_52] at h; cases h), fun d hd s _ _ _ _ s9 r h => (by simp only [g_52] at h; cases h), fun d hd s _ _ _ _ s9 r h => (by simp only [g_52] at h; cases h), fun d hd s _ _ _ _ s9 r h => (by simp only [g_52] at h; cases h)⟩
  | succ n ih =>
    refine ⟨?_, ?_, ?_, ?_⟩
    · intro d hd s r0 i1 i2 i3 s9 r h lv lk0 lk1
      obtain ⟨d, rfl⟩ : ∃ x, d = x + 1 := ⟨d - 1, by omega⟩
      simp only [g_52] at h
      refine Vin rfl lk1 rfl ?_
      refine Vsin rfl rfl (fun lv lk2 hk => ?_)
      have lk0 := hk 0 _ lk0 (by decide) (by decide) (Or.inl (by decide))
      have lk1 := hk 1 _ lk1 (by decide) (by decide) (Or.inr rfl)
      refine Vic (v := Int32.ofInt 0) rfl rfl rfl ?_
      refine Vsin rfl rfl (fun lv lk3 hk => ?_)
      have lk0 := hk 0 _ lk0 (by decide) (by decide) (Or.inl (by decide))
      have lk1 := hk 1 _ lk1 (by decide) (by decide) (Or.inl (by decide))
      have lk2 := hk 2 _ lk2 (by decide) (by decide) (Or.inr rfl)
      exact ih.2.1 _ hd _ _ _ _ _ _ _ h lv lk0 lk1 lk2 lk3
    · intro d hd s r0 i1 i2 i3 s9 r h lv lk0 lk1 lk2 lk3
      obtain ⟨d, rfl⟩ : ∃ x, d = x + 1 := ⟨d - 1, by omega⟩
      simp only [g_52] at h
      refine Vin rfl lk3 rfl ?_
      refine Yk (v := .int (Int32.ofInt 1000000)) rfl rfl rfl rfl rfl ?_
      have hz := y_bind h
      clear h
      obtain ⟨_, h2, h⟩ := hz
      have c1 := q_g_ok h2
      refine Uif (q_le (by decide) c1) rfl rfl rfl rfl rfl rfl rfl (fun c3 => ?_) (fun c3 => ?_)
      · rw [if_pos c3] at h
        exact ih.2.2.2 _ hd _ _ _ _ _ _ _ h lv trivial
      · rw [if_neg c3] at h
        refine Van rfl lk0 rfl rfl ?_
        refine Vin rfl lk2 rfl ?_
        have hz := y_bind h
        clear h
        obtain ⟨b8, h9, h⟩ := hz
        obtain ⟨eh9, fh9, wh9⟩ := y_rcv_ok h9
        cases eh9
        have hz := y_bind h
        clear h
        obtain ⟨⟨s4, r5⟩, h6, h⟩ := hz
        try dsimp only at h
        refine Vcv rfl rfl rfl wh9 rfl rfl ⟨(Nat.le_of_ble_eq_true rfl), (Nat.le_of_ble_eq_true rfl)⟩ rfl ((c_53 o n).1 _ (by omega) _ _ _ _ _ _ h6 _ rfl rfl) (fun z1 z2 zq => ?_)
        obtain ⟨rfl, rfl⟩ := zq
        try dsimp only [Option.toList, HAppend.hAppend, Append.append, List.append]
        refine Vsi rfl rfl (fun lv lk4 hk => ?_)
        have lk0 := hk 0 _ lk0 (by decide) (by decide) (Or.inl (by decide))
        have lk1 := hk 1 _ lk1 (by decide) (by decide) (Or.inl (by decide))
        have lk2 := hk 2 _ lk2 (by decide) (by decide) (Or.inl (by decide))
        have lk3 := hk 3 _ lk3 (by decide) (by decide) (Or.inr rfl)
        refine Vi rfl lk4 rfl ?_
        refine Vic (v := Int32.ofInt (-1)) rfl rfl rfl ?_
        have hz := y_bind h
        clear h
        obtain ⟨_, h13, h⟩ := hz
        have c12 := q_g_ok h13
        refine Uif (q_eq c12 (by decide)) rfl rfl rfl rfl rfl rfl rfl (fun c14 => ?_) (fun c14 => ?_)
        · rw [if_pos c14] at h
          refine Vin rfl lk2 rfl ?_
          refine Vin rfl lk1 rfl ?_
          have hz := y_bind h
          clear h
          obtain ⟨_, h16, h⟩ := hz
          have c15 := q_g_ok h16
          refine Uif (not_congr (q_eq c15.1 c15.2)) rfl rfl rfl rfl rfl rfl rfl (fun c17 => ?_) (fun c17 => ?_)
          · rw [if_pos c17] at h
            refine Van rfl lk0 rfl rfl ?_
            have hz := y_bind h
            clear h
            obtain ⟨v18, h19, h⟩ := hz
            have wv18 := (y_gv_ok h19).2
            refine Vgv h19 rfl rfl rfl ?_
            refine Vin rfl lk2 rfl ?_
            have hz := y_bind h
            clear h
            obtain ⟨v20, h21, h⟩ := hz
            refine Zia (q_ia_y h21) rfl rfl ?_
            refine Vsi rfl rfl (fun lv lk5 hk => ?_)
            have lk0 := hk 0 _ lk0 (by decide) (by decide) (Or.inl (by decide))
            have lk1 := hk 1 _ lk1 (by decide) (by decide) (Or.inl (by decide))
            have lk2 := hk 2 _ lk2 (by decide) (by decide) (Or.inl (by decide))
            have lk3 := hk 3 _ lk3 (by decide) (by decide) (Or.inl (by decide))
            refine Van rfl lk0 rfl rfl ?_
            refine Vin rfl lk2 rfl ?_
            have hz := y_bind h
            clear h
            obtain ⟨b26, h27, h⟩ := hz
            obtain ⟨eh27, fh27, wh27⟩ := y_rcv_ok h27
            cases eh27
            have hz := y_bind h
            clear h
            obtain ⟨⟨s22, r23⟩, h24, h⟩ := hz
            try dsimp only at h
            refine Vcv rfl rfl rfl wh27 rfl rfl ⟨(Nat.le_of_ble_eq_true rfl), (Nat.le_of_ble_eq_true rfl)⟩ rfl ((c_54 o n).1 _ (by omega) _ _ _ _ _ h24 _ rfl rfl) (fun z1 z2 zq => ?_)
            obtain ⟨rfl, rfl⟩ := zq
            try dsimp only [Option.toList, HAppend.hAppend, Append.append, List.append]
            refine Vi rfl lk5 rfl ?_
            refine Vsin rfl rfl (fun lv lk2 hk => ?_)
            have lk0 := hk 0 _ lk0 (by decide) (by decide) (Or.inl (by decide))
            have lk1 := hk 1 _ lk1 (by decide) (by decide) (Or.inr rfl)
            have lk3 := hk 3 _ lk3 (by decide) (by decide) (Or.inl (by decide))
            exact ih.2.2.1 _ hd _ _ _ _ _ _ _ h lv lk0 lk1 lk2 lk3
          · rw [if_neg c17] at h
            refine Ygo rfl rfl rfl rfl rfl rfl ?_
            exact ih.2.2.2 _ hd _ _ _ _ _ _ _ h lv trivial
        · rw [if_neg c14] at h
          refine Vi rfl lk4 rfl ?_
          refine Vsin rfl rfl (fun lv lk2 hk => ?_)
          have lk0 := hk 0 _ lk0 (by decide) (by decide) (Or.inl (by decide))
          have lk1 := hk 1 _ lk1 (by decide) (by decide) (Or.inr rfl)
          have lk3 := hk 3 _ lk3 (by decide) (by decide) (Or.inl (by decide))
          refine Ygo rfl rfl rfl rfl rfl rfl ?_
          exact ih.2.2.1 _ hd _ _ _ _ _ _ _ h lv lk0 lk1 lk2 lk3
    · intro d hd s r0 i1 i2 i3 s9 r h lv lk0 lk1 lk2 lk3
      obtain ⟨d, rfl⟩ : ∃ x, d = x + 1 := ⟨d - 1, by omega⟩
      simp only [g_52] at h
      refine Uinc rfl lk3 rfl (fun lv lk3 hk => ?_)
      have lk0 := hk 0 _ lk0 (by decide) (by decide) (Or.inl (by decide))
      have lk1 := hk 1 _ lk1 (by decide) (by decide) (Or.inl (by decide))
      have lk2 := hk 2 _ lk2 (by decide) (by decide) (Or.inr rfl)
      refine Ygo rfl rfl rfl rfl rfl rfl ?_
      exact ih.2.1 _ hd _ _ _ _ _ _ _ h lv lk0 lk1 lk2 lk3
    · intro d hd s r0 i1 i2 i3 s9 r h lv _
      obtain ⟨d, rfl⟩ : ∃ x, d = x + 1 := ⟨d - 1, by omega⟩
      simp only [g_52] at h
      cases h
      exact Yret rfl rfl rfl rfl rfl rfl rfl ⟨rfl, rfl⟩

/-- StepRows$Walker.lookAgain -/
def g_62 (o : X_O) : Nat → Nat → Q_S → Nat → Int → Option (Q_S × Unit)
  | 0, _, _, _, _ => none
  | n + 1, 0, s, r0, i1 => (q_gv s 6 (.ref r0) 1).bind fun v1 => (q_gv s 5 v1 1).bind fun v3 => (q_ia o s v3 i1).bind fun v5 => (q_rcv s 6 (.ref r0)).bind fun b11 => (g_63 o n 0 s b11 ((v5 + 1)) .null 0 0 0 0 0 0).bind fun q10 => if ¬ q10.2 = 0 then g_62 o n 1 q10.1 0 0 else (q_gv q10.1 6 (.ref r0) 0).bind fun v16 => (q_rcv q10.1 4 v16).bind fun b22 => (g_43 o n 0 q10.1 b22 0).bind fun q21 => (q_g (q_in q21.2)).bind fun _ => if q21.2 = 0 then g_62 o n 1 q21.1 0 0 else (q_gv q21.1 6 (.ref r0) 1).bind fun v29 => (q_rcv q21.1 5 v29).bind fun b35 => (g_52 o n 0 q21.1 b35 (i1) 0 0).bind fun q34 => (q_gv q34.1 6 (.ref r0) 1).bind fun v39 => (q_gv q34.1 5 v39 0).bind fun v41 => (q_is q34.1 v41 i1 40).bind fun s43 => (q_gv s43 6 (.ref r0) 1).bind fun v45 => (q_gv s43 5 v45 1).bind fun v47 => (q_gv s43 6 (.ref r0) 0).bind fun v49 => (q_gv s43 4 v49 1).bind fun v51 => (q_rcv s43 3 v51).bind fun b57 => (g_38 o n 0 s43 b57 (v5)).bind fun q56 => (q_is q56.1 v47 i1 q56.2).bind fun s61 => g_62 o n 1 s61 0 0
  | n + 1, 1, s, r0, i1 => some (s, ())
  | _ + 1, _, _, _, _ => none
set_option maxRecDepth 100000 in
set_option maxHeartbeats 4000000 in
theorem c_62 (o : X_O) : ∀ n, (∀ (d : Nat) (hd : 4 ≤ d) (s : Q_S) (r0 : Nat) (i1 : Int) (s9 : Q_S) (r : Unit), g_62 o n 0 s r0 i1 = some (s9, r) → ∀ lv : X_L, x_lget lv 0 = some (.ref r0) → x_lget lv 1 = some (.int (Int32.ofInt i1)) → Y o d 62 0 lv [] (q_y s) (fun s1 r1 => s1 = q_y s9 ∧ r1 = none)) ∧
    (∀ (d : Nat) (hd : 4 ≤ d) (s : Q_S) (r0 : Nat) (i1 : Int) (s9 : Q_S) (r : Unit), g_62 o n 1 s r0 i1 = some (s9, r) → ∀ lv : X_L, True → Y o d 62 73 lv [] (q_y s) (fun s1 r1 => s1 = q_y s9 ∧ r1 = none)) := by
  intro n
  induction n with
  | zero => exact ⟨fun d hd s _ _ s9 r h => (by simp only [g_62] at h; cases h), fun d hd s _ _ s9 r h => (by simp only [g_62] at h; cases h)⟩
  | succ n ih =>
    refine ⟨?_, ?_⟩
    · intro d hd s r0 i1 s9 r h lv lk0 lk1
      obtain ⟨d, rfl⟩ : ∃ x, d = x + 1 := ⟨d - 1, by omega⟩
      simp only [g_62] at h
      refine Van rfl lk0 rfl rfl ?_
      have hz := y_bind h
      clear h
      obtain ⟨v1, h2, h⟩ := hz
      have wv1 := (y_gv_ok h2).2
      refine Vgv h2 rfl rfl rfl ?_
      have hz := y_bind h
      clear h
      obtain ⟨v3, h4, h⟩ := hz
      have wv3 := (y_gv_ok h4).2
      refine Vgv h4 rfl rfl rfl ?_
      refine Vin rfl lk1 rfl ?_
      have hz := y_bind h
      clear h
      obtain ⟨v5, h6, h⟩ := hz
      refine Zia (q_ia_y h6) rfl rfl ?_
      refine Vsin rfl rfl (fun lv lk2 hk => ?_)
      have lk0 := hk 0 _ lk0 (by decide) (by decide) (Or.inl (by decide))
      have lk1 := hk 1 _ lk1 (by decide) (by decide) (Or.inr rfl)
      refine Van rfl lk0 rfl rfl ?_
      refine Vin rfl lk2 rfl ?_
      refine Vic (v := Int32.ofInt 1) rfl rfl rfl ?_
      refine Uadd rfl rfl ?_
      have hz := y_bind h
      clear h
      obtain ⟨b11, h12, h⟩ := hz
      obtain ⟨eh12, fh12, wh12⟩ := y_rcv_ok h12
      cases eh12
      have hz := y_bind h
      clear h
      obtain ⟨⟨s7, r8⟩, h9, h⟩ := hz
      try dsimp only at h
      refine Vcv rfl rfl rfl wh12 rfl rfl ⟨(Nat.le_of_ble_eq_true rfl), (Nat.le_of_ble_eq_true rfl)⟩ rfl ((c_63 o n).1 _ (by omega) _ _ _ _ _ _ _ _ _ _ _ _ h9 _ rfl rfl) (fun z1 z2 zq => ?_)
      obtain ⟨rfl, rfl⟩ := zq
      try dsimp only [Option.toList, HAppend.hAppend, Append.append, List.append]
      refine Vsln rfl rfl (fun lv lk3 hk => ?_)
      have lk0 := hk 0 _ lk0 (by decide) (by decide) (Or.inl (by decide))
      have lk1 := hk 1 _ lk1 (by decide) (by decide) (Or.inl (by decide))
      have lk2 := hk 2 _ lk2 (by decide) (by decide) (Or.inr rfl)
      refine Vln rfl lk3 rfl ?_
      refine Vlc (v := 0) rfl (by decide) rfl ?_
      refine Ya rfl rfl rfl ?_
      refine Uif (not_congr (lg_cmp_eq _ _)) rfl rfl rfl rfl rfl rfl rfl (fun c15 => ?_) (fun c15 => ?_)
      · rw [if_pos c15] at h
        exact ih.2 _ hd _ _ _ _ _ h lv trivial
      · rw [if_neg c15] at h
        refine Van rfl lk0 rfl rfl ?_
        have hz := y_bind h
        clear h
        obtain ⟨v16, h17, h⟩ := hz
        have wv16 := (y_gv_ok h17).2
        refine Vgv h17 rfl rfl rfl ?_
        have hz := y_bind h
        clear h
        obtain ⟨b22, h23, h⟩ := hz
        obtain ⟨eh23, fh23, wh23⟩ := y_rcv_ok h23
        cases eh23
        have hz := y_bind h
        clear h
        obtain ⟨⟨s18, r19⟩, h20, h⟩ := hz
        try dsimp only at h
        refine Vcv rfl rfl rfl wh23 rfl rfl ⟨(Nat.le_of_ble_eq_true rfl), (Nat.le_of_ble_eq_true rfl)⟩ rfl ((c_43 o n).1 _ (by omega) _ _ _ _ _ h20 _ rfl) (fun z1 z2 zq => ?_)
        obtain ⟨rfl, rfl⟩ := zq
        try dsimp only [Option.toList, HAppend.hAppend, Append.append, List.append]
        have hz := y_bind h
        clear h
        obtain ⟨_, h27, h⟩ := hz
        have c26 := q_g_ok h27
        refine Uif (q_eq0 c26) rfl rfl rfl rfl rfl rfl rfl (fun c28 => ?_) (fun c28 => ?_)
        · rw [if_pos c28] at h
          exact ih.2 _ hd _ _ _ _ _ h lv trivial
        · rw [if_neg c28] at h
          refine Van rfl lk0 rfl rfl ?_
          have hz := y_bind h
          clear h
          obtain ⟨v29, h30, h⟩ := hz
          have wv29 := (y_gv_ok h30).2
          refine Vgv h30 rfl rfl rfl ?_
          refine Vin rfl lk1 rfl ?_
          have hz := y_bind h
          clear h
          obtain ⟨b35, h36, h⟩ := hz
          obtain ⟨eh36, fh36, wh36⟩ := y_rcv_ok h36
          cases eh36
          have hz := y_bind h
          clear h
          obtain ⟨⟨s31, r32⟩, h33, h⟩ := hz
          try dsimp only at h
          refine Vcv rfl rfl rfl wh36 rfl rfl ⟨(Nat.le_of_ble_eq_true rfl), (Nat.le_of_ble_eq_true rfl)⟩ rfl ((c_52 o n).1 _ (by omega) _ _ _ _ _ _ _ h33 _ rfl rfl) (fun z1 z2 zq => ?_)
          obtain ⟨rfl, rfl⟩ := zq
          try dsimp only [Option.toList, HAppend.hAppend, Append.append, List.append]
          refine Van rfl lk0 rfl rfl ?_
          have hz := y_bind h
          clear h
          obtain ⟨v39, h40, h⟩ := hz
          have wv39 := (y_gv_ok h40).2
          refine Vgv h40 rfl rfl rfl ?_
          have hz := y_bind h
          clear h
          obtain ⟨v41, h42, h⟩ := hz
          have wv41 := (y_gv_ok h42).2
          refine Vgv h42 rfl rfl rfl ?_
          refine Vin rfl lk1 rfl ?_
          refine Vbp (v := Int32.ofInt 40) rfl (by decide) rfl ?_
          have hz := y_bind h
          clear h
          obtain ⟨s43, h44, h⟩ := hz
          refine Zis (q_is_y h44) rfl rfl ?_
          refine Van rfl lk0 rfl rfl ?_
          have hz := y_bind h
          clear h
          obtain ⟨v45, h46, h⟩ := hz
          have wv45 := (y_gv_ok h46).2
          refine Vgv h46 rfl rfl rfl ?_
          have hz := y_bind h
          clear h
          obtain ⟨v47, h48, h⟩ := hz
          have wv47 := (y_gv_ok h48).2
          refine Vgv h48 rfl rfl rfl ?_
          refine Vin rfl lk1 rfl ?_
          refine Van rfl lk0 rfl rfl ?_
          have hz := y_bind h
          clear h
          obtain ⟨v49, h50, h⟩ := hz
          have wv49 := (y_gv_ok h50).2
          refine Vgv h50 rfl rfl rfl ?_
          have hz := y_bind h
          clear h
          obtain ⟨v51, h52, h⟩ := hz
          have wv51 := (y_gv_ok h52).2
          refine Vgv h52 rfl rfl rfl ?_
          refine Vin rfl lk2 rfl ?_
          have hz := y_bind h
          clear h
          obtain ⟨b57, h58, h⟩ := hz
          obtain ⟨eh58, fh58, wh58⟩ := y_rcv_ok h58
          cases eh58
          have hz := y_bind h
          clear h
          obtain ⟨⟨s53, r54⟩, h55, h⟩ := hz
          try dsimp only at h
          refine Vcv rfl rfl rfl wh58 rfl rfl ⟨(by simp only [List.take, List.reverse_cons, List.reverse_nil, List.nil_append, List.cons_append, List.map_cons, List.map_nil, y_cati, y_catl, y_catr, y_catn, y_cata, y_rv_cat wv47, List.sum_cons, List.sum_nil]; decide +kernel), (Nat.le_of_ble_eq_true rfl)⟩ rfl ((c_38 o n) _ (by omega) _ _ _ _ _ h55 _ rfl rfl) (fun z1 z2 zq => ?_)
          obtain ⟨rfl, rfl⟩ := zq
          try dsimp only [Option.toList, HAppend.hAppend, Append.append, List.append]
          have hz := y_bind h
          clear h
          obtain ⟨s61, h62, h⟩ := hz
          refine Zis (q_is_y h62) rfl rfl ?_
          exact ih.2 _ hd _ _ _ _ _ h lv trivial
    · intro d hd s r0 i1 s9 r h lv _
      obtain ⟨d, rfl⟩ : ∃ x, d = x + 1 := ⟨d - 1, by omega⟩
      simp only [g_62] at h
      cases h
      exact Yret rfl rfl rfl rfl rfl rfl rfl ⟨rfl, rfl⟩

/-- StepRows$Frames.toTheRight -/
def g_56 (o : X_O) : Nat → Nat → Q_S → Nat → Int → Int → Int → Int → Option (Q_S × Int)
  | 0, _, _, _, _, _, _, _ => none
  | n + 1, 0, s, r0, i1, i2, i3, i4 => g_56 o n 1 s r0 0 (i1) (0) 0
  | n + 1, 1, s, r0, i1, i2, i3, i4 => (q_g (q_in i3)).bind fun _ => if 60 < i3 then g_56 o n 3 s 0 0 0 0 0 else (q_gv s 5 (.ref r0) 2).bind fun v4 => (q_ia o s v4 i2).bind fun v6 => (q_g (q_in v6)).bind fun _ => if v6 = (-1) then g_56 o n 3 s 0 0 0 0 0 else (q_gv s 5 (.ref r0) 2).bind fun v11 => (q_ia o s v11 i2).bind fun v13 => (q_gv s 5 (.ref r0) 3).bind fun v15 => (q_ia o s v15 v13).bind fun v17 => (q_g (q_in v17 ∧ q_in i2)).bind fun _ => if ¬ v17 = i2 then g_56 o n 2 s r0 0 0 (i3) (v13) else (q_gv s 5 (.ref r0) 4).bind fun v22 => (q_ia o s v22 v13).bind fun v24 => (q_g (q_in v24)).bind fun _ => if v24 = (-1) then g_56 o n 2 s r0 0 0 (i3) (v13) else (q_gv s 5 (.ref r0) 4).bind fun v29 => (q_ia o s v29 v13).bind fun v31 => some (s, v31)
  | n + 1, 2, s, r0, i1, i2, i3, i4 => g_56 o n 1 s r0 0 (i4) ((i3 + 1)) 0
  | n + 1, 3, s, r0, i1, i2, i3, i4 => some (s, (-1))
  | _ + 1, _, _, _, _, _, _, _ => none
set_option maxRecDepth 100000 in
set_option maxHeartbeats 4000000 in
theorem c_56 (o : X_O) : ∀ n, (∀ (d : Nat) (hd : 0 ≤ d) (s : Q_S) (r0 : Nat) (i1 : Int) (i2 : Int) (i3 : Int) (i4 : Int) (s9 : Q_S) (r : Int), g_56 o n 0 s r0 i1 i2 i3 i4 = some (s9, r) → ∀ lv : X_L, x_lget lv 0 = some (.ref r0) → x_lget lv 1 = some (.int (Int32.ofInt i1)) → Y o d 56 0 lv [] (q_y s) (fun s1 r1 => s1 = q_y s9 ∧ r1 = some (.int (Int32.ofInt r)))) ∧
    (∀ (d : Nat) (hd : 0 ≤ d) (s : Q_S) (r0 : Nat) (i1 : Int) (i2 : Int) (i3 : Int) (i4 : Int) (s9 : Q_S) (r : Int), g_56 o n 1 s r0 i1 i2 i3 i4 = some (s9, r) → ∀ lv : X_L, x_lget lv 0 = some (.ref r0) → x_lget lv 2 = some (.int (Int32.ofInt i2)) → x_lget lv 3 = some (.int (Int32.ofInt i3)) → Y o d 56 4 lv [] (q_y s) (fun s1 r1 => s1 = q_y s9 ∧ r1 = some (.int (Int32.ofInt r)))) ∧
    (∀ (d : Nat) (hd : 0 ≤ d) (s : Q_S) (r0 : Nat) (i1 : Int) (i2 : Int) (i3 : Int) (i4 : Int) (s9 : Q_S) (r : Int), g_56 o n 2 s r0 i1 i2 i3 i4 = some (s9, r) → ∀ lv : X_L, x_lget lv 0 = some (.ref r0) → x_lget lv 3 = some (.int (Int32.ofInt i3)) → x_lget lv 4 = some (.int (Int32.ofInt i4)) → Y o d 56 58 lv [] (q_y s) (fun s1 r1 => s1 = q_y s9 ∧ r1 = some (.int (Int32.ofInt r)))) ∧
    (∀ (d : Nat) (hd : 0 ≤ d) (s : Q_S) (r0 : Nat) (i1 : Int) (i2 : Int) (i3 : Int) (i4 : Int) (s9 : Q_S) (r : Int), g_56 o n 3 s r0 i1 i2 i3 i4 = some (s9, r) → ∀ lv : X_L, True → Y o d 56 67 lv [] (q_y s) (fun s1 r1 => s1 = q_y s9 ∧ r1 = some (.int (Int32.ofInt r)))) := by
  intro n
  induction n with
  | zero => exact ⟨fun d hd s _ _ _ _ _ s9 r h => (by simp only [g_56] at h; cases h), fun d hd s _ _ _ _ _ s9 r h => (by simp only [g_56] at h; cases h), fun d hd s _ _ _ _ _ s9 r h => (by simp only [g_56] at h; cases h), fun d hd s _ _ _ _ _ s9 r h => (by simp only [g_56] at h; cases h)⟩
  | succ n ih =>
    refine ⟨?_, ?_, ?_, ?_⟩
    · intro d hd s r0 i1 i2 i3 i4 s9 r h lv lk0 lk1
      simp only [g_56] at h
      refine Vin rfl lk1 rfl ?_
      refine Vsin rfl rfl (fun lv lk2 hk => ?_)
      have lk0 := hk 0 _ lk0 (by decide) (by decide) (Or.inl (by decide))
      refine Vic (v := Int32.ofInt 0) rfl rfl rfl ?_
      refine Vsin rfl rfl (fun lv lk3 hk => ?_)
      have lk0 := hk 0 _ lk0 (by decide) (by decide) (Or.inl (by decide))
      have lk2 := hk 2 _ lk2 (by decide) (by decide) (Or.inr rfl)
      exact ih.2.1 _ hd _ _ _ _ _ _ _ _ h lv lk0 lk2 lk3
    · intro d hd s r0 i1 i2 i3 i4 s9 r h lv lk0 lk2 lk3
      simp only [g_56] at h
      refine Vin rfl lk3 rfl ?_
      refine Vbp (v := Int32.ofInt 60) rfl (by decide) rfl ?_
      have hz := y_bind h
      clear h
      obtain ⟨_, h2, h⟩ := hz
      have c1 := q_g_ok h2
      refine Uif (q_lt (by decide) c1) rfl rfl rfl rfl rfl rfl rfl (fun c3 => ?_) (fun c3 => ?_)
      · rw [if_pos c3] at h
        exact ih.2.2.2 _ hd _ _ _ _ _ _ _ _ h lv trivial
      · rw [if_neg c3] at h
        refine Van rfl lk0 rfl rfl ?_
        have hz := y_bind h
        clear h
        obtain ⟨v4, h5, h⟩ := hz
        have wv4 := (y_gv_ok h5).2
        refine Vgv h5 rfl rfl rfl ?_
        refine Vin rfl lk2 rfl ?_
        have hz := y_bind h
        clear h
        obtain ⟨v6, h7, h⟩ := hz
        refine Zia (q_ia_y h7) rfl rfl ?_
        refine Vic (v := Int32.ofInt (-1)) rfl rfl rfl ?_
        have hz := y_bind h
        clear h
        obtain ⟨_, h9, h⟩ := hz
        have c8 := q_g_ok h9
        refine Uif (q_eq c8 (by decide)) rfl rfl rfl rfl rfl rfl rfl (fun c10 => ?_) (fun c10 => ?_)
        · rw [if_pos c10] at h
          exact ih.2.2.2 _ hd _ _ _ _ _ _ _ _ h lv trivial
        · rw [if_neg c10] at h
          refine Van rfl lk0 rfl rfl ?_
          have hz := y_bind h
          clear h
          obtain ⟨v11, h12, h⟩ := hz
          have wv11 := (y_gv_ok h12).2
          refine Vgv h12 rfl rfl rfl ?_
          refine Vin rfl lk2 rfl ?_
          have hz := y_bind h
          clear h
          obtain ⟨v13, h14, h⟩ := hz
          refine Zia (q_ia_y h14) rfl rfl ?_
          refine Vsi rfl rfl (fun lv lk4 hk => ?_)
          have lk0 := hk 0 _ lk0 (by decide) (by decide) (Or.inl (by decide))
          have lk2 := hk 2 _ lk2 (by decide) (by decide) (Or.inl (by decide))
          have lk3 := hk 3 _ lk3 (by decide) (by decide) (Or.inr rfl)
          refine Van rfl lk0 rfl rfl ?_
          have hz := y_bind h
          clear h
          obtain ⟨v15, h16, h⟩ := hz
          have wv15 := (y_gv_ok h16).2
          refine Vgv h16 rfl rfl rfl ?_
          refine Vi rfl lk4 rfl ?_
          have hz := y_bind h
          clear h
          obtain ⟨v17, h18, h⟩ := hz
          refine Zia (q_ia_y h18) rfl rfl ?_
          refine Vin rfl lk2 rfl ?_
          have hz := y_bind h
          clear h
          obtain ⟨_, h20, h⟩ := hz
          have c19 := q_g_ok h20
          refine Uif (not_congr (q_eq c19.1 c19.2)) rfl rfl rfl rfl rfl rfl rfl (fun c21 => ?_) (fun c21 => ?_)
          · rw [if_pos c21] at h
            exact ih.2.2.1 _ hd _ _ _ _ _ _ _ _ h lv lk0 lk3 lk4
          · rw [if_neg c21] at h
            refine Van rfl lk0 rfl rfl ?_
            have hz := y_bind h
            clear h
            obtain ⟨v22, h23, h⟩ := hz
            have wv22 := (y_gv_ok h23).2
            refine Vgv h23 rfl rfl rfl ?_
            refine Vi rfl lk4 rfl ?_
            have hz := y_bind h
            clear h
            obtain ⟨v24, h25, h⟩ := hz
            refine Zia (q_ia_y h25) rfl rfl ?_
            refine Vic (v := Int32.ofInt (-1)) rfl rfl rfl ?_
            have hz := y_bind h
            clear h
            obtain ⟨_, h27, h⟩ := hz
            have c26 := q_g_ok h27
            refine Uif (q_eq c26 (by decide)) rfl rfl rfl rfl rfl rfl rfl (fun c28 => ?_) (fun c28 => ?_)
            · rw [if_pos c28] at h
              exact ih.2.2.1 _ hd _ _ _ _ _ _ _ _ h lv lk0 lk3 lk4
            · rw [if_neg c28] at h
              refine Van rfl lk0 rfl rfl ?_
              have hz := y_bind h
              clear h
              obtain ⟨v29, h30, h⟩ := hz
              have wv29 := (y_gv_ok h30).2
              refine Vgv h30 rfl rfl rfl ?_
              refine Vi rfl lk4 rfl ?_
              have hz := y_bind h
              clear h
              obtain ⟨v31, h32, h⟩ := hz
              refine Zia (q_ia_y h32) rfl rfl ?_
              cases h
              exact Yret rfl rfl rfl rfl rfl rfl rfl ⟨rfl, rfl⟩
    · intro d hd s r0 i1 i2 i3 i4 s9 r h lv lk0 lk3 lk4
      simp only [g_56] at h
      refine Vi rfl lk4 rfl ?_
      refine Vsin rfl rfl (fun lv lk2 hk => ?_)
      have lk0 := hk 0 _ lk0 (by decide) (by decide) (Or.inl (by decide))
      have lk3 := hk 3 _ lk3 (by decide) (by decide) (Or.inl (by decide))
      refine Uinc rfl lk3 rfl (fun lv lk3 hk => ?_)
      have lk0 := hk 0 _ lk0 (by decide) (by decide) (Or.inl (by decide))
      have lk2 := hk 2 _ lk2 (by decide) (by decide) (Or.inr rfl)
      refine Ygo rfl rfl rfl rfl rfl rfl ?_
      exact ih.2.1 _ hd _ _ _ _ _ _ _ _ h lv lk0 lk2 lk3
    · intro d hd s r0 i1 i2 i3 i4 s9 r h lv _
      simp only [g_56] at h
      refine Vic (v := Int32.ofInt (-1)) rfl rfl rfl ?_
      cases h
      exact Yret rfl rfl rfl rfl rfl rfl rfl ⟨rfl, rfl⟩

/-- StepRows$Frames.following -/
def g_55 (o : X_O) : Nat → Nat → Q_S → Nat → Int → Int → Option (Q_S × Int)
  | 0, _, _, _, _, _ => none
  | n + 1, 0, s, r0, i1, ti0 => (q_rcv s 5 (.ref r0)).bind fun b5 => (g_53 o n 0 s b5 (i1) 0).bind fun q4 => (q_g (q_in q4.2)).bind fun _ => if ¬ q4.2 = (-1) then g_55 o n 1 q4.1 0 0 (q4.2) else (q_rcv q4.1 5 (.ref r0)).bind fun b16 => (g_56 o n 0 q4.1 b16 (i1) 0 0 0).bind fun q15 => g_55 o n 1 q15.1 0 0 (q15.2)
  | n + 1, 1, s, r0, i1, ti0 => some (s, ti0)
  | _ + 1, _, _, _, _, _ => none
set_option maxRecDepth 100000 in
set_option maxHeartbeats 4000000 in
theorem c_55 (o : X_O) : ∀ n, (∀ (d : Nat) (hd : 1 ≤ d) (s : Q_S) (r0 : Nat) (i1 : Int) (ti0 : Int) (s9 : Q_S) (r : Int), g_55 o n 0 s r0 i1 ti0 = some (s9, r) → ∀ lv : X_L, x_lget lv 0 = some (.ref r0) → x_lget lv 1 = some (.int (Int32.ofInt i1)) → Y o d 55 0 lv [] (q_y s) (fun s1 r1 => s1 = q_y s9 ∧ r1 = some (.int (Int32.ofInt r)))) ∧
    (∀ (d : Nat) (hd : 1 ≤ d) (s : Q_S) (r0 : Nat) (i1 : Int) (ti0 : Int) (s9 : Q_S) (r : Int), g_55 o n 1 s r0 i1 ti0 = some (s9, r) → ∀ lv : X_L, True → Y o d 55 20 lv [.int (Int32.ofInt ti0)] (q_y s) (fun s1 r1 => s1 = q_y s9 ∧ r1 = some (.int (Int32.ofInt r)))) := by
  intro n
  induction n with
  | zero => exact ⟨fun d hd s _ _ _ s9 r h => (by simp only [g_55] at h; cases h), fun d hd s _ _ _ s9 r h => (by simp only [g_55] at h; cases h)⟩
  | succ n ih =>
    refine ⟨?_, ?_⟩
    · intro d hd s r0 i1 ti0 s9 r h lv lk0 lk1
      obtain ⟨d, rfl⟩ : ∃ x, d = x + 1 := ⟨d - 1, by omega⟩
      simp only [g_55] at h
      refine Van rfl lk0 rfl rfl ?_
      refine Vin rfl lk1 rfl ?_
      have hz := y_bind h
      clear h
      obtain ⟨b5, h6, h⟩ := hz
      obtain ⟨eh6, fh6, wh6⟩ := y_rcv_ok h6
      cases eh6
      have hz := y_bind h
      clear h
      obtain ⟨⟨s1, r2⟩, h3, h⟩ := hz
      try dsimp only at h
      refine Vcv rfl rfl rfl wh6 rfl rfl ⟨(Nat.le_of_ble_eq_true rfl), (Nat.le_of_ble_eq_true rfl)⟩ rfl ((c_53 o n).1 _ (by omega) _ _ _ _ _ _ h3 _ rfl rfl) (fun z1 z2 zq => ?_)
      obtain ⟨rfl, rfl⟩ := zq
      try dsimp only [Option.toList, HAppend.hAppend, Append.append, List.append]
      refine Vsin rfl rfl (fun lv lk2 hk => ?_)
      have lk0 := hk 0 _ lk0 (by decide) (by decide) (Or.inl (by decide))
      have lk1 := hk 1 _ lk1 (by decide) (by decide) (Or.inr rfl)
      refine Vin rfl lk2 rfl ?_
      refine Vic (v := Int32.ofInt (-1)) rfl rfl rfl ?_
      have hz := y_bind h
      clear h
      obtain ⟨_, h10, h⟩ := hz
      have c9 := q_g_ok h10
      refine Uif (not_congr (q_eq c9 (by decide))) rfl rfl rfl rfl rfl rfl rfl (fun c11 => ?_) (fun c11 => ?_)
      · rw [if_pos c11] at h
        refine Vin rfl lk2 rfl ?_
        exact ih.2 _ hd _ _ _ _ _ _ h lv trivial
      · rw [if_neg c11] at h
        refine Van rfl lk0 rfl rfl ?_
        refine Vin rfl lk1 rfl ?_
        have hz := y_bind h
        clear h
        obtain ⟨b16, h17, h⟩ := hz
        obtain ⟨eh17, fh17, wh17⟩ := y_rcv_ok h17
        cases eh17
        have hz := y_bind h
        clear h
        obtain ⟨⟨s12, r13⟩, h14, h⟩ := hz
        try dsimp only at h
        refine Vcv rfl rfl rfl wh17 rfl rfl ⟨(Nat.le_of_ble_eq_true rfl), (Nat.le_of_ble_eq_true rfl)⟩ rfl ((c_56 o n).1 _ (by omega) _ _ _ _ _ _ _ _ h14 _ rfl rfl) (fun z1 z2 zq => ?_)
        obtain ⟨rfl, rfl⟩ := zq
        try dsimp only [Option.toList, HAppend.hAppend, Append.append, List.append]
        refine Ygo rfl rfl rfl rfl rfl rfl ?_
        exact ih.2 _ hd _ _ _ _ _ _ h lv trivial
    · intro d hd s r0 i1 ti0 s9 r h lv _
      obtain ⟨d, rfl⟩ : ∃ x, d = x + 1 := ⟨d - 1, by omega⟩
      simp only [g_55] at h
      cases h
      exact Yret rfl rfl rfl rfl rfl rfl rfl ⟨rfl, rfl⟩

/-- StepRows$Walker.lookAtLimits -/
def g_61 (o : X_O) : Nat → Nat → Q_S → Nat → Int → Int → Option (Q_S × Unit)
  | 0, _, _, _, _, _ => none
  | n + 1, 0, s, r0, i1, i2 => (q_gv s 6 (.ref r0) 1).bind fun v1 => (q_gi s 5 v1 10).bind fun v3 => g_61 o n 1 s r0 (v3) (0)
  | n + 1, 1, s, r0, i1, i2 => (q_g (q_in i2)).bind fun _ => if 1000000 ≤ i2 then g_61 o n 3 s 0 0 0 else (q_g (q_in i1)).bind fun _ => if i1 = (-1) then g_61 o n 3 s 0 0 0 else (q_gv s 6 (.ref r0) 0).bind fun v7 => (q_rcv s 4 v7).bind fun b13 => (g_43 o n 0 s b13 0).bind fun q12 => (q_g (q_in q12.2)).bind fun _ => if q12.2 = 0 then g_61 o n 3 q12.1 0 0 0 else (q_gv q12.1 6 (.ref r0) 1).bind fun v20 => (q_gv q12.1 5 v20 0).bind fun v22 => (q_ia o q12.1 v22 i1).bind fun v24 => (q_g (q_in v24)).bind fun _ => if ¬ v24 = 16 then g_61 o n 2 q12.1 r0 (i1) (i2) else (q_rcv q12.1 6 (.ref r0)).bind fun b33 => (g_62 o n 0 q12.1 b33 (i1)).bind fun q32 => g_61 o n 2 q32.1 r0 (i1) (i2)
  | n + 1, 2, s, r0, i1, i2 => (q_gv s 6 (.ref r0) 1).bind fun v1 => (q_rcv s 5 v1).bind fun b7 => (g_55 o n 0 s b7 (i1) 0).bind fun q6 => g_61 o n 1 q6.1 r0 (q6.2) ((i2 + 1))
  | n + 1, 3, s, r0, i1, i2 => some (s, ())
  | _ + 1, _, _, _, _, _ => none
set_option maxRecDepth 100000 in
set_option maxHeartbeats 4000000 in
theorem c_61 (o : X_O) : ∀ n, (∀ (d : Nat) (hd : 5 ≤ d) (s : Q_S) (r0 : Nat) (i1 : Int) (i2 : Int) (s9 : Q_S) (r : Unit), g_61 o n 0 s r0 i1 i2 = some (s9, r) → ∀ lv : X_L, x_lget lv 0 = some (.ref r0) → Y o d 61 0 lv [] (q_y s) (fun s1 r1 => s1 = q_y s9 ∧ r1 = none)) ∧
    (∀ (d : Nat) (hd : 5 ≤ d) (s : Q_S) (r0 : Nat) (i1 : Int) (i2 : Int) (s9 : Q_S) (r : Unit), g_61 o n 1 s r0 i1 i2 = some (s9, r) → ∀ lv : X_L, x_lget lv 0 = some (.ref r0) → x_lget lv 1 = some (.int (Int32.ofInt i1)) → x_lget lv 2 = some (.int (Int32.ofInt i2)) → Y o d 61 10 lv [] (q_y s) (fun s1 r1 => s1 = q_y s9 ∧ r1 = none)) ∧
    (∀ (d : Nat) (hd : 5 ≤ d) (s : Q_S) (r0 : Nat) (i1 : Int) (i2 : Int) (s9 : Q_S) (r : Unit), g_61 o n 2 s r0 i1 i2 = some (s9, r) → ∀ lv : X_L, x_lget lv 0 = some (.ref r0) → x_lget lv 1 = some (.int (Int32.ofInt i1)) → x_lget lv 2 = some (.int (Int32.ofInt i2)) → Y o d 61 50 lv [] (q_y s) (fun s1 r1 => s1 = q_y s9 ∧ r1 = none)) ∧
    (∀ (d : Nat) (hd : 5 ≤ d) (s : Q_S) (r0 : Nat) (i1 : Int) (i2 : Int) (s9 : Q_S) (r : Unit), g_61 o n 3 s r0 i1 i2 = some (s9, r) → ∀ lv : X_L, True → Y o d 61 65 lv [] (q_y s) (fun s1 r1 => s1 = q_y s9 ∧ r1 = none)) := by
  intro n
  induction n with
  | zero => exact ⟨fun d hd s _ _ _ s9 r h => (by simp only [g_61] at h; cases h), fun d hd s _ _ _ s9 r h => (by simp only [g_61] at h; cases h), fun d hd s _ _ _ s9 r h => (by simp only [g_61] at h; cases h), fun d hd s _ _ _ s9 r h => (by simp only [g_61] at h; cases h)⟩
  | succ n ih =>
    refine ⟨?_, ?_, ?_, ?_⟩
    · intro d hd s r0 i1 i2 s9 r h lv lk0
      obtain ⟨d, rfl⟩ : ∃ x, d = x + 1 := ⟨d - 1, by omega⟩
      simp only [g_61] at h
      refine Van rfl lk0 rfl rfl ?_
      have hz := y_bind h
      clear h
      obtain ⟨v1, h2, h⟩ := hz
      have wv1 := (y_gv_ok h2).2
      refine Vgv h2 rfl rfl rfl ?_
      have hz := y_bind h
      clear h
      obtain ⟨v3, h4, h⟩ := hz
      refine Zgi (q_gi_y h4) rfl rfl rfl ?_
      refine Vsin rfl rfl (fun lv lk1 hk => ?_)
      have lk0 := hk 0 _ lk0 (by decide) (by decide) (Or.inr rfl)
      refine Vic (v := Int32.ofInt 0) rfl rfl rfl ?_
      refine Vsin rfl rfl (fun lv lk2 hk => ?_)
      have lk0 := hk 0 _ lk0 (by decide) (by decide) (Or.inl (by decide))
      have lk1 := hk 1 _ lk1 (by decide) (by decide) (Or.inr rfl)
      exact ih.2.1 _ hd _ _ _ _ _ _ h lv lk0 lk1 lk2
    · intro d hd s r0 i1 i2 s9 r h lv lk0 lk1 lk2
      obtain ⟨d, rfl⟩ : ∃ x, d = x + 1 := ⟨d - 1, by omega⟩
      simp only [g_61] at h
      refine Vin rfl lk2 rfl ?_
      refine Yk (v := .int (Int32.ofInt 1000000)) rfl rfl rfl rfl rfl ?_
      have hz := y_bind h
      clear h
      obtain ⟨_, h2, h⟩ := hz
      have c1 := q_g_ok h2
      refine Uif (q_le (by decide) c1) rfl rfl rfl rfl rfl rfl rfl (fun c3 => ?_) (fun c3 => ?_)
      · rw [if_pos c3] at h
        exact ih.2.2.2 _ hd _ _ _ _ _ _ h lv trivial
      · rw [if_neg c3] at h
        refine Vin rfl lk1 rfl ?_
        refine Vic (v := Int32.ofInt (-1)) rfl rfl rfl ?_
        have hz := y_bind h
        clear h
        obtain ⟨_, h5, h⟩ := hz
        have c4 := q_g_ok h5
        refine Uif (q_eq c4 (by decide)) rfl rfl rfl rfl rfl rfl rfl (fun c6 => ?_) (fun c6 => ?_)
        · rw [if_pos c6] at h
          exact ih.2.2.2 _ hd _ _ _ _ _ _ h lv trivial
        · rw [if_neg c6] at h
          refine Van rfl lk0 rfl rfl ?_
          have hz := y_bind h
          clear h
          obtain ⟨v7, h8, h⟩ := hz
          have wv7 := (y_gv_ok h8).2
          refine Vgv h8 rfl rfl rfl ?_
          have hz := y_bind h
          clear h
          obtain ⟨b13, h14, h⟩ := hz
          obtain ⟨eh14, fh14, wh14⟩ := y_rcv_ok h14
          cases eh14
          have hz := y_bind h
          clear h
          obtain ⟨⟨s9, r10⟩, h11, h⟩ := hz
          try dsimp only at h
          refine Vcv rfl rfl rfl wh14 rfl rfl ⟨(Nat.le_of_ble_eq_true rfl), (Nat.le_of_ble_eq_true rfl)⟩ rfl ((c_43 o n).1 _ (by omega) _ _ _ _ _ h11 _ rfl) (fun z1 z2 zq => ?_)
          obtain ⟨rfl, rfl⟩ := zq
          try dsimp only [Option.toList, HAppend.hAppend, Append.append, List.append]
          have hz := y_bind h
          clear h
          obtain ⟨_, h18, h⟩ := hz
          have c17 := q_g_ok h18
          refine Uif (q_eq0 c17) rfl rfl rfl rfl rfl rfl rfl (fun c19 => ?_) (fun c19 => ?_)
          · rw [if_pos c19] at h
            exact ih.2.2.2 _ hd _ _ _ _ _ _ h lv trivial
          · rw [if_neg c19] at h
            refine Van rfl lk0 rfl rfl ?_
            have hz := y_bind h
            clear h
            obtain ⟨v20, h21, h⟩ := hz
            have wv20 := (y_gv_ok h21).2
            refine Vgv h21 rfl rfl rfl ?_
            have hz := y_bind h
            clear h
            obtain ⟨v22, h23, h⟩ := hz
            have wv22 := (y_gv_ok h23).2
            refine Vgv h23 rfl rfl rfl ?_
            refine Vin rfl lk1 rfl ?_
            have hz := y_bind h
            clear h
            obtain ⟨v24, h25, h⟩ := hz
            refine Zia (q_ia_y h25) rfl rfl ?_
            refine Vbp (v := Int32.ofInt 16) rfl (by decide) rfl ?_
            have hz := y_bind h
            clear h
            obtain ⟨_, h27, h⟩ := hz
            have c26 := q_g_ok h27
            refine Uif (not_congr (q_eq c26 (by decide))) rfl rfl rfl rfl rfl rfl rfl (fun c28 => ?_) (fun c28 => ?_)
            · rw [if_pos c28] at h
              exact ih.2.2.1 _ hd _ _ _ _ _ _ h lv lk0 lk1 lk2
            · rw [if_neg c28] at h
              refine Van rfl lk0 rfl rfl ?_
              refine Vin rfl lk1 rfl ?_
              have hz := y_bind h
              clear h
              obtain ⟨b33, h34, h⟩ := hz
              obtain ⟨eh34, fh34, wh34⟩ := y_rcv_ok h34
              cases eh34
              have hz := y_bind h
              clear h
              obtain ⟨⟨s29, r30⟩, h31, h⟩ := hz
              try dsimp only at h
              refine Vcv rfl rfl rfl wh34 rfl rfl ⟨(Nat.le_of_ble_eq_true rfl), (Nat.le_of_ble_eq_true rfl)⟩ rfl ((c_62 o n).1 _ (by omega) _ _ _ _ _ h31 _ rfl rfl) (fun z1 z2 zq => ?_)
              obtain ⟨rfl, rfl⟩ := zq
              try dsimp only [Option.toList, HAppend.hAppend, Append.append, List.append]
              exact ih.2.2.1 _ hd _ _ _ _ _ _ h lv lk0 lk1 lk2
    · intro d hd s r0 i1 i2 s9 r h lv lk0 lk1 lk2
      obtain ⟨d, rfl⟩ : ∃ x, d = x + 1 := ⟨d - 1, by omega⟩
      simp only [g_61] at h
      refine Van rfl lk0 rfl rfl ?_
      have hz := y_bind h
      clear h
      obtain ⟨v1, h2, h⟩ := hz
      have wv1 := (y_gv_ok h2).2
      refine Vgv h2 rfl rfl rfl ?_
      refine Vin rfl lk1 rfl ?_
      have hz := y_bind h
      clear h
      obtain ⟨b7, h8, h⟩ := hz
      obtain ⟨eh8, fh8, wh8⟩ := y_rcv_ok h8
      cases eh8
      have hz := y_bind h
      clear h
      obtain ⟨⟨s3, r4⟩, h5, h⟩ := hz
      try dsimp only at h
      refine Vcv rfl rfl rfl wh8 rfl rfl ⟨(Nat.le_of_ble_eq_true rfl), (Nat.le_of_ble_eq_true rfl)⟩ rfl ((c_55 o n).1 _ (by omega) _ _ _ _ _ _ h5 _ rfl rfl) (fun z1 z2 zq => ?_)
      obtain ⟨rfl, rfl⟩ := zq
      try dsimp only [Option.toList, HAppend.hAppend, Append.append, List.append]
      refine Vsin rfl rfl (fun lv lk1 hk => ?_)
      have lk0 := hk 0 _ lk0 (by decide) (by decide) (Or.inr rfl)
      have lk2 := hk 2 _ lk2 (by decide) (by decide) (Or.inl (by decide))
      refine Uinc rfl lk2 rfl (fun lv lk2 hk => ?_)
      have lk0 := hk 0 _ lk0 (by decide) (by decide) (Or.inl (by decide))
      have lk1 := hk 1 _ lk1 (by decide) (by decide) (Or.inr rfl)
      refine Ygo rfl rfl rfl rfl rfl rfl ?_
      exact ih.2.1 _ hd _ _ _ _ _ _ h lv lk0 lk1 lk2
    · intro d hd s r0 i1 i2 s9 r h lv _
      obtain ⟨d, rfl⟩ : ∃ x, d = x + 1 := ⟨d - 1, by omega⟩
      simp only [g_61] at h
      cases h
      exact Yret rfl rfl rfl rfl rfl rfl rfl ⟨rfl, rfl⟩

/-- StepRows$Frames.leafBelow -/
def g_57 (o : X_O) : Nat → Nat → Q_S → Nat → Int → Int → Int → Option (Q_S × Int)
  | 0, _, _, _, _, _, _ => none
  | n + 1, 0, s, r0, i1, i2, i3 => g_57 o n 1 s r0 0 (i1) (0)
  | n + 1, 1, s, r0, i1, i2, i3 => (q_g (q_in i3)).bind fun _ => if 60 < i3 then g_57 o n 2 s 0 0 (i2) 0 else (q_g (q_in i2)).bind fun _ => if i2 = (-1) then g_57 o n 2 s 0 0 (i2) 0 else (q_rcv s 5 (.ref r0)).bind fun b11 => (g_53 o n 0 s b11 (i2) 0).bind fun q10 => (q_g (q_in q10.2)).bind fun _ => if ¬ q10.2 = (-1) then g_57 o n 1 q10.1 r0 0 (q10.2) ((i3 + 1)) else some (q10.1, i2)
  | n + 1, 2, s, r0, i1, i2, i3 => some (s, i2)
  | _ + 1, _, _, _, _, _, _ => none
set_option maxRecDepth 100000 in
set_option maxHeartbeats 4000000 in
theorem c_57 (o : X_O) : ∀ n, (∀ (d : Nat) (hd : 1 ≤ d) (s : Q_S) (r0 : Nat) (i1 : Int) (i2 : Int) (i3 : Int) (s9 : Q_S) (r : Int), g_57 o n 0 s r0 i1 i2 i3 = some (s9, r) → ∀ lv : X_L, x_lget lv 0 = some (.ref r0) → x_lget lv 1 = some (.int (Int32.ofInt i1)) → Y o d 57 0 lv [] (q_y s) (fun s1 r1 => s1 = q_y s9 ∧ r1 = some (.int (Int32.ofInt r)))) ∧
    (∀ (d : Nat) (hd : 1 ≤ d) (s : Q_S) (r0 : Nat) (i1 : Int) (i2 : Int) (i3 : Int) (s9 : Q_S) (r : Int), g_57 o n 1 s r0 i1 i2 i3 = some (s9, r) → ∀ lv : X_L, x_lget lv 0 = some (.ref r0) → x_lget lv 2 = some (.int (Int32.ofInt i2)) → x_lget lv 3 = some (.int (Int32.ofInt i3)) → Y o d 57 4 lv [] (q_y s) (fun s1 r1 => s1 = q_y s9 ∧ r1 = some (.int (Int32.ofInt r)))) ∧
    (∀ (d : Nat) (hd : 1 ≤ d) (s : Q_S) (r0 : Nat) (i1 : Int) (i2 : Int) (i3 : Int) (s9 : Q_S) (r : Int), g_57 o n 2 s r0 i1 i2 i3 = some (s9, r) → ∀ lv : X_L, x_lget lv 2 = some (.int (Int32.ofInt i2)) → Y o d 57 39 lv [] (q_y s) (fun s1 r1 => s1 = q_y s9 ∧ r1 = some (.int (Int32.ofInt r)))) := by
  intro n
  induction n with
  | zero => exact ⟨fun d hd s _ _ _ _ s9 r h => (by simp only [g_57] at h; cases h), fun d hd s _ _ _ _ s9 r h => (by simp only [g_57] at h; cases h), fun d hd s _ _ _ _ s9 r h => (by simp only [g_57] at h; cases h)⟩
  | succ n ih =>
    refine ⟨?_, ?_, ?_⟩
    · intro d hd s r0 i1 i2 i3 s9 r h lv lk0 lk1
      obtain ⟨d, rfl⟩ : ∃ x, d = x + 1 := ⟨d - 1, by omega⟩
      simp only [g_57] at h
      refine Vin rfl lk1 rfl ?_
      refine Vsin rfl rfl (fun lv lk2 hk => ?_)
      have lk0 := hk 0 _ lk0 (by decide) (by decide) (Or.inl (by decide))
      refine Vic (v := Int32.ofInt 0) rfl rfl rfl ?_
      refine Vsin rfl rfl (fun lv lk3 hk => ?_)
      have lk0 := hk 0 _ lk0 (by decide) (by decide) (Or.inl (by decide))
      have lk2 := hk 2 _ lk2 (by decide) (by decide) (Or.inr rfl)
      exact ih.2.1 _ hd _ _ _ _ _ _ _ h lv lk0 lk2 lk3
    · intro d hd s r0 i1 i2 i3 s9 r h lv lk0 lk2 lk3
      obtain ⟨d, rfl⟩ : ∃ x, d = x + 1 := ⟨d - 1, by omega⟩
      simp only [g_57] at h
      refine Vin rfl lk3 rfl ?_
      refine Vbp (v := Int32.ofInt 60) rfl (by decide) rfl ?_
      have hz := y_bind h
      clear h
      obtain ⟨_, h2, h⟩ := hz
      have c1 := q_g_ok h2
      refine Uif (q_lt (by decide) c1) rfl rfl rfl rfl rfl rfl rfl (fun c3 => ?_) (fun c3 => ?_)
      · rw [if_pos c3] at h
        exact ih.2.2 _ hd _ _ _ _ _ _ _ h lv lk2
      · rw [if_neg c3] at h
        refine Vin rfl lk2 rfl ?_
        refine Vic (v := Int32.ofInt (-1)) rfl rfl rfl ?_
        have hz := y_bind h
        clear h
        obtain ⟨_, h5, h⟩ := hz
        have c4 := q_g_ok h5
        refine Uif (q_eq c4 (by decide)) rfl rfl rfl rfl rfl rfl rfl (fun c6 => ?_) (fun c6 => ?_)
        · rw [if_pos c6] at h
          exact ih.2.2 _ hd _ _ _ _ _ _ _ h lv lk2
        · rw [if_neg c6] at h
          refine Van rfl lk0 rfl rfl ?_
          refine Vin rfl lk2 rfl ?_
          have hz := y_bind h
          clear h
          obtain ⟨b11, h12, h⟩ := hz
          obtain ⟨eh12, fh12, wh12⟩ := y_rcv_ok h12
          cases eh12
          have hz := y_bind h
          clear h
          obtain ⟨⟨s7, r8⟩, h9, h⟩ := hz
          try dsimp only at h
          refine Vcv rfl rfl rfl wh12 rfl rfl ⟨(Nat.le_of_ble_eq_true rfl), (Nat.le_of_ble_eq_true rfl)⟩ rfl ((c_53 o n).1 _ (by omega) _ _ _ _ _ _ h9 _ rfl rfl) (fun z1 z2 zq => ?_)
          obtain ⟨rfl, rfl⟩ := zq
          try dsimp only [Option.toList, HAppend.hAppend, Append.append, List.append]
          refine Vsi rfl rfl (fun lv lk4 hk => ?_)
          have lk0 := hk 0 _ lk0 (by decide) (by decide) (Or.inl (by decide))
          have lk2 := hk 2 _ lk2 (by decide) (by decide) (Or.inl (by decide))
          have lk3 := hk 3 _ lk3 (by decide) (by decide) (Or.inr rfl)
          refine Vi rfl lk4 rfl ?_
          refine Vic (v := Int32.ofInt (-1)) rfl rfl rfl ?_
          have hz := y_bind h
          clear h
          obtain ⟨_, h16, h⟩ := hz
          have c15 := q_g_ok h16
          refine Uif (not_congr (q_eq c15 (by decide))) rfl rfl rfl rfl rfl rfl rfl (fun c17 => ?_) (fun c17 => ?_)
          · rw [if_pos c17] at h
            refine Vi rfl lk4 rfl ?_
            refine Vsin rfl rfl (fun lv lk2 hk => ?_)
            have lk0 := hk 0 _ lk0 (by decide) (by decide) (Or.inl (by decide))
            have lk3 := hk 3 _ lk3 (by decide) (by decide) (Or.inl (by decide))
            refine Uinc rfl lk3 rfl (fun lv lk3 hk => ?_)
            have lk0 := hk 0 _ lk0 (by decide) (by decide) (Or.inl (by decide))
            have lk2 := hk 2 _ lk2 (by decide) (by decide) (Or.inr rfl)
            refine Ygo rfl rfl rfl rfl rfl rfl ?_
            exact ih.2.1 _ hd _ _ _ _ _ _ _ h lv lk0 lk2 lk3
          · rw [if_neg c17] at h
            refine Vin rfl lk2 rfl ?_
            cases h
            exact Yret rfl rfl rfl rfl rfl rfl rfl ⟨rfl, rfl⟩
    · intro d hd s r0 i1 i2 i3 s9 r h lv lk2
      obtain ⟨d, rfl⟩ : ∃ x, d = x + 1 := ⟨d - 1, by omega⟩
      simp only [g_57] at h
      refine Vin rfl lk2 rfl ?_
      cases h
      exact Yret rfl rfl rfl rfl rfl rfl rfl ⟨rfl, rfl⟩

/-- StepRows$Walker.fault -/
def g_70 (o : X_O) : Nat → Nat → Q_S → Nat → Int → Int → Option (Q_S × Int)
  | 0, _, _, _, _, _ => none
  | n + 1, 0, s, r0, i1, i2 => (q_gv s 6 (.ref r0) 0).bind fun v1 => (q_rcv s 4 v1).bind fun b7 => (g_44 o n 0 s b7 (i1) (i2)).bind fun q6 => some (q6.1, (-1000000))
  | _ + 1, _, _, _, _, _ => none
set_option maxRecDepth 100000 in
set_option maxHeartbeats 4000000 in
theorem c_70 (o : X_O) : ∀ n, (∀ (d : Nat) (hd : 1 ≤ d) (s : Q_S) (r0 : Nat) (i1 : Int) (i2 : Int) (s9 : Q_S) (r : Int), g_70 o n 0 s r0 i1 i2 = some (s9, r) → ∀ lv : X_L, x_lget lv 0 = some (.ref r0) → x_lget lv 1 = some (.int (Int32.ofInt i1)) → x_lget lv 2 = some (.int (Int32.ofInt i2)) → Y o d 70 0 lv [] (q_y s) (fun s1 r1 => s1 = q_y s9 ∧ r1 = some (.int (Int32.ofInt r)))) := by
  intro n
  induction n with
  | zero => exact fun d hd s _ _ _ s9 r h => (by simp only [g_70] at h; cases h)
  | succ n ih =>
    intro d hd s r0 i1 i2 s9 r h lv lk0 lk1 lk2
    obtain ⟨d, rfl⟩ : ∃ x, d = x + 1 := ⟨d - 1, by omega⟩
    simp only [g_70] at h
    refine Van rfl lk0 rfl rfl ?_
    have hz := y_bind h
    clear h
    obtain ⟨v1, h2, h⟩ := hz
    have wv1 := (y_gv_ok h2).2
    refine Vgv h2 rfl rfl rfl ?_
    refine Vin rfl lk1 rfl ?_
    refine Vin rfl lk2 rfl ?_
    have hz := y_bind h
    clear h
    obtain ⟨b7, h8, h⟩ := hz
    obtain ⟨eh8, fh8, wh8⟩ := y_rcv_ok h8
    cases eh8
    have hz := y_bind h
    clear h
    obtain ⟨⟨s3, r4⟩, h5, h⟩ := hz
    try dsimp only at h
    refine Vcv rfl rfl rfl wh8 rfl rfl ⟨(Nat.le_of_ble_eq_true rfl), (Nat.le_of_ble_eq_true rfl)⟩ rfl ((c_44 o n) _ (by omega) _ _ _ _ _ _ h5 _ rfl rfl rfl) (fun z1 z2 zq => ?_)
    obtain ⟨rfl, rfl⟩ := zq
    try dsimp only [Option.toList, HAppend.hAppend, Append.append, List.append]
    refine Yk (v := .int (Int32.ofInt (-1000000))) rfl rfl rfl rfl rfl ?_
    cases h
    exact Yret rfl rfl rfl rfl rfl rfl rfl ⟨rfl, rfl⟩

/-- StepRows$Walker.put -/
def g_71 (o : X_O) : Nat → Nat → Q_S → Nat → Value → Int → Option (Q_S × Int)
  | 0, _, _, _, _, _ => none
  | n + 1, 0, s, r0, a1, i2 => (q_rcv s 6 (.ref r0)).bind fun b5 => (g_63 o n 0 s b5 ((i2 + 1)) .null 0 0 0 0 0 0).bind fun q4 => (q_gv q4.1 6 (.ref r0) 0).bind fun v9 => (q_rcv q4.1 4 v9).bind fun b15 => (g_43 o n 0 q4.1 b15 0).bind fun q14 => (q_g (q_in q14.2)).bind fun _ => if q14.2 = 0 then g_71 o n 1 q14.1 r0 .null (i2) else (q_gv q14.1 6 (.ref r0) 0).bind fun v22 => (q_gv q14.1 4 v22 1).bind fun v24 => (q_gv q14.1 3 v24 1).bind fun v26 => (q_la q14.1 v26 i2).bind fun v28 => (q_ls q14.1 a1 (v28).toInt q4.2).bind fun s30 => g_71 o n 1 s30 r0 .null (i2)
  | n + 1, 1, s, r0, a1, i2 => (q_gv s 6 (.ref r0) 0).bind fun v1 => (q_gv s 4 v1 1).bind fun v3 => (q_gv s 3 v3 3).bind fun v5 => (q_ia o s v5 i2).bind fun v7 => some (s, v7)
  | _ + 1, _, _, _, _, _ => none
set_option maxRecDepth 100000 in
set_option maxHeartbeats 4000000 in
theorem c_71 (o : X_O) : ∀ n, (∀ (d : Nat) (hd : 4 ≤ d) (s : Q_S) (r0 : Nat) (a1 : Value) (i2 : Int) (s9 : Q_S) (r : Int), g_71 o n 0 s r0 a1 i2 = some (s9, r) → ∀ lv : X_L, x_lget lv 0 = some (.ref r0) → x_lget lv 1 = some a1 → x_lget lv 2 = some (.int (Int32.ofInt i2)) → y_rv a1 = true → Y o d 71 0 lv [] (q_y s) (fun s1 r1 => s1 = q_y s9 ∧ r1 = some (.int (Int32.ofInt r)))) ∧
    (∀ (d : Nat) (hd : 4 ≤ d) (s : Q_S) (r0 : Nat) (a1 : Value) (i2 : Int) (s9 : Q_S) (r : Int), g_71 o n 1 s r0 a1 i2 = some (s9, r) → ∀ lv : X_L, x_lget lv 0 = some (.ref r0) → x_lget lv 2 = some (.int (Int32.ofInt i2)) → Y o d 71 34 lv [] (q_y s) (fun s1 r1 => s1 = q_y s9 ∧ r1 = some (.int (Int32.ofInt r)))) := by
  intro n
  induction n with
  | zero => exact ⟨fun d hd s _ _ _ s9 r h => (by simp only [g_71] at h; cases h), fun d hd s _ _ _ s9 r h => (by simp only [g_71] at h; cases h)⟩
  | succ n ih =>
    refine ⟨?_, ?_⟩
    · intro d hd s r0 a1 i2 s9 r h lv lk0 lk1 lk2 rv1
      obtain ⟨d, rfl⟩ : ∃ x, d = x + 1 := ⟨d - 1, by omega⟩
      simp only [g_71] at h
      refine Van rfl lk0 rfl rfl ?_
      refine Vin rfl lk2 rfl ?_
      refine Vic (v := Int32.ofInt 1) rfl rfl rfl ?_
      refine Uadd rfl rfl ?_
      have hz := y_bind h
      clear h
      obtain ⟨b5, h6, h⟩ := hz
      obtain ⟨eh6, fh6, wh6⟩ := y_rcv_ok h6
      cases eh6
      have hz := y_bind h
      clear h
      obtain ⟨⟨s1, r2⟩, h3, h⟩ := hz
      try dsimp only at h
      refine Vcv rfl rfl rfl wh6 rfl rfl ⟨(Nat.le_of_ble_eq_true rfl), (Nat.le_of_ble_eq_true rfl)⟩ rfl ((c_63 o n).1 _ (by omega) _ _ _ _ _ _ _ _ _ _ _ _ h3 _ rfl rfl) (fun z1 z2 zq => ?_)
      obtain ⟨rfl, rfl⟩ := zq
      try dsimp only [Option.toList, HAppend.hAppend, Append.append, List.append]
      refine Vsln rfl rfl (fun lv lk3 hk => ?_)
      have lk0 := hk 0 _ lk0 (by decide) (by decide) (Or.inl (by decide))
      have lk1 := hk 1 _ lk1 (by decide) (by decide) (Or.inl (by decide))
      have lk2 := hk 2 _ lk2 (by decide) (by decide) (Or.inr rfl)
      refine Van rfl lk0 rfl rfl ?_
      have hz := y_bind h
      clear h
      obtain ⟨v9, h10, h⟩ := hz
      have wv9 := (y_gv_ok h10).2
      refine Vgv h10 rfl rfl rfl ?_
      have hz := y_bind h
      clear h
      obtain ⟨b15, h16, h⟩ := hz
      obtain ⟨eh16, fh16, wh16⟩ := y_rcv_ok h16
      cases eh16
      have hz := y_bind h
      clear h
      obtain ⟨⟨s11, r12⟩, h13, h⟩ := hz
      try dsimp only at h
      refine Vcv rfl rfl rfl wh16 rfl rfl ⟨(Nat.le_of_ble_eq_true rfl), (Nat.le_of_ble_eq_true rfl)⟩ rfl ((c_43 o n).1 _ (by omega) _ _ _ _ _ h13 _ rfl) (fun z1 z2 zq => ?_)
      obtain ⟨rfl, rfl⟩ := zq
      try dsimp only [Option.toList, HAppend.hAppend, Append.append, List.append]
      have hz := y_bind h
      clear h
      obtain ⟨_, h20, h⟩ := hz
      have c19 := q_g_ok h20
      refine Uif (q_eq0 c19) rfl rfl rfl rfl rfl rfl rfl (fun c21 => ?_) (fun c21 => ?_)
      · rw [if_pos c21] at h
        exact ih.2 _ hd _ _ _ _ _ _ h lv lk0 lk2
      · rw [if_neg c21] at h
        refine Van rfl lk1 rv1 rfl ?_
        refine Van rfl lk0 rfl rfl ?_
        have hz := y_bind h
        clear h
        obtain ⟨v22, h23, h⟩ := hz
        have wv22 := (y_gv_ok h23).2
        refine Vgv h23 rfl rfl rfl ?_
        have hz := y_bind h
        clear h
        obtain ⟨v24, h25, h⟩ := hz
        have wv24 := (y_gv_ok h25).2
        refine Vgv h25 rfl rfl rfl ?_
        have hz := y_bind h
        clear h
        obtain ⟨v26, h27, h⟩ := hz
        have wv26 := (y_gv_ok h27).2
        refine Vgv h27 rfl rfl rfl ?_
        refine Vin rfl lk2 rfl ?_
        have hz := y_bind h
        clear h
        obtain ⟨v28, h29, h⟩ := hz
        refine Zla (q_la_y h29) rfl rfl ?_
        refine Ul2i rfl rfl ?_
        refine Vln rfl lk3 rfl ?_
        have hz := y_bind h
        clear h
        obtain ⟨s30, h31, h⟩ := hz
        refine Zls (q_ls_y h31) rfl rfl ?_
        exact ih.2 _ hd _ _ _ _ _ _ h lv lk0 lk2
    · intro d hd s r0 a1 i2 s9 r h lv lk0 lk2
      obtain ⟨d, rfl⟩ : ∃ x, d = x + 1 := ⟨d - 1, by omega⟩
      simp only [g_71] at h
      refine Van rfl lk0 rfl rfl ?_
      have hz := y_bind h
      clear h
      obtain ⟨v1, h2, h⟩ := hz
      have wv1 := (y_gv_ok h2).2
      refine Vgv h2 rfl rfl rfl ?_
      have hz := y_bind h
      clear h
      obtain ⟨v3, h4, h⟩ := hz
      have wv3 := (y_gv_ok h4).2
      refine Vgv h4 rfl rfl rfl ?_
      have hz := y_bind h
      clear h
      obtain ⟨v5, h6, h⟩ := hz
      have wv5 := (y_gv_ok h6).2
      refine Vgv h6 rfl rfl rfl ?_
      refine Vin rfl lk2 rfl ?_
      have hz := y_bind h
      clear h
      obtain ⟨v7, h8, h⟩ := hz
      refine Zia (q_ia_y h8) rfl rfl ?_
      cases h
      exact Yret rfl rfl rfl rfl rfl rfl rfl ⟨rfl, rfl⟩

/-- StepRows$Walker.isOnRight -/
def g_74 (o : X_O) : Nat → Nat → Q_S → Nat → Int → Int → Option (Q_S × Int)
  | 0, _, _, _, _, _ => none
  | n + 1, 0, s, r0, i1, ti0 => (q_gi s 6 (.ref r0) 4).bind fun v1 => (q_g (q_in v1)).bind fun _ => if v1 = (-1) then g_74 o n 1 s 0 0 0 else (q_gv s 6 (.ref r0) 1).bind fun v6 => (q_gv s 5 v6 0).bind fun v8 => (q_gi s 6 (.ref r0) 4).bind fun v10 => (q_ia o s v8 v10).bind fun v12 => (q_g (q_in v12)).bind fun _ => if v12 = 18 then (q_gv s 6 (.ref r0) 0).bind fun v17 => (q_gv s 4 v17 1).bind fun v19 => (q_gv s 6 (.ref r0) 1).bind fun v21 => (q_gv s 5 v21 1).bind fun v23 => (q_gi s 6 (.ref r0) 4).bind fun v25 => (q_ia o s v23 v25).bind fun v27 => (q_rcv s 3 v19).bind fun b33 => (g_37 o n 0 s b33 (v27)).bind fun q32 => (q_g (q_in i1 ∧ q_in q32.2)).bind fun _ => if i1 < q32.2 then g_74 o n 2 q32.1 0 0 (0) else g_74 o n 2 q32.1 0 0 (1) else g_74 o n 1 s 0 0 0
  | n + 1, 1, s, r0, i1, ti0 => some (s, 0)
  | n + 1, 2, s, r0, i1, ti0 => (q_g (ti0 = 0 ∨ ti0 = 1)).bind fun _ => some (s, ti0)
  | _ + 1, _, _, _, _, _ => none
set_option maxRecDepth 100000 in
set_option maxHeartbeats 4000000 in
theorem c_74 (o : X_O) : ∀ n, (∀ (d : Nat) (hd : 1 ≤ d) (s : Q_S) (r0 : Nat) (i1 : Int) (ti0 : Int) (s9 : Q_S) (r : Int), g_74 o n 0 s r0 i1 ti0 = some (s9, r) → ∀ lv : X_L, x_lget lv 0 = some (.ref r0) → x_lget lv 1 = some (.int (Int32.ofInt i1)) → Y o d 74 0 lv [] (q_y s) (fun s1 r1 => s1 = q_y s9 ∧ r1 = some (.int (Int32.ofInt r)))) ∧
    (∀ (d : Nat) (hd : 1 ≤ d) (s : Q_S) (r0 : Nat) (i1 : Int) (ti0 : Int) (s9 : Q_S) (r : Int), g_74 o n 1 s r0 i1 ti0 = some (s9, r) → ∀ lv : X_L, True → Y o d 74 25 lv [] (q_y s) (fun s1 r1 => s1 = q_y s9 ∧ r1 = some (.int (Int32.ofInt r)))) ∧
    (∀ (d : Nat) (hd : 1 ≤ d) (s : Q_S) (r0 : Nat) (i1 : Int) (ti0 : Int) (s9 : Q_S) (r : Int), g_74 o n 2 s r0 i1 ti0 = some (s9, r) → ∀ lv : X_L, True → Y o d 74 58 lv [.int (Int32.ofInt ti0)] (q_y s) (fun s1 r1 => s1 = q_y s9 ∧ r1 = some (.int (Int32.ofInt r)))) := by
  intro n
  induction n with
  | zero => exact ⟨fun d hd s _ _ _ s9 r h => (by simp only [g_74] at h; cases h), fun d hd s _ _ _ s9 r h => (by simp only [g_74] at h; cases h), fun d hd s _ _ _ s9 r h => (by simp only [g_74] at h; cases h)⟩
  | succ n ih =>
    refine ⟨?_, ?_, ?_⟩
    · intro d hd s r0 i1 ti0 s9 r h lv lk0 lk1
      obtain ⟨d, rfl⟩ : ∃ x, d = x + 1 := ⟨d - 1, by omega⟩
      simp only [g_74] at h
      refine Van rfl lk0 rfl rfl ?_
      have hz := y_bind h
      clear h
      obtain ⟨v1, h2, h⟩ := hz
      refine Zgi (q_gi_y h2) rfl rfl rfl ?_
      refine Vic (v := Int32.ofInt (-1)) rfl rfl rfl ?_
      have hz := y_bind h
      clear h
      obtain ⟨_, h4, h⟩ := hz
      have c3 := q_g_ok h4
      refine Uif (q_eq c3 (by decide)) rfl rfl rfl rfl rfl rfl rfl (fun c5 => ?_) (fun c5 => ?_)
      · rw [if_pos c5] at h
        exact ih.2.1 _ hd _ _ _ _ _ _ h lv trivial
      · rw [if_neg c5] at h
        refine Van rfl lk0 rfl rfl ?_
        have hz := y_bind h
        clear h
        obtain ⟨v6, h7, h⟩ := hz
        have wv6 := (y_gv_ok h7).2
        refine Vgv h7 rfl rfl rfl ?_
        have hz := y_bind h
        clear h
        obtain ⟨v8, h9, h⟩ := hz
        have wv8 := (y_gv_ok h9).2
        refine Vgv h9 rfl rfl rfl ?_
        refine Van rfl lk0 rfl rfl ?_
        have hz := y_bind h
        clear h
        obtain ⟨v10, h11, h⟩ := hz
        refine Zgi (q_gi_y h11) rfl rfl rfl ?_
        have hz := y_bind h
        clear h
        obtain ⟨v12, h13, h⟩ := hz
        refine Zia (q_ia_y h13) rfl rfl ?_
        refine Vbp (v := Int32.ofInt 18) rfl (by decide) rfl ?_
        have hz := y_bind h
        clear h
        obtain ⟨_, h15, h⟩ := hz
        have c14 := q_g_ok h15
        refine Uif (q_eq c14 (by decide)) rfl rfl rfl rfl rfl rfl rfl (fun c16 => ?_) (fun c16 => ?_)
        · rw [if_pos c16] at h
          refine Vin rfl lk1 rfl ?_
          refine Van rfl lk0 rfl rfl ?_
          have hz := y_bind h
          clear h
          obtain ⟨v17, h18, h⟩ := hz
          have wv17 := (y_gv_ok h18).2
          refine Vgv h18 rfl rfl rfl ?_
          have hz := y_bind h
          clear h
          obtain ⟨v19, h20, h⟩ := hz
          have wv19 := (y_gv_ok h20).2
          refine Vgv h20 rfl rfl rfl ?_
          refine Van rfl lk0 rfl rfl ?_
          have hz := y_bind h
          clear h
          obtain ⟨v21, h22, h⟩ := hz
          have wv21 := (y_gv_ok h22).2
          refine Vgv h22 rfl rfl rfl ?_
          have hz := y_bind h
          clear h
          obtain ⟨v23, h24, h⟩ := hz
          have wv23 := (y_gv_ok h24).2
          refine Vgv h24 rfl rfl rfl ?_
          refine Van rfl lk0 rfl rfl ?_
          have hz := y_bind h
          clear h
          obtain ⟨v25, h26, h⟩ := hz
          refine Zgi (q_gi_y h26) rfl rfl rfl ?_
          have hz := y_bind h
          clear h
          obtain ⟨v27, h28, h⟩ := hz
          refine Zia (q_ia_y h28) rfl rfl ?_
          have hz := y_bind h
          clear h
          obtain ⟨b33, h34, h⟩ := hz
          obtain ⟨eh34, fh34, wh34⟩ := y_rcv_ok h34
          cases eh34
          have hz := y_bind h
          clear h
          obtain ⟨⟨s29, r30⟩, h31, h⟩ := hz
          try dsimp only at h
          refine Vcv rfl rfl rfl wh34 rfl rfl ⟨(Nat.le_of_ble_eq_true rfl), (Nat.le_of_ble_eq_true rfl)⟩ rfl ((c_37 o n) _ (by omega) _ _ _ _ _ h31 _ rfl rfl) (fun z1 z2 zq => ?_)
          obtain ⟨rfl, rfl⟩ := zq
          try dsimp only [Option.toList, HAppend.hAppend, Append.append, List.append]
          have hz := y_bind h
          clear h
          obtain ⟨_, h38, h⟩ := hz
          have c37 := q_g_ok h38
          refine Uif (q_lt c37.1 c37.2) rfl rfl rfl rfl rfl rfl rfl (fun c39 => ?_) (fun c39 => ?_)
          · rw [if_pos c39] at h
            refine Vic (v := Int32.ofInt 0) rfl rfl rfl ?_
            exact ih.2.2 _ hd _ _ _ _ _ _ h lv trivial
          · rw [if_neg c39] at h
            refine Vic (v := Int32.ofInt 1) rfl rfl rfl ?_
            refine Ygo rfl rfl rfl rfl rfl rfl ?_
            exact ih.2.2 _ hd _ _ _ _ _ _ h lv trivial
        · rw [if_neg c16] at h
          exact ih.2.1 _ hd _ _ _ _ _ _ h lv trivial
    · intro d hd s r0 i1 ti0 s9 r h lv _
      obtain ⟨d, rfl⟩ : ∃ x, d = x + 1 := ⟨d - 1, by omega⟩
      simp only [g_74] at h
      refine Vic (v := Int32.ofInt 0) rfl rfl rfl ?_
      cases h
      exact Yret rfl rfl rfl rfl rfl rfl rfl ⟨rfl, rfl⟩
    · intro d hd s r0 i1 ti0 s9 r h lv _
      obtain ⟨d, rfl⟩ : ∃ x, d = x + 1 := ⟨d - 1, by omega⟩
      simp only [g_74] at h
      have hz := y_bind h
      clear h
      obtain ⟨_, h2, h⟩ := hz
      have c1 := q_g_ok h2
      cases h
      exact Yret rfl rfl rfl rfl rfl rfl (if_pos (q_bool c1)) ⟨rfl, rfl⟩

/-- StepRows$Walker.addLeaf -/
def g_73 (o : X_O) : Nat → Nat → Q_S → Nat → Int → Int → Int64 → Option (Q_S × Int)
  | 0, _, _, _, _, _, _ => none
  | n + 1, 0, s, r0, i1, i2, l3 => (q_gv s 6 (.ref r0) 1).bind fun v1 => (q_gi s 6 (.ref r0) 4).bind fun v3 => (q_rcv s 6 (.ref r0)).bind fun b9 => (g_74 o n 0 s b9 (i2) 0).bind fun q8 => (q_rcv q8.1 5 v1).bind fun b17 => (g_49 o n 0 q8.1 b17 (i1) (i2) (v3) (q8.2) 0 0).bind fun q16 => (q_gv q16.1 6 (.ref r0) 1).bind fun v21 => (q_gv q16.1 5 v21 6).bind fun v23 => (q_gv q16.1 6 (.ref r0) 0).bind fun v25 => (q_gi q16.1 4 v25 3).bind fun v27 => (q_is q16.1 v23 q16.2 v27).bind fun s29 => (q_gv s29 6 (.ref r0) 1).bind fun v31 => (q_gv s29 5 v31 7).bind fun v33 => (q_ls s29 v33 q16.2 l3).bind fun s35 => some (s35, q16.2)
  | _ + 1, _, _, _, _, _, _ => none
set_option maxRecDepth 100000 in
set_option maxHeartbeats 4000000 in
theorem c_73 (o : X_O) : ∀ n, (∀ (d : Nat) (hd : 4 ≤ d) (s : Q_S) (r0 : Nat) (i1 : Int) (i2 : Int) (l3 : Int64) (s9 : Q_S) (r : Int), g_73 o n 0 s r0 i1 i2 l3 = some (s9, r) → ∀ lv : X_L, x_lget lv 0 = some (.ref r0) → x_lget lv 1 = some (.int (Int32.ofInt i1)) → x_lget lv 2 = some (.int (Int32.ofInt i2)) → x_lget lv 3 = some (.long l3) → Y o d 73 0 lv [] (q_y s) (fun s1 r1 => s1 = q_y s9 ∧ r1 = some (.int (Int32.ofInt r)))) := by
  intro n
  induction n with
  | zero => exact fun d hd s _ _ _ _ s9 r h => (by simp only [g_73] at h; cases h)
  | succ n ih =>
    intro d hd s r0 i1 i2 l3 s9 r h lv lk0 lk1 lk2 lk3
    obtain ⟨d, rfl⟩ : ∃ x, d = x + 1 := ⟨d - 1, by omega⟩
    simp only [g_73] at h
    refine Van rfl lk0 rfl rfl ?_
    have hz := y_bind h
    clear h
    obtain ⟨v1, h2, h⟩ := hz
    have wv1 := (y_gv_ok h2).2
    refine Vgv h2 rfl rfl rfl ?_
    refine Vin rfl lk1 rfl ?_
    refine Vin rfl lk2 rfl ?_
    refine Van rfl lk0 rfl rfl ?_
    have hz := y_bind h
    clear h
    obtain ⟨v3, h4, h⟩ := hz
    refine Zgi (q_gi_y h4) rfl rfl rfl ?_
    refine Van rfl lk0 rfl rfl ?_
    refine Vin rfl lk2 rfl ?_
    have hz := y_bind h
    clear h
    obtain ⟨b9, h10, h⟩ := hz
    obtain ⟨eh10, fh10, wh10⟩ := y_rcv_ok h10
    cases eh10
    have hz := y_bind h
    clear h
    obtain ⟨⟨s5, r6⟩, h7, h⟩ := hz
    try dsimp only at h
    refine Vcv rfl rfl rfl wh10 rfl rfl ⟨(by simp only [List.take, List.reverse_cons, List.reverse_nil, List.nil_append, List.cons_append, List.map_cons, List.map_nil, y_cati, y_catl, y_catr, y_catn, y_cata, y_rv_cat wv1, List.sum_cons, List.sum_nil]; decide +kernel), (Nat.le_of_ble_eq_true rfl)⟩ rfl ((c_74 o n).1 _ (by omega) _ _ _ _ _ _ h7 _ rfl rfl) (fun z1 z2 zq => ?_)
    obtain ⟨rfl, rfl⟩ := zq
    try dsimp only [Option.toList, HAppend.hAppend, Append.append, List.append]
    have hz := y_bind h
    clear h
    obtain ⟨b17, h18, h⟩ := hz
    obtain ⟨eh18, fh18, wh18⟩ := y_rcv_ok h18
    cases eh18
    have hz := y_bind h
    clear h
    obtain ⟨⟨s13, r14⟩, h15, h⟩ := hz
    try dsimp only at h
    refine Vcv rfl rfl rfl wh18 rfl rfl ⟨(Nat.le_of_ble_eq_true rfl), (Nat.le_of_ble_eq_true rfl)⟩ rfl ((c_49 o n).1 _ (by omega) _ _ _ _ _ _ _ _ _ _ h15 _ rfl rfl rfl rfl rfl) (fun z1 z2 zq => ?_)
    obtain ⟨rfl, rfl⟩ := zq
    try dsimp only [Option.toList, HAppend.hAppend, Append.append, List.append]
    refine Vsi rfl rfl (fun lv lk5 hk => ?_)
    have lk0 := hk 0 _ lk0 (by decide) (by decide) (Or.inl (by decide))
    have lk3 := hk 3 _ lk3 (by decide) (by decide) (Or.inl (by decide))
    refine Van rfl lk0 rfl rfl ?_
    have hz := y_bind h
    clear h
    obtain ⟨v21, h22, h⟩ := hz
    have wv21 := (y_gv_ok h22).2
    refine Vgv h22 rfl rfl rfl ?_
    have hz := y_bind h
    clear h
    obtain ⟨v23, h24, h⟩ := hz
    have wv23 := (y_gv_ok h24).2
    refine Vgv h24 rfl rfl rfl ?_
    refine Vi rfl lk5 rfl ?_
    refine Van rfl lk0 rfl rfl ?_
    have hz := y_bind h
    clear h
    obtain ⟨v25, h26, h⟩ := hz
    have wv25 := (y_gv_ok h26).2
    refine Vgv h26 rfl rfl rfl ?_
    have hz := y_bind h
    clear h
    obtain ⟨v27, h28, h⟩ := hz
    refine Zgi (q_gi_y h28) rfl rfl rfl ?_
    have hz := y_bind h
    clear h
    obtain ⟨s29, h30, h⟩ := hz
    refine Zis (q_is_y h30) rfl rfl ?_
    refine Van rfl lk0 rfl rfl ?_
    have hz := y_bind h
    clear h
    obtain ⟨v31, h32, h⟩ := hz
    have wv31 := (y_gv_ok h32).2
    refine Vgv h32 rfl rfl rfl ?_
    have hz := y_bind h
    clear h
    obtain ⟨v33, h34, h⟩ := hz
    have wv33 := (y_gv_ok h34).2
    refine Vgv h34 rfl rfl rfl ?_
    refine Vi rfl lk5 rfl ?_
    refine Vln rfl lk3 rfl ?_
    have hz := y_bind h
    clear h
    obtain ⟨s35, h36, h⟩ := hz
    refine Zls (q_ls_y h36) rfl rfl ?_
    refine Vi rfl lk5 rfl ?_
    cases h
    exact Yret rfl rfl rfl rfl rfl rfl rfl ⟨rfl, rfl⟩

/-- StepRows$Walker.standAt -/
def g_75 (o : X_O) : Nat → Nat → Q_S → Nat → Int → Option (Q_S × Int)
  | 0, _, _, _, _ => none
  | n + 1, 0, s, r0, i1 => (q_gv s 6 (.ref r0) 1).bind fun v1 => (q_gv s 6 (.ref r0) 1).bind fun v3 => (q_rcv s 5 v3).bind fun b9 => (g_56 o n 0 s b9 (i1) 0 0 0).bind fun q8 => (q_rcv q8.1 5 v1).bind fun b17 => (g_57 o n 0 q8.1 b17 (q8.2) 0 0).bind fun q16 => (q_pi q16.1 6 (.ref r0) 5 q16.2).bind fun s21 => some (s21, (-1000000))
  | _ + 1, _, _, _, _ => none
set_option maxRecDepth 100000 in
set_option maxHeartbeats 4000000 in
theorem c_75 (o : X_O) : ∀ n, (∀ (d : Nat) (hd : 2 ≤ d) (s : Q_S) (r0 : Nat) (i1 : Int) (s9 : Q_S) (r : Int), g_75 o n 0 s r0 i1 = some (s9, r) → ∀ lv : X_L, x_lget lv 0 = some (.ref r0) → x_lget lv 1 = some (.int (Int32.ofInt i1)) → Y o d 75 0 lv [] (q_y s) (fun s1 r1 => s1 = q_y s9 ∧ r1 = some (.int (Int32.ofInt r)))) := by
  intro n
  induction n with
  | zero => exact fun d hd s _ _ s9 r h => (by simp only [g_75] at h; cases h)
  | succ n ih =>
    intro d hd s r0 i1 s9 r h lv lk0 lk1
    obtain ⟨d, rfl⟩ : ∃ x, d = x + 1 := ⟨d - 1, by omega⟩
    simp only [g_75] at h
    refine Van rfl lk0 rfl rfl ?_
    refine Van rfl lk0 rfl rfl ?_
    have hz := y_bind h
    clear h
    obtain ⟨v1, h2, h⟩ := hz
    have wv1 := (y_gv_ok h2).2
    refine Vgv h2 rfl rfl rfl ?_
    refine Van rfl lk0 rfl rfl ?_
    have hz := y_bind h
    clear h
    obtain ⟨v3, h4, h⟩ := hz
    have wv3 := (y_gv_ok h4).2
    refine Vgv h4 rfl rfl rfl ?_
    refine Vin rfl lk1 rfl ?_
    have hz := y_bind h
    clear h
    obtain ⟨b9, h10, h⟩ := hz
    obtain ⟨eh10, fh10, wh10⟩ := y_rcv_ok h10
    cases eh10
    have hz := y_bind h
    clear h
    obtain ⟨⟨s5, r6⟩, h7, h⟩ := hz
    try dsimp only at h
    refine Vcv rfl rfl rfl wh10 rfl rfl ⟨(by simp only [List.take, List.reverse_cons, List.reverse_nil, List.nil_append, List.cons_append, List.map_cons, List.map_nil, y_cati, y_catl, y_catr, y_catn, y_cata, y_rv_cat wv1, List.sum_cons, List.sum_nil]; decide +kernel), (Nat.le_of_ble_eq_true rfl)⟩ rfl ((c_56 o n).1 _ (by omega) _ _ _ _ _ _ _ _ h7 _ rfl rfl) (fun z1 z2 zq => ?_)
    obtain ⟨rfl, rfl⟩ := zq
    try dsimp only [Option.toList, HAppend.hAppend, Append.append, List.append]
    have hz := y_bind h
    clear h
    obtain ⟨b17, h18, h⟩ := hz
    obtain ⟨eh18, fh18, wh18⟩ := y_rcv_ok h18
    cases eh18
    have hz := y_bind h
    clear h
    obtain ⟨⟨s13, r14⟩, h15, h⟩ := hz
    try dsimp only at h
    refine Vcv rfl rfl rfl wh18 rfl rfl ⟨(Nat.le_of_ble_eq_true rfl), (Nat.le_of_ble_eq_true rfl)⟩ rfl ((c_57 o n).1 _ (by omega) _ _ _ _ _ _ _ h15 _ rfl rfl) (fun z1 z2 zq => ?_)
    obtain ⟨rfl, rfl⟩ := zq
    try dsimp only [Option.toList, HAppend.hAppend, Append.append, List.append]
    have hz := y_bind h
    clear h
    obtain ⟨s21, h22, h⟩ := hz
    refine Zpi (q_pi_y h22) rfl rfl rfl rfl ?_
    refine Yk (v := .int (Int32.ofInt (-1000000))) rfl rfl rfl rfl rfl ?_
    cases h
    exact Yret rfl rfl rfl rfl rfl rfl rfl ⟨rfl, rfl⟩

/-- StepRows$Walker.beginWait -/
def g_72 (o : X_O) : Nat → Nat → Q_S → Nat → Int → Option (Q_S × Int)
  | 0, _, _, _, _ => none
  | n + 1, 0, s, r0, i1 => (q_rcv s 6 (.ref r0)).bind fun b5 => (g_63 o n 0 s b5 ((i1 + 1)) .null 0 0 0 0 0 0).bind fun q4 => (q_gv q4.1 6 (.ref r0) 0).bind fun v9 => (q_rcv q4.1 4 v9).bind fun b15 => (g_43 o n 0 q4.1 b15 0).bind fun q14 => (q_g (q_in q14.2)).bind fun _ => if q14.2 = 0 then g_72 o n 1 q14.1 r0 (i1) else if 1 ≤ q4.2 then (q_rcv q14.1 6 (.ref r0)).bind fun b27 => (g_73 o n 0 q14.1 b27 (12) (i1) (q4.2)).bind fun q26 => (q_rcv q26.1 6 (.ref r0)).bind fun b35 => (g_75 o n 0 q26.1 b35 (q26.2)).bind fun q34 => some (q34.1, q34.2) else g_72 o n 1 q14.1 r0 (i1)
  | n + 1, 1, s, r0, i1 => (q_gv s 6 (.ref r0) 0).bind fun v1 => (q_gv s 4 v1 1).bind fun v3 => (q_gv s 3 v3 3).bind fun v5 => (q_ia o s v5 i1).bind fun v7 => some (s, v7)
  | _ + 1, _, _, _, _ => none
set_option maxRecDepth 100000 in
set_option maxHeartbeats 4000000 in
theorem c_72 (o : X_O) : ∀ n, (∀ (d : Nat) (hd : 5 ≤ d) (s : Q_S) (r0 : Nat) (i1 : Int) (s9 : Q_S) (r : Int), g_72 o n 0 s r0 i1 = some (s9, r) → ∀ lv : X_L, x_lget lv 0 = some (.ref r0) → x_lget lv 1 = some (.int (Int32.ofInt i1)) → Y o d 72 0 lv [] (q_y s) (fun s1 r1 => s1 = q_y s9 ∧ r1 = some (.int (Int32.ofInt r)))) ∧
    (∀ (d : Nat) (hd : 5 ≤ d) (s : Q_S) (r0 : Nat) (i1 : Int) (s9 : Q_S) (r : Int), g_72 o n 1 s r0 i1 = some (s9, r) → ∀ lv : X_L, x_lget lv 0 = some (.ref r0) → x_lget lv 1 = some (.int (Int32.ofInt i1)) → Y o d 72 24 lv [] (q_y s) (fun s1 r1 => s1 = q_y s9 ∧ r1 = some (.int (Int32.ofInt r)))) := by
  intro n
  induction n with
  | zero => exact ⟨fun d hd s _ _ s9 r h => (by simp only [g_72] at h; cases h), fun d hd s _ _ s9 r h => (by simp only [g_72] at h; cases h)⟩
  | succ n ih =>
    refine ⟨?_, ?_⟩
    · intro d hd s r0 i1 s9 r h lv lk0 lk1
      obtain ⟨d, rfl⟩ : ∃ x, d = x + 1 := ⟨d - 1, by omega⟩
      simp only [g_72] at h
      refine Van rfl lk0 rfl rfl ?_
      refine Vin rfl lk1 rfl ?_
      refine Vic (v := Int32.ofInt 1) rfl rfl rfl ?_
      refine Uadd rfl rfl ?_
      have hz := y_bind h
      clear h
      obtain ⟨b5, h6, h⟩ := hz
      obtain ⟨eh6, fh6, wh6⟩ := y_rcv_ok h6
      cases eh6
      have hz := y_bind h
      clear h
      obtain ⟨⟨s1, r2⟩, h3, h⟩ := hz
      try dsimp only at h
      refine Vcv rfl rfl rfl wh6 rfl rfl ⟨(Nat.le_of_ble_eq_true rfl), (Nat.le_of_ble_eq_true rfl)⟩ rfl ((c_63 o n).1 _ (by omega) _ _ _ _ _ _ _ _ _ _ _ _ h3 _ rfl rfl) (fun z1 z2 zq => ?_)
      obtain ⟨rfl, rfl⟩ := zq
      try dsimp only [Option.toList, HAppend.hAppend, Append.append, List.append]
      refine Vsln rfl rfl (fun lv lk2 hk => ?_)
      have lk0 := hk 0 _ lk0 (by decide) (by decide) (Or.inl (by decide))
      have lk1 := hk 1 _ lk1 (by decide) (by decide) (Or.inr rfl)
      refine Van rfl lk0 rfl rfl ?_
      have hz := y_bind h
      clear h
      obtain ⟨v9, h10, h⟩ := hz
      have wv9 := (y_gv_ok h10).2
      refine Vgv h10 rfl rfl rfl ?_
      have hz := y_bind h
      clear h
      obtain ⟨b15, h16, h⟩ := hz
      obtain ⟨eh16, fh16, wh16⟩ := y_rcv_ok h16
      cases eh16
      have hz := y_bind h
      clear h
      obtain ⟨⟨s11, r12⟩, h13, h⟩ := hz
      try dsimp only at h
      refine Vcv rfl rfl rfl wh16 rfl rfl ⟨(Nat.le_of_ble_eq_true rfl), (Nat.le_of_ble_eq_true rfl)⟩ rfl ((c_43 o n).1 _ (by omega) _ _ _ _ _ h13 _ rfl) (fun z1 z2 zq => ?_)
      obtain ⟨rfl, rfl⟩ := zq
      try dsimp only [Option.toList, HAppend.hAppend, Append.append, List.append]
      have hz := y_bind h
      clear h
      obtain ⟨_, h20, h⟩ := hz
      have c19 := q_g_ok h20
      refine Uif (q_eq0 c19) rfl rfl rfl rfl rfl rfl rfl (fun c21 => ?_) (fun c21 => ?_)
      · rw [if_pos c21] at h
        exact ih.2 _ hd _ _ _ _ _ h lv lk0 lk1
      · rw [if_neg c21] at h
        refine Vln rfl lk2 rfl ?_
        refine Vlc (v := 1) rfl (by decide) rfl ?_
        refine Ya rfl rfl rfl ?_
        refine Uif (lg_cmp_ge _ _) rfl rfl rfl rfl rfl rfl rfl (fun c22 => ?_) (fun c22 => ?_)
        · rw [if_pos c22] at h
          refine Van rfl lk0 rfl rfl ?_
          refine Van rfl lk0 rfl rfl ?_
          refine Vbp (v := Int32.ofInt 12) rfl (by decide) rfl ?_
          refine Vin rfl lk1 rfl ?_
          refine Vln rfl lk2 rfl ?_
          have hz := y_bind h
          clear h
          obtain ⟨b27, h28, h⟩ := hz
          obtain ⟨eh28, fh28, wh28⟩ := y_rcv_ok h28
          cases eh28
          have hz := y_bind h
          clear h
          obtain ⟨⟨s23, r24⟩, h25, h⟩ := hz
          try dsimp only at h
          refine Vcv rfl rfl rfl wh28 rfl rfl ⟨(Nat.le_of_ble_eq_true rfl), (Nat.le_of_ble_eq_true rfl)⟩ rfl ((c_73 o n) _ (by omega) _ _ _ _ _ _ _ h25 _ rfl rfl rfl rfl) (fun z1 z2 zq => ?_)
          obtain ⟨rfl, rfl⟩ := zq
          try dsimp only [Option.toList, HAppend.hAppend, Append.append, List.append]
          have hz := y_bind h
          clear h
          obtain ⟨b35, h36, h⟩ := hz
          obtain ⟨eh36, fh36, wh36⟩ := y_rcv_ok h36
          cases eh36
          have hz := y_bind h
          clear h
          obtain ⟨⟨s31, r32⟩, h33, h⟩ := hz
          try dsimp only at h
          refine Vcv rfl rfl rfl wh36 rfl rfl ⟨(Nat.le_of_ble_eq_true rfl), (Nat.le_of_ble_eq_true rfl)⟩ rfl ((c_75 o n) _ (by omega) _ _ _ _ _ h33 _ rfl rfl) (fun z1 z2 zq => ?_)
          obtain ⟨rfl, rfl⟩ := zq
          try dsimp only [Option.toList, HAppend.hAppend, Append.append, List.append]
          cases h
          exact Yret rfl rfl rfl rfl rfl rfl rfl ⟨rfl, rfl⟩
        · rw [if_neg c22] at h
          exact ih.2 _ hd _ _ _ _ _ h lv lk0 lk1
    · intro d hd s r0 i1 s9 r h lv lk0 lk1
      obtain ⟨d, rfl⟩ : ∃ x, d = x + 1 := ⟨d - 1, by omega⟩
      simp only [g_72] at h
      refine Van rfl lk0 rfl rfl ?_
      have hz := y_bind h
      clear h
      obtain ⟨v1, h2, h⟩ := hz
      have wv1 := (y_gv_ok h2).2
      refine Vgv h2 rfl rfl rfl ?_
      have hz := y_bind h
      clear h
      obtain ⟨v3, h4, h⟩ := hz
      have wv3 := (y_gv_ok h4).2
      refine Vgv h4 rfl rfl rfl ?_
      have hz := y_bind h
      clear h
      obtain ⟨v5, h6, h⟩ := hz
      have wv5 := (y_gv_ok h6).2
      refine Vgv h6 rfl rfl rfl ?_
      refine Vin rfl lk1 rfl ?_
      have hz := y_bind h
      clear h
      obtain ⟨v7, h8, h⟩ := hz
      refine Zia (q_ia_y h8) rfl rfl ?_
      cases h
      exact Yret rfl rfl rfl rfl rfl rfl rfl ⟨rfl, rfl⟩

/-- StepRows$Walker.beginRamp -/
def g_76 (o : X_O) : Nat → Nat → Q_S → Nat → Int → Int → Int64 → Int64 → Option (Q_S × Int)
  | 0, _, _, _, _, _, _, _ => none
  | n + 1, 0, s, r0, i1, i2, l3, tl0 => (q_gv s 6 (.ref r0) 0).bind fun v1 => (q_gv s 4 v1 1).bind fun v3 => (q_gv s 3 v3 1).bind fun v5 => (q_la s v5 i1).bind fun v7 => (q_rcv s 6 (.ref r0)).bind fun b13 => (g_63 o n 0 s b13 ((i1 + 1)) .null 0 0 0 0 0 0).bind fun q12 => (q_gv q12.1 6 (.ref r0) 0).bind fun v17 => (q_rcv q12.1 4 v17).bind fun b23 => (g_43 o n 0 q12.1 b23 0).bind fun q22 => (q_g (q_in q22.2)).bind fun _ => if q22.2 = 0 then g_76 o n 1 q22.1 r0 (i1) ((v7).toInt) (q12.2) (0) else (q_gv q22.1 6 (.ref r0) 0).bind fun v30 => (q_gv q22.1 4 v30 1).bind fun v32 => (q_rcv q22.1 3 v32).bind fun b38 => (g_37 o n 0 q22.1 b38 (i1)).bind fun q37 => (q_rcv q37.1 6 (.ref r0)).bind fun b46 => (g_63 o n 0 q37.1 b46 (q37.2) .null 0 0 0 0 0 0).bind fun q45 => g_76 o n 1 q45.1 r0 (i1) ((v7).toInt) (q12.2) (q45.2)
  | n + 1, 1, s, r0, i1, i2, l3, tl0 => (q_gv s 6 (.ref r0) 0).bind fun v1 => (q_rcv s 4 v1).bind fun b7 => (g_43 o n 0 s b7 0).bind fun q6 => (q_g (q_in q6.2)).bind fun _ => if ¬ q6.2 = 0 then if 1 ≤ tl0 then (q_rcv q6.1 6 (.ref r0)).bind fun b19 => (g_73 o n 0 q6.1 b19 (13) (i1) (tl0)).bind fun q18 => (q_gv q18.1 6 (.ref r0) 1).bind fun v23 => (q_gv q18.1 5 v23 8).bind fun v25 => (q_gv q18.1 6 (.ref r0) 0).bind fun v27 => (q_gv q18.1 4 v27 9).bind fun v29 => (q_la q18.1 v29 i2).bind fun v31 => (q_ls q18.1 v25 q18.2 v31).bind fun s33 => (q_gv s33 6 (.ref r0) 1).bind fun v35 => (q_gv s33 5 v35 9).bind fun v37 => (q_ls s33 v37 q18.2 l3).bind fun s39 => (q_rcv s39 6 (.ref r0)).bind fun b45 => (g_75 o n 0 s39 b45 (q18.2)).bind fun q44 => some (q44.1, q44.2) else (q_gv q6.1 6 (.ref r0) 0).bind fun v49 => (q_gv q6.1 4 v49 9).bind fun v51 => (q_ls q6.1 v51 i2 l3).bind fun s53 => (q_gv s53 6 (.ref r0) 0).bind fun v55 => (q_gv s53 4 v55 1).bind fun v57 => (q_gv s53 3 v57 3).bind fun v59 => (q_ia o s53 v59 i1).bind fun v61 => some (s53, v61) else some (q6.1, (-1000000))
  | _ + 1, _, _, _, _, _, _, _ => none
set_option maxRecDepth 100000 in
set_option maxHeartbeats 4000000 in
theorem c_76 (o : X_O) : ∀ n, (∀ (d : Nat) (hd : 5 ≤ d) (s : Q_S) (r0 : Nat) (i1 : Int) (i2 : Int) (l3 : Int64) (tl0 : Int64) (s9 : Q_S) (r : Int), g_76 o n 0 s r0 i1 i2 l3 tl0 = some (s9, r) → ∀ lv : X_L, x_lget lv 0 = some (.ref r0) → x_lget lv 1 = some (.int (Int32.ofInt i1)) → Y o d 76 0 lv [] (q_y s) (fun s1 r1 => s1 = q_y s9 ∧ r1 = some (.int (Int32.ofInt r)))) ∧
    (∀ (d : Nat) (hd : 5 ≤ d) (s : Q_S) (r0 : Nat) (i1 : Int) (i2 : Int) (l3 : Int64) (tl0 : Int64) (s9 : Q_S) (r : Int), g_76 o n 1 s r0 i1 i2 l3 tl0 = some (s9, r) → ∀ lv : X_L, x_lget lv 0 = some (.ref r0) → x_lget lv 1 = some (.int (Int32.ofInt i1)) → x_lget lv 2 = some (.int (Int32.ofInt i2)) → x_lget lv 3 = some (.long l3) → Y o d 76 51 lv [.long tl0] (q_y s) (fun s1 r1 => s1 = q_y s9 ∧ r1 = some (.int (Int32.ofInt r)))) := by
  intro n
  induction n with
  | zero => exact ⟨fun d hd s _ _ _ _ _ s9 r h => (by simp only [g_76] at h; cases h), fun d hd s _ _ _ _ _ s9 r h => (by simp only [g_76] at h; cases h)⟩
  | succ n ih =>
    refine ⟨?_, ?_⟩
    · intro d hd s r0 i1 i2 l3 tl0 s9 r h lv lk0 lk1
      obtain ⟨d, rfl⟩ : ∃ x, d = x + 1 := ⟨d - 1, by omega⟩
      simp only [g_76] at h
      refine Van rfl lk0 rfl rfl ?_
      have hz := y_bind h
      clear h
      obtain ⟨v1, h2, h⟩ := hz
      have wv1 := (y_gv_ok h2).2
      refine Vgv h2 rfl rfl rfl ?_
      have hz := y_bind h
      clear h
      obtain ⟨v3, h4, h⟩ := hz
      have wv3 := (y_gv_ok h4).2
      refine Vgv h4 rfl rfl rfl ?_
      have hz := y_bind h
      clear h
      obtain ⟨v5, h6, h⟩ := hz
      have wv5 := (y_gv_ok h6).2
      refine Vgv h6 rfl rfl rfl ?_
      refine Vin rfl lk1 rfl ?_
      have hz := y_bind h
      clear h
      obtain ⟨v7, h8, h⟩ := hz
      refine Zla (q_la_y h8) rfl rfl ?_
      refine Ul2i rfl rfl ?_
      refine Vsin rfl rfl (fun lv lk2 hk => ?_)
      have lk0 := hk 0 _ lk0 (by decide) (by decide) (Or.inl (by decide))
      have lk1 := hk 1 _ lk1 (by decide) (by decide) (Or.inr rfl)
      refine Van rfl lk0 rfl rfl ?_
      refine Vin rfl lk1 rfl ?_
      refine Vic (v := Int32.ofInt 1) rfl rfl rfl ?_
      refine Uadd rfl rfl ?_
      have hz := y_bind h
      clear h
      obtain ⟨b13, h14, h⟩ := hz
      obtain ⟨eh14, fh14, wh14⟩ := y_rcv_ok h14
      cases eh14
      have hz := y_bind h
      clear h
      obtain ⟨⟨s9, r10⟩, h11, h⟩ := hz
      try dsimp only at h
      refine Vcv rfl rfl rfl wh14 rfl rfl ⟨(Nat.le_of_ble_eq_true rfl), (Nat.le_of_ble_eq_true rfl)⟩ rfl ((c_63 o n).1 _ (by omega) _ _ _ _ _ _ _ _ _ _ _ _ h11 _ rfl rfl) (fun z1 z2 zq => ?_)
      obtain ⟨rfl, rfl⟩ := zq
      try dsimp only [Option.toList, HAppend.hAppend, Append.append, List.append]
      refine Vsln rfl rfl (fun lv lk3 hk => ?_)
      have lk0 := hk 0 _ lk0 (by decide) (by decide) (Or.inl (by decide))
      have lk1 := hk 1 _ lk1 (by decide) (by decide) (Or.inl (by decide))
      have lk2 := hk 2 _ lk2 (by decide) (by decide) (Or.inr rfl)
      refine Van rfl lk0 rfl rfl ?_
      have hz := y_bind h
      clear h
      obtain ⟨v17, h18, h⟩ := hz
      have wv17 := (y_gv_ok h18).2
      refine Vgv h18 rfl rfl rfl ?_
      have hz := y_bind h
      clear h
      obtain ⟨b23, h24, h⟩ := hz
      obtain ⟨eh24, fh24, wh24⟩ := y_rcv_ok h24
      cases eh24
      have hz := y_bind h
      clear h
      obtain ⟨⟨s19, r20⟩, h21, h⟩ := hz
      try dsimp only at h
      refine Vcv rfl rfl rfl wh24 rfl rfl ⟨(Nat.le_of_ble_eq_true rfl), (Nat.le_of_ble_eq_true rfl)⟩ rfl ((c_43 o n).1 _ (by omega) _ _ _ _ _ h21 _ rfl) (fun z1 z2 zq => ?_)
      obtain ⟨rfl, rfl⟩ := zq
      try dsimp only [Option.toList, HAppend.hAppend, Append.append, List.append]
      have hz := y_bind h
      clear h
      obtain ⟨_, h28, h⟩ := hz
      have c27 := q_g_ok h28
      refine Uif (q_eq0 c27) rfl rfl rfl rfl rfl rfl rfl (fun c29 => ?_) (fun c29 => ?_)
      · rw [if_pos c29] at h
        refine Vlc (v := 0) rfl (by decide) rfl ?_
        exact ih.2 _ hd _ _ _ _ _ _ _ _ h lv lk0 lk1 lk2 lk3
      · rw [if_neg c29] at h
        refine Van rfl lk0 rfl rfl ?_
        refine Van rfl lk0 rfl rfl ?_
        have hz := y_bind h
        clear h
        obtain ⟨v30, h31, h⟩ := hz
        have wv30 := (y_gv_ok h31).2
        refine Vgv h31 rfl rfl rfl ?_
        have hz := y_bind h
        clear h
        obtain ⟨v32, h33, h⟩ := hz
        have wv32 := (y_gv_ok h33).2
        refine Vgv h33 rfl rfl rfl ?_
        refine Vin rfl lk1 rfl ?_
        have hz := y_bind h
        clear h
        obtain ⟨b38, h39, h⟩ := hz
        obtain ⟨eh39, fh39, wh39⟩ := y_rcv_ok h39
        cases eh39
        have hz := y_bind h
        clear h
        obtain ⟨⟨s34, r35⟩, h36, h⟩ := hz
        try dsimp only at h
        refine Vcv rfl rfl rfl wh39 rfl rfl ⟨(Nat.le_of_ble_eq_true rfl), (Nat.le_of_ble_eq_true rfl)⟩ rfl ((c_37 o n) _ (by omega) _ _ _ _ _ h36 _ rfl rfl) (fun z1 z2 zq => ?_)
        obtain ⟨rfl, rfl⟩ := zq
        try dsimp only [Option.toList, HAppend.hAppend, Append.append, List.append]
        have hz := y_bind h
        clear h
        obtain ⟨b46, h47, h⟩ := hz
        obtain ⟨eh47, fh47, wh47⟩ := y_rcv_ok h47
        cases eh47
        have hz := y_bind h
        clear h
        obtain ⟨⟨s42, r43⟩, h44, h⟩ := hz
        try dsimp only at h
        refine Vcv rfl rfl rfl wh47 rfl rfl ⟨(Nat.le_of_ble_eq_true rfl), (Nat.le_of_ble_eq_true rfl)⟩ rfl ((c_63 o n).1 _ (by omega) _ _ _ _ _ _ _ _ _ _ _ _ h44 _ rfl rfl) (fun z1 z2 zq => ?_)
        obtain ⟨rfl, rfl⟩ := zq
        try dsimp only [Option.toList, HAppend.hAppend, Append.append, List.append]
        refine Ygo rfl rfl rfl rfl rfl rfl ?_
        exact ih.2 _ hd _ _ _ _ _ _ _ _ h lv lk0 lk1 lk2 lk3
    · intro d hd s r0 i1 i2 l3 tl0 s9 r h lv lk0 lk1 lk2 lk3
      obtain ⟨d, rfl⟩ : ∃ x, d = x + 1 := ⟨d - 1, by omega⟩
      simp only [g_76] at h
      refine Vsl rfl rfl (fun lv lk5 hk => ?_)
      have lk0 := hk 0 _ lk0 (by decide) (by decide) (Or.inl (by decide))
      have lk1 := hk 1 _ lk1 (by decide) (by decide) (Or.inl (by decide))
      have lk2 := hk 2 _ lk2 (by decide) (by decide) (Or.inl (by decide))
      have lk3 := hk 3 _ lk3 (by decide) (by decide) (Or.inl (by decide))
      refine Van rfl lk0 rfl rfl ?_
      have hz := y_bind h
      clear h
      obtain ⟨v1, h2, h⟩ := hz
      have wv1 := (y_gv_ok h2).2
      refine Vgv h2 rfl rfl rfl ?_
      have hz := y_bind h
      clear h
      obtain ⟨b7, h8, h⟩ := hz
      obtain ⟨eh8, fh8, wh8⟩ := y_rcv_ok h8
      cases eh8
      have hz := y_bind h
      clear h
      obtain ⟨⟨s3, r4⟩, h5, h⟩ := hz
      try dsimp only at h
      refine Vcv rfl rfl rfl wh8 rfl rfl ⟨(Nat.le_of_ble_eq_true rfl), (Nat.le_of_ble_eq_true rfl)⟩ rfl ((c_43 o n).1 _ (by omega) _ _ _ _ _ h5 _ rfl) (fun z1 z2 zq => ?_)
      obtain ⟨rfl, rfl⟩ := zq
      try dsimp only [Option.toList, HAppend.hAppend, Append.append, List.append]
      have hz := y_bind h
      clear h
      obtain ⟨_, h12, h⟩ := hz
      have c11 := q_g_ok h12
      refine Uif (not_congr (q_eq0 c11)) rfl rfl rfl rfl rfl rfl rfl (fun c13 => ?_) (fun c13 => ?_)
      · rw [if_pos c13] at h
        refine Vl rfl lk5 rfl ?_
        refine Vlc (v := 1) rfl (by decide) rfl ?_
        refine Ya rfl rfl rfl ?_
        refine Uif (lg_cmp_ge _ _) rfl rfl rfl rfl rfl rfl rfl (fun c14 => ?_) (fun c14 => ?_)
        · rw [if_pos c14] at h
          refine Van rfl lk0 rfl rfl ?_
          refine Vbp (v := Int32.ofInt 13) rfl (by decide) rfl ?_
          refine Vin rfl lk1 rfl ?_
          refine Vl rfl lk5 rfl ?_
          have hz := y_bind h
          clear h
          obtain ⟨b19, h20, h⟩ := hz
          obtain ⟨eh20, fh20, wh20⟩ := y_rcv_ok h20
          cases eh20
          have hz := y_bind h
          clear h
          obtain ⟨⟨s15, r16⟩, h17, h⟩ := hz
          try dsimp only at h
          refine Vcv rfl rfl rfl wh20 rfl rfl ⟨(Nat.le_of_ble_eq_true rfl), (Nat.le_of_ble_eq_true rfl)⟩ rfl ((c_73 o n) _ (by omega) _ _ _ _ _ _ _ h17 _ rfl rfl rfl rfl) (fun z1 z2 zq => ?_)
          obtain ⟨rfl, rfl⟩ := zq
          try dsimp only [Option.toList, HAppend.hAppend, Append.append, List.append]
          refine Vsi rfl rfl (fun lv lk7 hk => ?_)
          have lk0 := hk 0 _ lk0 (by decide) (by decide) (Or.inl (by decide))
          have lk2 := hk 2 _ lk2 (by decide) (by decide) (Or.inl (by decide))
          have lk3 := hk 3 _ lk3 (by decide) (by decide) (Or.inl (by decide))
          refine Van rfl lk0 rfl rfl ?_
          have hz := y_bind h
          clear h
          obtain ⟨v23, h24, h⟩ := hz
          have wv23 := (y_gv_ok h24).2
          refine Vgv h24 rfl rfl rfl ?_
          have hz := y_bind h
          clear h
          obtain ⟨v25, h26, h⟩ := hz
          have wv25 := (y_gv_ok h26).2
          refine Vgv h26 rfl rfl rfl ?_
          refine Vi rfl lk7 rfl ?_
          refine Van rfl lk0 rfl rfl ?_
          have hz := y_bind h
          clear h
          obtain ⟨v27, h28, h⟩ := hz
          have wv27 := (y_gv_ok h28).2
          refine Vgv h28 rfl rfl rfl ?_
          have hz := y_bind h
          clear h
          obtain ⟨v29, h30, h⟩ := hz
          have wv29 := (y_gv_ok h30).2
          refine Vgv h30 rfl rfl rfl ?_
          refine Vin rfl lk2 rfl ?_
          have hz := y_bind h
          clear h
          obtain ⟨v31, h32, h⟩ := hz
          refine Zla (q_la_y h32) rfl rfl ?_
          have hz := y_bind h
          clear h
          obtain ⟨s33, h34, h⟩ := hz
          refine Zls (q_ls_y h34) rfl rfl ?_
          refine Van rfl lk0 rfl rfl ?_
          have hz := y_bind h
          clear h
          obtain ⟨v35, h36, h⟩ := hz
          have wv35 := (y_gv_ok h36).2
          refine Vgv h36 rfl rfl rfl ?_
          have hz := y_bind h
          clear h
          obtain ⟨v37, h38, h⟩ := hz
          have wv37 := (y_gv_ok h38).2
          refine Vgv h38 rfl rfl rfl ?_
          refine Vi rfl lk7 rfl ?_
          refine Vln rfl lk3 rfl ?_
          have hz := y_bind h
          clear h
          obtain ⟨s39, h40, h⟩ := hz
          refine Zls (q_ls_y h40) rfl rfl ?_
          refine Van rfl lk0 rfl rfl ?_
          refine Vi rfl lk7 rfl ?_
          have hz := y_bind h
          clear h
          obtain ⟨b45, h46, h⟩ := hz
          obtain ⟨eh46, fh46, wh46⟩ := y_rcv_ok h46
          cases eh46
          have hz := y_bind h
          clear h
          obtain ⟨⟨s41, r42⟩, h43, h⟩ := hz
          try dsimp only at h
          refine Vcv rfl rfl rfl wh46 rfl rfl ⟨(Nat.le_of_ble_eq_true rfl), (Nat.le_of_ble_eq_true rfl)⟩ rfl ((c_75 o n) _ (by omega) _ _ _ _ _ h43 _ rfl rfl) (fun z1 z2 zq => ?_)
          obtain ⟨rfl, rfl⟩ := zq
          try dsimp only [Option.toList, HAppend.hAppend, Append.append, List.append]
          cases h
          exact Yret rfl rfl rfl rfl rfl rfl rfl ⟨rfl, rfl⟩
        · rw [if_neg c14] at h
          refine Van rfl lk0 rfl rfl ?_
          have hz := y_bind h
          clear h
          obtain ⟨v49, h50, h⟩ := hz
          have wv49 := (y_gv_ok h50).2
          refine Vgv h50 rfl rfl rfl ?_
          have hz := y_bind h
          clear h
          obtain ⟨v51, h52, h⟩ := hz
          have wv51 := (y_gv_ok h52).2
          refine Vgv h52 rfl rfl rfl ?_
          refine Vin rfl lk2 rfl ?_
          refine Vln rfl lk3 rfl ?_
          have hz := y_bind h
          clear h
          obtain ⟨s53, h54, h⟩ := hz
          refine Zls (q_ls_y h54) rfl rfl ?_
          refine Van rfl lk0 rfl rfl ?_
          have hz := y_bind h
          clear h
          obtain ⟨v55, h56, h⟩ := hz
          have wv55 := (y_gv_ok h56).2
          refine Vgv h56 rfl rfl rfl ?_
          have hz := y_bind h
          clear h
          obtain ⟨v57, h58, h⟩ := hz
          have wv57 := (y_gv_ok h58).2
          refine Vgv h58 rfl rfl rfl ?_
          have hz := y_bind h
          clear h
          obtain ⟨v59, h60, h⟩ := hz
          have wv59 := (y_gv_ok h60).2
          refine Vgv h60 rfl rfl rfl ?_
          refine Vin rfl lk1 rfl ?_
          have hz := y_bind h
          clear h
          obtain ⟨v61, h62, h⟩ := hz
          refine Zia (q_ia_y h62) rfl rfl ?_
          cases h
          exact Yret rfl rfl rfl rfl rfl rfl rfl ⟨rfl, rfl⟩
      · rw [if_neg c13] at h
        refine Yk (v := .int (Int32.ofInt (-1000000))) rfl rfl rfl rfl rfl ?_
        cases h
        exact Yret rfl rfl rfl rfl rfl rfl rfl ⟨rfl, rfl⟩

/-- StepRows$Walker.choose -/
def g_77 (o : X_O) : Nat → Nat → Q_S → Nat → Int → Int → Option (Q_S × Int)
  | 0, _, _, _, _, _ => none
  | n + 1, 0, s, r0, i1, ti0 => (q_gv s 6 (.ref r0) 0).bind fun v1 => (q_gv s 4 v1 1).bind fun v3 => (q_rcv s 6 (.ref r0)).bind fun b9 => (g_63 o n 0 s b9 ((i1 + 1)) .null 0 0 0 0 0 0).bind fun q8 => if q8.2 = 0 then (q_gv q8.1 3 v3 1).bind fun v14 => (q_la q8.1 v14 i1).bind fun v16 => if v16 = 0 then (q_gv q8.1 3 v3 3).bind fun v19 => (q_ia o q8.1 v19 i1).bind fun v21 => g_77 o n 1 q8.1 0 0 (v21) else (q_rcv q8.1 3 v3).bind fun b27 => (g_38 o n 0 q8.1 b27 (i1)).bind fun q26 => g_77 o n 1 q26.1 0 0 (q26.2) else (q_rcv q8.1 3 v3).bind fun b35 => (g_37 o n 0 q8.1 b35 (i1)).bind fun q34 => some (q34.1, q34.2)
  | n + 1, 1, s, r0, i1, ti0 => some (s, ti0)
  | _ + 1, _, _, _, _, _ => none
set_option maxRecDepth 100000 in
set_option maxHeartbeats 4000000 in
theorem c_77 (o : X_O) : ∀ n, (∀ (d : Nat) (hd : 4 ≤ d) (s : Q_S) (r0 : Nat) (i1 : Int) (ti0 : Int) (s9 : Q_S) (r : Int), g_77 o n 0 s r0 i1 ti0 = some (s9, r) → ∀ lv : X_L, x_lget lv 0 = some (.ref r0) → x_lget lv 1 = some (.int (Int32.ofInt i1)) → Y o d 77 0 lv [] (q_y s) (fun s1 r1 => s1 = q_y s9 ∧ r1 = some (.int (Int32.ofInt r)))) ∧
    (∀ (d : Nat) (hd : 4 ≤ d) (s : Q_S) (r0 : Nat) (i1 : Int) (ti0 : Int) (s9 : Q_S) (r : Int), g_77 o n 1 s r0 i1 ti0 = some (s9, r) → ∀ lv : X_L, True → Y o d 77 51 lv [.int (Int32.ofInt ti0)] (q_y s) (fun s1 r1 => s1 = q_y s9 ∧ r1 = some (.int (Int32.ofInt r)))) := by
  intro n
  induction n with
  | zero => exact ⟨fun d hd s _ _ _ s9 r h => (by simp only [g_77] at h; cases h), fun d hd s _ _ _ s9 r h => (by simp only [g_77] at h; cases h)⟩
  | succ n ih =>
    refine ⟨?_, ?_⟩
    · intro d hd s r0 i1 ti0 s9 r h lv lk0 lk1
      obtain ⟨d, rfl⟩ : ∃ x, d = x + 1 := ⟨d - 1, by omega⟩
      simp only [g_77] at h
      refine Van rfl lk0 rfl rfl ?_
      have hz := y_bind h
      clear h
      obtain ⟨v1, h2, h⟩ := hz
      have wv1 := (y_gv_ok h2).2
      refine Vgv h2 rfl rfl rfl ?_
      have hz := y_bind h
      clear h
      obtain ⟨v3, h4, h⟩ := hz
      have wv3 := (y_gv_ok h4).2
      refine Vgv h4 rfl rfl rfl ?_
      refine Vsan rfl wv3 rfl (fun lv lk2 hk => ?_)
      have lk0 := hk 0 _ lk0 (by decide) (by decide) (Or.inl (by decide))
      have lk1 := hk 1 _ lk1 (by decide) (by decide) (Or.inr rfl)
      refine Van rfl lk0 rfl rfl ?_
      refine Vin rfl lk1 rfl ?_
      refine Vic (v := Int32.ofInt 1) rfl rfl rfl ?_
      refine Uadd rfl rfl ?_
      have hz := y_bind h
      clear h
      obtain ⟨b9, h10, h⟩ := hz
      obtain ⟨eh10, fh10, wh10⟩ := y_rcv_ok h10
      cases eh10
      have hz := y_bind h
      clear h
      obtain ⟨⟨s5, r6⟩, h7, h⟩ := hz
      try dsimp only at h
      refine Vcv rfl rfl rfl wh10 rfl rfl ⟨(Nat.le_of_ble_eq_true rfl), (Nat.le_of_ble_eq_true rfl)⟩ rfl ((c_63 o n).1 _ (by omega) _ _ _ _ _ _ _ _ _ _ _ _ h7 _ rfl rfl) (fun z1 z2 zq => ?_)
      obtain ⟨rfl, rfl⟩ := zq
      try dsimp only [Option.toList, HAppend.hAppend, Append.append, List.append]
      refine Vlc (v := 0) rfl (by decide) rfl ?_
      refine Ya rfl rfl rfl ?_
      refine Uif (lg_cmp_eq _ _) rfl rfl rfl rfl rfl rfl rfl (fun c13 => ?_) (fun c13 => ?_)
      · rw [if_pos c13] at h
        refine Van rfl lk2 wv3 rfl ?_
        have hz := y_bind h
        clear h
        obtain ⟨v14, h15, h⟩ := hz
        have wv14 := (y_gv_ok h15).2
        refine Vgv h15 rfl rfl rfl ?_
        refine Vin rfl lk1 rfl ?_
        have hz := y_bind h
        clear h
        obtain ⟨v16, h17, h⟩ := hz
        refine Zla (q_la_y h17) rfl rfl ?_
        refine Vlc (v := 0) rfl (by decide) rfl ?_
        refine Ya rfl rfl rfl ?_
        refine Uif (lg_cmp_eq _ _) rfl rfl rfl rfl rfl rfl rfl (fun c18 => ?_) (fun c18 => ?_)
        · rw [if_pos c18] at h
          refine Van rfl lk2 wv3 rfl ?_
          have hz := y_bind h
          clear h
          obtain ⟨v19, h20, h⟩ := hz
          have wv19 := (y_gv_ok h20).2
          refine Vgv h20 rfl rfl rfl ?_
          refine Vin rfl lk1 rfl ?_
          have hz := y_bind h
          clear h
          obtain ⟨v21, h22, h⟩ := hz
          refine Zia (q_ia_y h22) rfl rfl ?_
          exact ih.2 _ hd _ _ _ _ _ _ h lv trivial
        · rw [if_neg c18] at h
          refine Van rfl lk2 wv3 rfl ?_
          refine Vin rfl lk1 rfl ?_
          have hz := y_bind h
          clear h
          obtain ⟨b27, h28, h⟩ := hz
          obtain ⟨eh28, fh28, wh28⟩ := y_rcv_ok h28
          cases eh28
          have hz := y_bind h
          clear h
          obtain ⟨⟨s23, r24⟩, h25, h⟩ := hz
          try dsimp only at h
          refine Vcv rfl rfl rfl wh28 rfl rfl ⟨(Nat.le_of_ble_eq_true rfl), (Nat.le_of_ble_eq_true rfl)⟩ rfl ((c_38 o n) _ (by omega) _ _ _ _ _ h25 _ rfl rfl) (fun z1 z2 zq => ?_)
          obtain ⟨rfl, rfl⟩ := zq
          try dsimp only [Option.toList, HAppend.hAppend, Append.append, List.append]
          refine Ygo rfl rfl rfl rfl rfl rfl ?_
          exact ih.2 _ hd _ _ _ _ _ _ h lv trivial
      · rw [if_neg c13] at h
        refine Van rfl lk2 wv3 rfl ?_
        refine Vin rfl lk1 rfl ?_
        have hz := y_bind h
        clear h
        obtain ⟨b35, h36, h⟩ := hz
        obtain ⟨eh36, fh36, wh36⟩ := y_rcv_ok h36
        cases eh36
        have hz := y_bind h
        clear h
        obtain ⟨⟨s31, r32⟩, h33, h⟩ := hz
        try dsimp only at h
        refine Vcv rfl rfl rfl wh36 rfl rfl ⟨(Nat.le_of_ble_eq_true rfl), (Nat.le_of_ble_eq_true rfl)⟩ rfl ((c_37 o n) _ (by omega) _ _ _ _ _ h33 _ rfl rfl) (fun z1 z2 zq => ?_)
        obtain ⟨rfl, rfl⟩ := zq
        try dsimp only [Option.toList, HAppend.hAppend, Append.append, List.append]
        cases h
        exact Yret rfl rfl rfl rfl rfl rfl rfl ⟨rfl, rfl⟩
    · intro d hd s r0 i1 ti0 s9 r h lv _
      obtain ⟨d, rfl⟩ : ∃ x, d = x + 1 := ⟨d - 1, by omega⟩
      simp only [g_77] at h
      cases h
      exact Yret rfl rfl rfl rfl rfl rfl rfl ⟨rfl, rfl⟩

/-- StepRows$Walker.comesAround -/
def g_79 (o : X_O) : Nat → Nat → Q_S → Nat → Int → Int → Option (Q_S × Int)
  | 0, _, _, _, _, _ => none
  | n + 1, 0, s, r0, i1, i2 => (q_gv s 6 (.ref r0) 1).bind fun v1 => (q_gi s 6 (.ref r0) 4).bind fun v3 => (q_rcv s 5 v1).bind fun b9 => (g_51 o n 0 s b9 (v3) 0).bind fun q8 => (q_g (q_in q8.2)).bind fun _ => if q8.2 < 60 then (q_gv q8.1 6 (.ref r0) 1).bind fun v16 => (q_gi q8.1 6 (.ref r0) 4).bind fun v18 => (q_rcv q8.1 6 (.ref r0)).bind fun b24 => (g_74 o n 0 q8.1 b24 (i2) 0).bind fun q23 => (q_rcv q23.1 5 v16).bind fun b32 => (g_49 o n 0 q23.1 b32 (i1) (i2) (v18) (q23.2) 0 0).bind fun q31 => (q_pi q31.1 6 (.ref r0) 4 q31.2).bind fun s36 => some (s36, 1) else (q_rcv q8.1 6 (.ref r0)).bind fun b42 => (g_70 o n 0 q8.1 b42 (4) (i2)).bind fun q41 => some (q41.1, 0)
  | _ + 1, _, _, _, _, _ => none
set_option maxRecDepth 100000 in
set_option maxHeartbeats 4000000 in
theorem c_79 (o : X_O) : ∀ n, (∀ (d : Nat) (hd : 4 ≤ d) (s : Q_S) (r0 : Nat) (i1 : Int) (i2 : Int) (s9 : Q_S) (r : Int), g_79 o n 0 s r0 i1 i2 = some (s9, r) → ∀ lv : X_L, x_lget lv 0 = some (.ref r0) → x_lget lv 1 = some (.int (Int32.ofInt i1)) → x_lget lv 2 = some (.int (Int32.ofInt i2)) → Y o d 79 0 lv [] (q_y s) (fun s1 r1 => s1 = q_y s9 ∧ r1 = some (.int (Int32.ofInt r)))) := by
  intro n
  induction n with
  | zero => exact fun d hd s _ _ _ s9 r h => (by simp only [g_79] at h; cases h)
  | succ n ih =>
    intro d hd s r0 i1 i2 s9 r h lv lk0 lk1 lk2
    obtain ⟨d, rfl⟩ : ∃ x, d = x + 1 := ⟨d - 1, by omega⟩
    simp only [g_79] at h
    refine Van rfl lk0 rfl rfl ?_
    have hz := y_bind h
    clear h
    obtain ⟨v1, h2, h⟩ := hz
    have wv1 := (y_gv_ok h2).2
    refine Vgv h2 rfl rfl rfl ?_
    refine Van rfl lk0 rfl rfl ?_
    have hz := y_bind h
    clear h
    obtain ⟨v3, h4, h⟩ := hz
    refine Zgi (q_gi_y h4) rfl rfl rfl ?_
    have hz := y_bind h
    clear h
    obtain ⟨b9, h10, h⟩ := hz
    obtain ⟨eh10, fh10, wh10⟩ := y_rcv_ok h10
    cases eh10
    have hz := y_bind h
    clear h
    obtain ⟨⟨s5, r6⟩, h7, h⟩ := hz
    try dsimp only at h
    refine Vcv rfl rfl rfl wh10 rfl rfl ⟨(Nat.le_of_ble_eq_true rfl), (Nat.le_of_ble_eq_true rfl)⟩ rfl ((c_51 o n).1 _ (by omega) _ _ _ _ _ _ h7 _ rfl rfl) (fun z1 z2 zq => ?_)
    obtain ⟨rfl, rfl⟩ := zq
    try dsimp only [Option.toList, HAppend.hAppend, Append.append, List.append]
    refine Vbp (v := Int32.ofInt 60) rfl (by decide) rfl ?_
    have hz := y_bind h
    clear h
    obtain ⟨_, h14, h⟩ := hz
    have c13 := q_g_ok h14
    refine Uif (q_lt c13 (by decide)) rfl rfl rfl rfl rfl rfl rfl (fun c15 => ?_) (fun c15 => ?_)
    · rw [if_pos c15] at h
      refine Van rfl lk0 rfl rfl ?_
      refine Van rfl lk0 rfl rfl ?_
      have hz := y_bind h
      clear h
      obtain ⟨v16, h17, h⟩ := hz
      have wv16 := (y_gv_ok h17).2
      refine Vgv h17 rfl rfl rfl ?_
      refine Vin rfl lk1 rfl ?_
      refine Vin rfl lk2 rfl ?_
      refine Van rfl lk0 rfl rfl ?_
      have hz := y_bind h
      clear h
      obtain ⟨v18, h19, h⟩ := hz
      refine Zgi (q_gi_y h19) rfl rfl rfl ?_
      refine Van rfl lk0 rfl rfl ?_
      refine Vin rfl lk2 rfl ?_
      have hz := y_bind h
      clear h
      obtain ⟨b24, h25, h⟩ := hz
      obtain ⟨eh25, fh25, wh25⟩ := y_rcv_ok h25
      cases eh25
      have hz := y_bind h
      clear h
      obtain ⟨⟨s20, r21⟩, h22, h⟩ := hz
      try dsimp only at h
      refine Vcv rfl rfl rfl wh25 rfl rfl ⟨(by simp only [List.take, List.reverse_cons, List.reverse_nil, List.nil_append, List.cons_append, List.map_cons, List.map_nil, y_cati, y_catl, y_catr, y_catn, y_cata, y_rv_cat wv16, List.sum_cons, List.sum_nil]; decide +kernel), (Nat.le_of_ble_eq_true rfl)⟩ rfl ((c_74 o n).1 _ (by omega) _ _ _ _ _ _ h22 _ rfl rfl) (fun z1 z2 zq => ?_)
      obtain ⟨rfl, rfl⟩ := zq
      try dsimp only [Option.toList, HAppend.hAppend, Append.append, List.append]
      have hz := y_bind h
      clear h
      obtain ⟨b32, h33, h⟩ := hz
      obtain ⟨eh33, fh33, wh33⟩ := y_rcv_ok h33
      cases eh33
      have hz := y_bind h
      clear h
      obtain ⟨⟨s28, r29⟩, h30, h⟩ := hz
      try dsimp only at h
      refine Vcv rfl rfl rfl wh33 rfl rfl ⟨(Nat.le_of_ble_eq_true rfl), (Nat.le_of_ble_eq_true rfl)⟩ rfl ((c_49 o n).1 _ (by omega) _ _ _ _ _ _ _ _ _ _ h30 _ rfl rfl rfl rfl rfl) (fun z1 z2 zq => ?_)
      obtain ⟨rfl, rfl⟩ := zq
      try dsimp only [Option.toList, HAppend.hAppend, Append.append, List.append]
      have hz := y_bind h
      clear h
      obtain ⟨s36, h37, h⟩ := hz
      refine Zpi (q_pi_y h37) rfl rfl rfl rfl ?_
      refine Vic (v := Int32.ofInt 1) rfl rfl rfl ?_
      cases h
      exact Yret rfl rfl rfl rfl rfl rfl rfl ⟨rfl, rfl⟩
    · rw [if_neg c15] at h
      refine Van rfl lk0 rfl rfl ?_
      refine Vic (v := Int32.ofInt 4) rfl rfl rfl ?_
      refine Vin rfl lk2 rfl ?_
      have hz := y_bind h
      clear h
      obtain ⟨b42, h43, h⟩ := hz
      obtain ⟨eh43, fh43, wh43⟩ := y_rcv_ok h43
      cases eh43
      have hz := y_bind h
      clear h
      obtain ⟨⟨s38, r39⟩, h40, h⟩ := hz
      try dsimp only at h
      refine Vcv rfl rfl rfl wh43 rfl rfl ⟨(Nat.le_of_ble_eq_true rfl), (Nat.le_of_ble_eq_true rfl)⟩ rfl ((c_70 o n) _ (by omega) _ _ _ _ _ _ h40 _ rfl rfl rfl) (fun z1 z2 zq => ?_)
      obtain ⟨rfl, rfl⟩ := zq
      try dsimp only [Option.toList, HAppend.hAppend, Append.append, List.append]
      refine Vpop rfl rfl rfl ?_
      refine Vic (v := Int32.ofInt 0) rfl rfl rfl ?_
      cases h
      exact Yret rfl rfl rfl rfl rfl rfl rfl ⟨rfl, rfl⟩

