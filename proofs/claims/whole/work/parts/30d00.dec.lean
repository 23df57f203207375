/-- StepRows$Nodes.<init> -/
def g_19 (o : X_O) : Nat → Nat → Q_S → Nat → Option (Q_S × Unit)
  | 0, _, _, _ => none
  | n + 1, 0, s, r0 => (q_na s .int 300).bind fun s1 => (q_pr s1 1 (.ref r0) 0 (.ref s.1)).bind fun s3 => (q_na s3 .int 900).bind fun s5 => (q_pr s5 1 (.ref r0) 1 (.ref s3.1)).bind fun s7 => (q_na s7 .long 300).bind fun s9 => (q_pr s9 1 (.ref r0) 2 (.ref s7.1)).bind fun s11 => (q_na s11 .int 300).bind fun s13 => (q_pr s13 1 (.ref r0) 3 (.ref s11.1)).bind fun s15 => some (s15, ())
  | _ + 1, _, _, _ => none
set_option maxRecDepth 100000 in
set_option maxHeartbeats 4000000 in
theorem c_19 (o : X_O) : ∀ n, (∀ (d : Nat) (hd : 1 ≤ d) (s : Q_S) (r0 : Nat) (s9 : Q_S) (r : Unit), g_19 o n 0 s r0 = some (s9, r) → ∀ lv : X_L, x_lget lv 0 = some (.ref r0) → Y o d 19 0 lv [] (q_y s) (fun s1 r1 => s1 = q_y s9 ∧ r1 = none)) := by
  intro n
  induction n with
  | zero => exact fun d hd s _ s9 r h => (by simp only [g_19] at h; cases h)
  | succ n ih =>
    intro d hd s r0 s9 r h lv lk0
    obtain ⟨d, rfl⟩ : ∃ x, d = x + 1 := ⟨d - 1, by omega⟩
    simp only [g_19] at h
    refine Van rfl lk0 rfl rfl ?_
    refine Y6 rfl rfl (Nat.le_of_ble_eq_true rfl) rfl ?_
    refine Van rfl lk0 rfl rfl ?_
    refine Vsp (v := Int32.ofInt 300) rfl (by decide) rfl ?_
    have hz := y_bind h
    clear h
    obtain ⟨s1, h2, h⟩ := hz
    refine Zna (q_na_y h2) rfl rfl rfl ?_
    have hz := y_bind h
    clear h
    obtain ⟨s3, h4, h⟩ := hz
    refine Zpr (q_pr_y h4) rfl rfl rfl rfl ?_
    refine Van rfl lk0 rfl rfl ?_
    refine Vsp (v := Int32.ofInt 900) rfl (by decide) rfl ?_
    have hz := y_bind h
    clear h
    obtain ⟨s5, h6, h⟩ := hz
    refine Zna (q_na_y h6) rfl rfl rfl ?_
    have hz := y_bind h
    clear h
    obtain ⟨s7, h8, h⟩ := hz
    refine Zpr (q_pr_y h8) rfl rfl rfl rfl ?_
    refine Van rfl lk0 rfl rfl ?_
    refine Vsp (v := Int32.ofInt 300) rfl (by decide) rfl ?_
    have hz := y_bind h
    clear h
    obtain ⟨s9, h10, h⟩ := hz
    refine Zna (q_na_y h10) rfl rfl rfl ?_
    have hz := y_bind h
    clear h
    obtain ⟨s11, h12, h⟩ := hz
    refine Zpr (q_pr_y h12) rfl rfl rfl rfl ?_
    refine Van rfl lk0 rfl rfl ?_
    refine Vsp (v := Int32.ofInt 300) rfl (by decide) rfl ?_
    have hz := y_bind h
    clear h
    obtain ⟨s13, h14, h⟩ := hz
    refine Zna (q_na_y h14) rfl rfl rfl ?_
    have hz := y_bind h
    clear h
    obtain ⟨s15, h16, h⟩ := hz
    refine Zpr (q_pr_y h16) rfl rfl rfl rfl ?_
    cases h
    exact Yret rfl rfl rfl rfl rfl rfl rfl ⟨rfl, rfl⟩

/-- StepRows$Rows.<init> -/
def g_36 (o : X_O) : Nat → Nat → Q_S → Nat → Int → Int → Option (Q_S × Unit)
  | 0, _, _, _, _, _ => none
  | n + 1, 0, s, r0, i1, i2 => (q_na s .int i1).bind fun s1 => (q_pr s1 3 (.ref r0) 0 (.ref s.1)).bind fun s3 => (q_na s3 .long i1).bind fun s5 => (q_pr s5 3 (.ref r0) 1 (.ref s3.1)).bind fun s7 => (q_na s7 .int i1).bind fun s9 => (q_pr s9 3 (.ref r0) 2 (.ref s7.1)).bind fun s11 => (q_na s11 .int i1).bind fun s13 => (q_pr s13 3 (.ref r0) 3 (.ref s11.1)).bind fun s15 => (q_na s15 .int i1).bind fun s17 => (q_pr s17 3 (.ref r0) 4 (.ref s15.1)).bind fun s19 => (q_na s19 .int i1).bind fun s21 => (q_pr s21 3 (.ref r0) 5 (.ref s19.1)).bind fun s23 => (q_na s23 .int i2).bind fun s25 => (q_pr s25 3 (.ref r0) 6 (.ref s23.1)).bind fun s27 => some (s27, ())
  | _ + 1, _, _, _, _, _ => none
set_option maxRecDepth 100000 in
set_option maxHeartbeats 4000000 in
theorem c_36 (o : X_O) : ∀ n, (∀ (d : Nat) (hd : 1 ≤ d) (s : Q_S) (r0 : Nat) (i1 : Int) (i2 : Int) (s9 : Q_S) (r : Unit), g_36 o n 0 s r0 i1 i2 = some (s9, r) → ∀ lv : X_L, x_lget lv 0 = some (.ref r0) → x_lget lv 1 = some (.int (Int32.ofInt i1)) → x_lget lv 2 = some (.int (Int32.ofInt i2)) → Y o d 36 0 lv [] (q_y s) (fun s1 r1 => s1 = q_y s9 ∧ r1 = none)) := by
  intro n
  induction n with
  | zero => exact fun d hd s _ _ _ s9 r h => (by simp only [g_36] at h; cases h)
  | succ n ih =>
    intro d hd s r0 i1 i2 s9 r h lv lk0 lk1 lk2
    obtain ⟨d, rfl⟩ : ∃ x, d = x + 1 := ⟨d - 1, by omega⟩
    simp only [g_36] at h
    refine Van rfl lk0 rfl rfl ?_
    refine Y6 rfl rfl (Nat.le_of_ble_eq_true rfl) rfl ?_
    refine Van rfl lk0 rfl rfl ?_
    refine Vin rfl lk1 rfl ?_
    have hz := y_bind h
    clear h
    obtain ⟨s1, h2, h⟩ := hz
    refine Zna (q_na_y h2) rfl rfl rfl ?_
    have hz := y_bind h
    clear h
    obtain ⟨s3, h4, h⟩ := hz
    refine Zpr (q_pr_y h4) rfl rfl rfl rfl ?_
    refine Van rfl lk0 rfl rfl ?_
    refine Vin rfl lk1 rfl ?_
    have hz := y_bind h
    clear h
    obtain ⟨s5, h6, h⟩ := hz
    refine Zna (q_na_y h6) rfl rfl rfl ?_
    have hz := y_bind h
    clear h
    obtain ⟨s7, h8, h⟩ := hz
    refine Zpr (q_pr_y h8) rfl rfl rfl rfl ?_
    refine Van rfl lk0 rfl rfl ?_
    refine Vin rfl lk1 rfl ?_
    have hz := y_bind h
    clear h
    obtain ⟨s9, h10, h⟩ := hz
    refine Zna (q_na_y h10) rfl rfl rfl ?_
    have hz := y_bind h
    clear h
    obtain ⟨s11, h12, h⟩ := hz
    refine Zpr (q_pr_y h12) rfl rfl rfl rfl ?_
    refine Van rfl lk0 rfl rfl ?_
    refine Vin rfl lk1 rfl ?_
    have hz := y_bind h
    clear h
    obtain ⟨s13, h14, h⟩ := hz
    refine Zna (q_na_y h14) rfl rfl rfl ?_
    have hz := y_bind h
    clear h
    obtain ⟨s15, h16, h⟩ := hz
    refine Zpr (q_pr_y h16) rfl rfl rfl rfl ?_
    refine Van rfl lk0 rfl rfl ?_
    refine Vin rfl lk1 rfl ?_
    have hz := y_bind h
    clear h
    obtain ⟨s17, h18, h⟩ := hz
    refine Zna (q_na_y h18) rfl rfl rfl ?_
    have hz := y_bind h
    clear h
    obtain ⟨s19, h20, h⟩ := hz
    refine Zpr (q_pr_y h20) rfl rfl rfl rfl ?_
    refine Van rfl lk0 rfl rfl ?_
    refine Vin rfl lk1 rfl ?_
    have hz := y_bind h
    clear h
    obtain ⟨s21, h22, h⟩ := hz
    refine Zna (q_na_y h22) rfl rfl rfl ?_
    have hz := y_bind h
    clear h
    obtain ⟨s23, h24, h⟩ := hz
    refine Zpr (q_pr_y h24) rfl rfl rfl rfl ?_
    refine Van rfl lk0 rfl rfl ?_
    refine Vin rfl lk2 rfl ?_
    have hz := y_bind h
    clear h
    obtain ⟨s25, h26, h⟩ := hz
    refine Zna (q_na_y h26) rfl rfl rfl ?_
    have hz := y_bind h
    clear h
    obtain ⟨s27, h28, h⟩ := hz
    refine Zpr (q_pr_y h28) rfl rfl rfl rfl ?_
    cases h
    exact Yret rfl rfl rfl rfl rfl rfl rfl ⟨rfl, rfl⟩

/-- StepRows$Layout.<init> -/
def g_30 (o : X_O) : Nat → Nat → Q_S → Nat → Value → Option (Q_S × Unit)
  | 0, _, _, _, _ => none
  | n + 1, 0, s, r0, a1 => (q_no s 3).bind fun s1 => (g_36 o n 0 s1 (s.1) (500) (500)).bind fun q6 => (q_pr q6.1 2 (.ref r0) 1 (.ref s.1)).bind fun s9 => (q_na s9 .int 500).bind fun s11 => (q_pr s11 2 (.ref r0) 2 (.ref s9.1)).bind fun s13 => (q_na s13 .int 500).bind fun s15 => (q_pr s15 2 (.ref r0) 3 (.ref s13.1)).bind fun s17 => (q_na s17 .boolean 500).bind fun s19 => (q_pr s19 2 (.ref r0) 4 (.ref s17.1)).bind fun s21 => (q_pr s21 2 (.ref r0) 0 a1).bind fun s23 => some (s23, ())
  | _ + 1, _, _, _, _ => none
set_option maxRecDepth 100000 in
set_option maxHeartbeats 4000000 in
theorem c_30 (o : X_O) : ∀ n, (∀ (d : Nat) (hd : 2 ≤ d) (s : Q_S) (r0 : Nat) (a1 : Value) (s9 : Q_S) (r : Unit), g_30 o n 0 s r0 a1 = some (s9, r) → ∀ lv : X_L, x_lget lv 0 = some (.ref r0) → x_lget lv 1 = some a1 → y_rv a1 = true → Y o d 30 0 lv [] (q_y s) (fun s1 r1 => s1 = q_y s9 ∧ r1 = none)) := by
  intro n
  induction n with
  | zero => exact fun d hd s _ _ s9 r h => (by simp only [g_30] at h; cases h)
  | succ n ih =>
    intro d hd s r0 a1 s9 r h lv lk0 lk1 rv1
    obtain ⟨d, rfl⟩ : ∃ x, d = x + 1 := ⟨d - 1, by omega⟩
    simp only [g_30] at h
    refine Van rfl lk0 rfl rfl ?_
    refine Y6 rfl rfl (Nat.le_of_ble_eq_true rfl) rfl ?_
    refine Van rfl lk0 rfl rfl ?_
    have hz := y_bind h
    clear h
    obtain ⟨s1, h2, h⟩ := hz
    refine Zno (q_no_y h2) rfl rfl (by decide +kernel) rfl ?_
    refine Vdup rfl rfl rfl ?_
    refine Vsp (v := Int32.ofInt 500) rfl (by decide) rfl ?_
    refine Vsp (v := Int32.ofInt 500) rfl (by decide) rfl ?_
    have hz := y_bind h
    clear h
    obtain ⟨⟨s3, r4⟩, h5, h⟩ := hz
    try dsimp only at h
    refine Vci rfl rfl (Or.inl rfl) rfl rfl ⟨(Nat.le_of_ble_eq_true rfl), (Nat.le_of_ble_eq_true rfl)⟩ rfl ((c_36 o n) _ (by omega) _ _ _ _ _ _ h5 _ rfl rfl rfl) (fun z1 z2 zq => ?_)
    obtain ⟨rfl, rfl⟩ := zq
    try dsimp only [Option.toList, HAppend.hAppend, Append.append, List.append]
    have hz := y_bind h
    clear h
    obtain ⟨s9, h10, h⟩ := hz
    refine Zpr (q_pr_y h10) rfl rfl rfl rfl ?_
    refine Van rfl lk0 rfl rfl ?_
    refine Vsp (v := Int32.ofInt 500) rfl (by decide) rfl ?_
    have hz := y_bind h
    clear h
    obtain ⟨s11, h12, h⟩ := hz
    refine Zna (q_na_y h12) rfl rfl rfl ?_
    have hz := y_bind h
    clear h
    obtain ⟨s13, h14, h⟩ := hz
    refine Zpr (q_pr_y h14) rfl rfl rfl rfl ?_
    refine Van rfl lk0 rfl rfl ?_
    refine Vsp (v := Int32.ofInt 500) rfl (by decide) rfl ?_
    have hz := y_bind h
    clear h
    obtain ⟨s15, h16, h⟩ := hz
    refine Zna (q_na_y h16) rfl rfl rfl ?_
    have hz := y_bind h
    clear h
    obtain ⟨s17, h18, h⟩ := hz
    refine Zpr (q_pr_y h18) rfl rfl rfl rfl ?_
    refine Van rfl lk0 rfl rfl ?_
    refine Vsp (v := Int32.ofInt 500) rfl (by decide) rfl ?_
    have hz := y_bind h
    clear h
    obtain ⟨s19, h20, h⟩ := hz
    refine Zna (q_na_y h20) rfl rfl rfl ?_
    have hz := y_bind h
    clear h
    obtain ⟨s21, h22, h⟩ := hz
    refine Zpr (q_pr_y h22) rfl rfl rfl rfl ?_
    refine Van rfl lk0 rfl rfl ?_
    refine Van rfl lk1 rv1 rfl ?_
    have hz := y_bind h
    clear h
    obtain ⟨s23, h24, h⟩ := hz
    refine Zpr (q_pr_y h24) rfl rfl rfl rfl ?_
    cases h
    exact Yret rfl rfl rfl rfl rfl rfl rfl ⟨rfl, rfl⟩

/-- StepRows$Frames.<init> -/
def g_47 (o : X_O) : Nat → Nat → Q_S → Nat → Int → Option (Q_S × Unit)
  | 0, _, _, _, _ => none
  | n + 1, 0, s, r0, i1 => (q_na s .int i1).bind fun s1 => (q_pr s1 5 (.ref r0) 0 (.ref s.1)).bind fun s3 => (q_na s3 .int i1).bind fun s5 => (q_pr s5 5 (.ref r0) 1 (.ref s3.1)).bind fun s7 => (q_na s7 .int i1).bind fun s9 => (q_pr s9 5 (.ref r0) 2 (.ref s7.1)).bind fun s11 => (q_na s11 .int i1).bind fun s13 => (q_pr s13 5 (.ref r0) 3 (.ref s11.1)).bind fun s15 => (q_na s15 .int i1).bind fun s17 => (q_pr s17 5 (.ref r0) 4 (.ref s15.1)).bind fun s19 => (q_na s19 .int i1).bind fun s21 => (q_pr s21 5 (.ref r0) 5 (.ref s19.1)).bind fun s23 => (q_na s23 .int i1).bind fun s25 => (q_pr s25 5 (.ref r0) 6 (.ref s23.1)).bind fun s27 => (q_na s27 .long i1).bind fun s29 => (q_pr s29 5 (.ref r0) 7 (.ref s27.1)).bind fun s31 => (q_na s31 .long i1).bind fun s33 => (q_pr s33 5 (.ref r0) 8 (.ref s31.1)).bind fun s35 => (q_na s35 .long i1).bind fun s37 => (q_pr s37 5 (.ref r0) 9 (.ref s35.1)).bind fun s39 => (q_pi s39 5 (.ref r0) 10 (-1)).bind fun s41 => (q_pi s41 5 (.ref r0) 11 (-1)).bind fun s43 => some (s43, ())
  | _ + 1, _, _, _, _ => none
set_option maxRecDepth 100000 in
set_option maxHeartbeats 4000000 in
theorem c_47 (o : X_O) : ∀ n, (∀ (d : Nat) (hd : 1 ≤ d) (s : Q_S) (r0 : Nat) (i1 : Int) (s9 : Q_S) (r : Unit), g_47 o n 0 s r0 i1 = some (s9, r) → ∀ lv : X_L, x_lget lv 0 = some (.ref r0) → x_lget lv 1 = some (.int (Int32.ofInt i1)) → Y o d 47 0 lv [] (q_y s) (fun s1 r1 => s1 = q_y s9 ∧ r1 = none)) := by
  intro n
  induction n with
  | zero => exact fun d hd s _ _ s9 r h => (by simp only [g_47] at h; cases h)
  | succ n ih =>
    intro d hd s r0 i1 s9 r h lv lk0 lk1
    obtain ⟨d, rfl⟩ : ∃ x, d = x + 1 := ⟨d - 1, by omega⟩
    simp only [g_47] at h
    refine Van rfl lk0 rfl rfl ?_
    refine Y6 rfl rfl (Nat.le_of_ble_eq_true rfl) rfl ?_
    refine Van rfl lk0 rfl rfl ?_
    refine Vin rfl lk1 rfl ?_
    have hz := y_bind h
    clear h
    obtain ⟨s1, h2, h⟩ := hz
    refine Zna (q_na_y h2) rfl rfl rfl ?_
    have hz := y_bind h
    clear h
    obtain ⟨s3, h4, h⟩ := hz
    refine Zpr (q_pr_y h4) rfl rfl rfl rfl ?_
    refine Van rfl lk0 rfl rfl ?_
    refine Vin rfl lk1 rfl ?_
    have hz := y_bind h
    clear h
    obtain ⟨s5, h6, h⟩ := hz
    refine Zna (q_na_y h6) rfl rfl rfl ?_
    have hz := y_bind h
    clear h
    obtain ⟨s7, h8, h⟩ := hz
    refine Zpr (q_pr_y h8) rfl rfl rfl rfl ?_
    refine Van rfl lk0 rfl rfl ?_
    refine Vin rfl lk1 rfl ?_
    have hz := y_bind h
    clear h
    obtain ⟨s9, h10, h⟩ := hz
    refine Zna (q_na_y h10) rfl rfl rfl ?_
    have hz := y_bind h
    clear h
    obtain ⟨s11, h12, h⟩ := hz
    refine Zpr (q_pr_y h12) rfl rfl rfl rfl ?_
    refine Van rfl lk0 rfl rfl ?_
    refine Vin rfl lk1 rfl ?_
    have hz := y_bind h
    clear h
    obtain ⟨s13, h14, h⟩ := hz
    refine Zna (q_na_y h14) rfl rfl rfl ?_
    have hz := y_bind h
    clear h
    obtain ⟨s15, h16, h⟩ := hz
    refine Zpr (q_pr_y h16) rfl rfl rfl rfl ?_
    refine Van rfl lk0 rfl rfl ?_
    refine Vin rfl lk1 rfl ?_
    have hz := y_bind h
    clear h
    obtain ⟨s17, h18, h⟩ := hz
    refine Zna (q_na_y h18) rfl rfl rfl ?_
    have hz := y_bind h
    clear h
    obtain ⟨s19, h20, h⟩ := hz
    refine Zpr (q_pr_y h20) rfl rfl rfl rfl ?_
    refine Van rfl lk0 rfl rfl ?_
    refine Vin rfl lk1 rfl ?_
    have hz := y_bind h
    clear h
    obtain ⟨s21, h22, h⟩ := hz
    refine Zna (q_na_y h22) rfl rfl rfl ?_
    have hz := y_bind h
    clear h
    obtain ⟨s23, h24, h⟩ := hz
    refine Zpr (q_pr_y h24) rfl rfl rfl rfl ?_
    refine Van rfl lk0 rfl rfl ?_
    refine Vin rfl lk1 rfl ?_
    have hz := y_bind h
    clear h
    obtain ⟨s25, h26, h⟩ := hz
    refine Zna (q_na_y h26) rfl rfl rfl ?_
    have hz := y_bind h
    clear h
    obtain ⟨s27, h28, h⟩ := hz
    refine Zpr (q_pr_y h28) rfl rfl rfl rfl ?_
    refine Van rfl lk0 rfl rfl ?_
    refine Vin rfl lk1 rfl ?_
    have hz := y_bind h
    clear h
    obtain ⟨s29, h30, h⟩ := hz
    refine Zna (q_na_y h30) rfl rfl rfl ?_
    have hz := y_bind h
    clear h
    obtain ⟨s31, h32, h⟩ := hz
    refine Zpr (q_pr_y h32) rfl rfl rfl rfl ?_
    refine Van rfl lk0 rfl rfl ?_
    refine Vin rfl lk1 rfl ?_
    have hz := y_bind h
    clear h
    obtain ⟨s33, h34, h⟩ := hz
    refine Zna (q_na_y h34) rfl rfl rfl ?_
    have hz := y_bind h
    clear h
    obtain ⟨s35, h36, h⟩ := hz
    refine Zpr (q_pr_y h36) rfl rfl rfl rfl ?_
    refine Van rfl lk0 rfl rfl ?_
    refine Vin rfl lk1 rfl ?_
    have hz := y_bind h
    clear h
    obtain ⟨s37, h38, h⟩ := hz
    refine Zna (q_na_y h38) rfl rfl rfl ?_
    have hz := y_bind h
    clear h
    obtain ⟨s39, h40, h⟩ := hz
    refine Zpr (q_pr_y h40) rfl rfl rfl rfl ?_
    refine Van rfl lk0 rfl rfl ?_
    refine Vic (v := Int32.ofInt (-1)) rfl rfl rfl ?_
    have hz := y_bind h
    clear h
    obtain ⟨s41, h42, h⟩ := hz
    refine Zpi (q_pi_y h42) rfl rfl rfl rfl ?_
    refine Van rfl lk0 rfl rfl ?_
    refine Vic (v := Int32.ofInt (-1)) rfl rfl rfl ?_
    have hz := y_bind h
    clear h
    obtain ⟨s43, h44, h⟩ := hz
    refine Zpi (q_pi_y h44) rfl rfl rfl rfl ?_
    cases h
    exact Yret rfl rfl rfl rfl rfl rfl rfl ⟨rfl, rfl⟩

/-- StepRows$Run.<init> -/
def g_41 (o : X_O) : Nat → Nat → Q_S → Nat → Int → Option (Q_S × Unit)
  | 0, _, _, _, _ => none
  | n + 1, 0, s, r0, i1 => (q_pi s 4 (.ref r0) 0 3).bind fun s1 => (q_na s1 .long 16).bind fun s3 => (q_pr s3 4 (.ref r0) 8 (.ref s1.1)).bind fun s5 => (q_na s5 .long 8).bind fun s7 => (q_pr s7 4 (.ref r0) 9 (.ref s5.1)).bind fun s9 => (q_na s9 .int 8).bind fun s11 => (q_pr s11 4 (.ref r0) 10 (.ref s9.1)).bind fun s13 => (q_no s13 5).bind fun s15 => (g_47 o n 0 s15 (s13.1) (i1)).bind fun q20 => (q_pr q20.1 4 (.ref r0) 11 (.ref s13.1)).bind fun s23 => some (s23, ())
  | _ + 1, _, _, _, _ => none
set_option maxRecDepth 100000 in
set_option maxHeartbeats 4000000 in
theorem c_41 (o : X_O) : ∀ n, (∀ (d : Nat) (hd : 2 ≤ d) (s : Q_S) (r0 : Nat) (i1 : Int) (s9 : Q_S) (r : Unit), g_41 o n 0 s r0 i1 = some (s9, r) → ∀ lv : X_L, x_lget lv 0 = some (.ref r0) → x_lget lv 1 = some (.int (Int32.ofInt i1)) → Y o d 41 0 lv [] (q_y s) (fun s1 r1 => s1 = q_y s9 ∧ r1 = none)) := by
  intro n
  induction n with
  | zero => exact fun d hd s _ _ s9 r h => (by simp only [g_41] at h; cases h)
  | succ n ih =>
    intro d hd s r0 i1 s9 r h lv lk0 lk1
    obtain ⟨d, rfl⟩ : ∃ x, d = x + 1 := ⟨d - 1, by omega⟩
    simp only [g_41] at h
    refine Van rfl lk0 rfl rfl ?_
    refine Y6 rfl rfl (Nat.le_of_ble_eq_true rfl) rfl ?_
    refine Van rfl lk0 rfl rfl ?_
    refine Vic (v := Int32.ofInt 3) rfl rfl rfl ?_
    have hz := y_bind h
    clear h
    obtain ⟨s1, h2, h⟩ := hz
    refine Zpi (q_pi_y h2) rfl rfl rfl rfl ?_
    refine Van rfl lk0 rfl rfl ?_
    refine Vbp (v := Int32.ofInt 16) rfl (by decide) rfl ?_
    have hz := y_bind h
    clear h
    obtain ⟨s3, h4, h⟩ := hz
    refine Zna (q_na_y h4) rfl rfl rfl ?_
    have hz := y_bind h
    clear h
    obtain ⟨s5, h6, h⟩ := hz
    refine Zpr (q_pr_y h6) rfl rfl rfl rfl ?_
    refine Van rfl lk0 rfl rfl ?_
    refine Vbp (v := Int32.ofInt 8) rfl (by decide) rfl ?_
    have hz := y_bind h
    clear h
    obtain ⟨s7, h8, h⟩ := hz
    refine Zna (q_na_y h8) rfl rfl rfl ?_
    have hz := y_bind h
    clear h
    obtain ⟨s9, h10, h⟩ := hz
    refine Zpr (q_pr_y h10) rfl rfl rfl rfl ?_
    refine Van rfl lk0 rfl rfl ?_
    refine Vbp (v := Int32.ofInt 8) rfl (by decide) rfl ?_
    have hz := y_bind h
    clear h
    obtain ⟨s11, h12, h⟩ := hz
    refine Zna (q_na_y h12) rfl rfl rfl ?_
    have hz := y_bind h
    clear h
    obtain ⟨s13, h14, h⟩ := hz
    refine Zpr (q_pr_y h14) rfl rfl rfl rfl ?_
    refine Van rfl lk0 rfl rfl ?_
    have hz := y_bind h
    clear h
    obtain ⟨s15, h16, h⟩ := hz
    refine Zno (q_no_y h16) rfl rfl (by decide +kernel) rfl ?_
    refine Vdup rfl rfl rfl ?_
    refine Vin rfl lk1 rfl ?_
    have hz := y_bind h
    clear h
    obtain ⟨⟨s17, r18⟩, h19, h⟩ := hz
    try dsimp only at h
    refine Vci rfl rfl (Or.inl rfl) rfl rfl ⟨(Nat.le_of_ble_eq_true rfl), (Nat.le_of_ble_eq_true rfl)⟩ rfl ((c_47 o n) _ (by omega) _ _ _ _ _ h19 _ rfl rfl) (fun z1 z2 zq => ?_)
    obtain ⟨rfl, rfl⟩ := zq
    try dsimp only [Option.toList, HAppend.hAppend, Append.append, List.append]
    have hz := y_bind h
    clear h
    obtain ⟨s23, h24, h⟩ := hz
    refine Zpr (q_pr_y h24) rfl rfl rfl rfl ?_
    cases h
    exact Yret rfl rfl rfl rfl rfl rfl rfl ⟨rfl, rfl⟩

/-- StepRows$Walker.<init> -/
def g_60 (o : X_O) : Nat → Nat → Q_S → Nat → Value → Value → Option (Q_S × Unit)
  | 0, _, _, _, _, _ => none
  | n + 1, 0, s, r0, a1, a2 => (q_na s .long 500).bind fun s1 => (q_pr s1 6 (.ref r0) 3 (.ref s.1)).bind fun s3 => (q_pr s3 6 (.ref r0) 0 a1).bind fun s5 => (q_gv s5 4 a1 11).bind fun v7 => (q_pr s5 6 (.ref r0) 1 v7).bind fun s9 => (q_pr s9 6 (.ref r0) 2 a2).bind fun s11 => some (s11, ())
  | _ + 1, _, _, _, _, _ => none
set_option maxRecDepth 100000 in
set_option maxHeartbeats 4000000 in
theorem c_60 (o : X_O) : ∀ n, (∀ (d : Nat) (hd : 1 ≤ d) (s : Q_S) (r0 : Nat) (a1 : Value) (a2 : Value) (s9 : Q_S) (r : Unit), g_60 o n 0 s r0 a1 a2 = some (s9, r) → ∀ lv : X_L, x_lget lv 0 = some (.ref r0) → x_lget lv 1 = some a1 → x_lget lv 2 = some a2 → y_rv a1 = true → y_rv a2 = true → Y o d 60 0 lv [] (q_y s) (fun s1 r1 => s1 = q_y s9 ∧ r1 = none)) := by
  intro n
  induction n with
  | zero => exact fun d hd s _ _ _ s9 r h => (by simp only [g_60] at h; cases h)
  | succ n ih =>
    intro d hd s r0 a1 a2 s9 r h lv lk0 lk1 lk2 rv1 rv2
    obtain ⟨d, rfl⟩ : ∃ x, d = x + 1 := ⟨d - 1, by omega⟩
    simp only [g_60] at h
    refine Van rfl lk0 rfl rfl ?_
    refine Y6 rfl rfl (Nat.le_of_ble_eq_true rfl) rfl ?_
    refine Van rfl lk0 rfl rfl ?_
    refine Vsp (v := Int32.ofInt 500) rfl (by decide) rfl ?_
    have hz := y_bind h
    clear h
    obtain ⟨s1, h2, h⟩ := hz
    refine Zna (q_na_y h2) rfl rfl rfl ?_
    have hz := y_bind h
    clear h
    obtain ⟨s3, h4, h⟩ := hz
    refine Zpr (q_pr_y h4) rfl rfl rfl rfl ?_
    refine Van rfl lk0 rfl rfl ?_
    refine Van rfl lk1 rv1 rfl ?_
    have hz := y_bind h
    clear h
    obtain ⟨s5, h6, h⟩ := hz
    refine Zpr (q_pr_y h6) rfl rfl rfl rfl ?_
    refine Van rfl lk0 rfl rfl ?_
    refine Van rfl lk1 rv1 rfl ?_
    have hz := y_bind h
    clear h
    obtain ⟨v7, h8, h⟩ := hz
    have wv7 := (y_gv_ok h8).2
    refine Vgv h8 rfl rfl rfl ?_
    have hz := y_bind h
    clear h
    obtain ⟨s9, h10, h⟩ := hz
    refine Zpr (q_pr_y h10) rfl rfl rfl rfl ?_
    refine Van rfl lk0 rfl rfl ?_
    refine Van rfl lk2 rv2 rfl ?_
    have hz := y_bind h
    clear h
    obtain ⟨s11, h12, h⟩ := hz
    refine Zpr (q_pr_y h12) rfl rfl rfl rfl ?_
    cases h
    exact Yret rfl rfl rfl rfl rfl rfl rfl ⟨rfl, rfl⟩

/-- StepRows.<init> -/
def g_0 (o : X_O) : Nat → Nat → Q_S → Nat → Option (Q_S × Unit)
  | 0, _, _, _ => none
  | n + 1, 0, s, r0 => (q_no s 1).bind fun s1 => (g_19 o n 0 s1 (s.1)).bind fun q6 => (q_pr q6.1 0 (.ref r0) 0 (.ref s.1)).bind fun s9 => (q_no s9 2).bind fun s11 => (q_gv s11 0 (.ref r0) 0).bind fun v13 => (g_30 o n 0 s11 (s9.1) (v13)).bind fun q18 => (q_pr q18.1 0 (.ref r0) 1 (.ref s9.1)).bind fun s21 => (q_nr s21 "StepRows$Rows" 20).bind fun s23 => (q_pr s23 0 (.ref r0) 2 (.ref s21.1)).bind fun s25 => (q_na s25 .long 16).bind fun s27 => (q_pr s27 0 (.ref r0) 4 (.ref s25.1)).bind fun s29 => (q_no s29 4).bind fun s31 => (g_41 o n 0 s31 (s29.1) (16)).bind fun q36 => (q_pr q36.1 0 (.ref r0) 5 (.ref s29.1)).bind fun s39 => (q_no s39 6).bind fun s41 => (q_gv s41 0 (.ref r0) 5).bind fun v43 => (q_gv s41 0 (.ref r0) 4).bind fun v45 => (g_60 o n 0 s41 (s39.1) (v43) (v45)).bind fun q50 => (q_pr q50.1 0 (.ref r0) 6 (.ref s39.1)).bind fun s53 => (q_nr s53 "StepRows$Run" 8).bind fun s55 => (q_pr s55 0 (.ref r0) 7 (.ref s53.1)).bind fun s57 => some (s57, ())
  | _ + 1, _, _, _ => none
set_option maxRecDepth 100000 in
set_option maxHeartbeats 4000000 in
theorem c_0 (o : X_O) : ∀ n, (∀ (d : Nat) (hd : 3 ≤ d) (s : Q_S) (r0 : Nat) (s9 : Q_S) (r : Unit), g_0 o n 0 s r0 = some (s9, r) → ∀ lv : X_L, x_lget lv 0 = some (.ref r0) → Y o d 0 0 lv [] (q_y s) (fun s1 r1 => s1 = q_y s9 ∧ r1 = none)) := by
  intro n
  induction n with
  | zero => exact fun d hd s _ s9 r h => (by simp only [g_0] at h; cases h)
  | succ n ih =>
    intro d hd s r0 s9 r h lv lk0
    obtain ⟨d, rfl⟩ : ∃ x, d = x + 1 := ⟨d - 1, by omega⟩
    simp only [g_0] at h
    refine Van rfl lk0 rfl rfl ?_
    refine Y6 rfl rfl (Nat.le_of_ble_eq_true rfl) rfl ?_
    refine Van rfl lk0 rfl rfl ?_
    have hz := y_bind h
    clear h
    obtain ⟨s1, h2, h⟩ := hz
    refine Zno (q_no_y h2) rfl rfl (by decide +kernel) rfl ?_
    refine Vdup rfl rfl rfl ?_
    have hz := y_bind h
    clear h
    obtain ⟨⟨s3, r4⟩, h5, h⟩ := hz
    try dsimp only at h
    refine Vci rfl rfl (Or.inr rfl) rfl rfl ⟨(Nat.le_of_ble_eq_true rfl), (Nat.le_of_ble_eq_true rfl)⟩ rfl ((c_19 o n) _ (by omega) _ _ _ _ h5 _ rfl) (fun z1 z2 zq => ?_)
    obtain ⟨rfl, rfl⟩ := zq
    try dsimp only [Option.toList, HAppend.hAppend, Append.append, List.append]
    have hz := y_bind h
    clear h
    obtain ⟨s9, h10, h⟩ := hz
    refine Zpr (q_pr_y h10) rfl rfl rfl rfl ?_
    refine Van rfl lk0 rfl rfl ?_
    have hz := y_bind h
    clear h
    obtain ⟨s11, h12, h⟩ := hz
    refine Zno (q_no_y h12) rfl rfl (by decide +kernel) rfl ?_
    refine Vdup rfl rfl rfl ?_
    refine Van rfl lk0 rfl rfl ?_
    have hz := y_bind h
    clear h
    obtain ⟨v13, h14, h⟩ := hz
    have wv13 := (y_gv_ok h14).2
    refine Vgv h14 rfl rfl rfl ?_
    have hz := y_bind h
    clear h
    obtain ⟨⟨s15, r16⟩, h17, h⟩ := hz
    try dsimp only at h
    refine Vci rfl rfl (Or.inl rfl) rfl rfl ⟨(Nat.le_of_ble_eq_true rfl), (by simp only [List.take, List.reverse_cons, List.reverse_nil, List.nil_append, List.cons_append, List.map_cons, List.map_nil, y_cati, y_catl, y_catr, y_catn, y_cata, y_rv_cat wv13, List.sum_cons, List.sum_nil]; decide +kernel)⟩ rfl ((c_30 o n) _ (by omega) _ _ _ _ _ h17 _ (by simp [lv_args, x_lget, q_y1, y_cati, y_catl, y_catr, y_rv_cat wv13]) (by simp [lv_args, x_lget, q_y1, y_cati, y_catl, y_catr, y_rv_cat wv13]) wv13) (fun z1 z2 zq => ?_)
    obtain ⟨rfl, rfl⟩ := zq
    try dsimp only [Option.toList, HAppend.hAppend, Append.append, List.append]
    have hz := y_bind h
    clear h
    obtain ⟨s21, h22, h⟩ := hz
    refine Zpr (q_pr_y h22) rfl rfl rfl rfl ?_
    refine Van rfl lk0 rfl rfl ?_
    refine Vbp (v := Int32.ofInt 20) rfl (by decide) rfl ?_
    have hz := y_bind h
    clear h
    obtain ⟨s23, h24, h⟩ := hz
    refine Znr (q_nr_y h24) rfl rfl rfl (by decide) rfl ?_
    have hz := y_bind h
    clear h
    obtain ⟨s25, h26, h⟩ := hz
    refine Zpr (q_pr_y h26) rfl rfl rfl rfl ?_
    refine Van rfl lk0 rfl rfl ?_
    refine Vbp (v := Int32.ofInt 16) rfl (by decide) rfl ?_
    have hz := y_bind h
    clear h
    obtain ⟨s27, h28, h⟩ := hz
    refine Zna (q_na_y h28) rfl rfl rfl ?_
    have hz := y_bind h
    clear h
    obtain ⟨s29, h30, h⟩ := hz
    refine Zpr (q_pr_y h30) rfl rfl rfl rfl ?_
    refine Van rfl lk0 rfl rfl ?_
    have hz := y_bind h
    clear h
    obtain ⟨s31, h32, h⟩ := hz
    refine Zno (q_no_y h32) rfl rfl (by decide +kernel) rfl ?_
    refine Vdup rfl rfl rfl ?_
    refine Vbp (v := Int32.ofInt 16) rfl (by decide) rfl ?_
    have hz := y_bind h
    clear h
    obtain ⟨⟨s33, r34⟩, h35, h⟩ := hz
    try dsimp only at h
    refine Vci rfl rfl (Or.inl rfl) rfl rfl ⟨(Nat.le_of_ble_eq_true rfl), (Nat.le_of_ble_eq_true rfl)⟩ rfl ((c_41 o n) _ (by omega) _ _ _ _ _ h35 _ rfl rfl) (fun z1 z2 zq => ?_)
    obtain ⟨rfl, rfl⟩ := zq
    try dsimp only [Option.toList, HAppend.hAppend, Append.append, List.append]
    have hz := y_bind h
    clear h
    obtain ⟨s39, h40, h⟩ := hz
    refine Zpr (q_pr_y h40) rfl rfl rfl rfl ?_
    refine Van rfl lk0 rfl rfl ?_
    have hz := y_bind h
    clear h
    obtain ⟨s41, h42, h⟩ := hz
    refine Zno (q_no_y h42) rfl rfl (by decide +kernel) rfl ?_
    refine Vdup rfl rfl rfl ?_
    refine Van rfl lk0 rfl rfl ?_
    have hz := y_bind h
    clear h
    obtain ⟨v43, h44, h⟩ := hz
    have wv43 := (y_gv_ok h44).2
    refine Vgv h44 rfl rfl rfl ?_
    refine Van rfl lk0 rfl rfl ?_
    have hz := y_bind h
    clear h
    obtain ⟨v45, h46, h⟩ := hz
    have wv45 := (y_gv_ok h46).2
    refine Vgv h46 rfl rfl rfl ?_
    have hz := y_bind h
    clear h
    obtain ⟨⟨s47, r48⟩, h49, h⟩ := hz
    try dsimp only at h
    refine Vci rfl rfl (Or.inl rfl) rfl rfl ⟨(Nat.le_of_ble_eq_true rfl), (by simp only [List.take, List.reverse_cons, List.reverse_nil, List.nil_append, List.cons_append, List.map_cons, List.map_nil, y_cati, y_catl, y_catr, y_catn, y_cata, y_rv_cat wv43, y_rv_cat wv45, List.sum_cons, List.sum_nil]; decide +kernel)⟩ rfl ((c_60 o n) _ (by omega) _ _ _ _ _ _ h49 _ (by simp [lv_args, x_lget, q_y1, y_cati, y_catl, y_catr, y_rv_cat wv43, y_rv_cat wv45]) (by simp [lv_args, x_lget, q_y1, y_cati, y_catl, y_catr, y_rv_cat wv43, y_rv_cat wv45]) (by simp [lv_args, x_lget, q_y1, y_cati, y_catl, y_catr, y_rv_cat wv43, y_rv_cat wv45]) wv43 wv45) (fun z1 z2 zq => ?_)
    obtain ⟨rfl, rfl⟩ := zq
    try dsimp only [Option.toList, HAppend.hAppend, Append.append, List.append]
    have hz := y_bind h
    clear h
    obtain ⟨s53, h54, h⟩ := hz
    refine Zpr (q_pr_y h54) rfl rfl rfl rfl ?_
    refine Van rfl lk0 rfl rfl ?_
    refine Vbp (v := Int32.ofInt 8) rfl (by decide) rfl ?_
    have hz := y_bind h
    clear h
    obtain ⟨s55, h56, h⟩ := hz
    refine Znr (q_nr_y h56) rfl rfl rfl (by decide) rfl ?_
    have hz := y_bind h
    clear h
    obtain ⟨s57, h58, h⟩ := hz
    refine Zpr (q_pr_y h58) rfl rfl rfl rfl ?_
    cases h
    exact Yret rfl rfl rfl rfl rfl rfl rfl ⟨rfl, rfl⟩

/-- StepRows$Nodes.addLeaf -/
def g_20 (o : X_O) : Nat → Nat → Q_S → Nat → Int → Int64 → Int → Int64 → Int → Option (Q_S × Int)
  | 0, _, _, _, _, _, _, _, _ => none
  | n + 1, 0, s, r0, i1, l2, i4, tl0, ti1 => (q_g (q_in i1)).bind fun _ => if i1 < 0 then g_20 o n 1 s 0 0 0 0 0 0 else (q_g (q_in i1)).bind fun _ => if i1 ≤ 2 then (q_g (q_in (30 + i1))).bind fun _ => if (30 + i1) = 30 then g_20 o n 4 s r0 0 (l2) ((30 + i1)) 0 0 else if l2 < 0 then g_20 o n 3 s 0 0 0 0 0 0 else (q_g (q_in (30 + i1))).bind fun _ => if ¬ (30 + i1) = 31 then g_20 o n 2 s r0 0 (l2) ((30 + i1)) (l2) (16) else g_20 o n 2 s r0 0 (l2) ((30 + i1)) (l2) (16) else g_20 o n 1 s 0 0 0 0 0 0
  | n + 1, 1, s, r0, i1, l2, i4, tl0, ti1 => some (s, (-1))
  | n + 1, 2, s, r0, i1, l2, i4, tl0, ti1 => (q_g (q_in ti1)).bind fun _ => if tl0 < (Int64.ofInt ti1) then g_20 o n 4 s r0 0 (l2) (i4) 0 0 else g_20 o n 3 s 0 0 0 0 0 0
  | n + 1, 3, s, r0, i1, l2, i4, tl0, ti1 => some (s, (-1))
  | n + 1, 4, s, r0, i1, l2, i4, tl0, ti1 => (q_gi s 1 (.ref r0) 4).bind fun v1 => (q_g (q_in v1)).bind fun _ => if v1 < 300 then (q_gv s 1 (.ref r0) 0).bind fun v6 => (q_gi s 1 (.ref r0) 4).bind fun v8 => (q_is s v6 v8 i4).bind fun s10 => (q_gv s10 1 (.ref r0) 2).bind fun v12 => (q_gi s10 1 (.ref r0) 4).bind fun v14 => (q_ls s10 v12 v14 l2).bind fun s16 => (q_gv s16 1 (.ref r0) 3).bind fun v18 => (q_gi s16 1 (.ref r0) 4).bind fun v20 => (q_is s16 v18 v20 1).bind fun s22 => (q_gi s22 1 (.ref r0) 4).bind fun v24 => (q_pi s22 1 (.ref r0) 4 (v24 + 1)).bind fun s26 => (q_gi s26 1 (.ref r0) 4).bind fun v28 => some (s26, (v28 - 1)) else some (s, (-2))
  | _ + 1, _, _, _, _, _, _, _, _ => none
set_option maxRecDepth 100000 in
set_option maxHeartbeats 4000000 in
theorem c_20 (o : X_O) : ∀ n, (∀ (d : Nat) (hd : 0 ≤ d) (s : Q_S) (r0 : Nat) (i1 : Int) (l2 : Int64) (i4 : Int) (tl0 : Int64) (ti1 : Int) (s9 : Q_S) (r : Int), g_20 o n 0 s r0 i1 l2 i4 tl0 ti1 = some (s9, r) → ∀ lv : X_L, x_lget lv 0 = some (.ref r0) → x_lget lv 1 = some (.int (Int32.ofInt i1)) → x_lget lv 2 = some (.long l2) → Y o d 20 0 lv [] (q_y s) (fun s1 r1 => s1 = q_y s9 ∧ r1 = some (.int (Int32.ofInt r)))) ∧
    (∀ (d : Nat) (hd : 0 ≤ d) (s : Q_S) (r0 : Nat) (i1 : Int) (l2 : Int64) (i4 : Int) (tl0 : Int64) (ti1 : Int) (s9 : Q_S) (r : Int), g_20 o n 1 s r0 i1 l2 i4 tl0 ti1 = some (s9, r) → ∀ lv : X_L, True → Y o d 20 9 lv [] (q_y s) (fun s1 r1 => s1 = q_y s9 ∧ r1 = some (.int (Int32.ofInt r)))) ∧
    (∀ (d : Nat) (hd : 0 ≤ d) (s : Q_S) (r0 : Nat) (i1 : Int) (l2 : Int64) (i4 : Int) (tl0 : Int64) (ti1 : Int) (s9 : Q_S) (r : Int), g_20 o n 2 s r0 i1 l2 i4 tl0 ti1 = some (s9, r) → ∀ lv : X_L, x_lget lv 0 = some (.ref r0) → x_lget lv 2 = some (.long l2) → x_lget lv 4 = some (.int (Int32.ofInt i4)) → Y o d 20 45 lv [.int (Int32.ofInt ti1), .long tl0] (q_y s) (fun s1 r1 => s1 = q_y s9 ∧ r1 = some (.int (Int32.ofInt r)))) ∧
    (∀ (d : Nat) (hd : 0 ≤ d) (s : Q_S) (r0 : Nat) (i1 : Int) (l2 : Int64) (i4 : Int) (tl0 : Int64) (ti1 : Int) (s9 : Q_S) (r : Int), g_20 o n 3 s r0 i1 l2 i4 tl0 ti1 = some (s9, r) → ∀ lv : X_L, True → Y o d 20 50 lv [] (q_y s) (fun s1 r1 => s1 = q_y s9 ∧ r1 = some (.int (Int32.ofInt r)))) ∧
    (∀ (d : Nat) (hd : 0 ≤ d) (s : Q_S) (r0 : Nat) (i1 : Int) (l2 : Int64) (i4 : Int) (tl0 : Int64) (ti1 : Int) (s9 : Q_S) (r : Int), g_20 o n 4 s r0 i1 l2 i4 tl0 ti1 = some (s9, r) → ∀ lv : X_L, x_lget lv 0 = some (.ref r0) → x_lget lv 2 = some (.long l2) → x_lget lv 4 = some (.int (Int32.ofInt i4)) → Y o d 20 52 lv [] (q_y s) (fun s1 r1 => s1 = q_y s9 ∧ r1 = some (.int (Int32.ofInt r)))) := by
  intro n
  induction n with
  | zero => exact ⟨fun d hd s _ _ _ _ _ _ s9 r h => (by simp only [g_20] at h; cases h), fun d hd s _ _ _ _ _ _ s9 r h => (by simp only [g_20] at h; cases h), fun d hd s _ _ _ _ _ _ s9 r h => (by simp only [g_20] at h; cases h), fun d hd s _ _ _ _ _ _ s9 r h => (by simp only [g_20] at h; cases h), fun d hd s _ _ _ _ _ _ s9 r h => (by simp only [g_20] at h; cases h)⟩
  | succ n ih =>
    refine ⟨?_, ?_, ?_, ?_, ?_⟩
    · intro d hd s r0 i1 l2 i4 tl0 ti1 s9 r h lv lk0 lk1 lk2
      simp only [g_20] at h
      refine Vin rfl lk1 rfl ?_
      have hz := y_bind h
      clear h
      obtain ⟨_, h2, h⟩ := hz
      have c1 := q_g_ok h2
      refine Uif (q_lt0 c1) rfl rfl rfl rfl rfl rfl rfl (fun c3 => ?_) (fun c3 => ?_)
      · rw [if_pos c3] at h
        exact ih.2.1 _ hd _ _ _ _ _ _ _ _ _ h lv trivial
      · rw [if_neg c3] at h
        refine Vin rfl lk1 rfl ?_
        refine Vic (v := Int32.ofInt 2) rfl rfl rfl ?_
        have hz := y_bind h
        clear h
        obtain ⟨_, h5, h⟩ := hz
        have c4 := q_g_ok h5
        refine Uif (q_le c4 (by decide)) rfl rfl rfl rfl rfl rfl rfl (fun c6 => ?_) (fun c6 => ?_)
        · rw [if_pos c6] at h
          refine Vbp (v := Int32.ofInt 30) rfl (by decide) rfl ?_
          refine Vin rfl lk1 rfl ?_
          refine Uadd rfl rfl ?_
          refine Vsi rfl rfl (fun lv lk4 hk => ?_)
          have lk0 := hk 0 _ lk0 (by decide) (by decide) (Or.inl (by decide))
          have lk2 := hk 2 _ lk2 (by decide) (by decide) (Or.inl (by decide))
          refine Vi rfl lk4 rfl ?_
          refine Vbp (v := Int32.ofInt 30) rfl (by decide) rfl ?_
          have hz := y_bind h
          clear h
          obtain ⟨_, h8, h⟩ := hz
          have c7 := q_g_ok h8
          refine Uif (q_eq c7 (by decide)) rfl rfl rfl rfl rfl rfl rfl (fun c9 => ?_) (fun c9 => ?_)
          · rw [if_pos c9] at h
            exact ih.2.2.2.2 _ hd _ _ _ _ _ _ _ _ _ h lv lk0 lk2 lk4
          · rw [if_neg c9] at h
            refine Vln rfl lk2 rfl ?_
            refine Vlc (v := 0) rfl (by decide) rfl ?_
            refine Ya rfl rfl rfl ?_
            refine Uif (lg_cmp_lt _ _) rfl rfl rfl rfl rfl rfl rfl (fun c10 => ?_) (fun c10 => ?_)
            · rw [if_pos c10] at h
              exact ih.2.2.2.1 _ hd _ _ _ _ _ _ _ _ _ h lv trivial
            · rw [if_neg c10] at h
              refine Vln rfl lk2 rfl ?_
              refine Vi rfl lk4 rfl ?_
              refine Vbp (v := Int32.ofInt 31) rfl (by decide) rfl ?_
              have hz := y_bind h
              clear h
              obtain ⟨_, h12, h⟩ := hz
              have c11 := q_g_ok h12
              refine Uif (not_congr (q_eq c11 (by decide))) rfl rfl rfl rfl rfl rfl rfl (fun c13 => ?_) (fun c13 => ?_)
              · rw [if_pos c13] at h
                refine Vbp (v := Int32.ofInt 16) rfl (by decide) rfl ?_
                exact ih.2.2.1 _ hd _ _ _ _ _ _ _ _ _ h lv lk0 lk2 lk4
              · rw [if_neg c13] at h
                refine Vbp (v := Int32.ofInt 16) rfl (by decide) rfl ?_
                refine Ygo rfl rfl rfl rfl rfl rfl ?_
                exact ih.2.2.1 _ hd _ _ _ _ _ _ _ _ _ h lv lk0 lk2 lk4
        · rw [if_neg c6] at h
          exact ih.2.1 _ hd _ _ _ _ _ _ _ _ _ h lv trivial
    · intro d hd s r0 i1 l2 i4 tl0 ti1 s9 r h lv _
      simp only [g_20] at h
      refine Vic (v := Int32.ofInt (-1)) rfl rfl rfl ?_
      cases h
      exact Yret rfl rfl rfl rfl rfl rfl rfl ⟨rfl, rfl⟩
    · intro d hd s r0 i1 l2 i4 tl0 ti1 s9 r h lv lk0 lk2 lk4
      simp only [g_20] at h
      have hz := y_bind h
      clear h
      obtain ⟨_, h2, h⟩ := hz
      have c1 := q_g_ok h2
      refine Ui2l c1 rfl rfl ?_
      refine Ya rfl rfl rfl ?_
      refine Uif (lg_cmp_lt _ _) rfl rfl rfl rfl rfl rfl rfl (fun c3 => ?_) (fun c3 => ?_)
      · rw [if_pos c3] at h
        exact ih.2.2.2.2 _ hd _ _ _ _ _ _ _ _ _ h lv lk0 lk2 lk4
      · rw [if_neg c3] at h
        exact ih.2.2.2.1 _ hd _ _ _ _ _ _ _ _ _ h lv trivial
    · intro d hd s r0 i1 l2 i4 tl0 ti1 s9 r h lv _
      simp only [g_20] at h
      refine Vic (v := Int32.ofInt (-1)) rfl rfl rfl ?_
      cases h
      exact Yret rfl rfl rfl rfl rfl rfl rfl ⟨rfl, rfl⟩
    · intro d hd s r0 i1 l2 i4 tl0 ti1 s9 r h lv lk0 lk2 lk4
      simp only [g_20] at h
      refine Van rfl lk0 rfl rfl ?_
      have hz := y_bind h
      clear h
      obtain ⟨v1, h2, h⟩ := hz
      refine Zgi (q_gi_y h2) rfl rfl rfl ?_
      refine Vsp (v := Int32.ofInt 300) rfl (by decide) rfl ?_
      have hz := y_bind h
      clear h
      obtain ⟨_, h4, h⟩ := hz
      have c3 := q_g_ok h4
      refine Uif (q_lt c3 (by decide)) rfl rfl rfl rfl rfl rfl rfl (fun c5 => ?_) (fun c5 => ?_)
      · rw [if_pos c5] at h
        refine Van rfl lk0 rfl rfl ?_
        have hz := y_bind h
        clear h
        obtain ⟨v6, h7, h⟩ := hz
        have wv6 := (y_gv_ok h7).2
        refine Vgv h7 rfl rfl rfl ?_
        refine Van rfl lk0 rfl rfl ?_
        have hz := y_bind h
        clear h
        obtain ⟨v8, h9, h⟩ := hz
        refine Zgi (q_gi_y h9) rfl rfl rfl ?_
        refine Vi rfl lk4 rfl ?_
        have hz := y_bind h
        clear h
        obtain ⟨s10, h11, h⟩ := hz
        refine Zis (q_is_y h11) rfl rfl ?_
        refine Van rfl lk0 rfl rfl ?_
        have hz := y_bind h
        clear h
        obtain ⟨v12, h13, h⟩ := hz
        have wv12 := (y_gv_ok h13).2
        refine Vgv h13 rfl rfl rfl ?_
        refine Van rfl lk0 rfl rfl ?_
        have hz := y_bind h
        clear h
        obtain ⟨v14, h15, h⟩ := hz
        refine Zgi (q_gi_y h15) rfl rfl rfl ?_
        refine Vln rfl lk2 rfl ?_
        have hz := y_bind h
        clear h
        obtain ⟨s16, h17, h⟩ := hz
        refine Zls (q_ls_y h17) rfl rfl ?_
        refine Van rfl lk0 rfl rfl ?_
        have hz := y_bind h
        clear h
        obtain ⟨v18, h19, h⟩ := hz
        have wv18 := (y_gv_ok h19).2
        refine Vgv h19 rfl rfl rfl ?_
        refine Van rfl lk0 rfl rfl ?_
        have hz := y_bind h
        clear h
        obtain ⟨v20, h21, h⟩ := hz
        refine Zgi (q_gi_y h21) rfl rfl rfl ?_
        refine Vic (v := Int32.ofInt 1) rfl rfl rfl ?_
        have hz := y_bind h
        clear h
        obtain ⟨s22, h23, h⟩ := hz
        refine Zis (q_is_y h23) rfl rfl ?_
        refine Van rfl lk0 rfl rfl ?_
        refine Vdup rfl rfl rfl ?_
        have hz := y_bind h
        clear h
        obtain ⟨v24, h25, h⟩ := hz
        refine Zgi (q_gi_y h25) rfl rfl rfl ?_
        refine Vic (v := Int32.ofInt 1) rfl rfl rfl ?_
        refine Uadd rfl rfl ?_
        have hz := y_bind h
        clear h
        obtain ⟨s26, h27, h⟩ := hz
        refine Zpi (q_pi_y h27) rfl rfl rfl rfl ?_
        refine Van rfl lk0 rfl rfl ?_
        have hz := y_bind h
        clear h
        obtain ⟨v28, h29, h⟩ := hz
        refine Zgi (q_gi_y h29) rfl rfl rfl ?_
        refine Vic (v := Int32.ofInt 1) rfl rfl rfl ?_
        refine Usub rfl rfl ?_
        cases h
        exact Yret rfl rfl rfl rfl rfl rfl rfl ⟨rfl, rfl⟩
      · rw [if_neg c5] at h
        refine Vbp (v := Int32.ofInt (-2)) rfl (by decide) rfl ?_
        cases h
        exact Yret rfl rfl rfl rfl rfl rfl rfl ⟨rfl, rfl⟩

/-- StepRows.leaf -/
def g_1 (o : X_O) : Nat → Nat → Q_S → Nat → Int → Int64 → Option (Q_S × Int)
  | 0, _, _, _, _, _ => none
  | n + 1, 0, s, r0, i1, l2 => (q_gv s 0 (.ref r0) 0).bind fun v1 => (q_rcv s 1 v1).bind fun b7 => (g_20 o n 0 s b7 (i1) (l2) 0 0 0).bind fun q6 => some (q6.1, q6.2)
  | _ + 1, _, _, _, _, _ => none
set_option maxRecDepth 100000 in
set_option maxHeartbeats 4000000 in
theorem c_1 (o : X_O) : ∀ n, (∀ (d : Nat) (hd : 1 ≤ d) (s : Q_S) (r0 : Nat) (i1 : Int) (l2 : Int64) (s9 : Q_S) (r : Int), g_1 o n 0 s r0 i1 l2 = some (s9, r) → ∀ lv : X_L, x_lget lv 0 = some (.ref r0) → x_lget lv 1 = some (.int (Int32.ofInt i1)) → x_lget lv 2 = some (.long l2) → Y o d 1 0 lv [] (q_y s) (fun s1 r1 => s1 = q_y s9 ∧ r1 = some (.int (Int32.ofInt r)))) := by
  intro n
  induction n with
  | zero => exact fun d hd s _ _ _ s9 r h => (by simp only [g_1] at h; cases h)
  | succ n ih =>
    intro d hd s r0 i1 l2 s9 r h lv lk0 lk1 lk2
    obtain ⟨d, rfl⟩ : ∃ x, d = x + 1 := ⟨d - 1, by omega⟩
    simp only [g_1] at h
    refine Van rfl lk0 rfl rfl ?_
    have hz := y_bind h
    clear h
    obtain ⟨v1, h2, h⟩ := hz
    have wv1 := (y_gv_ok h2).2
    refine Vgv h2 rfl rfl rfl ?_
    refine Vin rfl lk1 rfl ?_
    refine Vln rfl lk2 rfl ?_
    have hz := y_bind h
    clear h
    obtain ⟨b7, h8, h⟩ := hz
    obtain ⟨eh8, fh8, wh8⟩ := y_rcv_ok h8
    cases eh8
    have hz := y_bind h
    clear h
    obtain ⟨⟨s3, r4⟩, h5, h⟩ := hz
    try dsimp only at h
    refine Vcv rfl rfl rfl wh8 rfl rfl ⟨(Nat.le_of_ble_eq_true rfl), (Nat.le_of_ble_eq_true rfl)⟩ rfl ((c_20 o n).1 _ (by omega) _ _ _ _ _ _ _ _ _ h5 _ rfl rfl rfl) (fun z1 z2 zq => ?_)
    obtain ⟨rfl, rfl⟩ := zq
    try dsimp only [Option.toList, HAppend.hAppend, Append.append, List.append]
    cases h
    exact Yret rfl rfl rfl rfl rfl rfl rfl ⟨rfl, rfl⟩

/-- StepRows$Nodes.wanted -/
def g_22 (o : X_O) : Nat → Nat → Q_S → Nat → Int → Int → Int → Option (Q_S × Int)
  | 0, _, _, _, _, _, _ => none
  | n + 1, 0, s, r0, i1, i2, ti0 => (q_g (q_in i1)).bind fun _ => if 22 ≤ i1 then g_22 o n 1 s 0 0 0 (0) else (q_ia o s (.retAddr 1) ((i1 * 3) + i2)).bind fun v4 => g_22 o n 1 s 0 0 0 (v4)
  | n + 1, 1, s, r0, i1, i2, ti0 => some (s, ti0)
  | _ + 1, _, _, _, _, _, _ => none
set_option maxRecDepth 100000 in
set_option maxHeartbeats 4000000 in
theorem c_22 (o : X_O) : ∀ n, (∀ (d : Nat) (hd : 0 ≤ d) (s : Q_S) (r0 : Nat) (i1 : Int) (i2 : Int) (ti0 : Int) (s9 : Q_S) (r : Int), g_22 o n 0 s r0 i1 i2 ti0 = some (s9, r) → ∀ lv : X_L, x_lget lv 0 = some (.ref r0) → x_lget lv 1 = some (.int (Int32.ofInt i1)) → x_lget lv 2 = some (.int (Int32.ofInt i2)) → Y o d 22 0 lv [] (q_y s) (fun s1 r1 => s1 = q_y s9 ∧ r1 = some (.int (Int32.ofInt r)))) ∧
    (∀ (d : Nat) (hd : 0 ≤ d) (s : Q_S) (r0 : Nat) (i1 : Int) (i2 : Int) (ti0 : Int) (s9 : Q_S) (r : Int), g_22 o n 1 s r0 i1 i2 ti0 = some (s9, r) → ∀ lv : X_L, True → Y o d 22 19 lv [.int (Int32.ofInt ti0)] (q_y s) (fun s1 r1 => s1 = q_y s9 ∧ r1 = some (.int (Int32.ofInt r)))) := by
  intro n
  induction n with
  | zero => exact ⟨fun d hd s _ _ _ _ s9 r h => (by simp only [g_22] at h; cases h), fun d hd s _ _ _ _ s9 r h => (by simp only [g_22] at h; cases h)⟩
  | succ n ih =>
    refine ⟨?_, ?_⟩
    · intro d hd s r0 i1 i2 ti0 s9 r h lv lk0 lk1 lk2
      simp only [g_22] at h
      refine Vin rfl lk1 rfl ?_
      refine Vbp (v := Int32.ofInt 22) rfl (by decide) rfl ?_
      have hz := y_bind h
      clear h
      obtain ⟨_, h2, h⟩ := hz
      have c1 := q_g_ok h2
      refine Uif (q_le (by decide) c1) rfl rfl rfl rfl rfl rfl rfl (fun c3 => ?_) (fun c3 => ?_)
      · rw [if_pos c3] at h
        refine Vic (v := Int32.ofInt 0) rfl rfl rfl ?_
        exact ih.2 _ hd _ _ _ _ _ _ _ h lv trivial
      · rw [if_neg c3] at h
        refine Yk (v := .retAddr 1) rfl rfl rfl rfl rfl ?_
        refine Vin rfl lk1 rfl ?_
        refine Vic (v := Int32.ofInt 3) rfl rfl rfl ?_
        refine Umul rfl rfl ?_
        refine Vin rfl lk2 rfl ?_
        refine Uadd rfl rfl ?_
        have hz := y_bind h
        clear h
        obtain ⟨v4, h5, h⟩ := hz
        refine Zia (q_ia_y h5) rfl rfl ?_
        refine Ygo rfl rfl rfl rfl rfl rfl ?_
        exact ih.2 _ hd _ _ _ _ _ _ _ h lv trivial
    · intro d hd s r0 i1 i2 ti0 s9 r h lv _
      simp only [g_22] at h
      cases h
      exact Yret rfl rfl rfl rfl rfl rfl rfl ⟨rfl, rfl⟩

/-- StepRows$Nodes.isTold -/
def g_25 (o : X_O) : Nat → Nat → Q_S → Nat → Int → Int → Option (Q_S × Int)
  | 0, _, _, _, _, _ => none
  | n + 1, 0, s, r0, i1, ti0 => (q_g (q_in i1)).bind fun _ => if i1 < 0 then g_25 o n 1 s 0 0 0 else (q_gi s 1 (.ref r0) 4).bind fun v4 => (q_g (q_in i1 ∧ q_in v4)).bind fun _ => if v4 ≤ i1 then g_25 o n 1 s 0 0 0 else g_25 o n 2 s 0 0 (1)
  | n + 1, 1, s, r0, i1, ti0 => g_25 o n 2 s 0 0 (0)
  | n + 1, 2, s, r0, i1, ti0 => (q_g (ti0 = 0 ∨ ti0 = 1)).bind fun _ => some (s, ti0)
  | _ + 1, _, _, _, _, _ => none
set_option maxRecDepth 100000 in
set_option maxHeartbeats 4000000 in
theorem c_25 (o : X_O) : ∀ n, (∀ (d : Nat) (hd : 0 ≤ d) (s : Q_S) (r0 : Nat) (i1 : Int) (ti0 : Int) (s9 : Q_S) (r : Int), g_25 o n 0 s r0 i1 ti0 = some (s9, r) → ∀ lv : X_L, x_lget lv 0 = some (.ref r0) → x_lget lv 1 = some (.int (Int32.ofInt i1)) → Y o d 25 0 lv [] (q_y s) (fun s1 r1 => s1 = q_y s9 ∧ r1 = some (.int (Int32.ofInt r)))) ∧
    (∀ (d : Nat) (hd : 0 ≤ d) (s : Q_S) (r0 : Nat) (i1 : Int) (ti0 : Int) (s9 : Q_S) (r : Int), g_25 o n 1 s r0 i1 ti0 = some (s9, r) → ∀ lv : X_L, True → Y o d 25 16 lv [] (q_y s) (fun s1 r1 => s1 = q_y s9 ∧ r1 = some (.int (Int32.ofInt r)))) ∧
    (∀ (d : Nat) (hd : 0 ≤ d) (s : Q_S) (r0 : Nat) (i1 : Int) (ti0 : Int) (s9 : Q_S) (r : Int), g_25 o n 2 s r0 i1 ti0 = some (s9, r) → ∀ lv : X_L, True → Y o d 25 17 lv [.int (Int32.ofInt ti0)] (q_y s) (fun s1 r1 => s1 = q_y s9 ∧ r1 = some (.int (Int32.ofInt r)))) := by
  intro n
  induction n with
  | zero => exact ⟨fun d hd s _ _ _ s9 r h => (by simp only [g_25] at h; cases h), fun d hd s _ _ _ s9 r h => (by simp only [g_25] at h; cases h), fun d hd s _ _ _ s9 r h => (by simp only [g_25] at h; cases h)⟩
  | succ n ih =>
    refine ⟨?_, ?_, ?_⟩
    · intro d hd s r0 i1 ti0 s9 r h lv lk0 lk1
      simp only [g_25] at h
      refine Vin rfl lk1 rfl ?_
      have hz := y_bind h
      clear h
      obtain ⟨_, h2, h⟩ := hz
      have c1 := q_g_ok h2
      refine Uif (q_lt0 c1) rfl rfl rfl rfl rfl rfl rfl (fun c3 => ?_) (fun c3 => ?_)
      · rw [if_pos c3] at h
        exact ih.2.1 _ hd _ _ _ _ _ _ h lv trivial
      · rw [if_neg c3] at h
        refine Vin rfl lk1 rfl ?_
        refine Van rfl lk0 rfl rfl ?_
        have hz := y_bind h
        clear h
        obtain ⟨v4, h5, h⟩ := hz
        refine Zgi (q_gi_y h5) rfl rfl rfl ?_
        have hz := y_bind h
        clear h
        obtain ⟨_, h7, h⟩ := hz
        have c6 := q_g_ok h7
        refine Uif (q_le c6.2 c6.1) rfl rfl rfl rfl rfl rfl rfl (fun c8 => ?_) (fun c8 => ?_)
        · rw [if_pos c8] at h
          exact ih.2.1 _ hd _ _ _ _ _ _ h lv trivial
        · rw [if_neg c8] at h
          refine Vic (v := Int32.ofInt 1) rfl rfl rfl ?_
          refine Ygo rfl rfl rfl rfl rfl rfl ?_
          exact ih.2.2 _ hd _ _ _ _ _ _ h lv trivial
    · intro d hd s r0 i1 ti0 s9 r h lv _
      simp only [g_25] at h
      refine Vic (v := Int32.ofInt 0) rfl rfl rfl ?_
      exact ih.2.2 _ hd _ _ _ _ _ _ h lv trivial
    · intro d hd s r0 i1 ti0 s9 r h lv _
      simp only [g_25] at h
      have hz := y_bind h
      clear h
      obtain ⟨_, h2, h⟩ := hz
      have c1 := q_g_ok h2
      cases h
      exact Yret rfl rfl rfl rfl rfl rfl (if_pos (q_bool c1)) ⟨rfl, rfl⟩

/-- StepRows$Nodes.isExpression -/
def g_24 (o : X_O) : Nat → Nat → Q_S → Nat → Int → Int → Option (Q_S × Int)
  | 0, _, _, _, _, _ => none
  | n + 1, 0, s, r0, i1, ti0 => (q_rcv s 1 (.ref r0)).bind fun b5 => (g_25 o n 0 s b5 (i1) 0).bind fun q4 => (q_g (q_in q4.2)).bind fun _ => if q4.2 = 0 then g_24 o n 2 q4.1 0 0 0 else (q_gv q4.1 1 (.ref r0) 0).bind fun v12 => (q_ia o q4.1 v12 i1).bind fun v14 => (q_g (q_in v14)).bind fun _ => if v14 < 10 then g_24 o n 1 q4.1 0 0 0 else (q_gv q4.1 1 (.ref r0) 0).bind fun v19 => (q_ia o q4.1 v19 i1).bind fun v21 => (q_g (q_in v21)).bind fun _ => if v21 < 30 then g_24 o n 2 q4.1 0 0 0 else g_24 o n 1 q4.1 0 0 0
  | n + 1, 1, s, r0, i1, ti0 => g_24 o n 3 s 0 0 (1)
  | n + 1, 2, s, r0, i1, ti0 => g_24 o n 3 s 0 0 (0)
  | n + 1, 3, s, r0, i1, ti0 => (q_g (ti0 = 0 ∨ ti0 = 1)).bind fun _ => some (s, ti0)
  | _ + 1, _, _, _, _, _ => none
set_option maxRecDepth 100000 in
set_option maxHeartbeats 4000000 in
theorem c_24 (o : X_O) : ∀ n, (∀ (d : Nat) (hd : 1 ≤ d) (s : Q_S) (r0 : Nat) (i1 : Int) (ti0 : Int) (s9 : Q_S) (r : Int), g_24 o n 0 s r0 i1 ti0 = some (s9, r) → ∀ lv : X_L, x_lget lv 0 = some (.ref r0) → x_lget lv 1 = some (.int (Int32.ofInt i1)) → Y o d 24 0 lv [] (q_y s) (fun s1 r1 => s1 = q_y s9 ∧ r1 = some (.int (Int32.ofInt r)))) ∧
    (∀ (d : Nat) (hd : 1 ≤ d) (s : Q_S) (r0 : Nat) (i1 : Int) (ti0 : Int) (s9 : Q_S) (r : Int), g_24 o n 1 s r0 i1 ti0 = some (s9, r) → ∀ lv : X_L, True → Y o d 24 30 lv [] (q_y s) (fun s1 r1 => s1 = q_y s9 ∧ r1 = some (.int (Int32.ofInt r)))) ∧
    (∀ (d : Nat) (hd : 1 ≤ d) (s : Q_S) (r0 : Nat) (i1 : Int) (ti0 : Int) (s9 : Q_S) (r : Int), g_24 o n 2 s r0 i1 ti0 = some (s9, r) → ∀ lv : X_L, True → Y o d 24 34 lv [] (q_y s) (fun s1 r1 => s1 = q_y s9 ∧ r1 = some (.int (Int32.ofInt r)))) ∧
    (∀ (d : Nat) (hd : 1 ≤ d) (s : Q_S) (r0 : Nat) (i1 : Int) (ti0 : Int) (s9 : Q_S) (r : Int), g_24 o n 3 s r0 i1 ti0 = some (s9, r) → ∀ lv : X_L, True → Y o d 24 35 lv [.int (Int32.ofInt ti0)] (q_y s) (fun s1 r1 => s1 = q_y s9 ∧ r1 = some (.int (Int32.ofInt r)))) := by
  intro n
  induction n with
  | zero => exact ⟨fun d hd s _ _ _ s9 r h => (by simp only [g_24] at h; cases h), fun d hd s _ _ _ s9 r h => (by simp only [g_24] at h; cases h), fun d hd s _ _ _ s9 r h => (by simp only [g_24] at h; cases h), fun d hd s _ _ _ s9 r h => (by simp only [g_24] at h; cases h)⟩
  | succ n ih =>
    refine ⟨?_, ?_, ?_, ?_⟩
    · intro d hd s r0 i1 ti0 s9 r h lv lk0 lk1
      obtain ⟨d, rfl⟩ : ∃ x, d = x + 1 := ⟨d - 1, by omega⟩
      simp only [g_24] at h
      refine Van rfl lk0 rfl rfl ?_
      refine Vin rfl lk1 rfl ?_
      have hz := y_bind h
      clear h
      obtain ⟨b5, h6, h⟩ := hz
      obtain ⟨eh6, fh6, wh6⟩ := y_rcv_ok h6
      cases eh6
      have hz := y_bind h
      clear h
      obtain ⟨⟨s1, r2⟩, h3, h⟩ := hz
      try dsimp only at h
      refine Vcv rfl rfl rfl wh6 rfl rfl ⟨(Nat.le_of_ble_eq_true rfl), (Nat.le_of_ble_eq_true rfl)⟩ rfl ((c_25 o n).1 _ (by omega) _ _ _ _ _ _ h3 _ rfl rfl) (fun z1 z2 zq => ?_)
      obtain ⟨rfl, rfl⟩ := zq
      try dsimp only [Option.toList, HAppend.hAppend, Append.append, List.append]
      have hz := y_bind h
      clear h
      obtain ⟨_, h10, h⟩ := hz
      have c9 := q_g_ok h10
      refine Uif (q_eq0 c9) rfl rfl rfl rfl rfl rfl rfl (fun c11 => ?_) (fun c11 => ?_)
      · rw [if_pos c11] at h
        exact ih.2.2.1 _ hd _ _ _ _ _ _ h lv trivial
      · rw [if_neg c11] at h
        refine Van rfl lk0 rfl rfl ?_
        have hz := y_bind h
        clear h
        obtain ⟨v12, h13, h⟩ := hz
        have wv12 := (y_gv_ok h13).2
        refine Vgv h13 rfl rfl rfl ?_
        refine Vin rfl lk1 rfl ?_
        have hz := y_bind h
        clear h
        obtain ⟨v14, h15, h⟩ := hz
        refine Zia (q_ia_y h15) rfl rfl ?_
        refine Vbp (v := Int32.ofInt 10) rfl (by decide) rfl ?_
        have hz := y_bind h
        clear h
        obtain ⟨_, h17, h⟩ := hz
        have c16 := q_g_ok h17
        refine Uif (q_lt c16 (by decide)) rfl rfl rfl rfl rfl rfl rfl (fun c18 => ?_) (fun c18 => ?_)
        · rw [if_pos c18] at h
          exact ih.2.1 _ hd _ _ _ _ _ _ h lv trivial
        · rw [if_neg c18] at h
          refine Van rfl lk0 rfl rfl ?_
          have hz := y_bind h
          clear h
          obtain ⟨v19, h20, h⟩ := hz
          have wv19 := (y_gv_ok h20).2
          refine Vgv h20 rfl rfl rfl ?_
          refine Vin rfl lk1 rfl ?_
          have hz := y_bind h
          clear h
          obtain ⟨v21, h22, h⟩ := hz
          refine Zia (q_ia_y h22) rfl rfl ?_
          refine Vbp (v := Int32.ofInt 30) rfl (by decide) rfl ?_
          have hz := y_bind h
          clear h
          obtain ⟨_, h24, h⟩ := hz
          have c23 := q_g_ok h24
          refine Uif (q_lt c23 (by decide)) rfl rfl rfl rfl rfl rfl rfl (fun c25 => ?_) (fun c25 => ?_)
          · rw [if_pos c25] at h
            exact ih.2.2.1 _ hd _ _ _ _ _ _ h lv trivial
          · rw [if_neg c25] at h
            exact ih.2.1 _ hd _ _ _ _ _ _ h lv trivial
    · intro d hd s r0 i1 ti0 s9 r h lv _
      obtain ⟨d, rfl⟩ : ∃ x, d = x + 1 := ⟨d - 1, by omega⟩
      simp only [g_24] at h
      refine Vic (v := Int32.ofInt 1) rfl rfl rfl ?_
      refine Ygo rfl rfl rfl rfl rfl rfl ?_
      exact ih.2.2.2 _ hd _ _ _ _ _ _ h lv trivial
    · intro d hd s r0 i1 ti0 s9 r h lv _
      obtain ⟨d, rfl⟩ : ∃ x, d = x + 1 := ⟨d - 1, by omega⟩
      simp only [g_24] at h
      refine Vic (v := Int32.ofInt 0) rfl rfl rfl ?_
      exact ih.2.2.2 _ hd _ _ _ _ _ _ h lv trivial
    · intro d hd s r0 i1 ti0 s9 r h lv _
      obtain ⟨d, rfl⟩ : ∃ x, d = x + 1 := ⟨d - 1, by omega⟩
      simp only [g_24] at h
      have hz := y_bind h
      clear h
      obtain ⟨_, h2, h⟩ := hz
      have c1 := q_g_ok h2
      cases h
      exact Yret rfl rfl rfl rfl rfl rfl (if_pos (q_bool c1)) ⟨rfl, rfl⟩

/-- StepRows$Nodes.isStatement -/
def g_26 (o : X_O) : Nat → Nat → Q_S → Nat → Int → Int → Option (Q_S × Int)
  | 0, _, _, _, _, _ => none
  | n + 1, 0, s, r0, i1, ti0 => (q_rcv s 1 (.ref r0)).bind fun b5 => (g_25 o n 0 s b5 (i1) 0).bind fun q4 => (q_g (q_in q4.2)).bind fun _ => if q4.2 = 0 then g_26 o n 1 q4.1 0 0 0 else (q_gv q4.1 1 (.ref r0) 0).bind fun v12 => (q_ia o q4.1 v12 i1).bind fun v14 => (q_g (q_in v14)).bind fun _ => if v14 < 10 then g_26 o n 1 q4.1 0 0 0 else (q_gv q4.1 1 (.ref r0) 0).bind fun v19 => (q_ia o q4.1 v19 i1).bind fun v21 => (q_g (q_in v21)).bind fun _ => if 22 ≤ v21 then g_26 o n 1 q4.1 0 0 0 else g_26 o n 2 q4.1 0 0 (1)
  | n + 1, 1, s, r0, i1, ti0 => g_26 o n 2 s 0 0 (0)
  | n + 1, 2, s, r0, i1, ti0 => (q_g (ti0 = 0 ∨ ti0 = 1)).bind fun _ => some (s, ti0)
  | _ + 1, _, _, _, _, _ => none
set_option maxRecDepth 100000 in
set_option maxHeartbeats 4000000 in
theorem c_26 (o : X_O) : ∀ n, (∀ (d : Nat) (hd : 1 ≤ d) (s : Q_S) (r0 : Nat) (i1 : Int) (ti0 : Int) (s9 : Q_S) (r : Int), g_26 o n 0 s r0 i1 ti0 = some (s9, r) → ∀ lv : X_L, x_lget lv 0 = some (.ref r0) → x_lget lv 1 = some (.int (Int32.ofInt i1)) → Y o d 26 0 lv [] (q_y s) (fun s1 r1 => s1 = q_y s9 ∧ r1 = some (.int (Int32.ofInt r)))) ∧
    (∀ (d : Nat) (hd : 1 ≤ d) (s : Q_S) (r0 : Nat) (i1 : Int) (ti0 : Int) (s9 : Q_S) (r : Int), g_26 o n 1 s r0 i1 ti0 = some (s9, r) → ∀ lv : X_L, True → Y o d 26 34 lv [] (q_y s) (fun s1 r1 => s1 = q_y s9 ∧ r1 = some (.int (Int32.ofInt r)))) ∧
    (∀ (d : Nat) (hd : 1 ≤ d) (s : Q_S) (r0 : Nat) (i1 : Int) (ti0 : Int) (s9 : Q_S) (r : Int), g_26 o n 2 s r0 i1 ti0 = some (s9, r) → ∀ lv : X_L, True → Y o d 26 35 lv [.int (Int32.ofInt ti0)] (q_y s) (fun s1 r1 => s1 = q_y s9 ∧ r1 = some (.int (Int32.ofInt r)))) := by
  intro n
  induction n with
  | zero => exact ⟨fun d hd s _ _ _ s9 r h => (by simp only [g_26] at h; cases h), fun d hd s _ _ _ s9 r h => (by simp only [g_26] at h; cases h), fun d hd s _ _ _ s9 r h => (by simp only [g_26] at h; cases h)⟩
  | succ n ih =>
    refine ⟨?_, ?_, ?_⟩
    · intro d hd s r0 i1 ti0 s9 r h lv lk0 lk1
      obtain ⟨d, rfl⟩ : ∃ x, d = x + 1 := ⟨d - 1, by omega⟩
      simp only [g_26] at h
      refine Van rfl lk0 rfl rfl ?_
      refine Vin rfl lk1 rfl ?_
      have hz := y_bind h
      clear h
      obtain ⟨b5, h6, h⟩ := hz
      obtain ⟨eh6, fh6, wh6⟩ := y_rcv_ok h6
      cases eh6
      have hz := y_bind h
      clear h
      obtain ⟨⟨s1, r2⟩, h3, h⟩ := hz
      try dsimp only at h
      refine Vcv rfl rfl rfl wh6 rfl rfl ⟨(Nat.le_of_ble_eq_true rfl), (Nat.le_of_ble_eq_true rfl)⟩ rfl ((c_25 o n).1 _ (by omega) _ _ _ _ _ _ h3 _ rfl rfl) (fun z1 z2 zq => ?_)
      obtain ⟨rfl, rfl⟩ := zq
      try dsimp only [Option.toList, HAppend.hAppend, Append.append, List.append]
      have hz := y_bind h
      clear h
      obtain ⟨_, h10, h⟩ := hz
      have c9 := q_g_ok h10
      refine Uif (q_eq0 c9) rfl rfl rfl rfl rfl rfl rfl (fun c11 => ?_) (fun c11 => ?_)
      · rw [if_pos c11] at h
        exact ih.2.1 _ hd _ _ _ _ _ _ h lv trivial
      · rw [if_neg c11] at h
        refine Van rfl lk0 rfl rfl ?_
        have hz := y_bind h
        clear h
        obtain ⟨v12, h13, h⟩ := hz
        have wv12 := (y_gv_ok h13).2
        refine Vgv h13 rfl rfl rfl ?_
        refine Vin rfl lk1 rfl ?_
        have hz := y_bind h
        clear h
        obtain ⟨v14, h15, h⟩ := hz
        refine Zia (q_ia_y h15) rfl rfl ?_
        refine Vbp (v := Int32.ofInt 10) rfl (by decide) rfl ?_
        have hz := y_bind h
        clear h
        obtain ⟨_, h17, h⟩ := hz
        have c16 := q_g_ok h17
        refine Uif (q_lt c16 (by decide)) rfl rfl rfl rfl rfl rfl rfl (fun c18 => ?_) (fun c18 => ?_)
        · rw [if_pos c18] at h
          exact ih.2.1 _ hd _ _ _ _ _ _ h lv trivial
        · rw [if_neg c18] at h
          refine Van rfl lk0 rfl rfl ?_
          have hz := y_bind h
          clear h
          obtain ⟨v19, h20, h⟩ := hz
          have wv19 := (y_gv_ok h20).2
          refine Vgv h20 rfl rfl rfl ?_
          refine Vin rfl lk1 rfl ?_
          have hz := y_bind h
          clear h
          obtain ⟨v21, h22, h⟩ := hz
          refine Zia (q_ia_y h22) rfl rfl ?_
          refine Vbp (v := Int32.ofInt 22) rfl (by decide) rfl ?_
          have hz := y_bind h
          clear h
          obtain ⟨_, h24, h⟩ := hz
          have c23 := q_g_ok h24
          refine Uif (q_le (by decide) c23) rfl rfl rfl rfl rfl rfl rfl (fun c25 => ?_) (fun c25 => ?_)
          · rw [if_pos c25] at h
            exact ih.2.1 _ hd _ _ _ _ _ _ h lv trivial
          · rw [if_neg c25] at h
            refine Vic (v := Int32.ofInt 1) rfl rfl rfl ?_
            refine Ygo rfl rfl rfl rfl rfl rfl ?_
            exact ih.2.2 _ hd _ _ _ _ _ _ h lv trivial
    · intro d hd s r0 i1 ti0 s9 r h lv _
      obtain ⟨d, rfl⟩ : ∃ x, d = x + 1 := ⟨d - 1, by omega⟩
      simp only [g_26] at h
      refine Vic (v := Int32.ofInt 0) rfl rfl rfl ?_
      exact ih.2.2 _ hd _ _ _ _ _ _ h lv trivial
    · intro d hd s r0 i1 ti0 s9 r h lv _
      obtain ⟨d, rfl⟩ : ∃ x, d = x + 1 := ⟨d - 1, by omega⟩
      simp only [g_26] at h
      have hz := y_bind h
      clear h
      obtain ⟨_, h2, h⟩ := hz
      have c1 := q_g_ok h2
      cases h
      exact Yret rfl rfl rfl rfl rfl rfl (if_pos (q_bool c1)) ⟨rfl, rfl⟩

/-- StepRows$Nodes.fits -/
def g_23 (o : X_O) : Nat → Nat → Q_S → Nat → Int → Int → Int → Option (Q_S × Int)
  | 0, _, _, _, _, _, _ => none
  | n + 1, 0, s, r0, i1, i2, ti0 => (q_g (q_in i1)).bind fun _ => if i1 < 1 ∨ 6 < i1 then some (s, 1) else if i1 = 1 then (q_rcv s 1 (.ref r0)).bind fun b8 => (g_24 o n 0 s b8 (i2) 0).bind fun q7 => (q_g (q7.2 = 0 ∨ q7.2 = 1)).bind fun _ => some (q7.1, q7.2) else if i1 = 2 then (q_rcv s 1 (.ref r0)).bind fun b19 => (g_26 o n 0 s b19 (i2) 0).bind fun q18 => (q_g (q18.2 = 0 ∨ q18.2 = 1)).bind fun _ => some (q18.1, q18.2) else if i1 = 3 then (q_g (q_in i2)).bind fun _ => if i2 = (-1) then g_23 o n 1 s 0 0 0 0 else (q_rcv s 1 (.ref r0)).bind fun b33 => (g_26 o n 0 s b33 (i2) 0).bind fun q32 => (q_g (q_in q32.2)).bind fun _ => if q32.2 = 0 then g_23 o n 2 q32.1 0 0 0 (0) else g_23 o n 1 q32.1 0 0 0 0 else if i1 = 4 then (q_g (q_in i2)).bind fun _ => if i2 < 0 then g_23 o n 3 s 0 0 0 0 else (q_g (q_in i2)).bind fun _ => if 8 ≤ i2 then g_23 o n 3 s 0 0 0 0 else g_23 o n 4 s 0 0 0 (1) else if i1 = 5 then (q_g (q_in i2)).bind fun _ => if i2 < 0 then g_23 o n 7 s 0 0 0 0 else (q_g (q_in i2)).bind fun _ => if 16 ≤ i2 then g_23 o n 7 s 0 0 0 0 else g_23 o n 8 s 0 0 0 (1) else if i1 = 6 then (q_g (q_in i2)).bind fun _ => if i2 < 0 then g_23 o n 5 s 0 0 0 0 else (q_g (q_in i2)).bind fun _ => if 8 ≤ i2 then g_23 o n 5 s 0 0 0 0 else g_23 o n 6 s 0 0 0 (1) else none
  | n + 1, 1, s, r0, i1, i2, ti0 => g_23 o n 2 s 0 0 0 (1)
  | n + 1, 2, s, r0, i1, i2, ti0 => (q_g (ti0 = 0 ∨ ti0 = 1)).bind fun _ => some (s, ti0)
  | n + 1, 3, s, r0, i1, i2, ti0 => g_23 o n 4 s 0 0 0 (0)
  | n + 1, 4, s, r0, i1, i2, ti0 => (q_g (ti0 = 0 ∨ ti0 = 1)).bind fun _ => some (s, ti0)
  | n + 1, 5, s, r0, i1, i2, ti0 => g_23 o n 6 s 0 0 0 (0)
  | n + 1, 6, s, r0, i1, i2, ti0 => (q_g (ti0 = 0 ∨ ti0 = 1)).bind fun _ => some (s, ti0)
  | n + 1, 7, s, r0, i1, i2, ti0 => g_23 o n 8 s 0 0 0 (0)
  | n + 1, 8, s, r0, i1, i2, ti0 => (q_g (ti0 = 0 ∨ ti0 = 1)).bind fun _ => some (s, ti0)
  | _ + 1, _, _, _, _, _, _ => none
set_option maxRecDepth 100000 in
set_option maxHeartbeats 4000000 in
theorem c_23 (o : X_O) : ∀ n, (∀ (d : Nat) (hd : 2 ≤ d) (s : Q_S) (r0 : Nat) (i1 : Int) (i2 : Int) (ti0 : Int) (s9 : Q_S) (r : Int), g_23 o n 0 s r0 i1 i2 ti0 = some (s9, r) → ∀ lv : X_L, x_lget lv 0 = some (.ref r0) → x_lget lv 1 = some (.int (Int32.ofInt i1)) → x_lget lv 2 = some (.int (Int32.ofInt i2)) → Y o d 23 0 lv [] (q_y s) (fun s1 r1 => s1 = q_y s9 ∧ r1 = some (.int (Int32.ofInt r)))) ∧
    (∀ (d : Nat) (hd : 2 ≤ d) (s : Q_S) (r0 : Nat) (i1 : Int) (i2 : Int) (ti0 : Int) (s9 : Q_S) (r : Int), g_23 o n 1 s r0 i1 i2 ti0 = some (s9, r) → ∀ lv : X_L, True → Y o d 23 65 lv [] (q_y s) (fun s1 r1 => s1 = q_y s9 ∧ r1 = some (.int (Int32.ofInt r)))) ∧
    (∀ (d : Nat) (hd : 2 ≤ d) (s : Q_S) (r0 : Nat) (i1 : Int) (i2 : Int) (ti0 : Int) (s9 : Q_S) (r : Int), g_23 o n 2 s r0 i1 i2 ti0 = some (s9, r) → ∀ lv : X_L, True → Y o d 23 70 lv [.int (Int32.ofInt ti0)] (q_y s) (fun s1 r1 => s1 = q_y s9 ∧ r1 = some (.int (Int32.ofInt r)))) ∧
    (∀ (d : Nat) (hd : 2 ≤ d) (s : Q_S) (r0 : Nat) (i1 : Int) (i2 : Int) (ti0 : Int) (s9 : Q_S) (r : Int), g_23 o n 3 s r0 i1 i2 ti0 = some (s9, r) → ∀ lv : X_L, True → Y o d 23 85 lv [] (q_y s) (fun s1 r1 => s1 = q_y s9 ∧ r1 = some (.int (Int32.ofInt r)))) ∧
    (∀ (d : Nat) (hd : 2 ≤ d) (s : Q_S) (r0 : Nat) (i1 : Int) (i2 : Int) (ti0 : Int) (s9 : Q_S) (r : Int), g_23 o n 4 s r0 i1 i2 ti0 = some (s9, r) → ∀ lv : X_L, True → Y o d 23 86 lv [.int (Int32.ofInt ti0)] (q_y s) (fun s1 r1 => s1 = q_y s9 ∧ r1 = some (.int (Int32.ofInt r)))) ∧
    (∀ (d : Nat) (hd : 2 ≤ d) (s : Q_S) (r0 : Nat) (i1 : Int) (i2 : Int) (ti0 : Int) (s9 : Q_S) (r : Int), g_23 o n 5 s r0 i1 i2 ti0 = some (s9, r) → ∀ lv : X_L, True → Y o d 23 101 lv [] (q_y s) (fun s1 r1 => s1 = q_y s9 ∧ r1 = some (.int (Int32.ofInt r)))) ∧
    (∀ (d : Nat) (hd : 2 ≤ d) (s : Q_S) (r0 : Nat) (i1 : Int) (i2 : Int) (ti0 : Int) (s9 : Q_S) (r : Int), g_23 o n 6 s r0 i1 i2 ti0 = some (s9, r) → ∀ lv : X_L, True → Y o d 23 102 lv [.int (Int32.ofInt ti0)] (q_y s) (fun s1 r1 => s1 = q_y s9 ∧ r1 = some (.int (Int32.ofInt r)))) ∧
    (∀ (d : Nat) (hd : 2 ≤ d) (s : Q_S) (r0 : Nat) (i1 : Int) (i2 : Int) (ti0 : Int) (s9 : Q_S) (r : Int), g_23 o n 7 s r0 i1 i2 ti0 = some (s9, r) → ∀ lv : X_L, True → Y o d 23 117 lv [] (q_y s) (fun s1 r1 => s1 = q_y s9 ∧ r1 = some (.int (Int32.ofInt r)))) ∧
    (∀ (d : Nat) (hd : 2 ≤ d) (s : Q_S) (r0 : Nat) (i1 : Int) (i2 : Int) (ti0 : Int) (s9 : Q_S) (r : Int), g_23 o n 8 s r0 i1 i2 ti0 = some (s9, r) → ∀ lv : X_L, True → Y o d 23 118 lv [.int (Int32.ofInt ti0)] (q_y s) (fun s1 r1 => s1 = q_y s9 ∧ r1 = some (.int (Int32.ofInt r)))) := by
  intro n
  induction n with
  | zero => exact ⟨fun d hd s _ _ _ _ s9 r h => (by simp only [g_23] at h; cases h), fun d hd s _ _ _ _ s9 r h => (by simp only [g_23] at h; cases h), fun d hd s _ _ _ _ s9 r h => (by simp only [g_23] at h; cases h), fun d hd s _ _ _ _ s9 r h => (by simp only [g_23] at h; cases h), fun d hd s _ _ _ _ s9 r h => (by simp only [g_23] at h; cases h), fun d hd s _ _ _ _ s9 r h => (by simp only [g_23] at h; cases h), fun d hd s _ _ _ _ s9 r h => (by simp only [g_23] at h; cases h), fun d hd s _ _ _ _ s9 r h => (by simp only [g_23] at h; cases h), fun d hd s _ _ _ _ s9 r h => (by simp only [g_23] at h; cases h)⟩
  | succ n ih =>
    refine ⟨?_, ?_, ?_, ?_, ?_, ?_, ?_, ?_, ?_⟩
    · intro d hd s r0 i1 i2 ti0 s9 r h lv lk0 lk1 lk2
      obtain ⟨d, rfl⟩ : ∃ x, d = x + 1 := ⟨d - 1, by omega⟩
      simp only [g_23] at h
      refine Vin rfl lk1 rfl ?_
      have hz := y_bind h
      clear h
      obtain ⟨_, h2, h⟩ := hz
      have c1 := q_g_ok h2
      by_cases c3 : i1 < 1 ∨ 6 < i1
      · rw [if_pos c3] at h
        refine Ysw rfl rfl rfl rfl rfl (if_pos (by rw [q_ti c1]; exact c3)) rfl ?_
        refine Vic (v := Int32.ofInt 1) rfl rfl rfl ?_
        cases h
        exact Yret rfl rfl rfl rfl rfl rfl rfl ⟨rfl, rfl⟩
      rw [if_neg c3] at h
      by_cases c14 : i1 = 1
      · rw [if_pos c14] at h
        refine Vts (k := 1) (congrArg Int32.ofInt c14) rfl rfl rfl rfl rfl rfl rfl ?_
        refine Van rfl lk0 rfl rfl ?_
        refine Vin rfl lk2 rfl ?_
        have hz := y_bind h
        clear h
        obtain ⟨b8, h9, h⟩ := hz
        obtain ⟨eh9, fh9, wh9⟩ := y_rcv_ok h9
        cases eh9
        have hz := y_bind h
        clear h
        obtain ⟨⟨s4, r5⟩, h6, h⟩ := hz
        try dsimp only at h
        refine Vcv rfl rfl rfl wh9 rfl rfl ⟨(Nat.le_of_ble_eq_true rfl), (Nat.le_of_ble_eq_true rfl)⟩ rfl ((c_24 o n).1 _ (by omega) _ _ _ _ _ _ h6 _ rfl rfl) (fun z1 z2 zq => ?_)
        obtain ⟨rfl, rfl⟩ := zq
        try dsimp only [Option.toList, HAppend.hAppend, Append.append, List.append]
        have hz := y_bind h
        clear h
        obtain ⟨_, h13, h⟩ := hz
        have c12 := q_g_ok h13
        cases h
        exact Yret rfl rfl rfl rfl rfl rfl (if_pos (q_bool c12)) ⟨rfl, rfl⟩
      rw [if_neg c14] at h
      by_cases c25 : i1 = 2
      · rw [if_pos c25] at h
        refine Vts (k := 2) (congrArg Int32.ofInt c25) rfl rfl rfl rfl rfl rfl rfl ?_
        refine Van rfl lk0 rfl rfl ?_
        refine Vin rfl lk2 rfl ?_
        have hz := y_bind h
        clear h
        obtain ⟨b19, h20, h⟩ := hz
        obtain ⟨eh20, fh20, wh20⟩ := y_rcv_ok h20
        cases eh20
        have hz := y_bind h
        clear h
        obtain ⟨⟨s15, r16⟩, h17, h⟩ := hz
        try dsimp only at h
        refine Vcv rfl rfl rfl wh20 rfl rfl ⟨(Nat.le_of_ble_eq_true rfl), (Nat.le_of_ble_eq_true rfl)⟩ rfl ((c_26 o n).1 _ (by omega) _ _ _ _ _ _ h17 _ rfl rfl) (fun z1 z2 zq => ?_)
        obtain ⟨rfl, rfl⟩ := zq
        try dsimp only [Option.toList, HAppend.hAppend, Append.append, List.append]
        have hz := y_bind h
        clear h
        obtain ⟨_, h24, h⟩ := hz
        have c23 := q_g_ok h24
        cases h
        exact Yret rfl rfl rfl rfl rfl rfl (if_pos (q_bool c23)) ⟨rfl, rfl⟩
      rw [if_neg c25] at h
      by_cases c40 : i1 = 3
      · rw [if_pos c40] at h
        refine Vts (k := 3) (congrArg Int32.ofInt c40) rfl rfl rfl rfl rfl rfl rfl ?_
        refine Vin rfl lk2 rfl ?_
        refine Vic (v := Int32.ofInt (-1)) rfl rfl rfl ?_
        have hz := y_bind h
        clear h
        obtain ⟨_, h27, h⟩ := hz
        have c26 := q_g_ok h27
        refine Uif (q_eq c26 (by decide)) rfl rfl rfl rfl rfl rfl rfl (fun c28 => ?_) (fun c28 => ?_)
        · rw [if_pos c28] at h
          exact ih.2.1 _ hd _ _ _ _ _ _ _ h lv trivial
        · rw [if_neg c28] at h
          refine Van rfl lk0 rfl rfl ?_
          refine Vin rfl lk2 rfl ?_
          have hz := y_bind h
          clear h
          obtain ⟨b33, h34, h⟩ := hz
          obtain ⟨eh34, fh34, wh34⟩ := y_rcv_ok h34
          cases eh34
          have hz := y_bind h
          clear h
          obtain ⟨⟨s29, r30⟩, h31, h⟩ := hz
          try dsimp only at h
          refine Vcv rfl rfl rfl wh34 rfl rfl ⟨(Nat.le_of_ble_eq_true rfl), (Nat.le_of_ble_eq_true rfl)⟩ rfl ((c_26 o n).1 _ (by omega) _ _ _ _ _ _ h31 _ rfl rfl) (fun z1 z2 zq => ?_)
          obtain ⟨rfl, rfl⟩ := zq
          try dsimp only [Option.toList, HAppend.hAppend, Append.append, List.append]
          have hz := y_bind h
          clear h
          obtain ⟨_, h38, h⟩ := hz
          have c37 := q_g_ok h38
          refine Uif (q_eq0 c37) rfl rfl rfl rfl rfl rfl rfl (fun c39 => ?_) (fun c39 => ?_)
          · rw [if_pos c39] at h
            refine Vic (v := Int32.ofInt 0) rfl rfl rfl ?_
            exact ih.2.2.1 _ hd _ _ _ _ _ _ _ h lv trivial
          · rw [if_neg c39] at h
            exact ih.2.1 _ hd _ _ _ _ _ _ _ h lv trivial
      rw [if_neg c40] at h
      by_cases c47 : i1 = 4
      · rw [if_pos c47] at h
        refine Vts (k := 4) (congrArg Int32.ofInt c47) rfl rfl rfl rfl rfl rfl rfl ?_
        refine Vin rfl lk2 rfl ?_
        have hz := y_bind h
        clear h
        obtain ⟨_, h42, h⟩ := hz
        have c41 := q_g_ok h42
        refine Uif (q_lt0 c41) rfl rfl rfl rfl rfl rfl rfl (fun c43 => ?_) (fun c43 => ?_)
        · rw [if_pos c43] at h
          exact ih.2.2.2.1 _ hd _ _ _ _ _ _ _ h lv trivial
        · rw [if_neg c43] at h
          refine Vin rfl lk2 rfl ?_
          refine Vbp (v := Int32.ofInt 8) rfl (by decide) rfl ?_
          have hz := y_bind h
          clear h
          obtain ⟨_, h45, h⟩ := hz
          have c44 := q_g_ok h45
          refine Uif (q_le (by decide) c44) rfl rfl rfl rfl rfl rfl rfl (fun c46 => ?_) (fun c46 => ?_)
          · rw [if_pos c46] at h
            exact ih.2.2.2.1 _ hd _ _ _ _ _ _ _ h lv trivial
          · rw [if_neg c46] at h
            refine Vic (v := Int32.ofInt 1) rfl rfl rfl ?_
            refine Ygo rfl rfl rfl rfl rfl rfl ?_
            exact ih.2.2.2.2.1 _ hd _ _ _ _ _ _ _ h lv trivial
      rw [if_neg c47] at h
      by_cases c54 : i1 = 5
      · rw [if_pos c54] at h
        refine Vts (k := 5) (congrArg Int32.ofInt c54) rfl rfl rfl rfl rfl rfl rfl ?_
        refine Vin rfl lk2 rfl ?_
        have hz := y_bind h
        clear h
        obtain ⟨_, h49, h⟩ := hz
        have c48 := q_g_ok h49
        refine Uif (q_lt0 c48) rfl rfl rfl rfl rfl rfl rfl (fun c50 => ?_) (fun c50 => ?_)
        · rw [if_pos c50] at h
          exact ih.2.2.2.2.2.2.2.1 _ hd _ _ _ _ _ _ _ h lv trivial
        · rw [if_neg c50] at h
          refine Vin rfl lk2 rfl ?_
          refine Vbp (v := Int32.ofInt 16) rfl (by decide) rfl ?_
          have hz := y_bind h
          clear h
          obtain ⟨_, h52, h⟩ := hz
          have c51 := q_g_ok h52
          refine Uif (q_le (by decide) c51) rfl rfl rfl rfl rfl rfl rfl (fun c53 => ?_) (fun c53 => ?_)
          · rw [if_pos c53] at h
            exact ih.2.2.2.2.2.2.2.1 _ hd _ _ _ _ _ _ _ h lv trivial
          · rw [if_neg c53] at h
            refine Vic (v := Int32.ofInt 1) rfl rfl rfl ?_
            refine Ygo rfl rfl rfl rfl rfl rfl ?_
            exact ih.2.2.2.2.2.2.2.2 _ hd _ _ _ _ _ _ _ h lv trivial
      rw [if_neg c54] at h
      by_cases c61 : i1 = 6
      · rw [if_pos c61] at h
        refine Vts (k := 6) (congrArg Int32.ofInt c61) rfl rfl rfl rfl rfl rfl rfl ?_
        refine Vin rfl lk2 rfl ?_
        have hz := y_bind h
        clear h
        obtain ⟨_, h56, h⟩ := hz
        have c55 := q_g_ok h56
        refine Uif (q_lt0 c55) rfl rfl rfl rfl rfl rfl rfl (fun c57 => ?_) (fun c57 => ?_)
        · rw [if_pos c57] at h
          exact ih.2.2.2.2.2.1 _ hd _ _ _ _ _ _ _ h lv trivial
        · rw [if_neg c57] at h
          refine Vin rfl lk2 rfl ?_
          refine Vbp (v := Int32.ofInt 8) rfl (by decide) rfl ?_
          have hz := y_bind h
          clear h
          obtain ⟨_, h59, h⟩ := hz
          have c58 := q_g_ok h59
          refine Uif (q_le (by decide) c58) rfl rfl rfl rfl rfl rfl rfl (fun c60 => ?_) (fun c60 => ?_)
          · rw [if_pos c60] at h
            exact ih.2.2.2.2.2.1 _ hd _ _ _ _ _ _ _ h lv trivial
          · rw [if_neg c60] at h
            refine Vic (v := Int32.ofInt 1) rfl rfl rfl ?_
            refine Ygo rfl rfl rfl rfl rfl rfl ?_
            exact ih.2.2.2.2.2.2.1 _ hd _ _ _ _ _ _ _ h lv trivial
      rw [if_neg c61] at h
      cases h
    · intro d hd s r0 i1 i2 ti0 s9 r h lv _
      obtain ⟨d, rfl⟩ : ∃ x, d = x + 1 := ⟨d - 1, by omega⟩
      simp only [g_23] at h
      refine Vic (v := Int32.ofInt 1) rfl rfl rfl ?_
      refine Ygo rfl rfl rfl rfl rfl rfl ?_
      exact ih.2.2.1 _ hd _ _ _ _ _ _ _ h lv trivial
    · intro d hd s r0 i1 i2 ti0 s9 r h lv _
      obtain ⟨d, rfl⟩ : ∃ x, d = x + 1 := ⟨d - 1, by omega⟩
      simp only [g_23] at h
      have hz := y_bind h
      clear h
      obtain ⟨_, h2, h⟩ := hz
      have c1 := q_g_ok h2
      cases h
      exact Yret rfl rfl rfl rfl rfl rfl (if_pos (q_bool c1)) ⟨rfl, rfl⟩
    · intro d hd s r0 i1 i2 ti0 s9 r h lv _
      obtain ⟨d, rfl⟩ : ∃ x, d = x + 1 := ⟨d - 1, by omega⟩
      simp only [g_23] at h
      refine Vic (v := Int32.ofInt 0) rfl rfl rfl ?_
      exact ih.2.2.2.2.1 _ hd _ _ _ _ _ _ _ h lv trivial
    · intro d hd s r0 i1 i2 ti0 s9 r h lv _
      obtain ⟨d, rfl⟩ : ∃ x, d = x + 1 := ⟨d - 1, by omega⟩
      simp only [g_23] at h
      have hz := y_bind h
      clear h
      obtain ⟨_, h2, h⟩ := hz
      have c1 := q_g_ok h2
      cases h
      exact Yret rfl rfl rfl rfl rfl rfl (if_pos (q_bool c1)) ⟨rfl, rfl⟩
    · intro d hd s r0 i1 i2 ti0 s9 r h lv _
      obtain ⟨d, rfl⟩ : ∃ x, d = x + 1 := ⟨d - 1, by omega⟩
      simp only [g_23] at h
      refine Vic (v := Int32.ofInt 0) rfl rfl rfl ?_
      exact ih.2.2.2.2.2.2.1 _ hd _ _ _ _ _ _ _ h lv trivial
    · intro d hd s r0 i1 i2 ti0 s9 r h lv _
      obtain ⟨d, rfl⟩ : ∃ x, d = x + 1 := ⟨d - 1, by omega⟩
      simp only [g_23] at h
      have hz := y_bind h
      clear h
      obtain ⟨_, h2, h⟩ := hz
      have c1 := q_g_ok h2
      cases h
      exact Yret rfl rfl rfl rfl rfl rfl (if_pos (q_bool c1)) ⟨rfl, rfl⟩
    · intro d hd s r0 i1 i2 ti0 s9 r h lv _
      obtain ⟨d, rfl⟩ : ∃ x, d = x + 1 := ⟨d - 1, by omega⟩
      simp only [g_23] at h
      refine Vic (v := Int32.ofInt 0) rfl rfl rfl ?_
      exact ih.2.2.2.2.2.2.2.2 _ hd _ _ _ _ _ _ _ h lv trivial
    · intro d hd s r0 i1 i2 ti0 s9 r h lv _
      obtain ⟨d, rfl⟩ : ∃ x, d = x + 1 := ⟨d - 1, by omega⟩
      simp only [g_23] at h
      have hz := y_bind h
      clear h
      obtain ⟨_, h2, h⟩ := hz
      have c1 := q_g_ok h2
      cases h
      exact Yret rfl rfl rfl rfl rfl rfl (if_pos (q_bool c1)) ⟨rfl, rfl⟩

/-- StepRows$Nodes.hasPlaces -/
def g_28 (o : X_O) : Nat → Nat → Q_S → Nat → Int → Int → Int → Option (Q_S × Int)
  | 0, _, _, _, _, _, _ => none
  | n + 1, 0, s, r0, i1, i2, ti0 => (q_gv s 1 (.ref r0) 0).bind fun v1 => (q_ia o s v1 i1).bind fun v3 => (q_rcv s 1 (.ref r0)).bind fun b9 => (g_22 o n 0 s b9 (v3) (i2) 0).bind fun q8 => (q_g (q_in q8.2)).bind fun _ => if ¬ q8.2 = 3 then (q_g (q_in q8.2)).bind fun _ => if q8.2 = 1 then g_28 o n 2 q8.1 0 0 0 0 else (q_g (q_in q8.2)).bind fun _ => if ¬ q8.2 = 2 then g_28 o n 3 q8.1 0 0 0 (0) else g_28 o n 2 q8.1 0 0 0 0 else (q_gv q8.1 1 (.ref r0) 1).bind fun v22 => (q_ia o q8.1 v22 ((i1 * 3) + i2)).bind fun v24 => (q_g (q_in v24)).bind fun _ => if v24 = (-1) then g_28 o n 1 q8.1 0 0 0 (0) else g_28 o n 1 q8.1 0 0 0 (1)
  | n + 1, 1, s, r0, i1, i2, ti0 => (q_g (ti0 = 0 ∨ ti0 = 1)).bind fun _ => some (s, ti0)
  | n + 1, 2, s, r0, i1, i2, ti0 => g_28 o n 3 s 0 0 0 (1)
  | n + 1, 3, s, r0, i1, i2, ti0 => (q_g (ti0 = 0 ∨ ti0 = 1)).bind fun _ => some (s, ti0)
  | _ + 1, _, _, _, _, _, _ => none
set_option maxRecDepth 100000 in
set_option maxHeartbeats 4000000 in
theorem c_28 (o : X_O) : ∀ n, (∀ (d : Nat) (hd : 1 ≤ d) (s : Q_S) (r0 : Nat) (i1 : Int) (i2 : Int) (ti0 : Int) (s9 : Q_S) (r : Int), g_28 o n 0 s r0 i1 i2 ti0 = some (s9, r) → ∀ lv : X_L, x_lget lv 0 = some (.ref r0) → x_lget lv 1 = some (.int (Int32.ofInt i1)) → x_lget lv 2 = some (.int (Int32.ofInt i2)) → Y o d 28 0 lv [] (q_y s) (fun s1 r1 => s1 = q_y s9 ∧ r1 = some (.int (Int32.ofInt r)))) ∧
    (∀ (d : Nat) (hd : 1 ≤ d) (s : Q_S) (r0 : Nat) (i1 : Int) (i2 : Int) (ti0 : Int) (s9 : Q_S) (r : Int), g_28 o n 1 s r0 i1 i2 ti0 = some (s9, r) → ∀ lv : X_L, True → Y o d 28 36 lv [.int (Int32.ofInt ti0)] (q_y s) (fun s1 r1 => s1 = q_y s9 ∧ r1 = some (.int (Int32.ofInt r)))) ∧
    (∀ (d : Nat) (hd : 1 ≤ d) (s : Q_S) (r0 : Nat) (i1 : Int) (i2 : Int) (ti0 : Int) (s9 : Q_S) (r : Int), g_28 o n 2 s r0 i1 i2 ti0 = some (s9, r) → ∀ lv : X_L, True → Y o d 28 47 lv [] (q_y s) (fun s1 r1 => s1 = q_y s9 ∧ r1 = some (.int (Int32.ofInt r)))) ∧
    (∀ (d : Nat) (hd : 1 ≤ d) (s : Q_S) (r0 : Nat) (i1 : Int) (i2 : Int) (ti0 : Int) (s9 : Q_S) (r : Int), g_28 o n 3 s r0 i1 i2 ti0 = some (s9, r) → ∀ lv : X_L, True → Y o d 28 52 lv [.int (Int32.ofInt ti0)] (q_y s) (fun s1 r1 => s1 = q_y s9 ∧ r1 = some (.int (Int32.ofInt r)))) := by
  intro n
  induction n with
  | zero => exact ⟨fun d hd s _ _ _ _ s9 r h => (by simp only [g_28] at h; cases h), fun d hd s _ _ _ _ s9 r h => (by simp only [g_28] at h; cases h), fun d hd s _ _ _ _ s9 r h => (by simp only [g_28] at h; cases h), fun d hd s _ _ _ _ s9 r h => (by simp only [g_28] at h; cases h)⟩
  | succ n ih =>
    refine ⟨?_, ?_, ?_, ?_⟩
    · intro d hd s r0 i1 i2 ti0 s9 r h lv lk0 lk1 lk2
      obtain ⟨d, rfl⟩ : ∃ x, d = x + 1 := ⟨d - 1, by omega⟩
      simp only [g_28] at h
      refine Van rfl lk0 rfl rfl ?_
      refine Van rfl lk0 rfl rfl ?_
      have hz := y_bind h
      clear h
      obtain ⟨v1, h2, h⟩ := hz
      have wv1 := (y_gv_ok h2).2
      refine Vgv h2 rfl rfl rfl ?_
      refine Vin rfl lk1 rfl ?_
      have hz := y_bind h
      clear h
      obtain ⟨v3, h4, h⟩ := hz
      refine Zia (q_ia_y h4) rfl rfl ?_
      refine Vin rfl lk2 rfl ?_
      have hz := y_bind h
      clear h
      obtain ⟨b9, h10, h⟩ := hz
      obtain ⟨eh10, fh10, wh10⟩ := y_rcv_ok h10
      cases eh10
      have hz := y_bind h
      clear h
      obtain ⟨⟨s5, r6⟩, h7, h⟩ := hz
      try dsimp only at h
      refine Vcv rfl rfl rfl wh10 rfl rfl ⟨(Nat.le_of_ble_eq_true rfl), (Nat.le_of_ble_eq_true rfl)⟩ rfl ((c_22 o n).1 _ (by omega) _ _ _ _ _ _ _ h7 _ rfl rfl rfl) (fun z1 z2 zq => ?_)
      obtain ⟨rfl, rfl⟩ := zq
      try dsimp only [Option.toList, HAppend.hAppend, Append.append, List.append]
      refine Vsin rfl rfl (fun lv lk3 hk => ?_)
      have lk0 := hk 0 _ lk0 (by decide) (by decide) (Or.inl (by decide))
      have lk1 := hk 1 _ lk1 (by decide) (by decide) (Or.inl (by decide))
      have lk2 := hk 2 _ lk2 (by decide) (by decide) (Or.inr rfl)
      refine Vin rfl lk3 rfl ?_
      refine Vic (v := Int32.ofInt 3) rfl rfl rfl ?_
      have hz := y_bind h
      clear h
      obtain ⟨_, h14, h⟩ := hz
      have c13 := q_g_ok h14
      refine Uif (not_congr (q_eq c13 (by decide))) rfl rfl rfl rfl rfl rfl rfl (fun c15 => ?_) (fun c15 => ?_)
      · rw [if_pos c15] at h
        refine Vin rfl lk3 rfl ?_
        refine Vic (v := Int32.ofInt 1) rfl rfl rfl ?_
        have hz := y_bind h
        clear h
        obtain ⟨_, h17, h⟩ := hz
        have c16 := q_g_ok h17
        refine Uif (q_eq c16 (by decide)) rfl rfl rfl rfl rfl rfl rfl (fun c18 => ?_) (fun c18 => ?_)
        · rw [if_pos c18] at h
          exact ih.2.2.1 _ hd _ _ _ _ _ _ _ h lv trivial
        · rw [if_neg c18] at h
          refine Vin rfl lk3 rfl ?_
          refine Vic (v := Int32.ofInt 2) rfl rfl rfl ?_
          have hz := y_bind h
          clear h
          obtain ⟨_, h20, h⟩ := hz
          have c19 := q_g_ok h20
          refine Uif (not_congr (q_eq c19 (by decide))) rfl rfl rfl rfl rfl rfl rfl (fun c21 => ?_) (fun c21 => ?_)
          · rw [if_pos c21] at h
            refine Vic (v := Int32.ofInt 0) rfl rfl rfl ?_
            exact ih.2.2.2 _ hd _ _ _ _ _ _ _ h lv trivial
          · rw [if_neg c21] at h
            exact ih.2.2.1 _ hd _ _ _ _ _ _ _ h lv trivial
      · rw [if_neg c15] at h
        refine Van rfl lk0 rfl rfl ?_
        have hz := y_bind h
        clear h
        obtain ⟨v22, h23, h⟩ := hz
        have wv22 := (y_gv_ok h23).2
        refine Vgv h23 rfl rfl rfl ?_
        refine Vin rfl lk1 rfl ?_
        refine Vic (v := Int32.ofInt 3) rfl rfl rfl ?_
        refine Umul rfl rfl ?_
        refine Vin rfl lk2 rfl ?_
        refine Uadd rfl rfl ?_
        have hz := y_bind h
        clear h
        obtain ⟨v24, h25, h⟩ := hz
        refine Zia (q_ia_y h25) rfl rfl ?_
        refine Vic (v := Int32.ofInt (-1)) rfl rfl rfl ?_
        have hz := y_bind h
        clear h
        obtain ⟨_, h27, h⟩ := hz
        have c26 := q_g_ok h27
        refine Uif (q_eq c26 (by decide)) rfl rfl rfl rfl rfl rfl rfl (fun c28 => ?_) (fun c28 => ?_)
        · rw [if_pos c28] at h
          refine Vic (v := Int32.ofInt 0) rfl rfl rfl ?_
          exact ih.2.1 _ hd _ _ _ _ _ _ _ h lv trivial
        · rw [if_neg c28] at h
          refine Vic (v := Int32.ofInt 1) rfl rfl rfl ?_
          refine Ygo rfl rfl rfl rfl rfl rfl ?_
          exact ih.2.1 _ hd _ _ _ _ _ _ _ h lv trivial
    · intro d hd s r0 i1 i2 ti0 s9 r h lv _
      obtain ⟨d, rfl⟩ : ∃ x, d = x + 1 := ⟨d - 1, by omega⟩
      simp only [g_28] at h
      have hz := y_bind h
      clear h
      obtain ⟨_, h2, h⟩ := hz
      have c1 := q_g_ok h2
      cases h
      exact Yret rfl rfl rfl rfl rfl rfl (if_pos (q_bool c1)) ⟨rfl, rfl⟩
    · intro d hd s r0 i1 i2 ti0 s9 r h lv _
      obtain ⟨d, rfl⟩ : ∃ x, d = x + 1 := ⟨d - 1, by omega⟩
      simp only [g_28] at h
      refine Vic (v := Int32.ofInt 1) rfl rfl rfl ?_
      refine Ygo rfl rfl rfl rfl rfl rfl ?_
      exact ih.2.2.2 _ hd _ _ _ _ _ _ _ h lv trivial
    · intro d hd s r0 i1 i2 ti0 s9 r h lv _
      obtain ⟨d, rfl⟩ : ∃ x, d = x + 1 := ⟨d - 1, by omega⟩
      simp only [g_28] at h
      have hz := y_bind h
      clear h
      obtain ⟨_, h2, h⟩ := hz
      have c1 := q_g_ok h2
      cases h
      exact Yret rfl rfl rfl rfl rfl rfl (if_pos (q_bool c1)) ⟨rfl, rfl⟩

/-- StepRows$Nodes.sizeWithParts -/
def g_27 (o : X_O) : Nat → Nat → Q_S → Nat → Int → Int → Int → Option (Q_S × Int)
  | 0, _, _, _, _, _, _ => none
  | n + 1, 0, s, r0, i1, i2, i3 => g_27 o n 1 s r0 (i1) (1) (0)
  | n + 1, 1, s, r0, i1, i2, i3 => (q_g (q_in i3)).bind fun _ => if 3 ≤ i3 then (q_g (q_in i2 ∧ q_in 501)).bind fun _ => some (s, (if 501 < i2 then 501 else i2)) else (q_rcv s 1 (.ref r0)).bind fun b10 => (g_28 o n 0 s b10 (i1) (i3) 0).bind fun q9 => (q_g (q_in q9.2)).bind fun _ => if q9.2 = 0 then g_27 o n 2 q9.1 r0 (i1) (i2) (i3) else (q_gv q9.1 1 (.ref r0) 3).bind fun v17 => (q_gv q9.1 1 (.ref r0) 1).bind fun v19 => (q_ia o q9.1 v19 ((i1 * 3) + i3)).bind fun v21 => (q_ia o q9.1 v17 v21).bind fun v23 => g_27 o n 2 q9.1 r0 (i1) ((i2 + v23)) (i3)
  | n + 1, 2, s, r0, i1, i2, i3 => g_27 o n 1 s r0 (i1) (i2) ((i3 + 1))
  | _ + 1, _, _, _, _, _, _ => none
set_option maxRecDepth 100000 in
set_option maxHeartbeats 4000000 in
theorem c_27 (o : X_O) : ∀ n, (∀ (d : Nat) (hd : 2 ≤ d) (s : Q_S) (r0 : Nat) (i1 : Int) (i2 : Int) (i3 : Int) (s9 : Q_S) (r : Int), g_27 o n 0 s r0 i1 i2 i3 = some (s9, r) → ∀ lv : X_L, x_lget lv 0 = some (.ref r0) → x_lget lv 1 = some (.int (Int32.ofInt i1)) → Y o d 27 0 lv [] (q_y s) (fun s1 r1 => s1 = q_y s9 ∧ r1 = some (.int (Int32.ofInt r)))) ∧
    (∀ (d : Nat) (hd : 2 ≤ d) (s : Q_S) (r0 : Nat) (i1 : Int) (i2 : Int) (i3 : Int) (s9 : Q_S) (r : Int), g_27 o n 1 s r0 i1 i2 i3 = some (s9, r) → ∀ lv : X_L, x_lget lv 0 = some (.ref r0) → x_lget lv 1 = some (.int (Int32.ofInt i1)) → x_lget lv 2 = some (.int (Int32.ofInt i2)) → x_lget lv 3 = some (.int (Int32.ofInt i3)) → Y o d 27 4 lv [] (q_y s) (fun s1 r1 => s1 = q_y s9 ∧ r1 = some (.int (Int32.ofInt r)))) ∧
    (∀ (d : Nat) (hd : 2 ≤ d) (s : Q_S) (r0 : Nat) (i1 : Int) (i2 : Int) (i3 : Int) (s9 : Q_S) (r : Int), g_27 o n 2 s r0 i1 i2 i3 = some (s9, r) → ∀ lv : X_L, x_lget lv 0 = some (.ref r0) → x_lget lv 1 = some (.int (Int32.ofInt i1)) → x_lget lv 2 = some (.int (Int32.ofInt i2)) → x_lget lv 3 = some (.int (Int32.ofInt i3)) → Y o d 27 36 lv [] (q_y s) (fun s1 r1 => s1 = q_y s9 ∧ r1 = some (.int (Int32.ofInt r)))) := by
  intro n
  induction n with
  | zero => exact ⟨fun d hd s _ _ _ _ s9 r h => (by simp only [g_27] at h; cases h), fun d hd s _ _ _ _ s9 r h => (by simp only [g_27] at h; cases h), fun d hd s _ _ _ _ s9 r h => (by simp only [g_27] at h; cases h)⟩
  | succ n ih =>
    refine ⟨?_, ?_, ?_⟩
    · intro d hd s r0 i1 i2 i3 s9 r h lv lk0 lk1
      obtain ⟨d, rfl⟩ : ∃ x, d = x + 1 := ⟨d - 1, by omega⟩
      simp only [g_27] at h
      refine Vic (v := Int32.ofInt 1) rfl rfl rfl ?_
      refine Vsin rfl rfl (fun lv lk2 hk => ?_)
      have lk0 := hk 0 _ lk0 (by decide) (by decide) (Or.inl (by decide))
      have lk1 := hk 1 _ lk1 (by decide) (by decide) (Or.inr rfl)
      refine Vic (v := Int32.ofInt 0) rfl rfl rfl ?_
      refine Vsin rfl rfl (fun lv lk3 hk => ?_)
      have lk0 := hk 0 _ lk0 (by decide) (by decide) (Or.inl (by decide))
      have lk1 := hk 1 _ lk1 (by decide) (by decide) (Or.inl (by decide))
      have lk2 := hk 2 _ lk2 (by decide) (by decide) (Or.inr rfl)
      exact ih.2.1 _ hd _ _ _ _ _ _ _ h lv lk0 lk1 lk2 lk3
    · intro d hd s r0 i1 i2 i3 s9 r h lv lk0 lk1 lk2 lk3
      obtain ⟨d, rfl⟩ : ∃ x, d = x + 1 := ⟨d - 1, by omega⟩
      simp only [g_27] at h
      refine Vin rfl lk3 rfl ?_
      refine Vic (v := Int32.ofInt 3) rfl rfl rfl ?_
      have hz := y_bind h
      clear h
      obtain ⟨_, h2, h⟩ := hz
      have c1 := q_g_ok h2
      refine Uif (q_le (by decide) c1) rfl rfl rfl rfl rfl rfl rfl (fun c3 => ?_) (fun c3 => ?_)
      · rw [if_pos c3] at h
        refine Vin rfl lk2 rfl ?_
        refine Vsp (v := Int32.ofInt 501) rfl (by decide) rfl ?_
        have hz := y_bind h
        clear h
        obtain ⟨_, h5, h⟩ := hz
        have c4 := q_g_ok h5
        refine Umin c4 rfl rfl (Nat.le_of_ble_eq_true rfl) rfl ?_
        cases h
        exact Yret rfl rfl rfl rfl rfl rfl rfl ⟨rfl, rfl⟩
      · rw [if_neg c3] at h
        refine Van rfl lk0 rfl rfl ?_
        refine Vin rfl lk1 rfl ?_
        refine Vin rfl lk3 rfl ?_
        have hz := y_bind h
        clear h
        obtain ⟨b10, h11, h⟩ := hz
        obtain ⟨eh11, fh11, wh11⟩ := y_rcv_ok h11
        cases eh11
        have hz := y_bind h
        clear h
        obtain ⟨⟨s6, r7⟩, h8, h⟩ := hz
        try dsimp only at h
        refine Vcv rfl rfl rfl wh11 rfl rfl ⟨(Nat.le_of_ble_eq_true rfl), (Nat.le_of_ble_eq_true rfl)⟩ rfl ((c_28 o n).1 _ (by omega) _ _ _ _ _ _ _ h8 _ rfl rfl rfl) (fun z1 z2 zq => ?_)
        obtain ⟨rfl, rfl⟩ := zq
        try dsimp only [Option.toList, HAppend.hAppend, Append.append, List.append]
        have hz := y_bind h
        clear h
        obtain ⟨_, h15, h⟩ := hz
        have c14 := q_g_ok h15
        refine Uif (q_eq0 c14) rfl rfl rfl rfl rfl rfl rfl (fun c16 => ?_) (fun c16 => ?_)
        · rw [if_pos c16] at h
          exact ih.2.2 _ hd _ _ _ _ _ _ _ h lv lk0 lk1 lk2 lk3
        · rw [if_neg c16] at h
          refine Vin rfl lk2 rfl ?_
          refine Van rfl lk0 rfl rfl ?_
          have hz := y_bind h
          clear h
          obtain ⟨v17, h18, h⟩ := hz
          have wv17 := (y_gv_ok h18).2
          refine Vgv h18 rfl rfl rfl ?_
          refine Van rfl lk0 rfl rfl ?_
          have hz := y_bind h
          clear h
          obtain ⟨v19, h20, h⟩ := hz
          have wv19 := (y_gv_ok h20).2
          refine Vgv h20 rfl rfl rfl ?_
          refine Vin rfl lk1 rfl ?_
          refine Vic (v := Int32.ofInt 3) rfl rfl rfl ?_
          refine Umul rfl rfl ?_
          refine Vin rfl lk3 rfl ?_
          refine Uadd rfl rfl ?_
          have hz := y_bind h
          clear h
          obtain ⟨v21, h22, h⟩ := hz
          refine Zia (q_ia_y h22) rfl rfl ?_
          have hz := y_bind h
          clear h
          obtain ⟨v23, h24, h⟩ := hz
          refine Zia (q_ia_y h24) rfl rfl ?_
          refine Uadd rfl rfl ?_
          refine Vsin rfl rfl (fun lv lk2 hk => ?_)
          have lk0 := hk 0 _ lk0 (by decide) (by decide) (Or.inl (by decide))
          have lk1 := hk 1 _ lk1 (by decide) (by decide) (Or.inr rfl)
          have lk3 := hk 3 _ lk3 (by decide) (by decide) (Or.inl (by decide))
          exact ih.2.2 _ hd _ _ _ _ _ _ _ h lv lk0 lk1 lk2 lk3
    · intro d hd s r0 i1 i2 i3 s9 r h lv lk0 lk1 lk2 lk3
      obtain ⟨d, rfl⟩ : ∃ x, d = x + 1 := ⟨d - 1, by omega⟩
      simp only [g_27] at h
      refine Uinc rfl lk3 rfl (fun lv lk3 hk => ?_)
      have lk0 := hk 0 _ lk0 (by decide) (by decide) (Or.inl (by decide))
      have lk1 := hk 1 _ lk1 (by decide) (by decide) (Or.inl (by decide))
      have lk2 := hk 2 _ lk2 (by decide) (by decide) (Or.inr rfl)
      refine Ygo rfl rfl rfl rfl rfl rfl ?_
      exact ih.2.1 _ hd _ _ _ _ _ _ _ h lv lk0 lk1 lk2 lk3

/-- StepRows$Nodes.addNode -/
def g_21 (o : X_O) : Nat → Nat → Q_S → Nat → Int → Int → Int → Int → Option (Q_S × Int)
  | 0, _, _, _, _, _, _, _ => none
  | n + 1, 0, s, r0, i1, i2, i3, i4 => (q_g (q_in i1)).bind fun _ => if i1 < 0 then g_21 o n 1 s 0 0 0 0 0 else (q_g (q_in i1)).bind fun _ => if 22 ≤ i1 then g_21 o n 1 s 0 0 0 0 0 else (q_rcv s 1 (.ref r0)).bind fun b11 => (g_22 o n 0 s b11 (i1) (0) 0).bind fun q10 => (q_g (q_in q10.2)).bind fun _ => if ¬ q10.2 = 0 then (q_rcv q10.1 1 (.ref r0)).bind fun b22 => (g_22 o n 0 q10.1 b22 (i1) (0) 0).bind fun q21 => (q_rcv q21.1 1 (.ref r0)).bind fun b30 => (g_23 o n 0 q21.1 b30 (q21.2) (i2) 0).bind fun q29 => (q_g (q_in q29.2)).bind fun _ => if q29.2 = 0 then g_21 o n 2 q29.1 0 0 0 0 0 else (q_rcv q29.1 1 (.ref r0)).bind fun b41 => (g_22 o n 0 q29.1 b41 (i1) (1) 0).bind fun q40 => (q_rcv q40.1 1 (.ref r0)).bind fun b49 => (g_23 o n 0 q40.1 b49 (q40.2) (i3) 0).bind fun q48 => (q_g (q_in q48.2)).bind fun _ => if q48.2 = 0 then g_21 o n 2 q48.1 0 0 0 0 0 else (q_rcv q48.1 1 (.ref r0)).bind fun b60 => (g_22 o n 0 q48.1 b60 (i1) (2) 0).bind fun q59 => (q_rcv q59.1 1 (.ref r0)).bind fun b68 => (g_23 o n 0 q59.1 b68 (q59.2) (i4) 0).bind fun q67 => (q_g (q_in q67.2)).bind fun _ => if ¬ q67.2 = 0 then (q_gi q67.1 1 (.ref r0) 4).bind fun v75 => (q_g (q_in v75)).bind fun _ => if v75 < 300 then (q_gv q67.1 1 (.ref r0) 0).bind fun v80 => (q_gi q67.1 1 (.ref r0) 4).bind fun v82 => (q_is q67.1 v80 v82 i1).bind fun s84 => (q_gv s84 1 (.ref r0) 1).bind fun v86 => (q_gi s84 1 (.ref r0) 4).bind fun v88 => (q_is s84 v86 (v88 * 3) i2).bind fun s90 => (q_gv s90 1 (.ref r0) 1).bind fun v92 => (q_gi s90 1 (.ref r0) 4).bind fun v94 => (q_is s90 v92 ((v94 * 3) + 1) i3).bind fun s96 => (q_gv s96 1 (.ref r0) 1).bind fun v98 => (q_gi s96 1 (.ref r0) 4).bind fun v100 => (q_is s96 v98 ((v100 * 3) + 2) i4).bind fun s102 => (q_gv s102 1 (.ref r0) 3).bind fun v104 => (q_gi s102 1 (.ref r0) 4).bind fun v106 => (q_gi s102 1 (.ref r0) 4).bind fun v108 => (q_rcv s102 1 (.ref r0)).bind fun b114 => (g_27 o n 0 s102 b114 (v108) 0 0).bind fun q113 => (q_is q113.1 v104 v106 q113.2).bind fun s118 => (q_gi s118 1 (.ref r0) 4).bind fun v120 => (q_pi s118 1 (.ref r0) 4 (v120 + 1)).bind fun s122 => (q_gi s122 1 (.ref r0) 4).bind fun v124 => some (s122, (v124 - 1)) else some (q67.1, (-2)) else g_21 o n 2 q67.1 0 0 0 0 0 else g_21 o n 1 q10.1 0 0 0 0 0
  | n + 1, 1, s, r0, i1, i2, i3, i4 => some (s, (-1))
  | n + 1, 2, s, r0, i1, i2, i3, i4 => some (s, (-1))
  | _ + 1, _, _, _, _, _, _, _ => none
set_option maxRecDepth 100000 in
set_option maxHeartbeats 4000000 in
theorem c_21 (o : X_O) : ∀ n, (∀ (d : Nat) (hd : 3 ≤ d) (s : Q_S) (r0 : Nat) (i1 : Int) (i2 : Int) (i3 : Int) (i4 : Int) (s9 : Q_S) (r : Int), g_21 o n 0 s r0 i1 i2 i3 i4 = some (s9, r) → ∀ lv : X_L, x_lget lv 0 = some (.ref r0) → x_lget lv 1 = some (.int (Int32.ofInt i1)) → x_lget lv 2 = some (.int (Int32.ofInt i2)) → x_lget lv 3 = some (.int (Int32.ofInt i3)) → x_lget lv 4 = some (.int (Int32.ofInt i4)) → Y o d 21 0 lv [] (q_y s) (fun s1 r1 => s1 = q_y s9 ∧ r1 = some (.int (Int32.ofInt r)))) ∧
    (∀ (d : Nat) (hd : 3 ≤ d) (s : Q_S) (r0 : Nat) (i1 : Int) (i2 : Int) (i3 : Int) (i4 : Int) (s9 : Q_S) (r : Int), g_21 o n 1 s r0 i1 i2 i3 i4 = some (s9, r) → ∀ lv : X_L, True → Y o d 21 19 lv [] (q_y s) (fun s1 r1 => s1 = q_y s9 ∧ r1 = some (.int (Int32.ofInt r)))) ∧
    (∀ (d : Nat) (hd : 3 ≤ d) (s : Q_S) (r0 : Nat) (i1 : Int) (i2 : Int) (i3 : Int) (i4 : Int) (s9 : Q_S) (r : Int), g_21 o n 2 s r0 i1 i2 i3 i4 = some (s9, r) → ∀ lv : X_L, True → Y o d 21 64 lv [] (q_y s) (fun s1 r1 => s1 = q_y s9 ∧ r1 = some (.int (Int32.ofInt r)))) := by
  intro n
  induction n with
  | zero => exact ⟨fun d hd s _ _ _ _ _ s9 r h => (by simp only [g_21] at h; cases h), fun d hd s _ _ _ _ _ s9 r h => (by simp only [g_21] at h; cases h), fun d hd s _ _ _ _ _ s9 r h => (by simp only [g_21] at h; cases h)⟩
  | succ n ih =>
    refine ⟨?_, ?_, ?_⟩
    · intro d hd s r0 i1 i2 i3 i4 s9 r h lv lk0 lk1 lk2 lk3 lk4
      obtain ⟨d, rfl⟩ : ∃ x, d = x + 1 := ⟨d - 1, by omega⟩
      simp only [g_21] at h
      refine Vin rfl lk1 rfl ?_
      have hz := y_bind h
      clear h
      obtain ⟨_, h2, h⟩ := hz
      have c1 := q_g_ok h2
      refine Uif (q_lt0 c1) rfl rfl rfl rfl rfl rfl rfl (fun c3 => ?_) (fun c3 => ?_)
      · rw [if_pos c3] at h
        exact ih.2.1 _ hd _ _ _ _ _ _ _ _ h lv trivial
      · rw [if_neg c3] at h
        refine Vin rfl lk1 rfl ?_
        refine Vbp (v := Int32.ofInt 22) rfl (by decide) rfl ?_
        have hz := y_bind h
        clear h
        obtain ⟨_, h5, h⟩ := hz
        have c4 := q_g_ok h5
        refine Uif (q_le (by decide) c4) rfl rfl rfl rfl rfl rfl rfl (fun c6 => ?_) (fun c6 => ?_)
        · rw [if_pos c6] at h
          exact ih.2.1 _ hd _ _ _ _ _ _ _ _ h lv trivial
        · rw [if_neg c6] at h
          refine Van rfl lk0 rfl rfl ?_
          refine Vin rfl lk1 rfl ?_
          refine Vic (v := Int32.ofInt 0) rfl rfl rfl ?_
          have hz := y_bind h
          clear h
          obtain ⟨b11, h12, h⟩ := hz
          obtain ⟨eh12, fh12, wh12⟩ := y_rcv_ok h12
          cases eh12
          have hz := y_bind h
          clear h
          obtain ⟨⟨s7, r8⟩, h9, h⟩ := hz
          try dsimp only at h
          refine Vcv rfl rfl rfl wh12 rfl rfl ⟨(Nat.le_of_ble_eq_true rfl), (Nat.le_of_ble_eq_true rfl)⟩ rfl ((c_22 o n).1 _ (by omega) _ _ _ _ _ _ _ h9 _ rfl rfl rfl) (fun z1 z2 zq => ?_)
          obtain ⟨rfl, rfl⟩ := zq
          try dsimp only [Option.toList, HAppend.hAppend, Append.append, List.append]
          have hz := y_bind h
          clear h
          obtain ⟨_, h16, h⟩ := hz
          have c15 := q_g_ok h16
          refine Uif (not_congr (q_eq0 c15)) rfl rfl rfl rfl rfl rfl rfl (fun c17 => ?_) (fun c17 => ?_)
          · rw [if_pos c17] at h
            refine Van rfl lk0 rfl rfl ?_
            refine Van rfl lk0 rfl rfl ?_
            refine Vin rfl lk1 rfl ?_
            refine Vic (v := Int32.ofInt 0) rfl rfl rfl ?_
            have hz := y_bind h
            clear h
            obtain ⟨b22, h23, h⟩ := hz
            obtain ⟨eh23, fh23, wh23⟩ := y_rcv_ok h23
            cases eh23
            have hz := y_bind h
            clear h
            obtain ⟨⟨s18, r19⟩, h20, h⟩ := hz
            try dsimp only at h
            refine Vcv rfl rfl rfl wh23 rfl rfl ⟨(Nat.le_of_ble_eq_true rfl), (Nat.le_of_ble_eq_true rfl)⟩ rfl ((c_22 o n).1 _ (by omega) _ _ _ _ _ _ _ h20 _ rfl rfl rfl) (fun z1 z2 zq => ?_)
            obtain ⟨rfl, rfl⟩ := zq
            try dsimp only [Option.toList, HAppend.hAppend, Append.append, List.append]
            refine Vin rfl lk2 rfl ?_
            have hz := y_bind h
            clear h
            obtain ⟨b30, h31, h⟩ := hz
            obtain ⟨eh31, fh31, wh31⟩ := y_rcv_ok h31
            cases eh31
            have hz := y_bind h
            clear h
            obtain ⟨⟨s26, r27⟩, h28, h⟩ := hz
            try dsimp only at h
            refine Vcv rfl rfl rfl wh31 rfl rfl ⟨(Nat.le_of_ble_eq_true rfl), (Nat.le_of_ble_eq_true rfl)⟩ rfl ((c_23 o n).1 _ (by omega) _ _ _ _ _ _ _ h28 _ rfl rfl rfl) (fun z1 z2 zq => ?_)
            obtain ⟨rfl, rfl⟩ := zq
            try dsimp only [Option.toList, HAppend.hAppend, Append.append, List.append]
            have hz := y_bind h
            clear h
            obtain ⟨_, h35, h⟩ := hz
            have c34 := q_g_ok h35
            refine Uif (q_eq0 c34) rfl rfl rfl rfl rfl rfl rfl (fun c36 => ?_) (fun c36 => ?_)
            · rw [if_pos c36] at h
              exact ih.2.2 _ hd _ _ _ _ _ _ _ _ h lv trivial
            · rw [if_neg c36] at h
              refine Van rfl lk0 rfl rfl ?_
              refine Van rfl lk0 rfl rfl ?_
              refine Vin rfl lk1 rfl ?_
              refine Vic (v := Int32.ofInt 1) rfl rfl rfl ?_
              have hz := y_bind h
              clear h
              obtain ⟨b41, h42, h⟩ := hz
              obtain ⟨eh42, fh42, wh42⟩ := y_rcv_ok h42
              cases eh42
              have hz := y_bind h
              clear h
              obtain ⟨⟨s37, r38⟩, h39, h⟩ := hz
              try dsimp only at h
              refine Vcv rfl rfl rfl wh42 rfl rfl ⟨(Nat.le_of_ble_eq_true rfl), (Nat.le_of_ble_eq_true rfl)⟩ rfl ((c_22 o n).1 _ (by omega) _ _ _ _ _ _ _ h39 _ rfl rfl rfl) (fun z1 z2 zq => ?_)
              obtain ⟨rfl, rfl⟩ := zq
              try dsimp only [Option.toList, HAppend.hAppend, Append.append, List.append]
              refine Vin rfl lk3 rfl ?_
              have hz := y_bind h
              clear h
              obtain ⟨b49, h50, h⟩ := hz
              obtain ⟨eh50, fh50, wh50⟩ := y_rcv_ok h50
              cases eh50
              have hz := y_bind h
              clear h
              obtain ⟨⟨s45, r46⟩, h47, h⟩ := hz
              try dsimp only at h
              refine Vcv rfl rfl rfl wh50 rfl rfl ⟨(Nat.le_of_ble_eq_true rfl), (Nat.le_of_ble_eq_true rfl)⟩ rfl ((c_23 o n).1 _ (by omega) _ _ _ _ _ _ _ h47 _ rfl rfl rfl) (fun z1 z2 zq => ?_)
              obtain ⟨rfl, rfl⟩ := zq
              try dsimp only [Option.toList, HAppend.hAppend, Append.append, List.append]
              have hz := y_bind h
              clear h
              obtain ⟨_, h54, h⟩ := hz
              have c53 := q_g_ok h54
              refine Uif (q_eq0 c53) rfl rfl rfl rfl rfl rfl rfl (fun c55 => ?_) (fun c55 => ?_)
              · rw [if_pos c55] at h
                exact ih.2.2 _ hd _ _ _ _ _ _ _ _ h lv trivial
              · rw [if_neg c55] at h
                refine Van rfl lk0 rfl rfl ?_
                refine Van rfl lk0 rfl rfl ?_
                refine Vin rfl lk1 rfl ?_
                refine Vic (v := Int32.ofInt 2) rfl rfl rfl ?_
                have hz := y_bind h
                clear h
                obtain ⟨b60, h61, h⟩ := hz
                obtain ⟨eh61, fh61, wh61⟩ := y_rcv_ok h61
                cases eh61
                have hz := y_bind h
                clear h
                obtain ⟨⟨s56, r57⟩, h58, h⟩ := hz
                try dsimp only at h
                refine Vcv rfl rfl rfl wh61 rfl rfl ⟨(Nat.le_of_ble_eq_true rfl), (Nat.le_of_ble_eq_true rfl)⟩ rfl ((c_22 o n).1 _ (by omega) _ _ _ _ _ _ _ h58 _ rfl rfl rfl) (fun z1 z2 zq => ?_)
                obtain ⟨rfl, rfl⟩ := zq
                try dsimp only [Option.toList, HAppend.hAppend, Append.append, List.append]
                refine Vi rfl lk4 rfl ?_
                have hz := y_bind h
                clear h
                obtain ⟨b68, h69, h⟩ := hz
                obtain ⟨eh69, fh69, wh69⟩ := y_rcv_ok h69
                cases eh69
                have hz := y_bind h
                clear h
                obtain ⟨⟨s64, r65⟩, h66, h⟩ := hz
                try dsimp only at h
                refine Vcv rfl rfl rfl wh69 rfl rfl ⟨(Nat.le_of_ble_eq_true rfl), (Nat.le_of_ble_eq_true rfl)⟩ rfl ((c_23 o n).1 _ (by omega) _ _ _ _ _ _ _ h66 _ rfl rfl rfl) (fun z1 z2 zq => ?_)
                obtain ⟨rfl, rfl⟩ := zq
                try dsimp only [Option.toList, HAppend.hAppend, Append.append, List.append]
                have hz := y_bind h
                clear h
                obtain ⟨_, h73, h⟩ := hz
                have c72 := q_g_ok h73
                refine Uif (not_congr (q_eq0 c72)) rfl rfl rfl rfl rfl rfl rfl (fun c74 => ?_) (fun c74 => ?_)
                · rw [if_pos c74] at h
                  refine Van rfl lk0 rfl rfl ?_
                  have hz := y_bind h
                  clear h
                  obtain ⟨v75, h76, h⟩ := hz
                  refine Zgi (q_gi_y h76) rfl rfl rfl ?_
                  refine Vsp (v := Int32.ofInt 300) rfl (by decide) rfl ?_
                  have hz := y_bind h
                  clear h
                  obtain ⟨_, h78, h⟩ := hz
                  have c77 := q_g_ok h78
                  refine Uif (q_lt c77 (by decide)) rfl rfl rfl rfl rfl rfl rfl (fun c79 => ?_) (fun c79 => ?_)
                  · rw [if_pos c79] at h
                    refine Van rfl lk0 rfl rfl ?_
                    have hz := y_bind h
                    clear h
                    obtain ⟨v80, h81, h⟩ := hz
                    have wv80 := (y_gv_ok h81).2
                    refine Vgv h81 rfl rfl rfl ?_
                    refine Van rfl lk0 rfl rfl ?_
                    have hz := y_bind h
                    clear h
                    obtain ⟨v82, h83, h⟩ := hz
                    refine Zgi (q_gi_y h83) rfl rfl rfl ?_
                    refine Vin rfl lk1 rfl ?_
                    have hz := y_bind h
                    clear h
                    obtain ⟨s84, h85, h⟩ := hz
                    refine Zis (q_is_y h85) rfl rfl ?_
                    refine Van rfl lk0 rfl rfl ?_
                    have hz := y_bind h
                    clear h
                    obtain ⟨v86, h87, h⟩ := hz
                    have wv86 := (y_gv_ok h87).2
                    refine Vgv h87 rfl rfl rfl ?_
                    refine Van rfl lk0 rfl rfl ?_
                    have hz := y_bind h
                    clear h
                    obtain ⟨v88, h89, h⟩ := hz
                    refine Zgi (q_gi_y h89) rfl rfl rfl ?_
                    refine Vic (v := Int32.ofInt 3) rfl rfl rfl ?_
                    refine Umul rfl rfl ?_
                    refine Vin rfl lk2 rfl ?_
                    have hz := y_bind h
                    clear h
                    obtain ⟨s90, h91, h⟩ := hz
                    refine Zis (q_is_y h91) rfl rfl ?_
                    refine Van rfl lk0 rfl rfl ?_
                    have hz := y_bind h
                    clear h
                    obtain ⟨v92, h93, h⟩ := hz
                    have wv92 := (y_gv_ok h93).2
                    refine Vgv h93 rfl rfl rfl ?_
                    refine Van rfl lk0 rfl rfl ?_
                    have hz := y_bind h
                    clear h
                    obtain ⟨v94, h95, h⟩ := hz
                    refine Zgi (q_gi_y h95) rfl rfl rfl ?_
                    refine Vic (v := Int32.ofInt 3) rfl rfl rfl ?_
                    refine Umul rfl rfl ?_
                    refine Vic (v := Int32.ofInt 1) rfl rfl rfl ?_
                    refine Uadd rfl rfl ?_
                    refine Vin rfl lk3 rfl ?_
                    have hz := y_bind h
                    clear h
                    obtain ⟨s96, h97, h⟩ := hz
                    refine Zis (q_is_y h97) rfl rfl ?_
                    refine Van rfl lk0 rfl rfl ?_
                    have hz := y_bind h
                    clear h
                    obtain ⟨v98, h99, h⟩ := hz
                    have wv98 := (y_gv_ok h99).2
                    refine Vgv h99 rfl rfl rfl ?_
                    refine Van rfl lk0 rfl rfl ?_
                    have hz := y_bind h
                    clear h
                    obtain ⟨v100, h101, h⟩ := hz
                    refine Zgi (q_gi_y h101) rfl rfl rfl ?_
                    refine Vic (v := Int32.ofInt 3) rfl rfl rfl ?_
                    refine Umul rfl rfl ?_
                    refine Vic (v := Int32.ofInt 2) rfl rfl rfl ?_
                    refine Uadd rfl rfl ?_
                    refine Vi rfl lk4 rfl ?_
                    have hz := y_bind h
                    clear h
                    obtain ⟨s102, h103, h⟩ := hz
                    refine Zis (q_is_y h103) rfl rfl ?_
                    refine Van rfl lk0 rfl rfl ?_
                    have hz := y_bind h
                    clear h
                    obtain ⟨v104, h105, h⟩ := hz
                    have wv104 := (y_gv_ok h105).2
                    refine Vgv h105 rfl rfl rfl ?_
                    refine Van rfl lk0 rfl rfl ?_
                    have hz := y_bind h
                    clear h
                    obtain ⟨v106, h107, h⟩ := hz
                    refine Zgi (q_gi_y h107) rfl rfl rfl ?_
                    refine Van rfl lk0 rfl rfl ?_
                    refine Van rfl lk0 rfl rfl ?_
                    have hz := y_bind h
                    clear h
                    obtain ⟨v108, h109, h⟩ := hz
                    refine Zgi (q_gi_y h109) rfl rfl rfl ?_
                    have hz := y_bind h
                    clear h
                    obtain ⟨b114, h115, h⟩ := hz
                    obtain ⟨eh115, fh115, wh115⟩ := y_rcv_ok h115
                    cases eh115
                    have hz := y_bind h
                    clear h
                    obtain ⟨⟨s110, r111⟩, h112, h⟩ := hz
                    try dsimp only at h
                    refine Vcv rfl rfl rfl wh115 rfl rfl ⟨(by simp only [List.take, List.reverse_cons, List.reverse_nil, List.nil_append, List.cons_append, List.map_cons, List.map_nil, y_cati, y_catl, y_catr, y_catn, y_cata, y_rv_cat wv104, List.sum_cons, List.sum_nil]; decide +kernel), (Nat.le_of_ble_eq_true rfl)⟩ rfl ((c_27 o n).1 _ (by omega) _ _ _ _ _ _ _ h112 _ rfl rfl) (fun z1 z2 zq => ?_)
                    obtain ⟨rfl, rfl⟩ := zq
                    try dsimp only [Option.toList, HAppend.hAppend, Append.append, List.append]
                    have hz := y_bind h
                    clear h
                    obtain ⟨s118, h119, h⟩ := hz
                    refine Zis (q_is_y h119) rfl rfl ?_
                    refine Van rfl lk0 rfl rfl ?_
                    refine Vdup rfl rfl rfl ?_
                    have hz := y_bind h
                    clear h
                    obtain ⟨v120, h121, h⟩ := hz
                    refine Zgi (q_gi_y h121) rfl rfl rfl ?_
                    refine Vic (v := Int32.ofInt 1) rfl rfl rfl ?_
                    refine Uadd rfl rfl ?_
                    have hz := y_bind h
                    clear h
                    obtain ⟨s122, h123, h⟩ := hz
                    refine Zpi (q_pi_y h123) rfl rfl rfl rfl ?_
                    refine Van rfl lk0 rfl rfl ?_
                    have hz := y_bind h
                    clear h
                    obtain ⟨v124, h125, h⟩ := hz
                    refine Zgi (q_gi_y h125) rfl rfl rfl ?_
                    refine Vic (v := Int32.ofInt 1) rfl rfl rfl ?_
                    refine Usub rfl rfl ?_
                    cases h
                    exact Yret rfl rfl rfl rfl rfl rfl rfl ⟨rfl, rfl⟩
                  · rw [if_neg c79] at h
                    refine Vbp (v := Int32.ofInt (-2)) rfl (by decide) rfl ?_
                    cases h
                    exact Yret rfl rfl rfl rfl rfl rfl rfl ⟨rfl, rfl⟩
                · rw [if_neg c74] at h
                  exact ih.2.2 _ hd _ _ _ _ _ _ _ _ h lv trivial
          · rw [if_neg c17] at h
            exact ih.2.1 _ hd _ _ _ _ _ _ _ _ h lv trivial
    · intro d hd s r0 i1 i2 i3 i4 s9 r h lv _
      obtain ⟨d, rfl⟩ : ∃ x, d = x + 1 := ⟨d - 1, by omega⟩
      simp only [g_21] at h
      refine Vic (v := Int32.ofInt (-1)) rfl rfl rfl ?_
      cases h
      exact Yret rfl rfl rfl rfl rfl rfl rfl ⟨rfl, rfl⟩
    · intro d hd s r0 i1 i2 i3 i4 s9 r h lv _
      obtain ⟨d, rfl⟩ : ∃ x, d = x + 1 := ⟨d - 1, by omega⟩
      simp only [g_21] at h
      refine Vic (v := Int32.ofInt (-1)) rfl rfl rfl ?_
      cases h
      exact Yret rfl rfl rfl rfl rfl rfl rfl ⟨rfl, rfl⟩

/-- StepRows.node -/
def g_2 (o : X_O) : Nat → Nat → Q_S → Nat → Int → Int → Int → Int → Option (Q_S × Int)
  | 0, _, _, _, _, _, _, _ => none
  | n + 1, 0, s, r0, i1, i2, i3, i4 => (q_gv s 0 (.ref r0) 0).bind fun v1 => (q_rcv s 1 v1).bind fun b7 => (g_21 o n 0 s b7 (i1) (i2) (i3) (i4)).bind fun q6 => some (q6.1, q6.2)
  | _ + 1, _, _, _, _, _, _, _ => none
set_option maxRecDepth 100000 in
set_option maxHeartbeats 4000000 in
theorem c_2 (o : X_O) : ∀ n, (∀ (d : Nat) (hd : 4 ≤ d) (s : Q_S) (r0 : Nat) (i1 : Int) (i2 : Int) (i3 : Int) (i4 : Int) (s9 : Q_S) (r : Int), g_2 o n 0 s r0 i1 i2 i3 i4 = some (s9, r) → ∀ lv : X_L, x_lget lv 0 = some (.ref r0) → x_lget lv 1 = some (.int (Int32.ofInt i1)) → x_lget lv 2 = some (.int (Int32.ofInt i2)) → x_lget lv 3 = some (.int (Int32.ofInt i3)) → x_lget lv 4 = some (.int (Int32.ofInt i4)) → Y o d 2 0 lv [] (q_y s) (fun s1 r1 => s1 = q_y s9 ∧ r1 = some (.int (Int32.ofInt r)))) := by
  intro n
  induction n with
  | zero => exact fun d hd s _ _ _ _ _ s9 r h => (by simp only [g_2] at h; cases h)
  | succ n ih =>
    intro d hd s r0 i1 i2 i3 i4 s9 r h lv lk0 lk1 lk2 lk3 lk4
    obtain ⟨d, rfl⟩ : ∃ x, d = x + 1 := ⟨d - 1, by omega⟩
    simp only [g_2] at h
    refine Van rfl lk0 rfl rfl ?_
    have hz := y_bind h
    clear h
    obtain ⟨v1, h2, h⟩ := hz
    have wv1 := (y_gv_ok h2).2
    refine Vgv h2 rfl rfl rfl ?_
    refine Vin rfl lk1 rfl ?_
    refine Vin rfl lk2 rfl ?_
    refine Vin rfl lk3 rfl ?_
    refine Vi rfl lk4 rfl ?_
    have hz := y_bind h
    clear h
    obtain ⟨b7, h8, h⟩ := hz
    obtain ⟨eh8, fh8, wh8⟩ := y_rcv_ok h8
    cases eh8
    have hz := y_bind h
    clear h
    obtain ⟨⟨s3, r4⟩, h5, h⟩ := hz
    try dsimp only at h
    refine Vcv rfl rfl rfl wh8 rfl rfl ⟨(Nat.le_of_ble_eq_true rfl), (Nat.le_of_ble_eq_true rfl)⟩ rfl ((c_21 o n).1 _ (by omega) _ _ _ _ _ _ _ _ h5 _ rfl rfl rfl rfl rfl) (fun z1 z2 zq => ?_)
    obtain ⟨rfl, rfl⟩ := zq
    try dsimp only [Option.toList, HAppend.hAppend, Append.append, List.append]
    cases h
    exact Yret rfl rfl rfl rfl rfl rfl rfl ⟨rfl, rfl⟩

/-- StepRows$Layout.push -/
def g_32 (o : X_O) : Nat → Nat → Q_S → Nat → Int → Int → Option (Q_S × Unit)
  | 0, _, _, _, _, _ => none
  | n + 1, 0, s, r0, i1, i2 => (q_gi s 2 (.ref r0) 5).bind fun v1 => (q_g (q_in v1)).bind fun _ => if 500 ≤ v1 then g_32 o n 1 s 0 0 0 else (q_gv s 2 (.ref r0) 2).bind fun v6 => (q_gi s 2 (.ref r0) 5).bind fun v8 => (q_is s v6 v8 i1).bind fun s10 => (q_gv s10 2 (.ref r0) 3).bind fun v12 => (q_gi s10 2 (.ref r0) 5).bind fun v14 => (q_is s10 v12 v14 i2).bind fun s16 => (q_gi s16 2 (.ref r0) 5).bind fun v18 => (q_pi s16 2 (.ref r0) 5 (v18 + 1)).bind fun s20 => g_32 o n 1 s20 0 0 0
  | n + 1, 1, s, r0, i1, i2 => some (s, ())
  | _ + 1, _, _, _, _, _ => none
set_option maxRecDepth 100000 in
set_option maxHeartbeats 4000000 in
theorem c_32 (o : X_O) : ∀ n, (∀ (d : Nat) (hd : 0 ≤ d) (s : Q_S) (r0 : Nat) (i1 : Int) (i2 : Int) (s9 : Q_S) (r : Unit), g_32 o n 0 s r0 i1 i2 = some (s9, r) → ∀ lv : X_L, x_lget lv 0 = some (.ref r0) → x_lget lv 1 = some (.int (Int32.ofInt i1)) → x_lget lv 2 = some (.int (Int32.ofInt i2)) → Y o d 32 0 lv [] (q_y s) (fun s1 r1 => s1 = q_y s9 ∧ r1 = none)) ∧
    (∀ (d : Nat) (hd : 0 ≤ d) (s : Q_S) (r0 : Nat) (i1 : Int) (i2 : Int) (s9 : Q_S) (r : Unit), g_32 o n 1 s r0 i1 i2 = some (s9, r) → ∀ lv : X_L, True → Y o d 32 40 lv [] (q_y s) (fun s1 r1 => s1 = q_y s9 ∧ r1 = none)) := by
  intro n
  induction n with
  | zero => exact ⟨fun d hd s _ _ _ s9 r h => (by simp only [g_32] at h; cases h), fun d hd s _ _ _ s9 r h => (by simp only [g_32] at h; cases h)⟩
  | succ n ih =>
    refine ⟨?_, ?_⟩
    · intro d hd s r0 i1 i2 s9 r h lv lk0 lk1 lk2
      simp only [g_32] at h
      refine Van rfl lk0 rfl rfl ?_
      have hz := y_bind h
      clear h
      obtain ⟨v1, h2, h⟩ := hz
      refine Zgi (q_gi_y h2) rfl rfl rfl ?_
      refine Vsp (v := Int32.ofInt 500) rfl (by decide) rfl ?_
      have hz := y_bind h
      clear h
      obtain ⟨_, h4, h⟩ := hz
      have c3 := q_g_ok h4
      refine Uif (q_le (by decide) c3) rfl rfl rfl rfl rfl rfl rfl (fun c5 => ?_) (fun c5 => ?_)
      · rw [if_pos c5] at h
        exact ih.2 _ hd _ _ _ _ _ _ h lv trivial
      · rw [if_neg c5] at h
        refine Van rfl lk0 rfl rfl ?_
        have hz := y_bind h
        clear h
        obtain ⟨v6, h7, h⟩ := hz
        have wv6 := (y_gv_ok h7).2
        refine Vgv h7 rfl rfl rfl ?_
        refine Van rfl lk0 rfl rfl ?_
        have hz := y_bind h
        clear h
        obtain ⟨v8, h9, h⟩ := hz
        refine Zgi (q_gi_y h9) rfl rfl rfl ?_
        refine Vin rfl lk1 rfl ?_
        have hz := y_bind h
        clear h
        obtain ⟨s10, h11, h⟩ := hz
        refine Zis (q_is_y h11) rfl rfl ?_
        refine Van rfl lk0 rfl rfl ?_
        have hz := y_bind h
        clear h
        obtain ⟨v12, h13, h⟩ := hz
        have wv12 := (y_gv_ok h13).2
        refine Vgv h13 rfl rfl rfl ?_
        refine Van rfl lk0 rfl rfl ?_
        have hz := y_bind h
        clear h
        obtain ⟨v14, h15, h⟩ := hz
        refine Zgi (q_gi_y h15) rfl rfl rfl ?_
        refine Vin rfl lk2 rfl ?_
        have hz := y_bind h
        clear h
        obtain ⟨s16, h17, h⟩ := hz
        refine Zis (q_is_y h17) rfl rfl ?_
        refine Van rfl lk0 rfl rfl ?_
        refine Vdup rfl rfl rfl ?_
        have hz := y_bind h
        clear h
        obtain ⟨v18, h19, h⟩ := hz
        refine Zgi (q_gi_y h19) rfl rfl rfl ?_
        refine Vic (v := Int32.ofInt 1) rfl rfl rfl ?_
        refine Uadd rfl rfl ?_
        have hz := y_bind h
        clear h
        obtain ⟨s20, h21, h⟩ := hz
        refine Zpi (q_pi_y h21) rfl rfl rfl rfl ?_
        exact ih.2 _ hd _ _ _ _ _ _ h lv trivial
    · intro d hd s r0 i1 i2 s9 r h lv _
      simp only [g_32] at h
      cases h
      exact Yret rfl rfl rfl rfl rfl rfl rfl ⟨rfl, rfl⟩

/-- StepRows$Nodes.numberOf -/
def g_29 (o : X_O) : Nat → Nat → Q_S → Nat → Int → Int64 → Option (Q_S × Int64)
  | 0, _, _, _, _, _ => none
  | n + 1, 0, s, r0, i1, tl0 => (q_gv s 1 (.ref r0) 0).bind fun v1 => (q_ia o s v1 i1).bind fun v3 => (q_g (q_in v3)).bind fun _ => if v3 < 10 ∨ 20 < v3 then (q_gv s 1 (.ref r0) 2).bind fun v7 => (q_la s v7 i1).bind fun v9 => some (s, v9) else if v3 = 10 then (q_gv s 1 (.ref r0) 1).bind fun v12 => (q_ia o s v12 (i1 * 3)).bind fun v14 => (q_g (q_in v14)).bind fun _ => some (s, (Int64.ofInt v14)) else if v3 = 11 then (q_gv s 1 (.ref r0) 1).bind fun v19 => (q_ia o s v19 (i1 * 3)).bind fun v21 => (q_g (q_in v21)).bind fun _ => some (s, (Int64.ofInt v21)) else if v3 = 12 then (q_gv s 1 (.ref r0) 2).bind fun v26 => (q_la s v26 i1).bind fun v28 => some (s, v28) else if v3 = 13 then (q_gv s 1 (.ref r0) 1).bind fun v31 => (q_ia o s v31 (i1 * 3)).bind fun v33 => (q_g (q_in v33)).bind fun _ => some (s, (Int64.ofInt v33)) else if v3 = 14 then (q_gv s 1 (.ref r0) 2).bind fun v38 => (q_la s v38 i1).bind fun v40 => some (s, v40) else if v3 = 15 then (q_rcv s 1 (.ref r0)).bind fun b47 => (g_28 o n 0 s b47 (i1) (2) 0).bind fun q46 => (q_g (q_in q46.2)).bind fun _ => if q46.2 = 0 then g_29 o n 1 q46.1 0 0 (0) else g_29 o n 1 q46.1 0 0 (1) else if v3 = 16 then (q_gv s 1 (.ref r0) 2).bind fun v55 => (q_la s v55 i1).bind fun v57 => some (s, v57) else if v3 = 17 then (q_gv s 1 (.ref r0) 2).bind fun v60 => (q_la s v60 i1).bind fun v62 => some (s, v62) else if v3 = 18 then (q_gv s 1 (.ref r0) 2).bind fun v65 => (q_la s v65 i1).bind fun v67 => some (s, v67) else if v3 = 19 then (q_gv s 1 (.ref r0) 1).bind fun v70 => (q_ia o s v70 (i1 * 3)).bind fun v72 => (q_g (q_in v72)).bind fun _ => some (s, (Int64.ofInt v72)) else if v3 = 20 then (q_gv s 1 (.ref r0) 1).bind fun v77 => (q_ia o s v77 (i1 * 3)).bind fun v79 => (q_g (q_in v79)).bind fun _ => some (s, (Int64.ofInt v79)) else none
  | n + 1, 1, s, r0, i1, tl0 => some (s, tl0)
  | _ + 1, _, _, _, _, _ => none
set_option maxRecDepth 100000 in
set_option maxHeartbeats 4000000 in
theorem c_29 (o : X_O) : ∀ n, (∀ (d : Nat) (hd : 2 ≤ d) (s : Q_S) (r0 : Nat) (i1 : Int) (tl0 : Int64) (s9 : Q_S) (r : Int64), g_29 o n 0 s r0 i1 tl0 = some (s9, r) → ∀ lv : X_L, x_lget lv 0 = some (.ref r0) → x_lget lv 1 = some (.int (Int32.ofInt i1)) → Y o d 29 0 lv [] (q_y s) (fun s1 r1 => s1 = q_y s9 ∧ r1 = some (.long r))) ∧
    (∀ (d : Nat) (hd : 2 ≤ d) (s : Q_S) (r0 : Nat) (i1 : Int) (tl0 : Int64) (s9 : Q_S) (r : Int64), g_29 o n 1 s r0 i1 tl0 = some (s9, r) → ∀ lv : X_L, True → Y o d 29 88 lv [.long tl0] (q_y s) (fun s1 r1 => s1 = q_y s9 ∧ r1 = some (.long r))) := by
  intro n
  induction n with
  | zero => exact ⟨fun d hd s _ _ _ s9 r h => (by simp only [g_29] at h; cases h), fun d hd s _ _ _ s9 r h => (by simp only [g_29] at h; cases h)⟩
  | succ n ih =>
    refine ⟨?_, ?_⟩
    · intro d hd s r0 i1 tl0 s9 r h lv lk0 lk1
      obtain ⟨d, rfl⟩ : ∃ x, d = x + 1 := ⟨d - 1, by omega⟩
      simp only [g_29] at h
      refine Van rfl lk0 rfl rfl ?_
      have hz := y_bind h
      clear h
      obtain ⟨v1, h2, h⟩ := hz
      have wv1 := (y_gv_ok h2).2
      refine Vgv h2 rfl rfl rfl ?_
      refine Vin rfl lk1 rfl ?_
      have hz := y_bind h
      clear h
      obtain ⟨v3, h4, h⟩ := hz
      refine Zia (q_ia_y h4) rfl rfl ?_
      have hz := y_bind h
      clear h
      obtain ⟨_, h6, h⟩ := hz
      have c5 := q_g_ok h6
      by_cases c11 : v3 < 10 ∨ 20 < v3
      · rw [if_pos c11] at h
        refine Ysw rfl rfl rfl rfl rfl (if_pos (by rw [q_ti c5]; exact c11)) rfl ?_
        refine Van rfl lk0 rfl rfl ?_
        have hz := y_bind h
        clear h
        obtain ⟨v7, h8, h⟩ := hz
        have wv7 := (y_gv_ok h8).2
        refine Vgv h8 rfl rfl rfl ?_
        refine Vin rfl lk1 rfl ?_
        have hz := y_bind h
        clear h
        obtain ⟨v9, h10, h⟩ := hz
        refine Zla (q_la_y h10) rfl rfl ?_
        cases h
        exact Yret rfl rfl rfl rfl rfl rfl rfl ⟨rfl, rfl⟩
      rw [if_neg c11] at h
      by_cases c18 : v3 = 10
      · rw [if_pos c18] at h
        refine Vts (k := 10) (congrArg Int32.ofInt c18) rfl rfl rfl rfl rfl rfl rfl ?_
        refine Van rfl lk0 rfl rfl ?_
        have hz := y_bind h
        clear h
        obtain ⟨v12, h13, h⟩ := hz
        have wv12 := (y_gv_ok h13).2
        refine Vgv h13 rfl rfl rfl ?_
        refine Vin rfl lk1 rfl ?_
        refine Vic (v := Int32.ofInt 3) rfl rfl rfl ?_
        refine Umul rfl rfl ?_
        have hz := y_bind h
        clear h
        obtain ⟨v14, h15, h⟩ := hz
        refine Zia (q_ia_y h15) rfl rfl ?_
        have hz := y_bind h
        clear h
        obtain ⟨_, h17, h⟩ := hz
        have c16 := q_g_ok h17
        refine Ui2l c16 rfl rfl ?_
        cases h
        exact Yret rfl rfl rfl rfl rfl rfl rfl ⟨rfl, rfl⟩
      rw [if_neg c18] at h
      by_cases c25 : v3 = 11
      · rw [if_pos c25] at h
        refine Vts (k := 11) (congrArg Int32.ofInt c25) rfl rfl rfl rfl rfl rfl rfl ?_
        refine Van rfl lk0 rfl rfl ?_
        have hz := y_bind h
        clear h
        obtain ⟨v19, h20, h⟩ := hz
        have wv19 := (y_gv_ok h20).2
        refine Vgv h20 rfl rfl rfl ?_
        refine Vin rfl lk1 rfl ?_
        refine Vic (v := Int32.ofInt 3) rfl rfl rfl ?_
        refine Umul rfl rfl ?_
        have hz := y_bind h
        clear h
        obtain ⟨v21, h22, h⟩ := hz
        refine Zia (q_ia_y h22) rfl rfl ?_
        have hz := y_bind h
        clear h
        obtain ⟨_, h24, h⟩ := hz
        have c23 := q_g_ok h24
        refine Ui2l c23 rfl rfl ?_
        cases h
        exact Yret rfl rfl rfl rfl rfl rfl rfl ⟨rfl, rfl⟩
      rw [if_neg c25] at h
      by_cases c30 : v3 = 12
      · rw [if_pos c30] at h
        refine Vts (k := 12) (congrArg Int32.ofInt c30) rfl rfl rfl rfl rfl rfl rfl ?_
        refine Van rfl lk0 rfl rfl ?_
        have hz := y_bind h
        clear h
        obtain ⟨v26, h27, h⟩ := hz
        have wv26 := (y_gv_ok h27).2
        refine Vgv h27 rfl rfl rfl ?_
        refine Vin rfl lk1 rfl ?_
        have hz := y_bind h
        clear h
        obtain ⟨v28, h29, h⟩ := hz
        refine Zla (q_la_y h29) rfl rfl ?_
        cases h
        exact Yret rfl rfl rfl rfl rfl rfl rfl ⟨rfl, rfl⟩
      rw [if_neg c30] at h
      by_cases c37 : v3 = 13
      · rw [if_pos c37] at h
        refine Vts (k := 13) (congrArg Int32.ofInt c37) rfl rfl rfl rfl rfl rfl rfl ?_
        refine Van rfl lk0 rfl rfl ?_
        have hz := y_bind h
        clear h
        obtain ⟨v31, h32, h⟩ := hz
        have wv31 := (y_gv_ok h32).2
        refine Vgv h32 rfl rfl rfl ?_
        refine Vin rfl lk1 rfl ?_
        refine Vic (v := Int32.ofInt 3) rfl rfl rfl ?_
        refine Umul rfl rfl ?_
        have hz := y_bind h
        clear h
        obtain ⟨v33, h34, h⟩ := hz
        refine Zia (q_ia_y h34) rfl rfl ?_
        have hz := y_bind h
        clear h
        obtain ⟨_, h36, h⟩ := hz
        have c35 := q_g_ok h36
        refine Ui2l c35 rfl rfl ?_
        cases h
        exact Yret rfl rfl rfl rfl rfl rfl rfl ⟨rfl, rfl⟩
      rw [if_neg c37] at h
      by_cases c42 : v3 = 14
      · rw [if_pos c42] at h
        refine Vts (k := 14) (congrArg Int32.ofInt c42) rfl rfl rfl rfl rfl rfl rfl ?_
        refine Van rfl lk0 rfl rfl ?_
        have hz := y_bind h
        clear h
        obtain ⟨v38, h39, h⟩ := hz
        have wv38 := (y_gv_ok h39).2
        refine Vgv h39 rfl rfl rfl ?_
        refine Vin rfl lk1 rfl ?_
        have hz := y_bind h
        clear h
        obtain ⟨v40, h41, h⟩ := hz
        refine Zla (q_la_y h41) rfl rfl ?_
        cases h
        exact Yret rfl rfl rfl rfl rfl rfl rfl ⟨rfl, rfl⟩
      rw [if_neg c42] at h
      by_cases c54 : v3 = 15
      · rw [if_pos c54] at h
        refine Vts (k := 15) (congrArg Int32.ofInt c54) rfl rfl rfl rfl rfl rfl rfl ?_
        refine Van rfl lk0 rfl rfl ?_
        refine Vin rfl lk1 rfl ?_
        refine Vic (v := Int32.ofInt 2) rfl rfl rfl ?_
        have hz := y_bind h
        clear h
        obtain ⟨b47, h48, h⟩ := hz
        obtain ⟨eh48, fh48, wh48⟩ := y_rcv_ok h48
        cases eh48
        have hz := y_bind h
        clear h
        obtain ⟨⟨s43, r44⟩, h45, h⟩ := hz
        try dsimp only at h
        refine Vcv rfl rfl rfl wh48 rfl rfl ⟨(Nat.le_of_ble_eq_true rfl), (Nat.le_of_ble_eq_true rfl)⟩ rfl ((c_28 o n).1 _ (by omega) _ _ _ _ _ _ _ h45 _ rfl rfl rfl) (fun z1 z2 zq => ?_)
        obtain ⟨rfl, rfl⟩ := zq
        try dsimp only [Option.toList, HAppend.hAppend, Append.append, List.append]
        have hz := y_bind h
        clear h
        obtain ⟨_, h52, h⟩ := hz
        have c51 := q_g_ok h52
        refine Uif (q_eq0 c51) rfl rfl rfl rfl rfl rfl rfl (fun c53 => ?_) (fun c53 => ?_)
        · rw [if_pos c53] at h
          refine Vlc (v := 0) rfl (by decide) rfl ?_
          exact ih.2 _ hd _ _ _ _ _ _ h lv trivial
        · rw [if_neg c53] at h
          refine Vlc (v := 1) rfl (by decide) rfl ?_
          refine Ygo rfl rfl rfl rfl rfl rfl ?_
          exact ih.2 _ hd _ _ _ _ _ _ h lv trivial
      rw [if_neg c54] at h
      by_cases c59 : v3 = 16
      · rw [if_pos c59] at h
        refine Vts (k := 16) (congrArg Int32.ofInt c59) rfl rfl rfl rfl rfl rfl rfl ?_
        refine Van rfl lk0 rfl rfl ?_
        have hz := y_bind h
        clear h
        obtain ⟨v55, h56, h⟩ := hz
        have wv55 := (y_gv_ok h56).2
        refine Vgv h56 rfl rfl rfl ?_
        refine Vin rfl lk1 rfl ?_
        have hz := y_bind h
        clear h
        obtain ⟨v57, h58, h⟩ := hz
        refine Zla (q_la_y h58) rfl rfl ?_
        cases h
        exact Yret rfl rfl rfl rfl rfl rfl rfl ⟨rfl, rfl⟩
      rw [if_neg c59] at h
      by_cases c64 : v3 = 17
      · rw [if_pos c64] at h
        refine Vts (k := 17) (congrArg Int32.ofInt c64) rfl rfl rfl rfl rfl rfl rfl ?_
        refine Van rfl lk0 rfl rfl ?_
        have hz := y_bind h
        clear h
        obtain ⟨v60, h61, h⟩ := hz
        have wv60 := (y_gv_ok h61).2
        refine Vgv h61 rfl rfl rfl ?_
        refine Vin rfl lk1 rfl ?_
        have hz := y_bind h
        clear h
        obtain ⟨v62, h63, h⟩ := hz
        refine Zla (q_la_y h63) rfl rfl ?_
        cases h
        exact Yret rfl rfl rfl rfl rfl rfl rfl ⟨rfl, rfl⟩
      rw [if_neg c64] at h
      by_cases c69 : v3 = 18
      · rw [if_pos c69] at h
        refine Vts (k := 18) (congrArg Int32.ofInt c69) rfl rfl rfl rfl rfl rfl rfl ?_
        refine Van rfl lk0 rfl rfl ?_
        have hz := y_bind h
        clear h
        obtain ⟨v65, h66, h⟩ := hz
        have wv65 := (y_gv_ok h66).2
        refine Vgv h66 rfl rfl rfl ?_
        refine Vin rfl lk1 rfl ?_
        have hz := y_bind h
        clear h
        obtain ⟨v67, h68, h⟩ := hz
        refine Zla (q_la_y h68) rfl rfl ?_
        cases h
        exact Yret rfl rfl rfl rfl rfl rfl rfl ⟨rfl, rfl⟩
      rw [if_neg c69] at h
      by_cases c76 : v3 = 19
      · rw [if_pos c76] at h
        refine Vts (k := 19) (congrArg Int32.ofInt c76) rfl rfl rfl rfl rfl rfl rfl ?_
        refine Van rfl lk0 rfl rfl ?_
        have hz := y_bind h
        clear h
        obtain ⟨v70, h71, h⟩ := hz
        have wv70 := (y_gv_ok h71).2
        refine Vgv h71 rfl rfl rfl ?_
        refine Vin rfl lk1 rfl ?_
        refine Vic (v := Int32.ofInt 3) rfl rfl rfl ?_
        refine Umul rfl rfl ?_
        have hz := y_bind h
        clear h
        obtain ⟨v72, h73, h⟩ := hz
        refine Zia (q_ia_y h73) rfl rfl ?_
        have hz := y_bind h
        clear h
        obtain ⟨_, h75, h⟩ := hz
        have c74 := q_g_ok h75
        refine Ui2l c74 rfl rfl ?_
        cases h
        exact Yret rfl rfl rfl rfl rfl rfl rfl ⟨rfl, rfl⟩
      rw [if_neg c76] at h
      by_cases c83 : v3 = 20
      · rw [if_pos c83] at h
        refine Vts (k := 20) (congrArg Int32.ofInt c83) rfl rfl rfl rfl rfl rfl rfl ?_
        refine Van rfl lk0 rfl rfl ?_
        have hz := y_bind h
        clear h
        obtain ⟨v77, h78, h⟩ := hz
        have wv77 := (y_gv_ok h78).2
        refine Vgv h78 rfl rfl rfl ?_
        refine Vin rfl lk1 rfl ?_
        refine Vic (v := Int32.ofInt 3) rfl rfl rfl ?_
        refine Umul rfl rfl ?_
        have hz := y_bind h
        clear h
        obtain ⟨v79, h80, h⟩ := hz
        refine Zia (q_ia_y h80) rfl rfl ?_
        have hz := y_bind h
        clear h
        obtain ⟨_, h82, h⟩ := hz
        have c81 := q_g_ok h82
        refine Ui2l c81 rfl rfl ?_
        cases h
        exact Yret rfl rfl rfl rfl rfl rfl rfl ⟨rfl, rfl⟩
      rw [if_neg c83] at h
      cases h
    · intro d hd s r0 i1 tl0 s9 r h lv _
      obtain ⟨d, rfl⟩ : ∃ x, d = x + 1 := ⟨d - 1, by omega⟩
      simp only [g_29] at h
      cases h
      exact Yret rfl rfl rfl rfl rfl rfl rfl ⟨rfl, rfl⟩

/-- StepRows$Layout.layPlace -/
def g_33 (o : X_O) : Nat → Nat → Q_S → Nat → Int → Int → Int → Value → Int → Int → Option (Q_S × Unit)
  | 0, _, _, _, _, _, _, _, _, _ => none
  | n + 1, 0, s, r0, i1, i2, i4, ta0, ti1, ti2 => (q_gv s 2 (.ref r0) 1).bind fun v1 => (q_gi s 3 v1 7).bind fun v3 => (q_gv s 2 (.ref r0) 1).bind fun v5 => (q_gv s 3 v5 0).bind fun v7 => (q_gv s 2 (.ref r0) 0).bind fun v9 => (q_gv s 1 v9 0).bind fun v11 => (q_ia o s v11 i1).bind fun v13 => (q_is s v7 v3 v13).bind fun s15 => (q_gv s15 2 (.ref r0) 1).bind fun v17 => (q_gv s15 3 v17 1).bind fun v19 => (q_gv s15 2 (.ref r0) 0).bind fun v21 => (q_rcv s15 1 v21).bind fun b27 => (g_29 o n 0 s15 b27 (i1) 0).bind fun q26 => (q_ls q26.1 v19 v3 q26.2).bind fun s31 => (q_gv s31 2 (.ref r0) 1).bind fun v33 => (q_gv s31 3 v33 2).bind fun v35 => (q_gv s31 2 (.ref r0) 0).bind fun v37 => (q_gv s31 1 v37 3).bind fun v39 => (q_ia o s31 v39 i1).bind fun v41 => (q_is s31 v35 v3 v41).bind fun s43 => (q_gv s43 2 (.ref r0) 1).bind fun v45 => (q_gv s43 3 v45 4).bind fun v47 => (q_gv s43 2 (.ref r0) 0).bind fun v49 => (q_gv s43 1 v49 3).bind fun v51 => (q_ia o s43 v51 i1).bind fun v53 => (q_is s43 v47 v3 (((v3 + v53) - 1) - i2)).bind fun s55 => (q_gv s55 2 (.ref r0) 1).bind fun v57 => (q_gv s55 3 v57 5).bind fun v59 => (q_gv s55 2 (.ref r0) 1).bind fun v61 => (q_gv s55 3 v61 4).bind fun v63 => (q_ia o s55 v63 v3).bind fun v65 => (q_is s55 v59 v65 v3).bind fun s67 => (q_gv s67 2 (.ref r0) 4).bind fun v69 => (q_g (q_in v3)).bind fun _ => if ¬ v3 = 0 then g_33 o n 1 s67 r0 (i1) (i2) 0 (v69) (v3) (0) else g_33 o n 1 s67 r0 (i1) (i2) 0 (v69) (v3) (1)
  | n + 1, 1, s, r0, i1, i2, i4, ta0, ti1, ti2 => (q_bs s ta0 ti1 ti2).bind fun s1 => (q_gv s1 2 (.ref r0) 1).bind fun v3 => (q_gi s1 3 v3 7).bind fun v5 => (q_pi s1 3 v3 7 (v5 + 1)).bind fun s7 => g_33 o n 2 s7 r0 (i1) (i2) (2) .null 0 0
  | n + 1, 2, s, r0, i1, i2, i4, ta0, ti1, ti2 => (q_g (q_in i4)).bind fun _ => if i4 < 0 then some (s, ()) else (q_gv s 2 (.ref r0) 0).bind fun v4 => (q_rcv s 1 v4).bind fun b10 => (g_28 o n 0 s b10 (i1) (i4) 0).bind fun q9 => (q_g (q_in q9.2)).bind fun _ => if q9.2 = 0 then g_33 o n 3 q9.1 r0 (i1) (i2) (i4) .null 0 0 else (q_gv q9.1 2 (.ref r0) 0).bind fun v17 => (q_gv q9.1 1 v17 1).bind fun v19 => (q_ia o q9.1 v19 ((i1 * 3) + i4)).bind fun v21 => (q_rcv q9.1 2 (.ref r0)).bind fun b27 => (g_32 o n 0 q9.1 b27 (v21) ((i2 + 1))).bind fun q26 => g_33 o n 3 q26.1 r0 (i1) (i2) (i4) .null 0 0
  | n + 1, 3, s, r0, i1, i2, i4, ta0, ti1, ti2 => g_33 o n 2 s r0 (i1) (i2) ((i4 + (-1))) .null 0 0
  | _ + 1, _, _, _, _, _, _, _, _, _ => none
set_option maxRecDepth 100000 in
set_option maxHeartbeats 4000000 in
theorem c_33 (o : X_O) : ∀ n, (∀ (d : Nat) (hd : 3 ≤ d) (s : Q_S) (r0 : Nat) (i1 : Int) (i2 : Int) (i4 : Int) (ta0 : Value) (ti1 : Int) (ti2 : Int) (s9 : Q_S) (r : Unit), g_33 o n 0 s r0 i1 i2 i4 ta0 ti1 ti2 = some (s9, r) → ∀ lv : X_L, x_lget lv 0 = some (.ref r0) → x_lget lv 1 = some (.int (Int32.ofInt i1)) → x_lget lv 2 = some (.int (Int32.ofInt i2)) → Y o d 33 0 lv [] (q_y s) (fun s1 r1 => s1 = q_y s9 ∧ r1 = none)) ∧
    (∀ (d : Nat) (hd : 3 ≤ d) (s : Q_S) (r0 : Nat) (i1 : Int) (i2 : Int) (i4 : Int) (ta0 : Value) (ti1 : Int) (ti2 : Int) (s9 : Q_S) (r : Unit), g_33 o n 1 s r0 i1 i2 i4 ta0 ti1 ti2 = some (s9, r) → ∀ lv : X_L, x_lget lv 0 = some (.ref r0) → x_lget lv 1 = some (.int (Int32.ofInt i1)) → x_lget lv 2 = some (.int (Int32.ofInt i2)) → y_rv ta0 = true → Y o d 33 117 lv [.int (Int32.ofInt ti2), .int (Int32.ofInt ti1), ta0] (q_y s) (fun s1 r1 => s1 = q_y s9 ∧ r1 = none)) ∧
    (∀ (d : Nat) (hd : 3 ≤ d) (s : Q_S) (r0 : Nat) (i1 : Int) (i2 : Int) (i4 : Int) (ta0 : Value) (ti1 : Int) (ti2 : Int) (s9 : Q_S) (r : Unit), g_33 o n 2 s r0 i1 i2 i4 ta0 ti1 ti2 = some (s9, r) → ∀ lv : X_L, x_lget lv 0 = some (.ref r0) → x_lget lv 1 = some (.int (Int32.ofInt i1)) → x_lget lv 2 = some (.int (Int32.ofInt i2)) → x_lget lv 4 = some (.int (Int32.ofInt i4)) → Y o d 33 134 lv [] (q_y s) (fun s1 r1 => s1 = q_y s9 ∧ r1 = none)) ∧
    (∀ (d : Nat) (hd : 3 ≤ d) (s : Q_S) (r0 : Nat) (i1 : Int) (i2 : Int) (i4 : Int) (ta0 : Value) (ti1 : Int) (ti2 : Int) (s9 : Q_S) (r : Unit), g_33 o n 3 s r0 i1 i2 i4 ta0 ti1 ti2 = some (s9, r) → ∀ lv : X_L, x_lget lv 0 = some (.ref r0) → x_lget lv 1 = some (.int (Int32.ofInt i1)) → x_lget lv 2 = some (.int (Int32.ofInt i2)) → x_lget lv 4 = some (.int (Int32.ofInt i4)) → Y o d 33 173 lv [] (q_y s) (fun s1 r1 => s1 = q_y s9 ∧ r1 = none)) := by
  intro n
  induction n with
  | zero => exact ⟨fun d hd s _ _ _ _ _ _ _ s9 r h => (by simp only [g_33] at h; cases h), fun d hd s _ _ _ _ _ _ _ s9 r h => (by simp only [g_33] at h; cases h), fun d hd s _ _ _ _ _ _ _ s9 r h => (by simp only [g_33] at h; cases h), fun d hd s _ _ _ _ _ _ _ s9 r h => (by simp only [g_33] at h; cases h)⟩
  | succ n ih =>
    refine ⟨?_, ?_, ?_, ?_⟩
    · intro d hd s r0 i1 i2 i4 ta0 ti1 ti2 s9 r h lv lk0 lk1 lk2
      obtain ⟨d, rfl⟩ : ∃ x, d = x + 1 := ⟨d - 1, by omega⟩
      simp only [g_33] at h
      refine Van rfl lk0 rfl rfl ?_
      have hz := y_bind h
      clear h
      obtain ⟨v1, h2, h⟩ := hz
      have wv1 := (y_gv_ok h2).2
      refine Vgv h2 rfl rfl rfl ?_
      have hz := y_bind h
      clear h
      obtain ⟨v3, h4, h⟩ := hz
      refine Zgi (q_gi_y h4) rfl rfl rfl ?_
      refine Vsin rfl rfl (fun lv lk3 hk => ?_)
      have lk0 := hk 0 _ lk0 (by decide) (by decide) (Or.inl (by decide))
      have lk1 := hk 1 _ lk1 (by decide) (by decide) (Or.inl (by decide))
      have lk2 := hk 2 _ lk2 (by decide) (by decide) (Or.inr rfl)
      refine Van rfl lk0 rfl rfl ?_
      have hz := y_bind h
      clear h
      obtain ⟨v5, h6, h⟩ := hz
      have wv5 := (y_gv_ok h6).2
      refine Vgv h6 rfl rfl rfl ?_
      have hz := y_bind h
      clear h
      obtain ⟨v7, h8, h⟩ := hz
      have wv7 := (y_gv_ok h8).2
      refine Vgv h8 rfl rfl rfl ?_
      refine Vin rfl lk3 rfl ?_
      refine Van rfl lk0 rfl rfl ?_
      have hz := y_bind h
      clear h
      obtain ⟨v9, h10, h⟩ := hz
      have wv9 := (y_gv_ok h10).2
      refine Vgv h10 rfl rfl rfl ?_
      have hz := y_bind h
      clear h
      obtain ⟨v11, h12, h⟩ := hz
      have wv11 := (y_gv_ok h12).2
      refine Vgv h12 rfl rfl rfl ?_
      refine Vin rfl lk1 rfl ?_
      have hz := y_bind h
      clear h
      obtain ⟨v13, h14, h⟩ := hz
      refine Zia (q_ia_y h14) rfl rfl ?_
      have hz := y_bind h
      clear h
      obtain ⟨s15, h16, h⟩ := hz
      refine Zis (q_is_y h16) rfl rfl ?_
      refine Van rfl lk0 rfl rfl ?_
      have hz := y_bind h
      clear h
      obtain ⟨v17, h18, h⟩ := hz
      have wv17 := (y_gv_ok h18).2
      refine Vgv h18 rfl rfl rfl ?_
      have hz := y_bind h
      clear h
      obtain ⟨v19, h20, h⟩ := hz
      have wv19 := (y_gv_ok h20).2
      refine Vgv h20 rfl rfl rfl ?_
      refine Vin rfl lk3 rfl ?_
      refine Van rfl lk0 rfl rfl ?_
      have hz := y_bind h
      clear h
      obtain ⟨v21, h22, h⟩ := hz
      have wv21 := (y_gv_ok h22).2
      refine Vgv h22 rfl rfl rfl ?_
      refine Vin rfl lk1 rfl ?_
      have hz := y_bind h
      clear h
      obtain ⟨b27, h28, h⟩ := hz
      obtain ⟨eh28, fh28, wh28⟩ := y_rcv_ok h28
      cases eh28
      have hz := y_bind h
      clear h
      obtain ⟨⟨s23, r24⟩, h25, h⟩ := hz
      try dsimp only at h
      refine Vcv rfl rfl rfl wh28 rfl rfl ⟨(by simp only [List.take, List.reverse_cons, List.reverse_nil, List.nil_append, List.cons_append, List.map_cons, List.map_nil, y_cati, y_catl, y_catr, y_catn, y_cata, y_rv_cat wv19, List.sum_cons, List.sum_nil]; decide +kernel), (Nat.le_of_ble_eq_true rfl)⟩ rfl ((c_29 o n).1 _ (by omega) _ _ _ _ _ _ h25 _ rfl rfl) (fun z1 z2 zq => ?_)
      obtain ⟨rfl, rfl⟩ := zq
      try dsimp only [Option.toList, HAppend.hAppend, Append.append, List.append]
      have hz := y_bind h
      clear h
      obtain ⟨s31, h32, h⟩ := hz
      refine Zls (q_ls_y h32) rfl rfl ?_
      refine Van rfl lk0 rfl rfl ?_
      have hz := y_bind h
      clear h
      obtain ⟨v33, h34, h⟩ := hz
      have wv33 := (y_gv_ok h34).2
      refine Vgv h34 rfl rfl rfl ?_
      have hz := y_bind h
      clear h
      obtain ⟨v35, h36, h⟩ := hz
      have wv35 := (y_gv_ok h36).2
      refine Vgv h36 rfl rfl rfl ?_
      refine Vin rfl lk3 rfl ?_
      refine Van rfl lk0 rfl rfl ?_
      have hz := y_bind h
      clear h
      obtain ⟨v37, h38, h⟩ := hz
      have wv37 := (y_gv_ok h38).2
      refine Vgv h38 rfl rfl rfl ?_
      have hz := y_bind h
      clear h
      obtain ⟨v39, h40, h⟩ := hz
      have wv39 := (y_gv_ok h40).2
      refine Vgv h40 rfl rfl rfl ?_
      refine Vin rfl lk1 rfl ?_
      have hz := y_bind h
      clear h
      obtain ⟨v41, h42, h⟩ := hz
      refine Zia (q_ia_y h42) rfl rfl ?_
      have hz := y_bind h
      clear h
      obtain ⟨s43, h44, h⟩ := hz
      refine Zis (q_is_y h44) rfl rfl ?_
      refine Van rfl lk0 rfl rfl ?_
      have hz := y_bind h
      clear h
      obtain ⟨v45, h46, h⟩ := hz
      have wv45 := (y_gv_ok h46).2
      refine Vgv h46 rfl rfl rfl ?_
      have hz := y_bind h
      clear h
      obtain ⟨v47, h48, h⟩ := hz
      have wv47 := (y_gv_ok h48).2
      refine Vgv h48 rfl rfl rfl ?_
      refine Vin rfl lk3 rfl ?_
      refine Vin rfl lk3 rfl ?_
      refine Van rfl lk0 rfl rfl ?_
      have hz := y_bind h
      clear h
      obtain ⟨v49, h50, h⟩ := hz
      have wv49 := (y_gv_ok h50).2
      refine Vgv h50 rfl rfl rfl ?_
      have hz := y_bind h
      clear h
      obtain ⟨v51, h52, h⟩ := hz
      have wv51 := (y_gv_ok h52).2
      refine Vgv h52 rfl rfl rfl ?_
      refine Vin rfl lk1 rfl ?_
      have hz := y_bind h
      clear h
      obtain ⟨v53, h54, h⟩ := hz
      refine Zia (q_ia_y h54) rfl rfl ?_
      refine Uadd rfl rfl ?_
      refine Vic (v := Int32.ofInt 1) rfl rfl rfl ?_
      refine Usub rfl rfl ?_
      refine Vin rfl lk2 rfl ?_
      refine Usub rfl rfl ?_
      have hz := y_bind h
      clear h
      obtain ⟨s55, h56, h⟩ := hz
      refine Zis (q_is_y h56) rfl rfl ?_
      refine Van rfl lk0 rfl rfl ?_
      have hz := y_bind h
      clear h
      obtain ⟨v57, h58, h⟩ := hz
      have wv57 := (y_gv_ok h58).2
      refine Vgv h58 rfl rfl rfl ?_
      have hz := y_bind h
      clear h
      obtain ⟨v59, h60, h⟩ := hz
      have wv59 := (y_gv_ok h60).2
      refine Vgv h60 rfl rfl rfl ?_
      refine Van rfl lk0 rfl rfl ?_
      have hz := y_bind h
      clear h
      obtain ⟨v61, h62, h⟩ := hz
      have wv61 := (y_gv_ok h62).2
      refine Vgv h62 rfl rfl rfl ?_
      have hz := y_bind h
      clear h
      obtain ⟨v63, h64, h⟩ := hz
      have wv63 := (y_gv_ok h64).2
      refine Vgv h64 rfl rfl rfl ?_
      refine Vin rfl lk3 rfl ?_
      have hz := y_bind h
      clear h
      obtain ⟨v65, h66, h⟩ := hz
      refine Zia (q_ia_y h66) rfl rfl ?_
      refine Vin rfl lk3 rfl ?_
      have hz := y_bind h
      clear h
      obtain ⟨s67, h68, h⟩ := hz
      refine Zis (q_is_y h68) rfl rfl ?_
      refine Van rfl lk0 rfl rfl ?_
      have hz := y_bind h
      clear h
      obtain ⟨v69, h70, h⟩ := hz
      have wv69 := (y_gv_ok h70).2
      refine Vgv h70 rfl rfl rfl ?_
      refine Vin rfl lk3 rfl ?_
      refine Vin rfl lk3 rfl ?_
      have hz := y_bind h
      clear h
      obtain ⟨_, h72, h⟩ := hz
      have c71 := q_g_ok h72
      refine Uif (not_congr (q_eq0 c71)) rfl rfl rfl rfl rfl rfl rfl (fun c73 => ?_) (fun c73 => ?_)
      · rw [if_pos c73] at h
        refine Vic (v := Int32.ofInt 0) rfl rfl rfl ?_
        exact ih.2.1 _ hd _ _ _ _ _ _ _ _ _ _ h lv lk0 lk1 lk2 wv69
      · rw [if_neg c73] at h
        refine Vic (v := Int32.ofInt 1) rfl rfl rfl ?_
        refine Ygo rfl rfl rfl rfl rfl rfl ?_
        exact ih.2.1 _ hd _ _ _ _ _ _ _ _ _ _ h lv lk0 lk1 lk2 wv69
    · intro d hd s r0 i1 i2 i4 ta0 ti1 ti2 s9 r h lv lk0 lk1 lk2 rs0
      obtain ⟨d, rfl⟩ : ∃ x, d = x + 1 := ⟨d - 1, by omega⟩
      simp only [g_33] at h
      have hz := y_bind h
      clear h
      obtain ⟨s1, h2, h⟩ := hz
      refine Zbs (q_bs_y h2) rfl rfl ?_
      refine Van rfl lk0 rfl rfl ?_
      have hz := y_bind h
      clear h
      obtain ⟨v3, h4, h⟩ := hz
      have wv3 := (y_gv_ok h4).2
      refine Vgv h4 rfl rfl rfl ?_
      refine Vdup rfl (y_rv_cat wv3) rfl ?_
      have hz := y_bind h
      clear h
      obtain ⟨v5, h6, h⟩ := hz
      refine Zgi (q_gi_y h6) rfl rfl rfl ?_
      refine Vic (v := Int32.ofInt 1) rfl rfl rfl ?_
      refine Uadd rfl rfl ?_
      have hz := y_bind h
      clear h
      obtain ⟨s7, h8, h⟩ := hz
      refine Zpi (q_pi_y h8) rfl rfl rfl rfl ?_
      refine Vic (v := Int32.ofInt 2) rfl rfl rfl ?_
      refine Vsi rfl rfl (fun lv lk4 hk => ?_)
      have lk0 := hk 0 _ lk0 (by decide) (by decide) (Or.inl (by decide))
      have lk1 := hk 1 _ lk1 (by decide) (by decide) (Or.inl (by decide))
      have lk2 := hk 2 _ lk2 (by decide) (by decide) (Or.inl (by decide))
      exact ih.2.2.1 _ hd _ _ _ _ _ _ _ _ _ _ h lv lk0 lk1 lk2 lk4
    · intro d hd s r0 i1 i2 i4 ta0 ti1 ti2 s9 r h lv lk0 lk1 lk2 lk4
      obtain ⟨d, rfl⟩ : ∃ x, d = x + 1 := ⟨d - 1, by omega⟩
      simp only [g_33] at h
      refine Vi rfl lk4 rfl ?_
      have hz := y_bind h
      clear h
      obtain ⟨_, h2, h⟩ := hz
      have c1 := q_g_ok h2
      refine Uif (q_lt0 c1) rfl rfl rfl rfl rfl rfl rfl (fun c3 => ?_) (fun c3 => ?_)
      · rw [if_pos c3] at h
        cases h
        exact Yret rfl rfl rfl rfl rfl rfl rfl ⟨rfl, rfl⟩
      · rw [if_neg c3] at h
        refine Van rfl lk0 rfl rfl ?_
        have hz := y_bind h
        clear h
        obtain ⟨v4, h5, h⟩ := hz
        have wv4 := (y_gv_ok h5).2
        refine Vgv h5 rfl rfl rfl ?_
        refine Vin rfl lk1 rfl ?_
        refine Vi rfl lk4 rfl ?_
        have hz := y_bind h
        clear h
        obtain ⟨b10, h11, h⟩ := hz
        obtain ⟨eh11, fh11, wh11⟩ := y_rcv_ok h11
        cases eh11
        have hz := y_bind h
        clear h
        obtain ⟨⟨s6, r7⟩, h8, h⟩ := hz
        try dsimp only at h
        refine Vcv rfl rfl rfl wh11 rfl rfl ⟨(Nat.le_of_ble_eq_true rfl), (Nat.le_of_ble_eq_true rfl)⟩ rfl ((c_28 o n).1 _ (by omega) _ _ _ _ _ _ _ h8 _ rfl rfl rfl) (fun z1 z2 zq => ?_)
        obtain ⟨rfl, rfl⟩ := zq
        try dsimp only [Option.toList, HAppend.hAppend, Append.append, List.append]
        have hz := y_bind h
        clear h
        obtain ⟨_, h15, h⟩ := hz
        have c14 := q_g_ok h15
        refine Uif (q_eq0 c14) rfl rfl rfl rfl rfl rfl rfl (fun c16 => ?_) (fun c16 => ?_)
        · rw [if_pos c16] at h
          exact ih.2.2.2 _ hd _ _ _ _ _ _ _ _ _ _ h lv lk0 lk1 lk2 lk4
        · rw [if_neg c16] at h
          refine Van rfl lk0 rfl rfl ?_
          refine Van rfl lk0 rfl rfl ?_
          have hz := y_bind h
          clear h
          obtain ⟨v17, h18, h⟩ := hz
          have wv17 := (y_gv_ok h18).2
          refine Vgv h18 rfl rfl rfl ?_
          have hz := y_bind h
          clear h
          obtain ⟨v19, h20, h⟩ := hz
          have wv19 := (y_gv_ok h20).2
          refine Vgv h20 rfl rfl rfl ?_
          refine Vin rfl lk1 rfl ?_
          refine Vic (v := Int32.ofInt 3) rfl rfl rfl ?_
          refine Umul rfl rfl ?_
          refine Vi rfl lk4 rfl ?_
          refine Uadd rfl rfl ?_
          have hz := y_bind h
          clear h
          obtain ⟨v21, h22, h⟩ := hz
          refine Zia (q_ia_y h22) rfl rfl ?_
          refine Vin rfl lk2 rfl ?_
          refine Vic (v := Int32.ofInt 1) rfl rfl rfl ?_
          refine Uadd rfl rfl ?_
          have hz := y_bind h
          clear h
          obtain ⟨b27, h28, h⟩ := hz
          obtain ⟨eh28, fh28, wh28⟩ := y_rcv_ok h28
          cases eh28
          have hz := y_bind h
          clear h
          obtain ⟨⟨s23, r24⟩, h25, h⟩ := hz
          try dsimp only at h
          refine Vcv rfl rfl rfl wh28 rfl rfl ⟨(Nat.le_of_ble_eq_true rfl), (Nat.le_of_ble_eq_true rfl)⟩ rfl ((c_32 o n).1 _ (by omega) _ _ _ _ _ _ h25 _ rfl rfl rfl) (fun z1 z2 zq => ?_)
          obtain ⟨rfl, rfl⟩ := zq
          try dsimp only [Option.toList, HAppend.hAppend, Append.append, List.append]
          exact ih.2.2.2 _ hd _ _ _ _ _ _ _ _ _ _ h lv lk0 lk1 lk2 lk4
    · intro d hd s r0 i1 i2 i4 ta0 ti1 ti2 s9 r h lv lk0 lk1 lk2 lk4
      obtain ⟨d, rfl⟩ : ∃ x, d = x + 1 := ⟨d - 1, by omega⟩
      simp only [g_33] at h
      refine Uinc rfl lk4 rfl (fun lv lk4 hk => ?_)
      have lk0 := hk 0 _ lk0 (by decide) (by decide) (Or.inl (by decide))
      have lk1 := hk 1 _ lk1 (by decide) (by decide) (Or.inl (by decide))
      have lk2 := hk 2 _ lk2 (by decide) (by decide) (Or.inl (by decide))
      refine Ygo rfl rfl rfl rfl rfl rfl ?_
      exact ih.2.2.1 _ hd _ _ _ _ _ _ _ _ _ _ h lv lk0 lk1 lk2 lk4

/-- StepRows$Rows.secondPart -/
def g_37 (o : X_O) : Nat → Nat → Q_S → Nat → Int → Option (Q_S × Int)
  | 0, _, _, _, _ => none
  | n + 1, 0, s, r0, i1 => (q_gv s 3 (.ref r0) 2).bind fun v1 => (q_ia o s v1 (i1 + 1)).bind fun v3 => some (s, ((i1 + 1) + v3))
  | _ + 1, _, _, _, _ => none
set_option maxRecDepth 100000 in
set_option maxHeartbeats 4000000 in
theorem c_37 (o : X_O) : ∀ n, (∀ (d : Nat) (hd : 0 ≤ d) (s : Q_S) (r0 : Nat) (i1 : Int) (s9 : Q_S) (r : Int), g_37 o n 0 s r0 i1 = some (s9, r) → ∀ lv : X_L, x_lget lv 0 = some (.ref r0) → x_lget lv 1 = some (.int (Int32.ofInt i1)) → Y o d 37 0 lv [] (q_y s) (fun s1 r1 => s1 = q_y s9 ∧ r1 = some (.int (Int32.ofInt r)))) := by
  intro n
  induction n with
  | zero => exact fun d hd s _ _ s9 r h => (by simp only [g_37] at h; cases h)
  | succ n ih =>
    intro d hd s r0 i1 s9 r h lv lk0 lk1
    simp only [g_37] at h
    refine Vin rfl lk1 rfl ?_
    refine Vic (v := Int32.ofInt 1) rfl rfl rfl ?_
    refine Uadd rfl rfl ?_
    refine Van rfl lk0 rfl rfl ?_
    have hz := y_bind h
    clear h
    obtain ⟨v1, h2, h⟩ := hz
    have wv1 := (y_gv_ok h2).2
    refine Vgv h2 rfl rfl rfl ?_
    refine Vin rfl lk1 rfl ?_
    refine Vic (v := Int32.ofInt 1) rfl rfl rfl ?_
    refine Uadd rfl rfl ?_
    have hz := y_bind h
    clear h
    obtain ⟨v3, h4, h⟩ := hz
    refine Zia (q_ia_y h4) rfl rfl ?_
    refine Uadd rfl rfl ?_
    cases h
    exact Yret rfl rfl rfl rfl rfl rfl rfl ⟨rfl, rfl⟩

/-- StepRows$Rows.thirdPart -/
def g_38 (o : X_O) : Nat → Nat → Q_S → Nat → Int → Option (Q_S × Int)
  | 0, _, _, _, _ => none
  | n + 1, 0, s, r0, i1 => (q_rcv s 3 (.ref r0)).bind fun b5 => (g_37 o n 0 s b5 (i1)).bind fun q4 => (q_gv q4.1 3 (.ref r0) 2).bind fun v9 => (q_ia o q4.1 v9 q4.2).bind fun v11 => some (q4.1, (q4.2 + v11))
  | _ + 1, _, _, _, _ => none
set_option maxRecDepth 100000 in
set_option maxHeartbeats 4000000 in
theorem c_38 (o : X_O) : ∀ n, (∀ (d : Nat) (hd : 1 ≤ d) (s : Q_S) (r0 : Nat) (i1 : Int) (s9 : Q_S) (r : Int), g_38 o n 0 s r0 i1 = some (s9, r) → ∀ lv : X_L, x_lget lv 0 = some (.ref r0) → x_lget lv 1 = some (.int (Int32.ofInt i1)) → Y o d 38 0 lv [] (q_y s) (fun s1 r1 => s1 = q_y s9 ∧ r1 = some (.int (Int32.ofInt r)))) := by
  intro n
  induction n with
  | zero => exact fun d hd s _ _ s9 r h => (by simp only [g_38] at h; cases h)
  | succ n ih =>
    intro d hd s r0 i1 s9 r h lv lk0 lk1
    obtain ⟨d, rfl⟩ : ∃ x, d = x + 1 := ⟨d - 1, by omega⟩
    simp only [g_38] at h
    refine Van rfl lk0 rfl rfl ?_
    refine Vin rfl lk1 rfl ?_
    have hz := y_bind h
    clear h
    obtain ⟨b5, h6, h⟩ := hz
    obtain ⟨eh6, fh6, wh6⟩ := y_rcv_ok h6
    cases eh6
    have hz := y_bind h
    clear h
    obtain ⟨⟨s1, r2⟩, h3, h⟩ := hz
    try dsimp only at h
    refine Vcv rfl rfl rfl wh6 rfl rfl ⟨(Nat.le_of_ble_eq_true rfl), (Nat.le_of_ble_eq_true rfl)⟩ rfl ((c_37 o n) _ (by omega) _ _ _ _ _ h3 _ rfl rfl) (fun z1 z2 zq => ?_)
    obtain ⟨rfl, rfl⟩ := zq
    try dsimp only [Option.toList, HAppend.hAppend, Append.append, List.append]
    refine Vsin rfl rfl (fun lv lk2 hk => ?_)
    have lk0 := hk 0 _ lk0 (by decide) (by decide) (Or.inl (by decide))
    refine Vin rfl lk2 rfl ?_
    refine Van rfl lk0 rfl rfl ?_
    have hz := y_bind h
    clear h
    obtain ⟨v9, h10, h⟩ := hz
    have wv9 := (y_gv_ok h10).2
    refine Vgv h10 rfl rfl rfl ?_
    refine Vin rfl lk2 rfl ?_
    have hz := y_bind h
    clear h
    obtain ⟨v11, h12, h⟩ := hz
    refine Zia (q_ia_y h12) rfl rfl ?_
    refine Uadd rfl rfl ?_
    cases h
    exact Yret rfl rfl rfl rfl rfl rfl rfl ⟨rfl, rfl⟩

/-- StepRows$Layout.addPhase -/
def g_35 (o : X_O) : Nat → Nat → Q_S → Nat → Int → Option (Q_S × Unit)
  | 0, _, _, _, _ => none
  | n + 1, 0, s, r0, i1 => (q_gv s 2 (.ref r0) 4).bind fun v1 => (q_ba s v1 i1).bind fun v3 => (q_g (q_in v3)).bind fun _ => if v3 = 0 then g_35 o n 1 s 0 0 else (q_gv s 2 (.ref r0) 1).bind fun v8 => (q_gv s 3 v8 6).bind fun v10 => (q_gv s 2 (.ref r0) 1).bind fun v12 => (q_gi s 3 v12 8).bind fun v14 => (q_is s v10 v14 i1).bind fun s16 => (q_gv s16 2 (.ref r0) 1).bind fun v18 => (q_gi s16 3 v18 8).bind fun v20 => (q_pi s16 3 v18 8 (v20 + 1)).bind fun s22 => g_35 o n 1 s22 0 0
  | n + 1, 1, s, r0, i1 => some (s, ())
  | _ + 1, _, _, _, _ => none
set_option maxRecDepth 100000 in
set_option maxHeartbeats 4000000 in
theorem c_35 (o : X_O) : ∀ n, (∀ (d : Nat) (hd : 0 ≤ d) (s : Q_S) (r0 : Nat) (i1 : Int) (s9 : Q_S) (r : Unit), g_35 o n 0 s r0 i1 = some (s9, r) → ∀ lv : X_L, x_lget lv 0 = some (.ref r0) → x_lget lv 1 = some (.int (Int32.ofInt i1)) → Y o d 35 0 lv [] (q_y s) (fun s1 r1 => s1 = q_y s9 ∧ r1 = none)) ∧
    (∀ (d : Nat) (hd : 0 ≤ d) (s : Q_S) (r0 : Nat) (i1 : Int) (s9 : Q_S) (r : Unit), g_35 o n 1 s r0 i1 = some (s9, r) → ∀ lv : X_L, True → Y o d 35 38 lv [] (q_y s) (fun s1 r1 => s1 = q_y s9 ∧ r1 = none)) := by
  intro n
  induction n with
  | zero => exact ⟨fun d hd s _ _ s9 r h => (by simp only [g_35] at h; cases h), fun d hd s _ _ s9 r h => (by simp only [g_35] at h; cases h)⟩
  | succ n ih =>
    refine ⟨?_, ?_⟩
    · intro d hd s r0 i1 s9 r h lv lk0 lk1
      simp only [g_35] at h
      refine Van rfl lk0 rfl rfl ?_
      have hz := y_bind h
      clear h
      obtain ⟨v1, h2, h⟩ := hz
      have wv1 := (y_gv_ok h2).2
      refine Vgv h2 rfl rfl rfl ?_
      refine Vin rfl lk1 rfl ?_
      have hz := y_bind h
      clear h
      obtain ⟨v3, h4, h⟩ := hz
      refine Zba (q_ba_y h4) rfl rfl ?_
      have hz := y_bind h
      clear h
      obtain ⟨_, h6, h⟩ := hz
      have c5 := q_g_ok h6
      refine Uif (q_eq0 c5) rfl rfl rfl rfl rfl rfl rfl (fun c7 => ?_) (fun c7 => ?_)
      · rw [if_pos c7] at h
        exact ih.2 _ hd _ _ _ _ _ h lv trivial
      · rw [if_neg c7] at h
        refine Van rfl lk0 rfl rfl ?_
        have hz := y_bind h
        clear h
        obtain ⟨v8, h9, h⟩ := hz
        have wv8 := (y_gv_ok h9).2
        refine Vgv h9 rfl rfl rfl ?_
        have hz := y_bind h
        clear h
        obtain ⟨v10, h11, h⟩ := hz
        have wv10 := (y_gv_ok h11).2
        refine Vgv h11 rfl rfl rfl ?_
        refine Van rfl lk0 rfl rfl ?_
        have hz := y_bind h
        clear h
        obtain ⟨v12, h13, h⟩ := hz
        have wv12 := (y_gv_ok h13).2
        refine Vgv h13 rfl rfl rfl ?_
        have hz := y_bind h
        clear h
        obtain ⟨v14, h15, h⟩ := hz
        refine Zgi (q_gi_y h15) rfl rfl rfl ?_
        refine Vin rfl lk1 rfl ?_
        have hz := y_bind h
        clear h
        obtain ⟨s16, h17, h⟩ := hz
        refine Zis (q_is_y h17) rfl rfl ?_
        refine Van rfl lk0 rfl rfl ?_
        have hz := y_bind h
        clear h
        obtain ⟨v18, h19, h⟩ := hz
        have wv18 := (y_gv_ok h19).2
        refine Vgv h19 rfl rfl rfl ?_
        refine Vdup rfl (y_rv_cat wv18) rfl ?_
        have hz := y_bind h
        clear h
        obtain ⟨v20, h21, h⟩ := hz
        refine Zgi (q_gi_y h21) rfl rfl rfl ?_
        refine Vic (v := Int32.ofInt 1) rfl rfl rfl ?_
        refine Uadd rfl rfl ?_
        have hz := y_bind h
        clear h
        obtain ⟨s22, h23, h⟩ := hz
        refine Zpi (q_pi_y h23) rfl rfl rfl rfl ?_
        exact ih.2 _ hd _ _ _ _ _ h lv trivial
    · intro d hd s r0 i1 s9 r h lv _
      simp only [g_35] at h
      cases h
      exact Yret rfl rfl rfl rfl rfl rfl rfl ⟨rfl, rfl⟩

