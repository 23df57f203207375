/-- StepRows$Nodes.<init> -/
def g_19 (o : X_O) : Nat → Nat → Y_S → Nat → Option (Y_S × Unit)
  | 0, _, _, _ => none
  | n + 1, 0, s, r0 => (y_na s .int 300).bind fun s1 => (y_pr s1 1 (.ref r0) 0 (.ref s.1)).bind fun s3 => (y_na s3 .int 900).bind fun s5 => (y_pr s5 1 (.ref r0) 1 (.ref s3.1)).bind fun s7 => (y_na s7 .long 300).bind fun s9 => (y_pr s9 1 (.ref r0) 2 (.ref s7.1)).bind fun s11 => (y_na s11 .int 300).bind fun s13 => (y_pr s13 1 (.ref r0) 3 (.ref s11.1)).bind fun s15 => some (s15, ())
  | _ + 1, _, _, _ => none
set_option maxRecDepth 100000 in
set_option maxHeartbeats 4000000 in
theorem c_19 (o : X_O) : ∀ n, (∀ (d : Nat) (s : Y_S) (r0 : Nat) (s9 : Y_S) (r : Unit), g_19 o n 0 s r0 = some (s9, r) → ∀ lv : X_L, x_lget lv 0 = some (.ref r0) → Y o (d + 1) 19 0 lv [] s (fun s1 r1 => s1 = s9 ∧ r1 = none)) := by
  intro n
  induction n with
  | zero => exact fun d s _ s9 r h => (by simp only [g_19] at h; cases h)
  | succ n ih =>
    intro d s r0 s9 r h lv lk0
    simp only [g_19] at h
    refine Van rfl lk0 rfl rfl ?_
    refine Y6 rfl rfl (Nat.le_of_ble_eq_true rfl) rfl ?_
    refine Van rfl lk0 rfl rfl ?_
    refine Vsp (v := 300) rfl (by decide) rfl ?_
    have hz := y_bind h
    clear h
    obtain ⟨s1, h2, h⟩ := hz
    refine Zna h2 rfl rfl rfl ?_
    have hz := y_bind h
    clear h
    obtain ⟨s3, h4, h⟩ := hz
    refine Zpr h4 rfl rfl rfl rfl ?_
    refine Van rfl lk0 rfl rfl ?_
    refine Vsp (v := 900) rfl (by decide) rfl ?_
    have hz := y_bind h
    clear h
    obtain ⟨s5, h6, h⟩ := hz
    refine Zna h6 rfl rfl rfl ?_
    have hz := y_bind h
    clear h
    obtain ⟨s7, h8, h⟩ := hz
    refine Zpr h8 rfl rfl rfl rfl ?_
    refine Van rfl lk0 rfl rfl ?_
    refine Vsp (v := 300) rfl (by decide) rfl ?_
    have hz := y_bind h
    clear h
    obtain ⟨s9, h10, h⟩ := hz
    refine Zna h10 rfl rfl rfl ?_
    have hz := y_bind h
    clear h
    obtain ⟨s11, h12, h⟩ := hz
    refine Zpr h12 rfl rfl rfl rfl ?_
    refine Van rfl lk0 rfl rfl ?_
    refine Vsp (v := 300) rfl (by decide) rfl ?_
    have hz := y_bind h
    clear h
    obtain ⟨s13, h14, h⟩ := hz
    refine Zna h14 rfl rfl rfl ?_
    have hz := y_bind h
    clear h
    obtain ⟨s15, h16, h⟩ := hz
    refine Zpr h16 rfl rfl rfl rfl ?_
    cases h
    exact Yret rfl rfl rfl rfl rfl rfl rfl ⟨rfl, rfl⟩

/-- StepRows$Rows.<init> -/
def g_36 (o : X_O) : Nat → Nat → Y_S → Nat → Int32 → Int32 → Option (Y_S × Unit)
  | 0, _, _, _, _, _ => none
  | n + 1, 0, s, r0, i1, i2 => (y_na s .int i1).bind fun s1 => (y_pr s1 3 (.ref r0) 0 (.ref s.1)).bind fun s3 => (y_na s3 .long i1).bind fun s5 => (y_pr s5 3 (.ref r0) 1 (.ref s3.1)).bind fun s7 => (y_na s7 .int i1).bind fun s9 => (y_pr s9 3 (.ref r0) 2 (.ref s7.1)).bind fun s11 => (y_na s11 .int i1).bind fun s13 => (y_pr s13 3 (.ref r0) 3 (.ref s11.1)).bind fun s15 => (y_na s15 .int i1).bind fun s17 => (y_pr s17 3 (.ref r0) 4 (.ref s15.1)).bind fun s19 => (y_na s19 .int i1).bind fun s21 => (y_pr s21 3 (.ref r0) 5 (.ref s19.1)).bind fun s23 => (y_na s23 .int i2).bind fun s25 => (y_pr s25 3 (.ref r0) 6 (.ref s23.1)).bind fun s27 => some (s27, ())
  | _ + 1, _, _, _, _, _ => none
set_option maxRecDepth 100000 in
set_option maxHeartbeats 4000000 in
theorem c_36 (o : X_O) : ∀ n, (∀ (d : Nat) (s : Y_S) (r0 : Nat) (i1 : Int32) (i2 : Int32) (s9 : Y_S) (r : Unit), g_36 o n 0 s r0 i1 i2 = some (s9, r) → ∀ lv : X_L, x_lget lv 0 = some (.ref r0) → x_lget lv 1 = some (.int i1) → x_lget lv 2 = some (.int i2) → Y o (d + 1) 36 0 lv [] s (fun s1 r1 => s1 = s9 ∧ r1 = none)) := by
  intro n
  induction n with
  | zero => exact fun d s _ _ _ s9 r h => (by simp only [g_36] at h; cases h)
  | succ n ih =>
    intro d s r0 i1 i2 s9 r h lv lk0 lk1 lk2
    simp only [g_36] at h
    refine Van rfl lk0 rfl rfl ?_
    refine Y6 rfl rfl (Nat.le_of_ble_eq_true rfl) rfl ?_
    refine Van rfl lk0 rfl rfl ?_
    refine Vin rfl lk1 rfl ?_
    have hz := y_bind h
    clear h
    obtain ⟨s1, h2, h⟩ := hz
    refine Zna h2 rfl rfl rfl ?_
    have hz := y_bind h
    clear h
    obtain ⟨s3, h4, h⟩ := hz
    refine Zpr h4 rfl rfl rfl rfl ?_
    refine Van rfl lk0 rfl rfl ?_
    refine Vin rfl lk1 rfl ?_
    have hz := y_bind h
    clear h
    obtain ⟨s5, h6, h⟩ := hz
    refine Zna h6 rfl rfl rfl ?_
    have hz := y_bind h
    clear h
    obtain ⟨s7, h8, h⟩ := hz
    refine Zpr h8 rfl rfl rfl rfl ?_
    refine Van rfl lk0 rfl rfl ?_
    refine Vin rfl lk1 rfl ?_
    have hz := y_bind h
    clear h
    obtain ⟨s9, h10, h⟩ := hz
    refine Zna h10 rfl rfl rfl ?_
    have hz := y_bind h
    clear h
    obtain ⟨s11, h12, h⟩ := hz
    refine Zpr h12 rfl rfl rfl rfl ?_
    refine Van rfl lk0 rfl rfl ?_
    refine Vin rfl lk1 rfl ?_
    have hz := y_bind h
    clear h
    obtain ⟨s13, h14, h⟩ := hz
    refine Zna h14 rfl rfl rfl ?_
    have hz := y_bind h
    clear h
    obtain ⟨s15, h16, h⟩ := hz
    refine Zpr h16 rfl rfl rfl rfl ?_
    refine Van rfl lk0 rfl rfl ?_
    refine Vin rfl lk1 rfl ?_
    have hz := y_bind h
    clear h
    obtain ⟨s17, h18, h⟩ := hz
    refine Zna h18 rfl rfl rfl ?_
    have hz := y_bind h
    clear h
    obtain ⟨s19, h20, h⟩ := hz
    refine Zpr h20 rfl rfl rfl rfl ?_
    refine Van rfl lk0 rfl rfl ?_
    refine Vin rfl lk1 rfl ?_
    have hz := y_bind h
    clear h
    obtain ⟨s21, h22, h⟩ := hz
    refine Zna h22 rfl rfl rfl ?_
    have hz := y_bind h
    clear h
    obtain ⟨s23, h24, h⟩ := hz
    refine Zpr h24 rfl rfl rfl rfl ?_
    refine Van rfl lk0 rfl rfl ?_
    refine Vin rfl lk2 rfl ?_
    have hz := y_bind h
    clear h
    obtain ⟨s25, h26, h⟩ := hz
    refine Zna h26 rfl rfl rfl ?_
    have hz := y_bind h
    clear h
    obtain ⟨s27, h28, h⟩ := hz
    refine Zpr h28 rfl rfl rfl rfl ?_
    cases h
    exact Yret rfl rfl rfl rfl rfl rfl rfl ⟨rfl, rfl⟩

/-- StepRows$Layout.<init> -/
def g_30 (o : X_O) : Nat → Nat → Y_S → Nat → Value → Option (Y_S × Unit)
  | 0, _, _, _, _ => none
  | n + 1, 0, s, r0, a1 => (y_no s 3).bind fun s1 => (g_36 o n 0 s1 (s.1) (500) (500)).bind fun q6 => (y_pr q6.1 2 (.ref r0) 1 (.ref s.1)).bind fun s9 => (y_na s9 .int 500).bind fun s11 => (y_pr s11 2 (.ref r0) 2 (.ref s9.1)).bind fun s13 => (y_na s13 .int 500).bind fun s15 => (y_pr s15 2 (.ref r0) 3 (.ref s13.1)).bind fun s17 => (y_na s17 .boolean 500).bind fun s19 => (y_pr s19 2 (.ref r0) 4 (.ref s17.1)).bind fun s21 => (y_pr s21 2 (.ref r0) 0 a1).bind fun s23 => some (s23, ())
  | _ + 1, _, _, _, _ => none
set_option maxRecDepth 100000 in
set_option maxHeartbeats 4000000 in
theorem c_30 (o : X_O) : ∀ n, (∀ (d : Nat) (s : Y_S) (r0 : Nat) (a1 : Value) (s9 : Y_S) (r : Unit), g_30 o n 0 s r0 a1 = some (s9, r) → ∀ lv : X_L, x_lget lv 0 = some (.ref r0) → x_lget lv 1 = some a1 → y_rv a1 = true → Y o (d + 2) 30 0 lv [] s (fun s1 r1 => s1 = s9 ∧ r1 = none)) := by
  intro n
  induction n with
  | zero => exact fun d s _ _ s9 r h => (by simp only [g_30] at h; cases h)
  | succ n ih =>
    intro d s r0 a1 s9 r h lv lk0 lk1 rv1
    simp only [g_30] at h
    refine Van rfl lk0 rfl rfl ?_
    refine Y6 rfl rfl (Nat.le_of_ble_eq_true rfl) rfl ?_
    refine Van rfl lk0 rfl rfl ?_
    have hz := y_bind h
    clear h
    obtain ⟨s1, h2, h⟩ := hz
    refine Zno h2 rfl rfl (by decide +kernel) rfl ?_
    refine Vdup rfl rfl rfl ?_
    refine Vsp (v := 500) rfl (by decide) rfl ?_
    refine Vsp (v := 500) rfl (by decide) rfl ?_
    have hz := y_bind h
    clear h
    obtain ⟨⟨s3, r4⟩, h5, h⟩ := hz
    try dsimp only at h
    refine Vci rfl rfl (Or.inl rfl) rfl rfl ⟨(Nat.le_of_ble_eq_true rfl), (Nat.le_of_ble_eq_true rfl)⟩ rfl ((c_36 o n) _ _ _ _ _ _ _ h5 _ rfl rfl rfl) (fun z1 z2 zq => ?_)
    obtain ⟨rfl, rfl⟩ := zq
    try dsimp only [Option.toList, HAppend.hAppend, Append.append, List.append]
    have hz := y_bind h
    clear h
    obtain ⟨s9, h10, h⟩ := hz
    refine Zpr h10 rfl rfl rfl rfl ?_
    refine Van rfl lk0 rfl rfl ?_
    refine Vsp (v := 500) rfl (by decide) rfl ?_
    have hz := y_bind h
    clear h
    obtain ⟨s11, h12, h⟩ := hz
    refine Zna h12 rfl rfl rfl ?_
    have hz := y_bind h
    clear h
    obtain ⟨s13, h14, h⟩ := hz
    refine Zpr h14 rfl rfl rfl rfl ?_
    refine Van rfl lk0 rfl rfl ?_
    refine Vsp (v := 500) rfl (by decide) rfl ?_
    have hz := y_bind h
    clear h
    obtain ⟨s15, h16, h⟩ := hz
    refine Zna h16 rfl rfl rfl ?_
    have hz := y_bind h
    clear h
    obtain ⟨s17, h18, h⟩ := hz
    refine Zpr h18 rfl rfl rfl rfl ?_
    refine Van rfl lk0 rfl rfl ?_
    refine Vsp (v := 500) rfl (by decide) rfl ?_
    have hz := y_bind h
    clear h
    obtain ⟨s19, h20, h⟩ := hz
    refine Zna h20 rfl rfl rfl ?_
    have hz := y_bind h
    clear h
    obtain ⟨s21, h22, h⟩ := hz
    refine Zpr h22 rfl rfl rfl rfl ?_
    refine Van rfl lk0 rfl rfl ?_
    refine Van rfl lk1 rv1 rfl ?_
    have hz := y_bind h
    clear h
    obtain ⟨s23, h24, h⟩ := hz
    refine Zpr h24 rfl rfl rfl rfl ?_
    cases h
    exact Yret rfl rfl rfl rfl rfl rfl rfl ⟨rfl, rfl⟩

/-- StepRows$Frames.<init> -/
def g_47 (o : X_O) : Nat → Nat → Y_S → Nat → Int32 → Option (Y_S × Unit)
  | 0, _, _, _, _ => none
  | n + 1, 0, s, r0, i1 => (y_na s .int i1).bind fun s1 => (y_pr s1 5 (.ref r0) 0 (.ref s.1)).bind fun s3 => (y_na s3 .int i1).bind fun s5 => (y_pr s5 5 (.ref r0) 1 (.ref s3.1)).bind fun s7 => (y_na s7 .int i1).bind fun s9 => (y_pr s9 5 (.ref r0) 2 (.ref s7.1)).bind fun s11 => (y_na s11 .int i1).bind fun s13 => (y_pr s13 5 (.ref r0) 3 (.ref s11.1)).bind fun s15 => (y_na s15 .int i1).bind fun s17 => (y_pr s17 5 (.ref r0) 4 (.ref s15.1)).bind fun s19 => (y_na s19 .int i1).bind fun s21 => (y_pr s21 5 (.ref r0) 5 (.ref s19.1)).bind fun s23 => (y_na s23 .int i1).bind fun s25 => (y_pr s25 5 (.ref r0) 6 (.ref s23.1)).bind fun s27 => (y_na s27 .long i1).bind fun s29 => (y_pr s29 5 (.ref r0) 7 (.ref s27.1)).bind fun s31 => (y_na s31 .long i1).bind fun s33 => (y_pr s33 5 (.ref r0) 8 (.ref s31.1)).bind fun s35 => (y_na s35 .long i1).bind fun s37 => (y_pr s37 5 (.ref r0) 9 (.ref s35.1)).bind fun s39 => (y_pi s39 5 (.ref r0) 10 (-1)).bind fun s41 => (y_pi s41 5 (.ref r0) 11 (-1)).bind fun s43 => some (s43, ())
  | _ + 1, _, _, _, _ => none
set_option maxRecDepth 100000 in
set_option maxHeartbeats 4000000 in
theorem c_47 (o : X_O) : ∀ n, (∀ (d : Nat) (s : Y_S) (r0 : Nat) (i1 : Int32) (s9 : Y_S) (r : Unit), g_47 o n 0 s r0 i1 = some (s9, r) → ∀ lv : X_L, x_lget lv 0 = some (.ref r0) → x_lget lv 1 = some (.int i1) → Y o (d + 1) 47 0 lv [] s (fun s1 r1 => s1 = s9 ∧ r1 = none)) := by
  intro n
  induction n with
  | zero => exact fun d s _ _ s9 r h => (by simp only [g_47] at h; cases h)
  | succ n ih =>
    intro d s r0 i1 s9 r h lv lk0 lk1
    simp only [g_47] at h
    refine Van rfl lk0 rfl rfl ?_
    refine Y6 rfl rfl (Nat.le_of_ble_eq_true rfl) rfl ?_
    refine Van rfl lk0 rfl rfl ?_
    refine Vin rfl lk1 rfl ?_
    have hz := y_bind h
    clear h
    obtain ⟨s1, h2, h⟩ := hz
    refine Zna h2 rfl rfl rfl ?_
    have hz := y_bind h
    clear h
    obtain ⟨s3, h4, h⟩ := hz
    refine Zpr h4 rfl rfl rfl rfl ?_
    refine Van rfl lk0 rfl rfl ?_
    refine Vin rfl lk1 rfl ?_
    have hz := y_bind h
    clear h
    obtain ⟨s5, h6, h⟩ := hz
    refine Zna h6 rfl rfl rfl ?_
    have hz := y_bind h
    clear h
    obtain ⟨s7, h8, h⟩ := hz
    refine Zpr h8 rfl rfl rfl rfl ?_
    refine Van rfl lk0 rfl rfl ?_
    refine Vin rfl lk1 rfl ?_
    have hz := y_bind h
    clear h
    obtain ⟨s9, h10, h⟩ := hz
    refine Zna h10 rfl rfl rfl ?_
    have hz := y_bind h
    clear h
    obtain ⟨s11, h12, h⟩ := hz
    refine Zpr h12 rfl rfl rfl rfl ?_
    refine Van rfl lk0 rfl rfl ?_
    refine Vin rfl lk1 rfl ?_
    have hz := y_bind h
    clear h
    obtain ⟨s13, h14, h⟩ := hz
    refine Zna h14 rfl rfl rfl ?_
    have hz := y_bind h
    clear h
    obtain ⟨s15, h16, h⟩ := hz
    refine Zpr h16 rfl rfl rfl rfl ?_
    refine Van rfl lk0 rfl rfl ?_
    refine Vin rfl lk1 rfl ?_
    have hz := y_bind h
    clear h
    obtain ⟨s17, h18, h⟩ := hz
    refine Zna h18 rfl rfl rfl ?_
    have hz := y_bind h
    clear h
    obtain ⟨s19, h20, h⟩ := hz
    refine Zpr h20 rfl rfl rfl rfl ?_
    refine Van rfl lk0 rfl rfl ?_
    refine Vin rfl lk1 rfl ?_
    have hz := y_bind h
    clear h
    obtain ⟨s21, h22, h⟩ := hz
    refine Zna h22 rfl rfl rfl ?_
    have hz := y_bind h
    clear h
    obtain ⟨s23, h24, h⟩ := hz
    refine Zpr h24 rfl rfl rfl rfl ?_
    refine Van rfl lk0 rfl rfl ?_
    refine Vin rfl lk1 rfl ?_
    have hz := y_bind h
    clear h
    obtain ⟨s25, h26, h⟩ := hz
    refine Zna h26 rfl rfl rfl ?_
    have hz := y_bind h
    clear h
    obtain ⟨s27, h28, h⟩ := hz
    refine Zpr h28 rfl rfl rfl rfl ?_
    refine Van rfl lk0 rfl rfl ?_
    refine Vin rfl lk1 rfl ?_
    have hz := y_bind h
    clear h
    obtain ⟨s29, h30, h⟩ := hz
    refine Zna h30 rfl rfl rfl ?_
    have hz := y_bind h
    clear h
    obtain ⟨s31, h32, h⟩ := hz
    refine Zpr h32 rfl rfl rfl rfl ?_
    refine Van rfl lk0 rfl rfl ?_
    refine Vin rfl lk1 rfl ?_
    have hz := y_bind h
    clear h
    obtain ⟨s33, h34, h⟩ := hz
    refine Zna h34 rfl rfl rfl ?_
    have hz := y_bind h
    clear h
    obtain ⟨s35, h36, h⟩ := hz
    refine Zpr h36 rfl rfl rfl rfl ?_
    refine Van rfl lk0 rfl rfl ?_
    refine Vin rfl lk1 rfl ?_
    have hz := y_bind h
    clear h
    obtain ⟨s37, h38, h⟩ := hz
    refine Zna h38 rfl rfl rfl ?_
    have hz := y_bind h
    clear h
    obtain ⟨s39, h40, h⟩ := hz
    refine Zpr h40 rfl rfl rfl rfl ?_
    refine Van rfl lk0 rfl rfl ?_
    refine Vic (v := (-1)) rfl (by decide) rfl ?_
    have hz := y_bind h
    clear h
    obtain ⟨s41, h42, h⟩ := hz
    refine Zpi h42 rfl rfl rfl rfl ?_
    refine Van rfl lk0 rfl rfl ?_
    refine Vic (v := (-1)) rfl (by decide) rfl ?_
    have hz := y_bind h
    clear h
    obtain ⟨s43, h44, h⟩ := hz
    refine Zpi h44 rfl rfl rfl rfl ?_
    cases h
    exact Yret rfl rfl rfl rfl rfl rfl rfl ⟨rfl, rfl⟩

/-- StepRows$Run.<init> -/
def g_41 (o : X_O) : Nat → Nat → Y_S → Nat → Int32 → Option (Y_S × Unit)
  | 0, _, _, _, _ => none
  | n + 1, 0, s, r0, i1 => (y_pi s 4 (.ref r0) 0 3).bind fun s1 => (y_na s1 .long 16).bind fun s3 => (y_pr s3 4 (.ref r0) 8 (.ref s1.1)).bind fun s5 => (y_na s5 .long 8).bind fun s7 => (y_pr s7 4 (.ref r0) 9 (.ref s5.1)).bind fun s9 => (y_na s9 .int 8).bind fun s11 => (y_pr s11 4 (.ref r0) 10 (.ref s9.1)).bind fun s13 => (y_no s13 5).bind fun s15 => (g_47 o n 0 s15 (s13.1) (i1)).bind fun q20 => (y_pr q20.1 4 (.ref r0) 11 (.ref s13.1)).bind fun s23 => some (s23, ())
  | _ + 1, _, _, _, _ => none
set_option maxRecDepth 100000 in
set_option maxHeartbeats 4000000 in
theorem c_41 (o : X_O) : ∀ n, (∀ (d : Nat) (s : Y_S) (r0 : Nat) (i1 : Int32) (s9 : Y_S) (r : Unit), g_41 o n 0 s r0 i1 = some (s9, r) → ∀ lv : X_L, x_lget lv 0 = some (.ref r0) → x_lget lv 1 = some (.int i1) → Y o (d + 2) 41 0 lv [] s (fun s1 r1 => s1 = s9 ∧ r1 = none)) := by
  intro n
  induction n with
  | zero => exact fun d s _ _ s9 r h => (by simp only [g_41] at h; cases h)
  | succ n ih =>
    intro d s r0 i1 s9 r h lv lk0 lk1
    simp only [g_41] at h
    refine Van rfl lk0 rfl rfl ?_
    refine Y6 rfl rfl (Nat.le_of_ble_eq_true rfl) rfl ?_
    refine Van rfl lk0 rfl rfl ?_
    refine Vic (v := 3) rfl (by decide) rfl ?_
    have hz := y_bind h
    clear h
    obtain ⟨s1, h2, h⟩ := hz
    refine Zpi h2 rfl rfl rfl rfl ?_
    refine Van rfl lk0 rfl rfl ?_
    refine Vbp (v := 16) rfl (by decide) rfl ?_
    have hz := y_bind h
    clear h
    obtain ⟨s3, h4, h⟩ := hz
    refine Zna h4 rfl rfl rfl ?_
    have hz := y_bind h
    clear h
    obtain ⟨s5, h6, h⟩ := hz
    refine Zpr h6 rfl rfl rfl rfl ?_
    refine Van rfl lk0 rfl rfl ?_
    refine Vbp (v := 8) rfl (by decide) rfl ?_
    have hz := y_bind h
    clear h
    obtain ⟨s7, h8, h⟩ := hz
    refine Zna h8 rfl rfl rfl ?_
    have hz := y_bind h
    clear h
    obtain ⟨s9, h10, h⟩ := hz
    refine Zpr h10 rfl rfl rfl rfl ?_
    refine Van rfl lk0 rfl rfl ?_
    refine Vbp (v := 8) rfl (by decide) rfl ?_
    have hz := y_bind h
    clear h
    obtain ⟨s11, h12, h⟩ := hz
    refine Zna h12 rfl rfl rfl ?_
    have hz := y_bind h
    clear h
    obtain ⟨s13, h14, h⟩ := hz
    refine Zpr h14 rfl rfl rfl rfl ?_
    refine Van rfl lk0 rfl rfl ?_
    have hz := y_bind h
    clear h
    obtain ⟨s15, h16, h⟩ := hz
    refine Zno h16 rfl rfl (by decide +kernel) rfl ?_
    refine Vdup rfl rfl rfl ?_
    refine Vin rfl lk1 rfl ?_
    have hz := y_bind h
    clear h
    obtain ⟨⟨s17, r18⟩, h19, h⟩ := hz
    try dsimp only at h
    refine Vci rfl rfl (Or.inl rfl) rfl rfl ⟨(Nat.le_of_ble_eq_true rfl), (Nat.le_of_ble_eq_true rfl)⟩ rfl ((c_47 o n) _ _ _ _ _ _ h19 _ rfl rfl) (fun z1 z2 zq => ?_)
    obtain ⟨rfl, rfl⟩ := zq
    try dsimp only [Option.toList, HAppend.hAppend, Append.append, List.append]
    have hz := y_bind h
    clear h
    obtain ⟨s23, h24, h⟩ := hz
    refine Zpr h24 rfl rfl rfl rfl ?_
    cases h
    exact Yret rfl rfl rfl rfl rfl rfl rfl ⟨rfl, rfl⟩

/-- StepRows$Walker.<init> -/
def g_60 (o : X_O) : Nat → Nat → Y_S → Nat → Value → Value → Option (Y_S × Unit)
  | 0, _, _, _, _, _ => none
  | n + 1, 0, s, r0, a1, a2 => (y_na s .long 500).bind fun s1 => (y_pr s1 6 (.ref r0) 3 (.ref s.1)).bind fun s3 => (y_pr s3 6 (.ref r0) 0 a1).bind fun s5 => (y_gv s5 4 a1 11).bind fun v7 => (y_pr s5 6 (.ref r0) 1 v7).bind fun s9 => (y_pr s9 6 (.ref r0) 2 a2).bind fun s11 => some (s11, ())
  | _ + 1, _, _, _, _, _ => none
set_option maxRecDepth 100000 in
set_option maxHeartbeats 4000000 in
theorem c_60 (o : X_O) : ∀ n, (∀ (d : Nat) (s : Y_S) (r0 : Nat) (a1 : Value) (a2 : Value) (s9 : Y_S) (r : Unit), g_60 o n 0 s r0 a1 a2 = some (s9, r) → ∀ lv : X_L, x_lget lv 0 = some (.ref r0) → x_lget lv 1 = some a1 → x_lget lv 2 = some a2 → y_rv a1 = true → y_rv a2 = true → Y o (d + 1) 60 0 lv [] s (fun s1 r1 => s1 = s9 ∧ r1 = none)) := by
  intro n
  induction n with
  | zero => exact fun d s _ _ _ s9 r h => (by simp only [g_60] at h; cases h)
  | succ n ih =>
    intro d s r0 a1 a2 s9 r h lv lk0 lk1 lk2 rv1 rv2
    simp only [g_60] at h
    refine Van rfl lk0 rfl rfl ?_
    refine Y6 rfl rfl (Nat.le_of_ble_eq_true rfl) rfl ?_
    refine Van rfl lk0 rfl rfl ?_
    refine Vsp (v := 500) rfl (by decide) rfl ?_
    have hz := y_bind h
    clear h
    obtain ⟨s1, h2, h⟩ := hz
    refine Zna h2 rfl rfl rfl ?_
    have hz := y_bind h
    clear h
    obtain ⟨s3, h4, h⟩ := hz
    refine Zpr h4 rfl rfl rfl rfl ?_
    refine Van rfl lk0 rfl rfl ?_
    refine Van rfl lk1 rv1 rfl ?_
    have hz := y_bind h
    clear h
    obtain ⟨s5, h6, h⟩ := hz
    refine Zpr h6 rfl rfl rfl rfl ?_
    refine Van rfl lk0 rfl rfl ?_
    refine Van rfl lk1 rv1 rfl ?_
    have hz := y_bind h
    clear h
    obtain ⟨v7, h8, h⟩ := hz
    have wv7 := (y_gv_ok h8).2
    refine Vgv h8 rfl rfl rfl ?_
    have hz := y_bind h
    clear h
    obtain ⟨s9, h10, h⟩ := hz
    refine Zpr h10 rfl rfl rfl rfl ?_
    refine Van rfl lk0 rfl rfl ?_
    refine Van rfl lk2 rv2 rfl ?_
    have hz := y_bind h
    clear h
    obtain ⟨s11, h12, h⟩ := hz
    refine Zpr h12 rfl rfl rfl rfl ?_
    cases h
    exact Yret rfl rfl rfl rfl rfl rfl rfl ⟨rfl, rfl⟩

/-- StepRows.<init> -/
def g_0 (o : X_O) : Nat → Nat → Y_S → Nat → Option (Y_S × Unit)
  | 0, _, _, _ => none
  | n + 1, 0, s, r0 => (y_no s 1).bind fun s1 => (g_19 o n 0 s1 (s.1)).bind fun q6 => (y_pr q6.1 0 (.ref r0) 0 (.ref s.1)).bind fun s9 => (y_no s9 2).bind fun s11 => (y_gv s11 0 (.ref r0) 0).bind fun v13 => (g_30 o n 0 s11 (s9.1) (v13)).bind fun q18 => (y_pr q18.1 0 (.ref r0) 1 (.ref s9.1)).bind fun s21 => (y_nr s21 "StepRows$Rows" 20).bind fun s23 => (y_pr s23 0 (.ref r0) 2 (.ref s21.1)).bind fun s25 => (y_na s25 .long 16).bind fun s27 => (y_pr s27 0 (.ref r0) 4 (.ref s25.1)).bind fun s29 => (y_no s29 4).bind fun s31 => (g_41 o n 0 s31 (s29.1) (16)).bind fun q36 => (y_pr q36.1 0 (.ref r0) 5 (.ref s29.1)).bind fun s39 => (y_no s39 6).bind fun s41 => (y_gv s41 0 (.ref r0) 5).bind fun v43 => (y_gv s41 0 (.ref r0) 4).bind fun v45 => (g_60 o n 0 s41 (s39.1) (v43) (v45)).bind fun q50 => (y_pr q50.1 0 (.ref r0) 6 (.ref s39.1)).bind fun s53 => (y_nr s53 "StepRows$Run" 8).bind fun s55 => (y_pr s55 0 (.ref r0) 7 (.ref s53.1)).bind fun s57 => some (s57, ())
  | _ + 1, _, _, _ => none
set_option maxRecDepth 100000 in
set_option maxHeartbeats 4000000 in
theorem c_0 (o : X_O) : ∀ n, (∀ (d : Nat) (s : Y_S) (r0 : Nat) (s9 : Y_S) (r : Unit), g_0 o n 0 s r0 = some (s9, r) → ∀ lv : X_L, x_lget lv 0 = some (.ref r0) → Y o (d + 3) 0 0 lv [] s (fun s1 r1 => s1 = s9 ∧ r1 = none)) := by
  intro n
  induction n with
  | zero => exact fun d s _ s9 r h => (by simp only [g_0] at h; cases h)
  | succ n ih =>
    intro d s r0 s9 r h lv lk0
    simp only [g_0] at h
    refine Van rfl lk0 rfl rfl ?_
    refine Y6 rfl rfl (Nat.le_of_ble_eq_true rfl) rfl ?_
    refine Van rfl lk0 rfl rfl ?_
    have hz := y_bind h
    clear h
    obtain ⟨s1, h2, h⟩ := hz
    refine Zno h2 rfl rfl (by decide +kernel) rfl ?_
    refine Vdup rfl rfl rfl ?_
    have hz := y_bind h
    clear h
    obtain ⟨⟨s3, r4⟩, h5, h⟩ := hz
    try dsimp only at h
    refine Vci rfl rfl (Or.inr rfl) rfl rfl ⟨(Nat.le_of_ble_eq_true rfl), (Nat.le_of_ble_eq_true rfl)⟩ rfl ((c_19 o n) _ _ _ _ _ h5 _ rfl) (fun z1 z2 zq => ?_)
    obtain ⟨rfl, rfl⟩ := zq
    try dsimp only [Option.toList, HAppend.hAppend, Append.append, List.append]
    have hz := y_bind h
    clear h
    obtain ⟨s9, h10, h⟩ := hz
    refine Zpr h10 rfl rfl rfl rfl ?_
    refine Van rfl lk0 rfl rfl ?_
    have hz := y_bind h
    clear h
    obtain ⟨s11, h12, h⟩ := hz
    refine Zno h12 rfl rfl (by decide +kernel) rfl ?_
    refine Vdup rfl rfl rfl ?_
    refine Van rfl lk0 rfl rfl ?_
    have hz := y_bind h
    clear h
    obtain ⟨v13, h14, h⟩ := hz
    have wv13 := (y_gv_ok h14).2
    refine Vgv h14 rfl rfl rfl ?_
    have hz := y_bind h
    clear h
    obtain ⟨⟨s15, r16⟩, h17, h⟩ := hz
    try dsimp only at h
    refine Vci rfl rfl (Or.inl rfl) rfl rfl ⟨(Nat.le_of_ble_eq_true rfl), (by simp only [List.take, List.reverse_cons, List.reverse_nil, List.nil_append, List.cons_append, List.map_cons, List.map_nil, y_cati, y_catl, y_catr, y_catn, y_cata, y_rv_cat wv13, List.sum_cons, List.sum_nil]; decide +kernel)⟩ rfl ((c_30 o n) _ _ _ _ _ _ h17 _ (by simp [lv_args, x_lget, y_cati, y_catl, y_catr, y_rv_cat wv13]) (by simp [lv_args, x_lget, y_cati, y_catl, y_catr, y_rv_cat wv13]) wv13) (fun z1 z2 zq => ?_)
    obtain ⟨rfl, rfl⟩ := zq
    try dsimp only [Option.toList, HAppend.hAppend, Append.append, List.append]
    have hz := y_bind h
    clear h
    obtain ⟨s21, h22, h⟩ := hz
    refine Zpr h22 rfl rfl rfl rfl ?_
    refine Van rfl lk0 rfl rfl ?_
    refine Vbp (v := 20) rfl (by decide) rfl ?_
    have hz := y_bind h
    clear h
    obtain ⟨s23, h24, h⟩ := hz
    refine Znr h24 rfl rfl rfl (by decide) rfl ?_
    have hz := y_bind h
    clear h
    obtain ⟨s25, h26, h⟩ := hz
    refine Zpr h26 rfl rfl rfl rfl ?_
    refine Van rfl lk0 rfl rfl ?_
    refine Vbp (v := 16) rfl (by decide) rfl ?_
    have hz := y_bind h
    clear h
    obtain ⟨s27, h28, h⟩ := hz
    refine Zna h28 rfl rfl rfl ?_
    have hz := y_bind h
    clear h
    obtain ⟨s29, h30, h⟩ := hz
    refine Zpr h30 rfl rfl rfl rfl ?_
    refine Van rfl lk0 rfl rfl ?_
    have hz := y_bind h
    clear h
    obtain ⟨s31, h32, h⟩ := hz
    refine Zno h32 rfl rfl (by decide +kernel) rfl ?_
    refine Vdup rfl rfl rfl ?_
    refine Vbp (v := 16) rfl (by decide) rfl ?_
    have hz := y_bind h
    clear h
    obtain ⟨⟨s33, r34⟩, h35, h⟩ := hz
    try dsimp only at h
    refine Vci rfl rfl (Or.inl rfl) rfl rfl ⟨(Nat.le_of_ble_eq_true rfl), (Nat.le_of_ble_eq_true rfl)⟩ rfl ((c_41 o n) _ _ _ _ _ _ h35 _ rfl rfl) (fun z1 z2 zq => ?_)
    obtain ⟨rfl, rfl⟩ := zq
    try dsimp only [Option.toList, HAppend.hAppend, Append.append, List.append]
    have hz := y_bind h
    clear h
    obtain ⟨s39, h40, h⟩ := hz
    refine Zpr h40 rfl rfl rfl rfl ?_
    refine Van rfl lk0 rfl rfl ?_
    have hz := y_bind h
    clear h
    obtain ⟨s41, h42, h⟩ := hz
    refine Zno h42 rfl rfl (by decide +kernel) rfl ?_
    refine Vdup rfl rfl rfl ?_
    refine Van rfl lk0 rfl rfl ?_
    have hz := y_bind h
    clear h
    obtain ⟨v43, h44, h⟩ := hz
    have wv43 := (y_gv_ok h44).2
    refine Vgv h44 rfl rfl rfl ?_
    refine Van rfl lk0 rfl rfl ?_
    have hz := y_bind h
    clear h
    obtain ⟨v45, h46, h⟩ := hz
    have wv45 := (y_gv_ok h46).2
    refine Vgv h46 rfl rfl rfl ?_
    have hz := y_bind h
    clear h
    obtain ⟨⟨s47, r48⟩, h49, h⟩ := hz
    try dsimp only at h
    refine Vci rfl rfl (Or.inl rfl) rfl rfl ⟨(Nat.le_of_ble_eq_true rfl), (by simp only [List.take, List.reverse_cons, List.reverse_nil, List.nil_append, List.cons_append, List.map_cons, List.map_nil, y_cati, y_catl, y_catr, y_catn, y_cata, y_rv_cat wv43, y_rv_cat wv45, List.sum_cons, List.sum_nil]; decide +kernel)⟩ rfl ((c_60 o n) _ _ _ _ _ _ _ h49 _ (by simp [lv_args, x_lget, y_cati, y_catl, y_catr, y_rv_cat wv43, y_rv_cat wv45]) (by simp [lv_args, x_lget, y_cati, y_catl, y_catr, y_rv_cat wv43, y_rv_cat wv45]) (by simp [lv_args, x_lget, y_cati, y_catl, y_catr, y_rv_cat wv43, y_rv_cat wv45]) wv43 wv45) (fun z1 z2 zq => ?_)
    obtain ⟨rfl, rfl⟩ := zq
    try dsimp only [Option.toList, HAppend.hAppend, Append.append, List.append]
    have hz := y_bind h
    clear h
    obtain ⟨s53, h54, h⟩ := hz
    refine Zpr h54 rfl rfl rfl rfl ?_
    refine Van rfl lk0 rfl rfl ?_
    refine Vbp (v := 8) rfl (by decide) rfl ?_
    have hz := y_bind h
    clear h
    obtain ⟨s55, h56, h⟩ := hz
    refine Znr h56 rfl rfl rfl (by decide) rfl ?_
    have hz := y_bind h
    clear h
    obtain ⟨s57, h58, h⟩ := hz
    refine Zpr h58 rfl rfl rfl rfl ?_
    cases h
    exact Yret rfl rfl rfl rfl rfl rfl rfl ⟨rfl, rfl⟩

/-- StepRows$Nodes.addLeaf -/
def g_20 (o : X_O) : Nat → Nat → Y_S → Nat → Int32 → Int64 → Int32 → Int64 → Int32 → Option (Y_S × Int32)
  | 0, _, _, _, _, _, _, _, _ => none
  | n + 1, 0, s, r0, i1, l2, i4, tl0, ti1 => if i1 < 0 then g_20 o n 1 s 0 0 0 0 0 0 else if i1 ≤ 2 then if (30 + i1) = 30 then g_20 o n 4 s r0 0 (l2) ((30 + i1)) 0 0 else if (lg_cmp l2 0) < 0 then g_20 o n 3 s 0 0 0 0 0 0 else if ¬ (30 + i1) = 31 then g_20 o n 2 s r0 0 (l2) ((30 + i1)) (l2) (16) else g_20 o n 2 s r0 0 (l2) ((30 + i1)) (l2) (16) else g_20 o n 1 s 0 0 0 0 0 0
  | n + 1, 1, s, r0, i1, l2, i4, tl0, ti1 => some (s, (-1))
  | n + 1, 2, s, r0, i1, l2, i4, tl0, ti1 => if (lg_cmp tl0 (ti1).toInt64) < 0 then g_20 o n 4 s r0 0 (l2) (i4) 0 0 else g_20 o n 3 s 0 0 0 0 0 0
  | n + 1, 3, s, r0, i1, l2, i4, tl0, ti1 => some (s, (-1))
  | n + 1, 4, s, r0, i1, l2, i4, tl0, ti1 => (y_gi s 1 (.ref r0) 4).bind fun v1 => if v1 < 300 then (y_gv s 1 (.ref r0) 0).bind fun v4 => (y_gi s 1 (.ref r0) 4).bind fun v6 => (y_is s v4 v6 i4).bind fun s8 => (y_gv s8 1 (.ref r0) 2).bind fun v10 => (y_gi s8 1 (.ref r0) 4).bind fun v12 => (y_ls s8 v10 v12 l2).bind fun s14 => (y_gv s14 1 (.ref r0) 3).bind fun v16 => (y_gi s14 1 (.ref r0) 4).bind fun v18 => (y_is s14 v16 v18 1).bind fun s20 => (y_gi s20 1 (.ref r0) 4).bind fun v22 => (y_pi s20 1 (.ref r0) 4 (v22 + 1)).bind fun s24 => (y_gi s24 1 (.ref r0) 4).bind fun v26 => some (s24, (v26 - 1)) else some (s, (-2))
  | _ + 1, _, _, _, _, _, _, _, _ => none
set_option maxRecDepth 100000 in
set_option maxHeartbeats 4000000 in
theorem c_20 (o : X_O) : ∀ n, (∀ (d : Nat) (s : Y_S) (r0 : Nat) (i1 : Int32) (l2 : Int64) (i4 : Int32) (tl0 : Int64) (ti1 : Int32) (s9 : Y_S) (r : Int32), g_20 o n 0 s r0 i1 l2 i4 tl0 ti1 = some (s9, r) → ∀ lv : X_L, x_lget lv 0 = some (.ref r0) → x_lget lv 1 = some (.int i1) → x_lget lv 2 = some (.long l2) → Y o (d + 0) 20 0 lv [] s (fun s1 r1 => s1 = s9 ∧ r1 = some (.int r))) ∧
    (∀ (d : Nat) (s : Y_S) (r0 : Nat) (i1 : Int32) (l2 : Int64) (i4 : Int32) (tl0 : Int64) (ti1 : Int32) (s9 : Y_S) (r : Int32), g_20 o n 1 s r0 i1 l2 i4 tl0 ti1 = some (s9, r) → ∀ lv : X_L, True → Y o (d + 0) 20 9 lv [] s (fun s1 r1 => s1 = s9 ∧ r1 = some (.int r))) ∧
    (∀ (d : Nat) (s : Y_S) (r0 : Nat) (i1 : Int32) (l2 : Int64) (i4 : Int32) (tl0 : Int64) (ti1 : Int32) (s9 : Y_S) (r : Int32), g_20 o n 2 s r0 i1 l2 i4 tl0 ti1 = some (s9, r) → ∀ lv : X_L, x_lget lv 0 = some (.ref r0) → x_lget lv 2 = some (.long l2) → x_lget lv 4 = some (.int i4) → Y o (d + 0) 20 45 lv [.int ti1, .long tl0] s (fun s1 r1 => s1 = s9 ∧ r1 = some (.int r))) ∧
    (∀ (d : Nat) (s : Y_S) (r0 : Nat) (i1 : Int32) (l2 : Int64) (i4 : Int32) (tl0 : Int64) (ti1 : Int32) (s9 : Y_S) (r : Int32), g_20 o n 3 s r0 i1 l2 i4 tl0 ti1 = some (s9, r) → ∀ lv : X_L, True → Y o (d + 0) 20 50 lv [] s (fun s1 r1 => s1 = s9 ∧ r1 = some (.int r))) ∧
    (∀ (d : Nat) (s : Y_S) (r0 : Nat) (i1 : Int32) (l2 : Int64) (i4 : Int32) (tl0 : Int64) (ti1 : Int32) (s9 : Y_S) (r : Int32), g_20 o n 4 s r0 i1 l2 i4 tl0 ti1 = some (s9, r) → ∀ lv : X_L, x_lget lv 0 = some (.ref r0) → x_lget lv 2 = some (.long l2) → x_lget lv 4 = some (.int i4) → Y o (d + 0) 20 52 lv [] s (fun s1 r1 => s1 = s9 ∧ r1 = some (.int r))) := by
  intro n
  induction n with
  | zero => exact ⟨fun d s _ _ _ _ _ _ s9 r h => (by simp only [g_20] at h; cases h), fun d s _ _ _ _ _ _ s9 r h => (by simp only [g_20] at h; cases h), fun d s _ _ _ _ _ _ s9 r h => (by simp only [g_20] at h; cases h), fun d s _ _ _ _ _ _ s9 r h => (by simp only [g_20] at h; cases h), fun d s _ _ _ _ _ _ s9 r h => (by simp only [g_20] at h; cases h)⟩
  | succ n ih =>
    refine ⟨?_, ?_, ?_, ?_, ?_⟩
    · intro d s r0 i1 l2 i4 tl0 ti1 s9 r h lv lk0 lk1 lk2
      simp only [g_20] at h
      refine Vin rfl lk1 rfl ?_
      refine Yif rfl rfl rfl rfl rfl rfl rfl (fun c1 => ?_) (fun c1 => ?_)
      · rw [if_pos c1] at h
        exact ih.2.1 _ _ _ _ _ _ _ _ _ _ h lv trivial
      · rw [if_neg c1] at h
        refine Vin rfl lk1 rfl ?_
        refine Vic (v := 2) rfl (by decide) rfl ?_
        refine Yif rfl rfl rfl rfl rfl rfl rfl (fun c2 => ?_) (fun c2 => ?_)
        · rw [if_pos c2] at h
          refine Vbp (v := 30) rfl (by decide) rfl ?_
          refine Vin rfl lk1 rfl ?_
          refine Ya rfl rfl rfl ?_
          refine Vsi rfl rfl (fun lv lk4 hk => ?_)
          have lk0 := hk 0 _ lk0 (by decide) (by decide) (Or.inl (by decide))
          have lk2 := hk 2 _ lk2 (by decide) (by decide) (Or.inl (by decide))
          refine Vi rfl lk4 rfl ?_
          refine Vbp (v := 30) rfl (by decide) rfl ?_
          refine Yif rfl rfl rfl rfl rfl rfl rfl (fun c3 => ?_) (fun c3 => ?_)
          · rw [if_pos c3] at h
            exact ih.2.2.2.2 _ _ _ _ _ _ _ _ _ _ h lv lk0 lk2 lk4
          · rw [if_neg c3] at h
            refine Vln rfl lk2 rfl ?_
            refine Vlc (v := 0) rfl (by decide) rfl ?_
            refine Ya rfl rfl rfl ?_
            refine Yif rfl rfl rfl rfl rfl rfl rfl (fun c4 => ?_) (fun c4 => ?_)
            · rw [if_pos c4] at h
              exact ih.2.2.2.1 _ _ _ _ _ _ _ _ _ _ h lv trivial
            · rw [if_neg c4] at h
              refine Vln rfl lk2 rfl ?_
              refine Vi rfl lk4 rfl ?_
              refine Vbp (v := 31) rfl (by decide) rfl ?_
              refine Yif rfl rfl rfl rfl rfl rfl rfl (fun c5 => ?_) (fun c5 => ?_)
              · rw [if_pos c5] at h
                refine Vbp (v := 16) rfl (by decide) rfl ?_
                exact ih.2.2.1 _ _ _ _ _ _ _ _ _ _ h lv lk0 lk2 lk4
              · rw [if_neg c5] at h
                refine Vbp (v := 16) rfl (by decide) rfl ?_
                refine Ygo rfl rfl rfl rfl rfl rfl ?_
                exact ih.2.2.1 _ _ _ _ _ _ _ _ _ _ h lv lk0 lk2 lk4
        · rw [if_neg c2] at h
          exact ih.2.1 _ _ _ _ _ _ _ _ _ _ h lv trivial
    · intro d s r0 i1 l2 i4 tl0 ti1 s9 r h lv _
      simp only [g_20] at h
      refine Vic (v := (-1)) rfl (by decide) rfl ?_
      cases h
      exact Yret rfl rfl rfl rfl rfl rfl rfl ⟨rfl, rfl⟩
    · intro d s r0 i1 l2 i4 tl0 ti1 s9 r h lv lk0 lk2 lk4
      simp only [g_20] at h
      refine Ya rfl rfl rfl ?_
      refine Ya rfl rfl rfl ?_
      refine Yif rfl rfl rfl rfl rfl rfl rfl (fun c1 => ?_) (fun c1 => ?_)
      · rw [if_pos c1] at h
        exact ih.2.2.2.2 _ _ _ _ _ _ _ _ _ _ h lv lk0 lk2 lk4
      · rw [if_neg c1] at h
        exact ih.2.2.2.1 _ _ _ _ _ _ _ _ _ _ h lv trivial
    · intro d s r0 i1 l2 i4 tl0 ti1 s9 r h lv _
      simp only [g_20] at h
      refine Vic (v := (-1)) rfl (by decide) rfl ?_
      cases h
      exact Yret rfl rfl rfl rfl rfl rfl rfl ⟨rfl, rfl⟩
    · intro d s r0 i1 l2 i4 tl0 ti1 s9 r h lv lk0 lk2 lk4
      simp only [g_20] at h
      refine Van rfl lk0 rfl rfl ?_
      have hz := y_bind h
      clear h
      obtain ⟨v1, h2, h⟩ := hz
      refine Zgi h2 rfl rfl rfl ?_
      refine Vsp (v := 300) rfl (by decide) rfl ?_
      refine Yif rfl rfl rfl rfl rfl rfl rfl (fun c3 => ?_) (fun c3 => ?_)
      · rw [if_pos c3] at h
        refine Van rfl lk0 rfl rfl ?_
        have hz := y_bind h
        clear h
        obtain ⟨v4, h5, h⟩ := hz
        have wv4 := (y_gv_ok h5).2
        refine Vgv h5 rfl rfl rfl ?_
        refine Van rfl lk0 rfl rfl ?_
        have hz := y_bind h
        clear h
        obtain ⟨v6, h7, h⟩ := hz
        refine Zgi h7 rfl rfl rfl ?_
        refine Vi rfl lk4 rfl ?_
        have hz := y_bind h
        clear h
        obtain ⟨s8, h9, h⟩ := hz
        refine Zis h9 rfl rfl ?_
        refine Van rfl lk0 rfl rfl ?_
        have hz := y_bind h
        clear h
        obtain ⟨v10, h11, h⟩ := hz
        have wv10 := (y_gv_ok h11).2
        refine Vgv h11 rfl rfl rfl ?_
        refine Van rfl lk0 rfl rfl ?_
        have hz := y_bind h
        clear h
        obtain ⟨v12, h13, h⟩ := hz
        refine Zgi h13 rfl rfl rfl ?_
        refine Vln rfl lk2 rfl ?_
        have hz := y_bind h
        clear h
        obtain ⟨s14, h15, h⟩ := hz
        refine Zls h15 rfl rfl ?_
        refine Van rfl lk0 rfl rfl ?_
        have hz := y_bind h
        clear h
        obtain ⟨v16, h17, h⟩ := hz
        have wv16 := (y_gv_ok h17).2
        refine Vgv h17 rfl rfl rfl ?_
        refine Van rfl lk0 rfl rfl ?_
        have hz := y_bind h
        clear h
        obtain ⟨v18, h19, h⟩ := hz
        refine Zgi h19 rfl rfl rfl ?_
        refine Vic (v := 1) rfl (by decide) rfl ?_
        have hz := y_bind h
        clear h
        obtain ⟨s20, h21, h⟩ := hz
        refine Zis h21 rfl rfl ?_
        refine Van rfl lk0 rfl rfl ?_
        refine Vdup rfl rfl rfl ?_
        have hz := y_bind h
        clear h
        obtain ⟨v22, h23, h⟩ := hz
        refine Zgi h23 rfl rfl rfl ?_
        refine Vic (v := 1) rfl (by decide) rfl ?_
        refine Ya rfl rfl rfl ?_
        have hz := y_bind h
        clear h
        obtain ⟨s24, h25, h⟩ := hz
        refine Zpi h25 rfl rfl rfl rfl ?_
        refine Van rfl lk0 rfl rfl ?_
        have hz := y_bind h
        clear h
        obtain ⟨v26, h27, h⟩ := hz
        refine Zgi h27 rfl rfl rfl ?_
        refine Vic (v := 1) rfl (by decide) rfl ?_
        refine Ya rfl rfl rfl ?_
        cases h
        exact Yret rfl rfl rfl rfl rfl rfl rfl ⟨rfl, rfl⟩
      · rw [if_neg c3] at h
        refine Vbp (v := (-2)) rfl (by decide) rfl ?_
        cases h
        exact Yret rfl rfl rfl rfl rfl rfl rfl ⟨rfl, rfl⟩

/-- StepRows.leaf -/
def g_1 (o : X_O) : Nat → Nat → Y_S → Nat → Int32 → Int64 → Option (Y_S × Int32)
  | 0, _, _, _, _, _ => none
  | n + 1, 0, s, r0, i1, l2 => (y_gv s 0 (.ref r0) 0).bind fun v1 => (y_rcv s 1 v1).bind fun b7 => (g_20 o n 0 s b7 (i1) (l2) 0 0 0).bind fun q6 => some (q6.1, q6.2)
  | _ + 1, _, _, _, _, _ => none
set_option maxRecDepth 100000 in
set_option maxHeartbeats 4000000 in
theorem c_1 (o : X_O) : ∀ n, (∀ (d : Nat) (s : Y_S) (r0 : Nat) (i1 : Int32) (l2 : Int64) (s9 : Y_S) (r : Int32), g_1 o n 0 s r0 i1 l2 = some (s9, r) → ∀ lv : X_L, x_lget lv 0 = some (.ref r0) → x_lget lv 1 = some (.int i1) → x_lget lv 2 = some (.long l2) → Y o (d + 1) 1 0 lv [] s (fun s1 r1 => s1 = s9 ∧ r1 = some (.int r))) := by
  intro n
  induction n with
  | zero => exact fun d s _ _ _ s9 r h => (by simp only [g_1] at h; cases h)
  | succ n ih =>
    intro d s r0 i1 l2 s9 r h lv lk0 lk1 lk2
    simp only [g_1] at h
    refine Van rfl lk0 rfl rfl ?_
    have hz := y_bind h
    clear h
    obtain ⟨v1, h2, h⟩ := hz
    have wv1 := (y_gv_ok h2).2
    refine Vgv h2 rfl rfl rfl ?_
    refine Vin rfl lk1 rfl ?_
    refine Vln rfl lk2 rfl ?_
    have hz := y_bind h
    clear h
    obtain ⟨b7, h8, h⟩ := hz
    obtain ⟨eh8, fh8, wh8⟩ := y_rcv_ok h8
    cases eh8
    have hz := y_bind h
    clear h
    obtain ⟨⟨s3, r4⟩, h5, h⟩ := hz
    try dsimp only at h
    refine Vcv rfl rfl rfl wh8 rfl rfl ⟨(Nat.le_of_ble_eq_true rfl), (Nat.le_of_ble_eq_true rfl)⟩ rfl ((c_20 o n).1 _ _ _ _ _ _ _ _ _ _ h5 _ rfl rfl rfl) (fun z1 z2 zq => ?_)
    obtain ⟨rfl, rfl⟩ := zq
    try dsimp only [Option.toList, HAppend.hAppend, Append.append, List.append]
    cases h
    exact Yret rfl rfl rfl rfl rfl rfl rfl ⟨rfl, rfl⟩

/-- StepRows$Nodes.wanted -/
def g_22 (o : X_O) : Nat → Nat → Y_S → Nat → Int32 → Int32 → Int32 → Option (Y_S × Int32)
  | 0, _, _, _, _, _, _ => none
  | n + 1, 0, s, r0, i1, i2, ti0 => if 22 ≤ i1 then g_22 o n 1 s 0 0 0 (0) else (y_ia o s (.retAddr 1) ((i1 * 3) + i2)).bind fun v2 => g_22 o n 1 s 0 0 0 (v2)
  | n + 1, 1, s, r0, i1, i2, ti0 => some (s, ti0)
  | _ + 1, _, _, _, _, _, _ => none
set_option maxRecDepth 100000 in
set_option maxHeartbeats 4000000 in
theorem c_22 (o : X_O) : ∀ n, (∀ (d : Nat) (s : Y_S) (r0 : Nat) (i1 : Int32) (i2 : Int32) (ti0 : Int32) (s9 : Y_S) (r : Int32), g_22 o n 0 s r0 i1 i2 ti0 = some (s9, r) → ∀ lv : X_L, x_lget lv 0 = some (.ref r0) → x_lget lv 1 = some (.int i1) → x_lget lv 2 = some (.int i2) → Y o (d + 0) 22 0 lv [] s (fun s1 r1 => s1 = s9 ∧ r1 = some (.int r))) ∧
    (∀ (d : Nat) (s : Y_S) (r0 : Nat) (i1 : Int32) (i2 : Int32) (ti0 : Int32) (s9 : Y_S) (r : Int32), g_22 o n 1 s r0 i1 i2 ti0 = some (s9, r) → ∀ lv : X_L, True → Y o (d + 0) 22 19 lv [.int ti0] s (fun s1 r1 => s1 = s9 ∧ r1 = some (.int r))) := by
  intro n
  induction n with
  | zero => exact ⟨fun d s _ _ _ _ s9 r h => (by simp only [g_22] at h; cases h), fun d s _ _ _ _ s9 r h => (by simp only [g_22] at h; cases h)⟩
  | succ n ih =>
    refine ⟨?_, ?_⟩
    · intro d s r0 i1 i2 ti0 s9 r h lv lk0 lk1 lk2
      simp only [g_22] at h
      refine Vin rfl lk1 rfl ?_
      refine Vbp (v := 22) rfl (by decide) rfl ?_
      refine Yif rfl rfl rfl rfl rfl rfl rfl (fun c1 => ?_) (fun c1 => ?_)
      · rw [if_pos c1] at h
        refine Vic (v := 0) rfl (by decide) rfl ?_
        exact ih.2 _ _ _ _ _ _ _ _ h lv trivial
      · rw [if_neg c1] at h
        refine Yk (v := .retAddr 1) rfl rfl rfl rfl rfl ?_
        refine Vin rfl lk1 rfl ?_
        refine Vic (v := 3) rfl (by decide) rfl ?_
        refine Ya rfl rfl rfl ?_
        refine Vin rfl lk2 rfl ?_
        refine Ya rfl rfl rfl ?_
        have hz := y_bind h
        clear h
        obtain ⟨v2, h3, h⟩ := hz
        refine Zia h3 rfl rfl ?_
        refine Ygo rfl rfl rfl rfl rfl rfl ?_
        exact ih.2 _ _ _ _ _ _ _ _ h lv trivial
    · intro d s r0 i1 i2 ti0 s9 r h lv _
      simp only [g_22] at h
      cases h
      exact Yret rfl rfl rfl rfl rfl rfl rfl ⟨rfl, rfl⟩

/-- StepRows$Nodes.isTold -/
def g_25 (o : X_O) : Nat → Nat → Y_S → Nat → Int32 → Int32 → Option (Y_S × Int32)
  | 0, _, _, _, _, _ => none
  | n + 1, 0, s, r0, i1, ti0 => if i1 < 0 then g_25 o n 1 s 0 0 0 else (y_gi s 1 (.ref r0) 4).bind fun v2 => if v2 ≤ i1 then g_25 o n 1 s 0 0 0 else g_25 o n 2 s 0 0 (1)
  | n + 1, 1, s, r0, i1, ti0 => g_25 o n 2 s 0 0 (0)
  | n + 1, 2, s, r0, i1, ti0 => if ti0 = 0 ∨ ti0 = 1 then some (s, ti0) else none
  | _ + 1, _, _, _, _, _ => none
set_option maxRecDepth 100000 in
set_option maxHeartbeats 4000000 in
theorem c_25 (o : X_O) : ∀ n, (∀ (d : Nat) (s : Y_S) (r0 : Nat) (i1 : Int32) (ti0 : Int32) (s9 : Y_S) (r : Int32), g_25 o n 0 s r0 i1 ti0 = some (s9, r) → ∀ lv : X_L, x_lget lv 0 = some (.ref r0) → x_lget lv 1 = some (.int i1) → Y o (d + 0) 25 0 lv [] s (fun s1 r1 => s1 = s9 ∧ r1 = some (.int r))) ∧
    (∀ (d : Nat) (s : Y_S) (r0 : Nat) (i1 : Int32) (ti0 : Int32) (s9 : Y_S) (r : Int32), g_25 o n 1 s r0 i1 ti0 = some (s9, r) → ∀ lv : X_L, True → Y o (d + 0) 25 16 lv [] s (fun s1 r1 => s1 = s9 ∧ r1 = some (.int r))) ∧
    (∀ (d : Nat) (s : Y_S) (r0 : Nat) (i1 : Int32) (ti0 : Int32) (s9 : Y_S) (r : Int32), g_25 o n 2 s r0 i1 ti0 = some (s9, r) → ∀ lv : X_L, True → Y o (d + 0) 25 17 lv [.int ti0] s (fun s1 r1 => s1 = s9 ∧ r1 = some (.int r))) := by
  intro n
  induction n with
  | zero => exact ⟨fun d s _ _ _ s9 r h => (by simp only [g_25] at h; cases h), fun d s _ _ _ s9 r h => (by simp only [g_25] at h; cases h), fun d s _ _ _ s9 r h => (by simp only [g_25] at h; cases h)⟩
  | succ n ih =>
    refine ⟨?_, ?_, ?_⟩
    · intro d s r0 i1 ti0 s9 r h lv lk0 lk1
      simp only [g_25] at h
      refine Vin rfl lk1 rfl ?_
      refine Yif rfl rfl rfl rfl rfl rfl rfl (fun c1 => ?_) (fun c1 => ?_)
      · rw [if_pos c1] at h
        exact ih.2.1 _ _ _ _ _ _ _ h lv trivial
      · rw [if_neg c1] at h
        refine Vin rfl lk1 rfl ?_
        refine Van rfl lk0 rfl rfl ?_
        have hz := y_bind h
        clear h
        obtain ⟨v2, h3, h⟩ := hz
        refine Zgi h3 rfl rfl rfl ?_
        refine Yif rfl rfl rfl rfl rfl rfl rfl (fun c4 => ?_) (fun c4 => ?_)
        · rw [if_pos c4] at h
          exact ih.2.1 _ _ _ _ _ _ _ h lv trivial
        · rw [if_neg c4] at h
          refine Vic (v := 1) rfl (by decide) rfl ?_
          refine Ygo rfl rfl rfl rfl rfl rfl ?_
          exact ih.2.2 _ _ _ _ _ _ _ h lv trivial
    · intro d s r0 i1 ti0 s9 r h lv _
      simp only [g_25] at h
      refine Vic (v := 0) rfl (by decide) rfl ?_
      exact ih.2.2 _ _ _ _ _ _ _ h lv trivial
    · intro d s r0 i1 ti0 s9 r h lv _
      simp only [g_25] at h
      by_cases c1 : ti0 = 0 ∨ ti0 = 1
      · rw [if_pos c1] at h
        cases h
        exact Yret rfl rfl rfl rfl rfl rfl (if_pos c1) ⟨rfl, rfl⟩
      · rw [if_neg c1] at h; cases h

/-- StepRows$Nodes.isExpression -/
def g_24 (o : X_O) : Nat → Nat → Y_S → Nat → Int32 → Int32 → Option (Y_S × Int32)
  | 0, _, _, _, _, _ => none
  | n + 1, 0, s, r0, i1, ti0 => (y_rcv s 1 (.ref r0)).bind fun b5 => (g_25 o n 0 s b5 (i1) 0).bind fun q4 => if q4.2 = 0 then g_24 o n 2 q4.1 0 0 0 else (y_gv q4.1 1 (.ref r0) 0).bind fun v10 => (y_ia o q4.1 v10 i1).bind fun v12 => if v12 < 10 then g_24 o n 1 q4.1 0 0 0 else (y_gv q4.1 1 (.ref r0) 0).bind fun v15 => (y_ia o q4.1 v15 i1).bind fun v17 => if v17 < 30 then g_24 o n 2 q4.1 0 0 0 else g_24 o n 1 q4.1 0 0 0
  | n + 1, 1, s, r0, i1, ti0 => g_24 o n 3 s 0 0 (1)
  | n + 1, 2, s, r0, i1, ti0 => g_24 o n 3 s 0 0 (0)
  | n + 1, 3, s, r0, i1, ti0 => if ti0 = 0 ∨ ti0 = 1 then some (s, ti0) else none
  | _ + 1, _, _, _, _, _ => none
set_option maxRecDepth 100000 in
set_option maxHeartbeats 4000000 in
theorem c_24 (o : X_O) : ∀ n, (∀ (d : Nat) (s : Y_S) (r0 : Nat) (i1 : Int32) (ti0 : Int32) (s9 : Y_S) (r : Int32), g_24 o n 0 s r0 i1 ti0 = some (s9, r) → ∀ lv : X_L, x_lget lv 0 = some (.ref r0) → x_lget lv 1 = some (.int i1) → Y o (d + 1) 24 0 lv [] s (fun s1 r1 => s1 = s9 ∧ r1 = some (.int r))) ∧
    (∀ (d : Nat) (s : Y_S) (r0 : Nat) (i1 : Int32) (ti0 : Int32) (s9 : Y_S) (r : Int32), g_24 o n 1 s r0 i1 ti0 = some (s9, r) → ∀ lv : X_L, True → Y o (d + 1) 24 30 lv [] s (fun s1 r1 => s1 = s9 ∧ r1 = some (.int r))) ∧
    (∀ (d : Nat) (s : Y_S) (r0 : Nat) (i1 : Int32) (ti0 : Int32) (s9 : Y_S) (r : Int32), g_24 o n 2 s r0 i1 ti0 = some (s9, r) → ∀ lv : X_L, True → Y o (d + 1) 24 34 lv [] s (fun s1 r1 => s1 = s9 ∧ r1 = some (.int r))) ∧
    (∀ (d : Nat) (s : Y_S) (r0 : Nat) (i1 : Int32) (ti0 : Int32) (s9 : Y_S) (r : Int32), g_24 o n 3 s r0 i1 ti0 = some (s9, r) → ∀ lv : X_L, True → Y o (d + 1) 24 35 lv [.int ti0] s (fun s1 r1 => s1 = s9 ∧ r1 = some (.int r))) := by
  intro n
  induction n with
  | zero => exact ⟨fun d s _ _ _ s9 r h => (by simp only [g_24] at h; cases h), fun d s _ _ _ s9 r h => (by simp only [g_24] at h; cases h), fun d s _ _ _ s9 r h => (by simp only [g_24] at h; cases h), fun d s _ _ _ s9 r h => (by simp only [g_24] at h; cases h)⟩
  | succ n ih =>
    refine ⟨?_, ?_, ?_, ?_⟩
    · intro d s r0 i1 ti0 s9 r h lv lk0 lk1
      simp only [g_24] at h
      refine Van rfl lk0 rfl rfl ?_
      refine Vin rfl lk1 rfl ?_
      have hz := y_bind h
      clear h
      obtain ⟨b5, h6, h⟩ := hz
      obtain ⟨eh6, fh6, wh6⟩ := y_rcv_ok h6
      cases eh6
      have hz := y_bind h
      clear h
      obtain ⟨⟨s1, r2⟩, h3, h⟩ := hz
      try dsimp only at h
      refine Vcv rfl rfl rfl wh6 rfl rfl ⟨(Nat.le_of_ble_eq_true rfl), (Nat.le_of_ble_eq_true rfl)⟩ rfl ((c_25 o n).1 _ _ _ _ _ _ _ h3 _ rfl rfl) (fun z1 z2 zq => ?_)
      obtain ⟨rfl, rfl⟩ := zq
      try dsimp only [Option.toList, HAppend.hAppend, Append.append, List.append]
      refine Yif rfl rfl rfl rfl rfl rfl rfl (fun c9 => ?_) (fun c9 => ?_)
      · rw [if_pos c9] at h
        exact ih.2.2.1 _ _ _ _ _ _ _ h lv trivial
      · rw [if_neg c9] at h
        refine Van rfl lk0 rfl rfl ?_
        have hz := y_bind h
        clear h
        obtain ⟨v10, h11, h⟩ := hz
        have wv10 := (y_gv_ok h11).2
        refine Vgv h11 rfl rfl rfl ?_
        refine Vin rfl lk1 rfl ?_
        have hz := y_bind h
        clear h
        obtain ⟨v12, h13, h⟩ := hz
        refine Zia h13 rfl rfl ?_
        refine Vbp (v := 10) rfl (by decide) rfl ?_
        refine Yif rfl rfl rfl rfl rfl rfl rfl (fun c14 => ?_) (fun c14 => ?_)
        · rw [if_pos c14] at h
          exact ih.2.1 _ _ _ _ _ _ _ h lv trivial
        · rw [if_neg c14] at h
          refine Van rfl lk0 rfl rfl ?_
          have hz := y_bind h
          clear h
          obtain ⟨v15, h16, h⟩ := hz
          have wv15 := (y_gv_ok h16).2
          refine Vgv h16 rfl rfl rfl ?_
          refine Vin rfl lk1 rfl ?_
          have hz := y_bind h
          clear h
          obtain ⟨v17, h18, h⟩ := hz
          refine Zia h18 rfl rfl ?_
          refine Vbp (v := 30) rfl (by decide) rfl ?_
          refine Yif rfl rfl rfl rfl rfl rfl rfl (fun c19 => ?_) (fun c19 => ?_)
          · rw [if_pos c19] at h
            exact ih.2.2.1 _ _ _ _ _ _ _ h lv trivial
          · rw [if_neg c19] at h
            exact ih.2.1 _ _ _ _ _ _ _ h lv trivial
    · intro d s r0 i1 ti0 s9 r h lv _
      simp only [g_24] at h
      refine Vic (v := 1) rfl (by decide) rfl ?_
      refine Ygo rfl rfl rfl rfl rfl rfl ?_
      exact ih.2.2.2 _ _ _ _ _ _ _ h lv trivial
    · intro d s r0 i1 ti0 s9 r h lv _
      simp only [g_24] at h
      refine Vic (v := 0) rfl (by decide) rfl ?_
      exact ih.2.2.2 _ _ _ _ _ _ _ h lv trivial
    · intro d s r0 i1 ti0 s9 r h lv _
      simp only [g_24] at h
      by_cases c1 : ti0 = 0 ∨ ti0 = 1
      · rw [if_pos c1] at h
        cases h
        exact Yret rfl rfl rfl rfl rfl rfl (if_pos c1) ⟨rfl, rfl⟩
      · rw [if_neg c1] at h; cases h

/-- StepRows$Nodes.isStatement -/
def g_26 (o : X_O) : Nat → Nat → Y_S → Nat → Int32 → Int32 → Option (Y_S × Int32)
  | 0, _, _, _, _, _ => none
  | n + 1, 0, s, r0, i1, ti0 => (y_rcv s 1 (.ref r0)).bind fun b5 => (g_25 o n 0 s b5 (i1) 0).bind fun q4 => if q4.2 = 0 then g_26 o n 1 q4.1 0 0 0 else (y_gv q4.1 1 (.ref r0) 0).bind fun v10 => (y_ia o q4.1 v10 i1).bind fun v12 => if v12 < 10 then g_26 o n 1 q4.1 0 0 0 else (y_gv q4.1 1 (.ref r0) 0).bind fun v15 => (y_ia o q4.1 v15 i1).bind fun v17 => if 22 ≤ v17 then g_26 o n 1 q4.1 0 0 0 else g_26 o n 2 q4.1 0 0 (1)
  | n + 1, 1, s, r0, i1, ti0 => g_26 o n 2 s 0 0 (0)
  | n + 1, 2, s, r0, i1, ti0 => if ti0 = 0 ∨ ti0 = 1 then some (s, ti0) else none
  | _ + 1, _, _, _, _, _ => none
set_option maxRecDepth 100000 in
set_option maxHeartbeats 4000000 in
theorem c_26 (o : X_O) : ∀ n, (∀ (d : Nat) (s : Y_S) (r0 : Nat) (i1 : Int32) (ti0 : Int32) (s9 : Y_S) (r : Int32), g_26 o n 0 s r0 i1 ti0 = some (s9, r) → ∀ lv : X_L, x_lget lv 0 = some (.ref r0) → x_lget lv 1 = some (.int i1) → Y o (d + 1) 26 0 lv [] s (fun s1 r1 => s1 = s9 ∧ r1 = some (.int r))) ∧
    (∀ (d : Nat) (s : Y_S) (r0 : Nat) (i1 : Int32) (ti0 : Int32) (s9 : Y_S) (r : Int32), g_26 o n 1 s r0 i1 ti0 = some (s9, r) → ∀ lv : X_L, True → Y o (d + 1) 26 34 lv [] s (fun s1 r1 => s1 = s9 ∧ r1 = some (.int r))) ∧
    (∀ (d : Nat) (s : Y_S) (r0 : Nat) (i1 : Int32) (ti0 : Int32) (s9 : Y_S) (r : Int32), g_26 o n 2 s r0 i1 ti0 = some (s9, r) → ∀ lv : X_L, True → Y o (d + 1) 26 35 lv [.int ti0] s (fun s1 r1 => s1 = s9 ∧ r1 = some (.int r))) := by
  intro n
  induction n with
  | zero => exact ⟨fun d s _ _ _ s9 r h => (by simp only [g_26] at h; cases h), fun d s _ _ _ s9 r h => (by simp only [g_26] at h; cases h), fun d s _ _ _ s9 r h => (by simp only [g_26] at h; cases h)⟩
  | succ n ih =>
    refine ⟨?_, ?_, ?_⟩
    · intro d s r0 i1 ti0 s9 r h lv lk0 lk1
      simp only [g_26] at h
      refine Van rfl lk0 rfl rfl ?_
      refine Vin rfl lk1 rfl ?_
      have hz := y_bind h
      clear h
      obtain ⟨b5, h6, h⟩ := hz
      obtain ⟨eh6, fh6, wh6⟩ := y_rcv_ok h6
      cases eh6
      have hz := y_bind h
      clear h
      obtain ⟨⟨s1, r2⟩, h3, h⟩ := hz
      try dsimp only at h
      refine Vcv rfl rfl rfl wh6 rfl rfl ⟨(Nat.le_of_ble_eq_true rfl), (Nat.le_of_ble_eq_true rfl)⟩ rfl ((c_25 o n).1 _ _ _ _ _ _ _ h3 _ rfl rfl) (fun z1 z2 zq => ?_)
      obtain ⟨rfl, rfl⟩ := zq
      try dsimp only [Option.toList, HAppend.hAppend, Append.append, List.append]
      refine Yif rfl rfl rfl rfl rfl rfl rfl (fun c9 => ?_) (fun c9 => ?_)
      · rw [if_pos c9] at h
        exact ih.2.1 _ _ _ _ _ _ _ h lv trivial
      · rw [if_neg c9] at h
        refine Van rfl lk0 rfl rfl ?_
        have hz := y_bind h
        clear h
        obtain ⟨v10, h11, h⟩ := hz
        have wv10 := (y_gv_ok h11).2
        refine Vgv h11 rfl rfl rfl ?_
        refine Vin rfl lk1 rfl ?_
        have hz := y_bind h
        clear h
        obtain ⟨v12, h13, h⟩ := hz
        refine Zia h13 rfl rfl ?_
        refine Vbp (v := 10) rfl (by decide) rfl ?_
        refine Yif rfl rfl rfl rfl rfl rfl rfl (fun c14 => ?_) (fun c14 => ?_)
        · rw [if_pos c14] at h
          exact ih.2.1 _ _ _ _ _ _ _ h lv trivial
        · rw [if_neg c14] at h
          refine Van rfl lk0 rfl rfl ?_
          have hz := y_bind h
          clear h
          obtain ⟨v15, h16, h⟩ := hz
          have wv15 := (y_gv_ok h16).2
          refine Vgv h16 rfl rfl rfl ?_
          refine Vin rfl lk1 rfl ?_
          have hz := y_bind h
          clear h
          obtain ⟨v17, h18, h⟩ := hz
          refine Zia h18 rfl rfl ?_
          refine Vbp (v := 22) rfl (by decide) rfl ?_
          refine Yif rfl rfl rfl rfl rfl rfl rfl (fun c19 => ?_) (fun c19 => ?_)
          · rw [if_pos c19] at h
            exact ih.2.1 _ _ _ _ _ _ _ h lv trivial
          · rw [if_neg c19] at h
            refine Vic (v := 1) rfl (by decide) rfl ?_
            refine Ygo rfl rfl rfl rfl rfl rfl ?_
            exact ih.2.2 _ _ _ _ _ _ _ h lv trivial
    · intro d s r0 i1 ti0 s9 r h lv _
      simp only [g_26] at h
      refine Vic (v := 0) rfl (by decide) rfl ?_
      exact ih.2.2 _ _ _ _ _ _ _ h lv trivial
    · intro d s r0 i1 ti0 s9 r h lv _
      simp only [g_26] at h
      by_cases c1 : ti0 = 0 ∨ ti0 = 1
      · rw [if_pos c1] at h
        cases h
        exact Yret rfl rfl rfl rfl rfl rfl (if_pos c1) ⟨rfl, rfl⟩
      · rw [if_neg c1] at h; cases h

/-- StepRows$Nodes.fits -/
def g_23 (o : X_O) : Nat → Nat → Y_S → Nat → Int32 → Int32 → Int32 → Option (Y_S × Int32)
  | 0, _, _, _, _, _, _ => none
  | n + 1, 0, s, r0, i1, i2, ti0 => if (i1).toInt < 1 ∨ 6 < (i1).toInt then some (s, 1) else if i1 = 1 then (y_rcv s 1 (.ref r0)).bind fun b6 => (g_24 o n 0 s b6 (i2) 0).bind fun q5 => if q5.2 = 0 ∨ q5.2 = 1 then some (q5.1, q5.2) else none else if i1 = 2 then (y_rcv s 1 (.ref r0)).bind fun b16 => (g_26 o n 0 s b16 (i2) 0).bind fun q15 => if q15.2 = 0 ∨ q15.2 = 1 then some (q15.1, q15.2) else none else if i1 = 3 then if i2 = (-1) then g_23 o n 1 s 0 0 0 0 else (y_rcv s 1 (.ref r0)).bind fun b27 => (g_26 o n 0 s b27 (i2) 0).bind fun q26 => if q26.2 = 0 then g_23 o n 2 q26.1 0 0 0 (0) else g_23 o n 1 q26.1 0 0 0 0 else if i1 = 4 then if i2 < 0 then g_23 o n 3 s 0 0 0 0 else if 8 ≤ i2 then g_23 o n 3 s 0 0 0 0 else g_23 o n 4 s 0 0 0 (1) else if i1 = 5 then if i2 < 0 then g_23 o n 7 s 0 0 0 0 else if 16 ≤ i2 then g_23 o n 7 s 0 0 0 0 else g_23 o n 8 s 0 0 0 (1) else if i1 = 6 then if i2 < 0 then g_23 o n 5 s 0 0 0 0 else if 8 ≤ i2 then g_23 o n 5 s 0 0 0 0 else g_23 o n 6 s 0 0 0 (1) else none
  | n + 1, 1, s, r0, i1, i2, ti0 => g_23 o n 2 s 0 0 0 (1)
  | n + 1, 2, s, r0, i1, i2, ti0 => if ti0 = 0 ∨ ti0 = 1 then some (s, ti0) else none
  | n + 1, 3, s, r0, i1, i2, ti0 => g_23 o n 4 s 0 0 0 (0)
  | n + 1, 4, s, r0, i1, i2, ti0 => if ti0 = 0 ∨ ti0 = 1 then some (s, ti0) else none
  | n + 1, 5, s, r0, i1, i2, ti0 => g_23 o n 6 s 0 0 0 (0)
  | n + 1, 6, s, r0, i1, i2, ti0 => if ti0 = 0 ∨ ti0 = 1 then some (s, ti0) else none
  | n + 1, 7, s, r0, i1, i2, ti0 => g_23 o n 8 s 0 0 0 (0)
  | n + 1, 8, s, r0, i1, i2, ti0 => if ti0 = 0 ∨ ti0 = 1 then some (s, ti0) else none
  | _ + 1, _, _, _, _, _, _ => none
set_option maxRecDepth 100000 in
set_option maxHeartbeats 4000000 in
theorem c_23 (o : X_O) : ∀ n, (∀ (d : Nat) (s : Y_S) (r0 : Nat) (i1 : Int32) (i2 : Int32) (ti0 : Int32) (s9 : Y_S) (r : Int32), g_23 o n 0 s r0 i1 i2 ti0 = some (s9, r) → ∀ lv : X_L, x_lget lv 0 = some (.ref r0) → x_lget lv 1 = some (.int i1) → x_lget lv 2 = some (.int i2) → Y o (d + 2) 23 0 lv [] s (fun s1 r1 => s1 = s9 ∧ r1 = some (.int r))) ∧
    (∀ (d : Nat) (s : Y_S) (r0 : Nat) (i1 : Int32) (i2 : Int32) (ti0 : Int32) (s9 : Y_S) (r : Int32), g_23 o n 1 s r0 i1 i2 ti0 = some (s9, r) → ∀ lv : X_L, True → Y o (d + 2) 23 65 lv [] s (fun s1 r1 => s1 = s9 ∧ r1 = some (.int r))) ∧
    (∀ (d : Nat) (s : Y_S) (r0 : Nat) (i1 : Int32) (i2 : Int32) (ti0 : Int32) (s9 : Y_S) (r : Int32), g_23 o n 2 s r0 i1 i2 ti0 = some (s9, r) → ∀ lv : X_L, True → Y o (d + 2) 23 70 lv [.int ti0] s (fun s1 r1 => s1 = s9 ∧ r1 = some (.int r))) ∧
    (∀ (d : Nat) (s : Y_S) (r0 : Nat) (i1 : Int32) (i2 : Int32) (ti0 : Int32) (s9 : Y_S) (r : Int32), g_23 o n 3 s r0 i1 i2 ti0 = some (s9, r) → ∀ lv : X_L, True → Y o (d + 2) 23 85 lv [] s (fun s1 r1 => s1 = s9 ∧ r1 = some (.int r))) ∧
    (∀ (d : Nat) (s : Y_S) (r0 : Nat) (i1 : Int32) (i2 : Int32) (ti0 : Int32) (s9 : Y_S) (r : Int32), g_23 o n 4 s r0 i1 i2 ti0 = some (s9, r) → ∀ lv : X_L, True → Y o (d + 2) 23 86 lv [.int ti0] s (fun s1 r1 => s1 = s9 ∧ r1 = some (.int r))) ∧
    (∀ (d : Nat) (s : Y_S) (r0 : Nat) (i1 : Int32) (i2 : Int32) (ti0 : Int32) (s9 : Y_S) (r : Int32), g_23 o n 5 s r0 i1 i2 ti0 = some (s9, r) → ∀ lv : X_L, True → Y o (d + 2) 23 101 lv [] s (fun s1 r1 => s1 = s9 ∧ r1 = some (.int r))) ∧
    (∀ (d : Nat) (s : Y_S) (r0 : Nat) (i1 : Int32) (i2 : Int32) (ti0 : Int32) (s9 : Y_S) (r : Int32), g_23 o n 6 s r0 i1 i2 ti0 = some (s9, r) → ∀ lv : X_L, True → Y o (d + 2) 23 102 lv [.int ti0] s (fun s1 r1 => s1 = s9 ∧ r1 = some (.int r))) ∧
    (∀ (d : Nat) (s : Y_S) (r0 : Nat) (i1 : Int32) (i2 : Int32) (ti0 : Int32) (s9 : Y_S) (r : Int32), g_23 o n 7 s r0 i1 i2 ti0 = some (s9, r) → ∀ lv : X_L, True → Y o (d + 2) 23 117 lv [] s (fun s1 r1 => s1 = s9 ∧ r1 = some (.int r))) ∧
    (∀ (d : Nat) (s : Y_S) (r0 : Nat) (i1 : Int32) (i2 : Int32) (ti0 : Int32) (s9 : Y_S) (r : Int32), g_23 o n 8 s r0 i1 i2 ti0 = some (s9, r) → ∀ lv : X_L, True → Y o (d + 2) 23 118 lv [.int ti0] s (fun s1 r1 => s1 = s9 ∧ r1 = some (.int r))) := by
  intro n
  induction n with
  | zero => exact ⟨fun d s _ _ _ _ s9 r h => (by simp only [g_23] at h; cases h), fun d s _ _ _ _ s9 r h => (by simp only [g_23] at h; cases h), fun d s _ _ _ _ s9 r h => (by simp only [g_23] at h; cases h), fun d s _ _ _ _ s9 r h => (by simp only [g_23] at h; cases h), fun d s _ _ _ _ s9 r h => (by simp only [g_23] at h; cases h), fun d s _ _ _ _ s9 r h => (by simp only [g_23] at h; cases h), fun d s _ _ _ _ s9 r h => (by simp only [g_23] at h; cases h), fun d s _ _ _ _ s9 r h => (by simp only [g_23] at h; cases h), fun d s _ _ _ _ s9 r h => (by simp only [g_23] at h; cases h)⟩
  | succ n ih =>
    refine ⟨?_, ?_, ?_, ?_, ?_, ?_, ?_, ?_, ?_⟩
    · intro d s r0 i1 i2 ti0 s9 r h lv lk0 lk1 lk2
      simp only [g_23] at h
      refine Vin rfl lk1 rfl ?_
      by_cases c1 : (i1).toInt < 1 ∨ 6 < (i1).toInt
      · rw [if_pos c1] at h
        refine Ysw rfl rfl rfl rfl rfl (if_pos c1) rfl ?_
        refine Vic (v := 1) rfl (by decide) rfl ?_
        cases h
        exact Yret rfl rfl rfl rfl rfl rfl rfl ⟨rfl, rfl⟩
      rw [if_neg c1] at h
      by_cases c11 : i1 = 1
      · rw [if_pos c11] at h
        refine Vts c11 rfl rfl rfl rfl rfl rfl rfl ?_
        refine Van rfl lk0 rfl rfl ?_
        refine Vin rfl lk2 rfl ?_
        have hz := y_bind h
        clear h
        obtain ⟨b6, h7, h⟩ := hz
        obtain ⟨eh7, fh7, wh7⟩ := y_rcv_ok h7
        cases eh7
        have hz := y_bind h
        clear h
        obtain ⟨⟨s2, r3⟩, h4, h⟩ := hz
        try dsimp only at h
        refine Vcv rfl rfl rfl wh7 rfl rfl ⟨(Nat.le_of_ble_eq_true rfl), (Nat.le_of_ble_eq_true rfl)⟩ rfl ((c_24 o n).1 _ _ _ _ _ _ _ h4 _ rfl rfl) (fun z1 z2 zq => ?_)
        obtain ⟨rfl, rfl⟩ := zq
        try dsimp only [Option.toList, HAppend.hAppend, Append.append, List.append]
        by_cases c10 : r3 = 0 ∨ r3 = 1
        · rw [if_pos c10] at h
          cases h
          exact Yret rfl rfl rfl rfl rfl rfl (if_pos c10) ⟨rfl, rfl⟩
        · rw [if_neg c10] at h; cases h
      rw [if_neg c11] at h
      by_cases c21 : i1 = 2
      · rw [if_pos c21] at h
        refine Vts c21 rfl rfl rfl rfl rfl rfl rfl ?_
        refine Van rfl lk0 rfl rfl ?_
        refine Vin rfl lk2 rfl ?_
        have hz := y_bind h
        clear h
        obtain ⟨b16, h17, h⟩ := hz
        obtain ⟨eh17, fh17, wh17⟩ := y_rcv_ok h17
        cases eh17
        have hz := y_bind h
        clear h
        obtain ⟨⟨s12, r13⟩, h14, h⟩ := hz
        try dsimp only at h
        refine Vcv rfl rfl rfl wh17 rfl rfl ⟨(Nat.le_of_ble_eq_true rfl), (Nat.le_of_ble_eq_true rfl)⟩ rfl ((c_26 o n).1 _ _ _ _ _ _ _ h14 _ rfl rfl) (fun z1 z2 zq => ?_)
        obtain ⟨rfl, rfl⟩ := zq
        try dsimp only [Option.toList, HAppend.hAppend, Append.append, List.append]
        by_cases c20 : r13 = 0 ∨ r13 = 1
        · rw [if_pos c20] at h
          cases h
          exact Yret rfl rfl rfl rfl rfl rfl (if_pos c20) ⟨rfl, rfl⟩
        · rw [if_neg c20] at h; cases h
      rw [if_neg c21] at h
      by_cases c32 : i1 = 3
      · rw [if_pos c32] at h
        refine Vts c32 rfl rfl rfl rfl rfl rfl rfl ?_
        refine Vin rfl lk2 rfl ?_
        refine Vic (v := (-1)) rfl (by decide) rfl ?_
        refine Yif rfl rfl rfl rfl rfl rfl rfl (fun c22 => ?_) (fun c22 => ?_)
        · rw [if_pos c22] at h
          exact ih.2.1 _ _ _ _ _ _ _ _ h lv trivial
        · rw [if_neg c22] at h
          refine Van rfl lk0 rfl rfl ?_
          refine Vin rfl lk2 rfl ?_
          have hz := y_bind h
          clear h
          obtain ⟨b27, h28, h⟩ := hz
          obtain ⟨eh28, fh28, wh28⟩ := y_rcv_ok h28
          cases eh28
          have hz := y_bind h
          clear h
          obtain ⟨⟨s23, r24⟩, h25, h⟩ := hz
          try dsimp only at h
          refine Vcv rfl rfl rfl wh28 rfl rfl ⟨(Nat.le_of_ble_eq_true rfl), (Nat.le_of_ble_eq_true rfl)⟩ rfl ((c_26 o n).1 _ _ _ _ _ _ _ h25 _ rfl rfl) (fun z1 z2 zq => ?_)
          obtain ⟨rfl, rfl⟩ := zq
          try dsimp only [Option.toList, HAppend.hAppend, Append.append, List.append]
          refine Yif rfl rfl rfl rfl rfl rfl rfl (fun c31 => ?_) (fun c31 => ?_)
          · rw [if_pos c31] at h
            refine Vic (v := 0) rfl (by decide) rfl ?_
            exact ih.2.2.1 _ _ _ _ _ _ _ _ h lv trivial
          · rw [if_neg c31] at h
            exact ih.2.1 _ _ _ _ _ _ _ _ h lv trivial
      rw [if_neg c32] at h
      by_cases c35 : i1 = 4
      · rw [if_pos c35] at h
        refine Vts c35 rfl rfl rfl rfl rfl rfl rfl ?_
        refine Vin rfl lk2 rfl ?_
        refine Yif rfl rfl rfl rfl rfl rfl rfl (fun c33 => ?_) (fun c33 => ?_)
        · rw [if_pos c33] at h
          exact ih.2.2.2.1 _ _ _ _ _ _ _ _ h lv trivial
        · rw [if_neg c33] at h
          refine Vin rfl lk2 rfl ?_
          refine Vbp (v := 8) rfl (by decide) rfl ?_
          refine Yif rfl rfl rfl rfl rfl rfl rfl (fun c34 => ?_) (fun c34 => ?_)
          · rw [if_pos c34] at h
            exact ih.2.2.2.1 _ _ _ _ _ _ _ _ h lv trivial
          · rw [if_neg c34] at h
            refine Vic (v := 1) rfl (by decide) rfl ?_
            refine Ygo rfl rfl rfl rfl rfl rfl ?_
            exact ih.2.2.2.2.1 _ _ _ _ _ _ _ _ h lv trivial
      rw [if_neg c35] at h
      by_cases c38 : i1 = 5
      · rw [if_pos c38] at h
        refine Vts c38 rfl rfl rfl rfl rfl rfl rfl ?_
        refine Vin rfl lk2 rfl ?_
        refine Yif rfl rfl rfl rfl rfl rfl rfl (fun c36 => ?_) (fun c36 => ?_)
        · rw [if_pos c36] at h
          exact ih.2.2.2.2.2.2.2.1 _ _ _ _ _ _ _ _ h lv trivial
        · rw [if_neg c36] at h
          refine Vin rfl lk2 rfl ?_
          refine Vbp (v := 16) rfl (by decide) rfl ?_
          refine Yif rfl rfl rfl rfl rfl rfl rfl (fun c37 => ?_) (fun c37 => ?_)
          · rw [if_pos c37] at h
            exact ih.2.2.2.2.2.2.2.1 _ _ _ _ _ _ _ _ h lv trivial
          · rw [if_neg c37] at h
            refine Vic (v := 1) rfl (by decide) rfl ?_
            refine Ygo rfl rfl rfl rfl rfl rfl ?_
            exact ih.2.2.2.2.2.2.2.2 _ _ _ _ _ _ _ _ h lv trivial
      rw [if_neg c38] at h
      by_cases c41 : i1 = 6
      · rw [if_pos c41] at h
        refine Vts c41 rfl rfl rfl rfl rfl rfl rfl ?_
        refine Vin rfl lk2 rfl ?_
        refine Yif rfl rfl rfl rfl rfl rfl rfl (fun c39 => ?_) (fun c39 => ?_)
        · rw [if_pos c39] at h
          exact ih.2.2.2.2.2.1 _ _ _ _ _ _ _ _ h lv trivial
        · rw [if_neg c39] at h
          refine Vin rfl lk2 rfl ?_
          refine Vbp (v := 8) rfl (by decide) rfl ?_
          refine Yif rfl rfl rfl rfl rfl rfl rfl (fun c40 => ?_) (fun c40 => ?_)
          · rw [if_pos c40] at h
            exact ih.2.2.2.2.2.1 _ _ _ _ _ _ _ _ h lv trivial
          · rw [if_neg c40] at h
            refine Vic (v := 1) rfl (by decide) rfl ?_
            refine Ygo rfl rfl rfl rfl rfl rfl ?_
            exact ih.2.2.2.2.2.2.1 _ _ _ _ _ _ _ _ h lv trivial
      rw [if_neg c41] at h
      cases h
    · intro d s r0 i1 i2 ti0 s9 r h lv _
      simp only [g_23] at h
      refine Vic (v := 1) rfl (by decide) rfl ?_
      refine Ygo rfl rfl rfl rfl rfl rfl ?_
      exact ih.2.2.1 _ _ _ _ _ _ _ _ h lv trivial
    · intro d s r0 i1 i2 ti0 s9 r h lv _
      simp only [g_23] at h
      by_cases c1 : ti0 = 0 ∨ ti0 = 1
      · rw [if_pos c1] at h
        cases h
        exact Yret rfl rfl rfl rfl rfl rfl (if_pos c1) ⟨rfl, rfl⟩
      · rw [if_neg c1] at h; cases h
    · intro d s r0 i1 i2 ti0 s9 r h lv _
      simp only [g_23] at h
      refine Vic (v := 0) rfl (by decide) rfl ?_
      exact ih.2.2.2.2.1 _ _ _ _ _ _ _ _ h lv trivial
    · intro d s r0 i1 i2 ti0 s9 r h lv _
      simp only [g_23] at h
      by_cases c1 : ti0 = 0 ∨ ti0 = 1
      · rw [if_pos c1] at h
        cases h
        exact Yret rfl rfl rfl rfl rfl rfl (if_pos c1) ⟨rfl, rfl⟩
      · rw [if_neg c1] at h; cases h
    · intro d s r0 i1 i2 ti0 s9 r h lv _
      simp only [g_23] at h
      refine Vic (v := 0) rfl (by decide) rfl ?_
      exact ih.2.2.2.2.2.2.1 _ _ _ _ _ _ _ _ h lv trivial
    · intro d s r0 i1 i2 ti0 s9 r h lv _
      simp only [g_23] at h
      by_cases c1 : ti0 = 0 ∨ ti0 = 1
      · rw [if_pos c1] at h
        cases h
        exact Yret rfl rfl rfl rfl rfl rfl (if_pos c1) ⟨rfl, rfl⟩
      · rw [if_neg c1] at h; cases h
    · intro d s r0 i1 i2 ti0 s9 r h lv _
      simp only [g_23] at h
      refine Vic (v := 0) rfl (by decide) rfl ?_
      exact ih.2.2.2.2.2.2.2.2 _ _ _ _ _ _ _ _ h lv trivial
    · intro d s r0 i1 i2 ti0 s9 r h lv _
      simp only [g_23] at h
      by_cases c1 : ti0 = 0 ∨ ti0 = 1
      · rw [if_pos c1] at h
        cases h
        exact Yret rfl rfl rfl rfl rfl rfl (if_pos c1) ⟨rfl, rfl⟩
      · rw [if_neg c1] at h; cases h

/-- StepRows$Nodes.hasPlaces -/
def g_28 (o : X_O) : Nat → Nat → Y_S → Nat → Int32 → Int32 → Int32 → Option (Y_S × Int32)
  | 0, _, _, _, _, _, _ => none
  | n + 1, 0, s, r0, i1, i2, ti0 => (y_gv s 1 (.ref r0) 0).bind fun v1 => (y_ia o s v1 i1).bind fun v3 => (y_rcv s 1 (.ref r0)).bind fun b9 => (g_22 o n 0 s b9 (v3) (i2) 0).bind fun q8 => if ¬ q8.2 = 3 then if q8.2 = 1 then g_28 o n 2 q8.1 0 0 0 0 else if ¬ q8.2 = 2 then g_28 o n 3 q8.1 0 0 0 (0) else g_28 o n 2 q8.1 0 0 0 0 else (y_gv q8.1 1 (.ref r0) 1).bind fun v16 => (y_ia o q8.1 v16 ((i1 * 3) + i2)).bind fun v18 => if v18 = (-1) then g_28 o n 1 q8.1 0 0 0 (0) else g_28 o n 1 q8.1 0 0 0 (1)
  | n + 1, 1, s, r0, i1, i2, ti0 => if ti0 = 0 ∨ ti0 = 1 then some (s, ti0) else none
  | n + 1, 2, s, r0, i1, i2, ti0 => g_28 o n 3 s 0 0 0 (1)
  | n + 1, 3, s, r0, i1, i2, ti0 => if ti0 = 0 ∨ ti0 = 1 then some (s, ti0) else none
  | _ + 1, _, _, _, _, _, _ => none
set_option maxRecDepth 100000 in
set_option maxHeartbeats 4000000 in
theorem c_28 (o : X_O) : ∀ n, (∀ (d : Nat) (s : Y_S) (r0 : Nat) (i1 : Int32) (i2 : Int32) (ti0 : Int32) (s9 : Y_S) (r : Int32), g_28 o n 0 s r0 i1 i2 ti0 = some (s9, r) → ∀ lv : X_L, x_lget lv 0 = some (.ref r0) → x_lget lv 1 = some (.int i1) → x_lget lv 2 = some (.int i2) → Y o (d + 1) 28 0 lv [] s (fun s1 r1 => s1 = s9 ∧ r1 = some (.int r))) ∧
    (∀ (d : Nat) (s : Y_S) (r0 : Nat) (i1 : Int32) (i2 : Int32) (ti0 : Int32) (s9 : Y_S) (r : Int32), g_28 o n 1 s r0 i1 i2 ti0 = some (s9, r) → ∀ lv : X_L, True → Y o (d + 1) 28 36 lv [.int ti0] s (fun s1 r1 => s1 = s9 ∧ r1 = some (.int r))) ∧
    (∀ (d : Nat) (s : Y_S) (r0 : Nat) (i1 : Int32) (i2 : Int32) (ti0 : Int32) (s9 : Y_S) (r : Int32), g_28 o n 2 s r0 i1 i2 ti0 = some (s9, r) → ∀ lv : X_L, True → Y o (d + 1) 28 47 lv [] s (fun s1 r1 => s1 = s9 ∧ r1 = some (.int r))) ∧
    (∀ (d : Nat) (s : Y_S) (r0 : Nat) (i1 : Int32) (i2 : Int32) (ti0 : Int32) (s9 : Y_S) (r : Int32), g_28 o n 3 s r0 i1 i2 ti0 = some (s9, r) → ∀ lv : X_L, True → Y o (d + 1) 28 52 lv [.int ti0] s (fun s1 r1 => s1 = s9 ∧ r1 = some (.int r))) := by
  intro n
  induction n with
  | zero => exact ⟨fun d s _ _ _ _ s9 r h => (by simp only [g_28] at h; cases h), fun d s _ _ _ _ s9 r h => (by simp only [g_28] at h; cases h), fun d s _ _ _ _ s9 r h => (by simp only [g_28] at h; cases h), fun d s _ _ _ _ s9 r h => (by simp only [g_28] at h; cases h)⟩
  | succ n ih =>
    refine ⟨?_, ?_, ?_, ?_⟩
    · intro d s r0 i1 i2 ti0 s9 r h lv lk0 lk1 lk2
      simp only [g_28] at h
      refine Van rfl lk0 rfl rfl ?_
      refine Van rfl lk0 rfl rfl ?_
      have hz := y_bind h
      clear h
      obtain ⟨v1, h2, h⟩ := hz
      have wv1 := (y_gv_ok h2).2
      refine Vgv h2 rfl rfl rfl ?_
      refine Vin rfl lk1 rfl ?_
      have hz := y_bind h
      clear h
      obtain ⟨v3, h4, h⟩ := hz
      refine Zia h4 rfl rfl ?_
      refine Vin rfl lk2 rfl ?_
      have hz := y_bind h
      clear h
      obtain ⟨b9, h10, h⟩ := hz
      obtain ⟨eh10, fh10, wh10⟩ := y_rcv_ok h10
      cases eh10
      have hz := y_bind h
      clear h
      obtain ⟨⟨s5, r6⟩, h7, h⟩ := hz
      try dsimp only at h
      refine Vcv rfl rfl rfl wh10 rfl rfl ⟨(Nat.le_of_ble_eq_true rfl), (Nat.le_of_ble_eq_true rfl)⟩ rfl ((c_22 o n).1 _ _ _ _ _ _ _ _ h7 _ rfl rfl rfl) (fun z1 z2 zq => ?_)
      obtain ⟨rfl, rfl⟩ := zq
      try dsimp only [Option.toList, HAppend.hAppend, Append.append, List.append]
      refine Vsin rfl rfl (fun lv lk3 hk => ?_)
      have lk0 := hk 0 _ lk0 (by decide) (by decide) (Or.inl (by decide))
      have lk1 := hk 1 _ lk1 (by decide) (by decide) (Or.inl (by decide))
      have lk2 := hk 2 _ lk2 (by decide) (by decide) (Or.inr rfl)
      refine Vin rfl lk3 rfl ?_
      refine Vic (v := 3) rfl (by decide) rfl ?_
      refine Yif rfl rfl rfl rfl rfl rfl rfl (fun c13 => ?_) (fun c13 => ?_)
      · rw [if_pos c13] at h
        refine Vin rfl lk3 rfl ?_
        refine Vic (v := 1) rfl (by decide) rfl ?_
        refine Yif rfl rfl rfl rfl rfl rfl rfl (fun c14 => ?_) (fun c14 => ?_)
        · rw [if_pos c14] at h
          exact ih.2.2.1 _ _ _ _ _ _ _ _ h lv trivial
        · rw [if_neg c14] at h
          refine Vin rfl lk3 rfl ?_
          refine Vic (v := 2) rfl (by decide) rfl ?_
          refine Yif rfl rfl rfl rfl rfl rfl rfl (fun c15 => ?_) (fun c15 => ?_)
          · rw [if_pos c15] at h
            refine Vic (v := 0) rfl (by decide) rfl ?_
            exact ih.2.2.2 _ _ _ _ _ _ _ _ h lv trivial
          · rw [if_neg c15] at h
            exact ih.2.2.1 _ _ _ _ _ _ _ _ h lv trivial
      · rw [if_neg c13] at h
        refine Van rfl lk0 rfl rfl ?_
        have hz := y_bind h
        clear h
        obtain ⟨v16, h17, h⟩ := hz
        have wv16 := (y_gv_ok h17).2
        refine Vgv h17 rfl rfl rfl ?_
        refine Vin rfl lk1 rfl ?_
        refine Vic (v := 3) rfl (by decide) rfl ?_
        refine Ya rfl rfl rfl ?_
        refine Vin rfl lk2 rfl ?_
        refine Ya rfl rfl rfl ?_
        have hz := y_bind h
        clear h
        obtain ⟨v18, h19, h⟩ := hz
        refine Zia h19 rfl rfl ?_
        refine Vic (v := (-1)) rfl (by decide) rfl ?_
        refine Yif rfl rfl rfl rfl rfl rfl rfl (fun c20 => ?_) (fun c20 => ?_)
        · rw [if_pos c20] at h
          refine Vic (v := 0) rfl (by decide) rfl ?_
          exact ih.2.1 _ _ _ _ _ _ _ _ h lv trivial
        · rw [if_neg c20] at h
          refine Vic (v := 1) rfl (by decide) rfl ?_
          refine Ygo rfl rfl rfl rfl rfl rfl ?_
          exact ih.2.1 _ _ _ _ _ _ _ _ h lv trivial
    · intro d s r0 i1 i2 ti0 s9 r h lv _
      simp only [g_28] at h
      by_cases c1 : ti0 = 0 ∨ ti0 = 1
      · rw [if_pos c1] at h
        cases h
        exact Yret rfl rfl rfl rfl rfl rfl (if_pos c1) ⟨rfl, rfl⟩
      · rw [if_neg c1] at h; cases h
    · intro d s r0 i1 i2 ti0 s9 r h lv _
      simp only [g_28] at h
      refine Vic (v := 1) rfl (by decide) rfl ?_
      refine Ygo rfl rfl rfl rfl rfl rfl ?_
      exact ih.2.2.2 _ _ _ _ _ _ _ _ h lv trivial
    · intro d s r0 i1 i2 ti0 s9 r h lv _
      simp only [g_28] at h
      by_cases c1 : ti0 = 0 ∨ ti0 = 1
      · rw [if_pos c1] at h
        cases h
        exact Yret rfl rfl rfl rfl rfl rfl (if_pos c1) ⟨rfl, rfl⟩
      · rw [if_neg c1] at h; cases h

/-- StepRows$Nodes.sizeWithParts -/
def g_27 (o : X_O) : Nat → Nat → Y_S → Nat → Int32 → Int32 → Int32 → Option (Y_S × Int32)
  | 0, _, _, _, _, _, _ => none
  | n + 1, 0, s, r0, i1, i2, i3 => g_27 o n 1 s r0 (i1) (1) (0)
  | n + 1, 1, s, r0, i1, i2, i3 => if 3 ≤ i3 then some (s, (if 501 < i2 then 501 else i2)) else (y_rcv s 1 (.ref r0)).bind fun b6 => (g_28 o n 0 s b6 (i1) (i3) 0).bind fun q5 => if q5.2 = 0 then g_27 o n 2 q5.1 r0 (i1) (i2) (i3) else (y_gv q5.1 1 (.ref r0) 3).bind fun v11 => (y_gv q5.1 1 (.ref r0) 1).bind fun v13 => (y_ia o q5.1 v13 ((i1 * 3) + i3)).bind fun v15 => (y_ia o q5.1 v11 v15).bind fun v17 => g_27 o n 2 q5.1 r0 (i1) ((i2 + v17)) (i3)
  | n + 1, 2, s, r0, i1, i2, i3 => g_27 o n 1 s r0 (i1) (i2) ((i3 + Int32.ofInt 1))
  | _ + 1, _, _, _, _, _, _ => none
set_option maxRecDepth 100000 in
set_option maxHeartbeats 4000000 in
theorem c_27 (o : X_O) : ∀ n, (∀ (d : Nat) (s : Y_S) (r0 : Nat) (i1 : Int32) (i2 : Int32) (i3 : Int32) (s9 : Y_S) (r : Int32), g_27 o n 0 s r0 i1 i2 i3 = some (s9, r) → ∀ lv : X_L, x_lget lv 0 = some (.ref r0) → x_lget lv 1 = some (.int i1) → Y o (d + 2) 27 0 lv [] s (fun s1 r1 => s1 = s9 ∧ r1 = some (.int r))) ∧
    (∀ (d : Nat) (s : Y_S) (r0 : Nat) (i1 : Int32) (i2 : Int32) (i3 : Int32) (s9 : Y_S) (r : Int32), g_27 o n 1 s r0 i1 i2 i3 = some (s9, r) → ∀ lv : X_L, x_lget lv 0 = some (.ref r0) → x_lget lv 1 = some (.int i1) → x_lget lv 2 = some (.int i2) → x_lget lv 3 = some (.int i3) → Y o (d + 2) 27 4 lv [] s (fun s1 r1 => s1 = s9 ∧ r1 = some (.int r))) ∧
    (∀ (d : Nat) (s : Y_S) (r0 : Nat) (i1 : Int32) (i2 : Int32) (i3 : Int32) (s9 : Y_S) (r : Int32), g_27 o n 2 s r0 i1 i2 i3 = some (s9, r) → ∀ lv : X_L, x_lget lv 0 = some (.ref r0) → x_lget lv 1 = some (.int i1) → x_lget lv 2 = some (.int i2) → x_lget lv 3 = some (.int i3) → Y o (d + 2) 27 36 lv [] s (fun s1 r1 => s1 = s9 ∧ r1 = some (.int r))) := by
  intro n
  induction n with
  | zero => exact ⟨fun d s _ _ _ _ s9 r h => (by simp only [g_27] at h; cases h), fun d s _ _ _ _ s9 r h => (by simp only [g_27] at h; cases h), fun d s _ _ _ _ s9 r h => (by simp only [g_27] at h; cases h)⟩
  | succ n ih =>
    refine ⟨?_, ?_, ?_⟩
    · intro d s r0 i1 i2 i3 s9 r h lv lk0 lk1
      simp only [g_27] at h
      refine Vic (v := 1) rfl (by decide) rfl ?_
      refine Vsin rfl rfl (fun lv lk2 hk => ?_)
      have lk0 := hk 0 _ lk0 (by decide) (by decide) (Or.inl (by decide))
      have lk1 := hk 1 _ lk1 (by decide) (by decide) (Or.inr rfl)
      refine Vic (v := 0) rfl (by decide) rfl ?_
      refine Vsin rfl rfl (fun lv lk3 hk => ?_)
      have lk0 := hk 0 _ lk0 (by decide) (by decide) (Or.inl (by decide))
      have lk1 := hk 1 _ lk1 (by decide) (by decide) (Or.inl (by decide))
      have lk2 := hk 2 _ lk2 (by decide) (by decide) (Or.inr rfl)
      exact ih.2.1 _ _ _ _ _ _ _ _ h lv lk0 lk1 lk2 lk3
    · intro d s r0 i1 i2 i3 s9 r h lv lk0 lk1 lk2 lk3
      simp only [g_27] at h
      refine Vin rfl lk3 rfl ?_
      refine Vic (v := 3) rfl (by decide) rfl ?_
      refine Yif rfl rfl rfl rfl rfl rfl rfl (fun c1 => ?_) (fun c1 => ?_)
      · rw [if_pos c1] at h
        refine Vin rfl lk2 rfl ?_
        refine Vsp (v := 501) rfl (by decide) rfl ?_
        refine Y8 rfl rfl (Nat.le_of_ble_eq_true rfl) rfl ?_
        cases h
        exact Yret rfl rfl rfl rfl rfl rfl rfl ⟨rfl, rfl⟩
      · rw [if_neg c1] at h
        refine Van rfl lk0 rfl rfl ?_
        refine Vin rfl lk1 rfl ?_
        refine Vin rfl lk3 rfl ?_
        have hz := y_bind h
        clear h
        obtain ⟨b6, h7, h⟩ := hz
        obtain ⟨eh7, fh7, wh7⟩ := y_rcv_ok h7
        cases eh7
        have hz := y_bind h
        clear h
        obtain ⟨⟨s2, r3⟩, h4, h⟩ := hz
        try dsimp only at h
        refine Vcv rfl rfl rfl wh7 rfl rfl ⟨(Nat.le_of_ble_eq_true rfl), (Nat.le_of_ble_eq_true rfl)⟩ rfl ((c_28 o n).1 _ _ _ _ _ _ _ _ h4 _ rfl rfl rfl) (fun z1 z2 zq => ?_)
        obtain ⟨rfl, rfl⟩ := zq
        try dsimp only [Option.toList, HAppend.hAppend, Append.append, List.append]
        refine Yif rfl rfl rfl rfl rfl rfl rfl (fun c10 => ?_) (fun c10 => ?_)
        · rw [if_pos c10] at h
          exact ih.2.2 _ _ _ _ _ _ _ _ h lv lk0 lk1 lk2 lk3
        · rw [if_neg c10] at h
          refine Vin rfl lk2 rfl ?_
          refine Van rfl lk0 rfl rfl ?_
          have hz := y_bind h
          clear h
          obtain ⟨v11, h12, h⟩ := hz
          have wv11 := (y_gv_ok h12).2
          refine Vgv h12 rfl rfl rfl ?_
          refine Van rfl lk0 rfl rfl ?_
          have hz := y_bind h
          clear h
          obtain ⟨v13, h14, h⟩ := hz
          have wv13 := (y_gv_ok h14).2
          refine Vgv h14 rfl rfl rfl ?_
          refine Vin rfl lk1 rfl ?_
          refine Vic (v := 3) rfl (by decide) rfl ?_
          refine Ya rfl rfl rfl ?_
          refine Vin rfl lk3 rfl ?_
          refine Ya rfl rfl rfl ?_
          have hz := y_bind h
          clear h
          obtain ⟨v15, h16, h⟩ := hz
          refine Zia h16 rfl rfl ?_
          have hz := y_bind h
          clear h
          obtain ⟨v17, h18, h⟩ := hz
          refine Zia h18 rfl rfl ?_
          refine Ya rfl rfl rfl ?_
          refine Vsin rfl rfl (fun lv lk2 hk => ?_)
          have lk0 := hk 0 _ lk0 (by decide) (by decide) (Or.inl (by decide))
          have lk1 := hk 1 _ lk1 (by decide) (by decide) (Or.inr rfl)
          have lk3 := hk 3 _ lk3 (by decide) (by decide) (Or.inl (by decide))
          exact ih.2.2 _ _ _ _ _ _ _ _ h lv lk0 lk1 lk2 lk3
    · intro d s r0 i1 i2 i3 s9 r h lv lk0 lk1 lk2 lk3
      simp only [g_27] at h
      refine Vinc rfl lk3 rfl (fun lv lk3 hk => ?_)
      have lk0 := hk 0 _ lk0 (by decide) (by decide) (Or.inl (by decide))
      have lk1 := hk 1 _ lk1 (by decide) (by decide) (Or.inl (by decide))
      have lk2 := hk 2 _ lk2 (by decide) (by decide) (Or.inr rfl)
      refine Ygo rfl rfl rfl rfl rfl rfl ?_
      exact ih.2.1 _ _ _ _ _ _ _ _ h lv lk0 lk1 lk2 lk3

/-- StepRows$Nodes.addNode -/
def g_21 (o : X_O) : Nat → Nat → Y_S → Nat → Int32 → Int32 → Int32 → Int32 → Option (Y_S × Int32)
  | 0, _, _, _, _, _, _, _ => none
  | n + 1, 0, s, r0, i1, i2, i3, i4 => if i1 < 0 then g_21 o n 1 s 0 0 0 0 0 else if 22 ≤ i1 then g_21 o n 1 s 0 0 0 0 0 else (y_rcv s 1 (.ref r0)).bind fun b7 => (g_22 o n 0 s b7 (i1) (0) 0).bind fun q6 => if ¬ q6.2 = 0 then (y_rcv q6.1 1 (.ref r0)).bind fun b16 => (g_22 o n 0 q6.1 b16 (i1) (0) 0).bind fun q15 => (y_rcv q15.1 1 (.ref r0)).bind fun b24 => (g_23 o n 0 q15.1 b24 (q15.2) (i2) 0).bind fun q23 => if q23.2 = 0 then g_21 o n 2 q23.1 0 0 0 0 0 else (y_rcv q23.1 1 (.ref r0)).bind fun b33 => (g_22 o n 0 q23.1 b33 (i1) (1) 0).bind fun q32 => (y_rcv q32.1 1 (.ref r0)).bind fun b41 => (g_23 o n 0 q32.1 b41 (q32.2) (i3) 0).bind fun q40 => if q40.2 = 0 then g_21 o n 2 q40.1 0 0 0 0 0 else (y_rcv q40.1 1 (.ref r0)).bind fun b50 => (g_22 o n 0 q40.1 b50 (i1) (2) 0).bind fun q49 => (y_rcv q49.1 1 (.ref r0)).bind fun b58 => (g_23 o n 0 q49.1 b58 (q49.2) (i4) 0).bind fun q57 => if ¬ q57.2 = 0 then (y_gi q57.1 1 (.ref r0) 4).bind fun v63 => if v63 < 300 then (y_gv q57.1 1 (.ref r0) 0).bind fun v66 => (y_gi q57.1 1 (.ref r0) 4).bind fun v68 => (y_is q57.1 v66 v68 i1).bind fun s70 => (y_gv s70 1 (.ref r0) 1).bind fun v72 => (y_gi s70 1 (.ref r0) 4).bind fun v74 => (y_is s70 v72 (v74 * 3) i2).bind fun s76 => (y_gv s76 1 (.ref r0) 1).bind fun v78 => (y_gi s76 1 (.ref r0) 4).bind fun v80 => (y_is s76 v78 ((v80 * 3) + 1) i3).bind fun s82 => (y_gv s82 1 (.ref r0) 1).bind fun v84 => (y_gi s82 1 (.ref r0) 4).bind fun v86 => (y_is s82 v84 ((v86 * 3) + 2) i4).bind fun s88 => (y_gv s88 1 (.ref r0) 3).bind fun v90 => (y_gi s88 1 (.ref r0) 4).bind fun v92 => (y_gi s88 1 (.ref r0) 4).bind fun v94 => (y_rcv s88 1 (.ref r0)).bind fun b100 => (g_27 o n 0 s88 b100 (v94) 0 0).bind fun q99 => (y_is q99.1 v90 v92 q99.2).bind fun s104 => (y_gi s104 1 (.ref r0) 4).bind fun v106 => (y_pi s104 1 (.ref r0) 4 (v106 + 1)).bind fun s108 => (y_gi s108 1 (.ref r0) 4).bind fun v110 => some (s108, (v110 - 1)) else some (q57.1, (-2)) else g_21 o n 2 q57.1 0 0 0 0 0 else g_21 o n 1 q6.1 0 0 0 0 0
  | n + 1, 1, s, r0, i1, i2, i3, i4 => some (s, (-1))
  | n + 1, 2, s, r0, i1, i2, i3, i4 => some (s, (-1))
  | _ + 1, _, _, _, _, _, _, _ => none
set_option maxRecDepth 100000 in
set_option maxHeartbeats 4000000 in
theorem c_21 (o : X_O) : ∀ n, (∀ (d : Nat) (s : Y_S) (r0 : Nat) (i1 : Int32) (i2 : Int32) (i3 : Int32) (i4 : Int32) (s9 : Y_S) (r : Int32), g_21 o n 0 s r0 i1 i2 i3 i4 = some (s9, r) → ∀ lv : X_L, x_lget lv 0 = some (.ref r0) → x_lget lv 1 = some (.int i1) → x_lget lv 2 = some (.int i2) → x_lget lv 3 = some (.int i3) → x_lget lv 4 = some (.int i4) → Y o (d + 3) 21 0 lv [] s (fun s1 r1 => s1 = s9 ∧ r1 = some (.int r))) ∧
    (∀ (d : Nat) (s : Y_S) (r0 : Nat) (i1 : Int32) (i2 : Int32) (i3 : Int32) (i4 : Int32) (s9 : Y_S) (r : Int32), g_21 o n 1 s r0 i1 i2 i3 i4 = some (s9, r) → ∀ lv : X_L, True → Y o (d + 3) 21 19 lv [] s (fun s1 r1 => s1 = s9 ∧ r1 = some (.int r))) ∧
    (∀ (d : Nat) (s : Y_S) (r0 : Nat) (i1 : Int32) (i2 : Int32) (i3 : Int32) (i4 : Int32) (s9 : Y_S) (r : Int32), g_21 o n 2 s r0 i1 i2 i3 i4 = some (s9, r) → ∀ lv : X_L, True → Y o (d + 3) 21 64 lv [] s (fun s1 r1 => s1 = s9 ∧ r1 = some (.int r))) := by
  intro n
  induction n with
  | zero => exact ⟨fun d s _ _ _ _ _ s9 r h => (by simp only [g_21] at h; cases h), fun d s _ _ _ _ _ s9 r h => (by simp only [g_21] at h; cases h), fun d s _ _ _ _ _ s9 r h => (by simp only [g_21] at h; cases h)⟩
  | succ n ih =>
    refine ⟨?_, ?_, ?_⟩
    · intro d s r0 i1 i2 i3 i4 s9 r h lv lk0 lk1 lk2 lk3 lk4
      simp only [g_21] at h
      refine Vin rfl lk1 rfl ?_
      refine Yif rfl rfl rfl rfl rfl rfl rfl (fun c1 => ?_) (fun c1 => ?_)
      · rw [if_pos c1] at h
        exact ih.2.1 _ _ _ _ _ _ _ _ _ h lv trivial
      · rw [if_neg c1] at h
        refine Vin rfl lk1 rfl ?_
        refine Vbp (v := 22) rfl (by decide) rfl ?_
        refine Yif rfl rfl rfl rfl rfl rfl rfl (fun c2 => ?_) (fun c2 => ?_)
        · rw [if_pos c2] at h
          exact ih.2.1 _ _ _ _ _ _ _ _ _ h lv trivial
        · rw [if_neg c2] at h
          refine Van rfl lk0 rfl rfl ?_
          refine Vin rfl lk1 rfl ?_
          refine Vic (v := 0) rfl (by decide) rfl ?_
          have hz := y_bind h
          clear h
          obtain ⟨b7, h8, h⟩ := hz
          obtain ⟨eh8, fh8, wh8⟩ := y_rcv_ok h8
          cases eh8
          have hz := y_bind h
          clear h
          obtain ⟨⟨s3, r4⟩, h5, h⟩ := hz
          try dsimp only at h
          refine Vcv rfl rfl rfl wh8 rfl rfl ⟨(Nat.le_of_ble_eq_true rfl), (Nat.le_of_ble_eq_true rfl)⟩ rfl ((c_22 o n).1 _ _ _ _ _ _ _ _ h5 _ rfl rfl rfl) (fun z1 z2 zq => ?_)
          obtain ⟨rfl, rfl⟩ := zq
          try dsimp only [Option.toList, HAppend.hAppend, Append.append, List.append]
          refine Yif rfl rfl rfl rfl rfl rfl rfl (fun c11 => ?_) (fun c11 => ?_)
          · rw [if_pos c11] at h
            refine Van rfl lk0 rfl rfl ?_
            refine Van rfl lk0 rfl rfl ?_
            refine Vin rfl lk1 rfl ?_
            refine Vic (v := 0) rfl (by decide) rfl ?_
            have hz := y_bind h
            clear h
            obtain ⟨b16, h17, h⟩ := hz
            obtain ⟨eh17, fh17, wh17⟩ := y_rcv_ok h17
            cases eh17
            have hz := y_bind h
            clear h
            obtain ⟨⟨s12, r13⟩, h14, h⟩ := hz
            try dsimp only at h
            refine Vcv rfl rfl rfl wh17 rfl rfl ⟨(Nat.le_of_ble_eq_true rfl), (Nat.le_of_ble_eq_true rfl)⟩ rfl ((c_22 o n).1 _ _ _ _ _ _ _ _ h14 _ rfl rfl rfl) (fun z1 z2 zq => ?_)
            obtain ⟨rfl, rfl⟩ := zq
            try dsimp only [Option.toList, HAppend.hAppend, Append.append, List.append]
            refine Vin rfl lk2 rfl ?_
            have hz := y_bind h
            clear h
            obtain ⟨b24, h25, h⟩ := hz
            obtain ⟨eh25, fh25, wh25⟩ := y_rcv_ok h25
            cases eh25
            have hz := y_bind h
            clear h
            obtain ⟨⟨s20, r21⟩, h22, h⟩ := hz
            try dsimp only at h
            refine Vcv rfl rfl rfl wh25 rfl rfl ⟨(Nat.le_of_ble_eq_true rfl), (Nat.le_of_ble_eq_true rfl)⟩ rfl ((c_23 o n).1 _ _ _ _ _ _ _ _ h22 _ rfl rfl rfl) (fun z1 z2 zq => ?_)
            obtain ⟨rfl, rfl⟩ := zq
            try dsimp only [Option.toList, HAppend.hAppend, Append.append, List.append]
            refine Yif rfl rfl rfl rfl rfl rfl rfl (fun c28 => ?_) (fun c28 => ?_)
            · rw [if_pos c28] at h
              exact ih.2.2 _ _ _ _ _ _ _ _ _ h lv trivial
            · rw [if_neg c28] at h
              refine Van rfl lk0 rfl rfl ?_
              refine Van rfl lk0 rfl rfl ?_
              refine Vin rfl lk1 rfl ?_
              refine Vic (v := 1) rfl (by decide) rfl ?_
              have hz := y_bind h
              clear h
              obtain ⟨b33, h34, h⟩ := hz
              obtain ⟨eh34, fh34, wh34⟩ := y_rcv_ok h34
              cases eh34
              have hz := y_bind h
              clear h
              obtain ⟨⟨s29, r30⟩, h31, h⟩ := hz
              try dsimp only at h
              refine Vcv rfl rfl rfl wh34 rfl rfl ⟨(Nat.le_of_ble_eq_true rfl), (Nat.le_of_ble_eq_true rfl)⟩ rfl ((c_22 o n).1 _ _ _ _ _ _ _ _ h31 _ rfl rfl rfl) (fun z1 z2 zq => ?_)
              obtain ⟨rfl, rfl⟩ := zq
              try dsimp only [Option.toList, HAppend.hAppend, Append.append, List.append]
              refine Vin rfl lk3 rfl ?_
              have hz := y_bind h
              clear h
              obtain ⟨b41, h42, h⟩ := hz
              obtain ⟨eh42, fh42, wh42⟩ := y_rcv_ok h42
              cases eh42
              have hz := y_bind h
              clear h
              obtain ⟨⟨s37, r38⟩, h39, h⟩ := hz
              try dsimp only at h
              refine Vcv rfl rfl rfl wh42 rfl rfl ⟨(Nat.le_of_ble_eq_true rfl), (Nat.le_of_ble_eq_true rfl)⟩ rfl ((c_23 o n).1 _ _ _ _ _ _ _ _ h39 _ rfl rfl rfl) (fun z1 z2 zq => ?_)
              obtain ⟨rfl, rfl⟩ := zq
              try dsimp only [Option.toList, HAppend.hAppend, Append.append, List.append]
              refine Yif rfl rfl rfl rfl rfl rfl rfl (fun c45 => ?_) (fun c45 => ?_)
              · rw [if_pos c45] at h
                exact ih.2.2 _ _ _ _ _ _ _ _ _ h lv trivial
              · rw [if_neg c45] at h
                refine Van rfl lk0 rfl rfl ?_
                refine Van rfl lk0 rfl rfl ?_
                refine Vin rfl lk1 rfl ?_
                refine Vic (v := 2) rfl (by decide) rfl ?_
                have hz := y_bind h
                clear h
                obtain ⟨b50, h51, h⟩ := hz
                obtain ⟨eh51, fh51, wh51⟩ := y_rcv_ok h51
                cases eh51
                have hz := y_bind h
                clear h
                obtain ⟨⟨s46, r47⟩, h48, h⟩ := hz
                try dsimp only at h
                refine Vcv rfl rfl rfl wh51 rfl rfl ⟨(Nat.le_of_ble_eq_true rfl), (Nat.le_of_ble_eq_true rfl)⟩ rfl ((c_22 o n).1 _ _ _ _ _ _ _ _ h48 _ rfl rfl rfl) (fun z1 z2 zq => ?_)
                obtain ⟨rfl, rfl⟩ := zq
                try dsimp only [Option.toList, HAppend.hAppend, Append.append, List.append]
                refine Vi rfl lk4 rfl ?_
                have hz := y_bind h
                clear h
                obtain ⟨b58, h59, h⟩ := hz
                obtain ⟨eh59, fh59, wh59⟩ := y_rcv_ok h59
                cases eh59
                have hz := y_bind h
                clear h
                obtain ⟨⟨s54, r55⟩, h56, h⟩ := hz
                try dsimp only at h
                refine Vcv rfl rfl rfl wh59 rfl rfl ⟨(Nat.le_of_ble_eq_true rfl), (Nat.le_of_ble_eq_true rfl)⟩ rfl ((c_23 o n).1 _ _ _ _ _ _ _ _ h56 _ rfl rfl rfl) (fun z1 z2 zq => ?_)
                obtain ⟨rfl, rfl⟩ := zq
                try dsimp only [Option.toList, HAppend.hAppend, Append.append, List.append]
                refine Yif rfl rfl rfl rfl rfl rfl rfl (fun c62 => ?_) (fun c62 => ?_)
                · rw [if_pos c62] at h
                  refine Van rfl lk0 rfl rfl ?_
                  have hz := y_bind h
                  clear h
                  obtain ⟨v63, h64, h⟩ := hz
                  refine Zgi h64 rfl rfl rfl ?_
                  refine Vsp (v := 300) rfl (by decide) rfl ?_
                  refine Yif rfl rfl rfl rfl rfl rfl rfl (fun c65 => ?_) (fun c65 => ?_)
                  · rw [if_pos c65] at h
                    refine Van rfl lk0 rfl rfl ?_
                    have hz := y_bind h
                    clear h
                    obtain ⟨v66, h67, h⟩ := hz
                    have wv66 := (y_gv_ok h67).2
                    refine Vgv h67 rfl rfl rfl ?_
                    refine Van rfl lk0 rfl rfl ?_
                    have hz := y_bind h
                    clear h
                    obtain ⟨v68, h69, h⟩ := hz
                    refine Zgi h69 rfl rfl rfl ?_
                    refine Vin rfl lk1 rfl ?_
                    have hz := y_bind h
                    clear h
                    obtain ⟨s70, h71, h⟩ := hz
                    refine Zis h71 rfl rfl ?_
                    refine Van rfl lk0 rfl rfl ?_
                    have hz := y_bind h
                    clear h
                    obtain ⟨v72, h73, h⟩ := hz
                    have wv72 := (y_gv_ok h73).2
                    refine Vgv h73 rfl rfl rfl ?_
                    refine Van rfl lk0 rfl rfl ?_
                    have hz := y_bind h
                    clear h
                    obtain ⟨v74, h75, h⟩ := hz
                    refine Zgi h75 rfl rfl rfl ?_
                    refine Vic (v := 3) rfl (by decide) rfl ?_
                    refine Ya rfl rfl rfl ?_
                    refine Vin rfl lk2 rfl ?_
                    have hz := y_bind h
                    clear h
                    obtain ⟨s76, h77, h⟩ := hz
                    refine Zis h77 rfl rfl ?_
                    refine Van rfl lk0 rfl rfl ?_
                    have hz := y_bind h
                    clear h
                    obtain ⟨v78, h79, h⟩ := hz
                    have wv78 := (y_gv_ok h79).2
                    refine Vgv h79 rfl rfl rfl ?_
                    refine Van rfl lk0 rfl rfl ?_
                    have hz := y_bind h
                    clear h
                    obtain ⟨v80, h81, h⟩ := hz
                    refine Zgi h81 rfl rfl rfl ?_
                    refine Vic (v := 3) rfl (by decide) rfl ?_
                    refine Ya rfl rfl rfl ?_
                    refine Vic (v := 1) rfl (by decide) rfl ?_
                    refine Ya rfl rfl rfl ?_
                    refine Vin rfl lk3 rfl ?_
                    have hz := y_bind h
                    clear h
                    obtain ⟨s82, h83, h⟩ := hz
                    refine Zis h83 rfl rfl ?_
                    refine Van rfl lk0 rfl rfl ?_
                    have hz := y_bind h
                    clear h
                    obtain ⟨v84, h85, h⟩ := hz
                    have wv84 := (y_gv_ok h85).2
                    refine Vgv h85 rfl rfl rfl ?_
                    refine Van rfl lk0 rfl rfl ?_
                    have hz := y_bind h
                    clear h
                    obtain ⟨v86, h87, h⟩ := hz
                    refine Zgi h87 rfl rfl rfl ?_
                    refine Vic (v := 3) rfl (by decide) rfl ?_
                    refine Ya rfl rfl rfl ?_
                    refine Vic (v := 2) rfl (by decide) rfl ?_
                    refine Ya rfl rfl rfl ?_
                    refine Vi rfl lk4 rfl ?_
                    have hz := y_bind h
                    clear h
                    obtain ⟨s88, h89, h⟩ := hz
                    refine Zis h89 rfl rfl ?_
                    refine Van rfl lk0 rfl rfl ?_
                    have hz := y_bind h
                    clear h
                    obtain ⟨v90, h91, h⟩ := hz
                    have wv90 := (y_gv_ok h91).2
                    refine Vgv h91 rfl rfl rfl ?_
                    refine Van rfl lk0 rfl rfl ?_
                    have hz := y_bind h
                    clear h
                    obtain ⟨v92, h93, h⟩ := hz
                    refine Zgi h93 rfl rfl rfl ?_
                    refine Van rfl lk0 rfl rfl ?_
                    refine Van rfl lk0 rfl rfl ?_
                    have hz := y_bind h
                    clear h
                    obtain ⟨v94, h95, h⟩ := hz
                    refine Zgi h95 rfl rfl rfl ?_
                    have hz := y_bind h
                    clear h
                    obtain ⟨b100, h101, h⟩ := hz
                    obtain ⟨eh101, fh101, wh101⟩ := y_rcv_ok h101
                    cases eh101
                    have hz := y_bind h
                    clear h
                    obtain ⟨⟨s96, r97⟩, h98, h⟩ := hz
                    try dsimp only at h
                    refine Vcv rfl rfl rfl wh101 rfl rfl ⟨(by simp only [List.take, List.reverse_cons, List.reverse_nil, List.nil_append, List.cons_append, List.map_cons, List.map_nil, y_cati, y_catl, y_catr, y_catn, y_cata, y_rv_cat wv90, List.sum_cons, List.sum_nil]; decide +kernel), (Nat.le_of_ble_eq_true rfl)⟩ rfl ((c_27 o n).1 _ _ _ _ _ _ _ _ h98 _ rfl rfl) (fun z1 z2 zq => ?_)
                    obtain ⟨rfl, rfl⟩ := zq
                    try dsimp only [Option.toList, HAppend.hAppend, Append.append, List.append]
                    have hz := y_bind h
                    clear h
                    obtain ⟨s104, h105, h⟩ := hz
                    refine Zis h105 rfl rfl ?_
                    refine Van rfl lk0 rfl rfl ?_
                    refine Vdup rfl rfl rfl ?_
                    have hz := y_bind h
                    clear h
                    obtain ⟨v106, h107, h⟩ := hz
                    refine Zgi h107 rfl rfl rfl ?_
                    refine Vic (v := 1) rfl (by decide) rfl ?_
                    refine Ya rfl rfl rfl ?_
                    have hz := y_bind h
                    clear h
                    obtain ⟨s108, h109, h⟩ := hz
                    refine Zpi h109 rfl rfl rfl rfl ?_
                    refine Van rfl lk0 rfl rfl ?_
                    have hz := y_bind h
                    clear h
                    obtain ⟨v110, h111, h⟩ := hz
                    refine Zgi h111 rfl rfl rfl ?_
                    refine Vic (v := 1) rfl (by decide) rfl ?_
                    refine Ya rfl rfl rfl ?_
                    cases h
                    exact Yret rfl rfl rfl rfl rfl rfl rfl ⟨rfl, rfl⟩
                  · rw [if_neg c65] at h
                    refine Vbp (v := (-2)) rfl (by decide) rfl ?_
                    cases h
                    exact Yret rfl rfl rfl rfl rfl rfl rfl ⟨rfl, rfl⟩
                · rw [if_neg c62] at h
                  exact ih.2.2 _ _ _ _ _ _ _ _ _ h lv trivial
          · rw [if_neg c11] at h
            exact ih.2.1 _ _ _ _ _ _ _ _ _ h lv trivial
    · intro d s r0 i1 i2 i3 i4 s9 r h lv _
      simp only [g_21] at h
      refine Vic (v := (-1)) rfl (by decide) rfl ?_
      cases h
      exact Yret rfl rfl rfl rfl rfl rfl rfl ⟨rfl, rfl⟩
    · intro d s r0 i1 i2 i3 i4 s9 r h lv _
      simp only [g_21] at h
      refine Vic (v := (-1)) rfl (by decide) rfl ?_
      cases h
      exact Yret rfl rfl rfl rfl rfl rfl rfl ⟨rfl, rfl⟩

/-- StepRows.node -/
def g_2 (o : X_O) : Nat → Nat → Y_S → Nat → Int32 → Int32 → Int32 → Int32 → Option (Y_S × Int32)
  | 0, _, _, _, _, _, _, _ => none
  | n + 1, 0, s, r0, i1, i2, i3, i4 => (y_gv s 0 (.ref r0) 0).bind fun v1 => (y_rcv s 1 v1).bind fun b7 => (g_21 o n 0 s b7 (i1) (i2) (i3) (i4)).bind fun q6 => some (q6.1, q6.2)
  | _ + 1, _, _, _, _, _, _, _ => none
set_option maxRecDepth 100000 in
set_option maxHeartbeats 4000000 in
theorem c_2 (o : X_O) : ∀ n, (∀ (d : Nat) (s : Y_S) (r0 : Nat) (i1 : Int32) (i2 : Int32) (i3 : Int32) (i4 : Int32) (s9 : Y_S) (r : Int32), g_2 o n 0 s r0 i1 i2 i3 i4 = some (s9, r) → ∀ lv : X_L, x_lget lv 0 = some (.ref r0) → x_lget lv 1 = some (.int i1) → x_lget lv 2 = some (.int i2) → x_lget lv 3 = some (.int i3) → x_lget lv 4 = some (.int i4) → Y o (d + 4) 2 0 lv [] s (fun s1 r1 => s1 = s9 ∧ r1 = some (.int r))) := by
  intro n
  induction n with
  | zero => exact fun d s _ _ _ _ _ s9 r h => (by simp only [g_2] at h; cases h)
  | succ n ih =>
    intro d s r0 i1 i2 i3 i4 s9 r h lv lk0 lk1 lk2 lk3 lk4
    simp only [g_2] at h
    refine Van rfl lk0 rfl rfl ?_
    have hz := y_bind h
    clear h
    obtain ⟨v1, h2, h⟩ := hz
    have wv1 := (y_gv_ok h2).2
    refine Vgv h2 rfl rfl rfl ?_
    refine Vin rfl lk1 rfl ?_
    refine Vin rfl lk2 rfl ?_
    refine Vin rfl lk3 rfl ?_
    refine Vi rfl lk4 rfl ?_
    have hz := y_bind h
    clear h
    obtain ⟨b7, h8, h⟩ := hz
    obtain ⟨eh8, fh8, wh8⟩ := y_rcv_ok h8
    cases eh8
    have hz := y_bind h
    clear h
    obtain ⟨⟨s3, r4⟩, h5, h⟩ := hz
    try dsimp only at h
    refine Vcv rfl rfl rfl wh8 rfl rfl ⟨(Nat.le_of_ble_eq_true rfl), (Nat.le_of_ble_eq_true rfl)⟩ rfl ((c_21 o n).1 _ _ _ _ _ _ _ _ _ h5 _ rfl rfl rfl rfl rfl) (fun z1 z2 zq => ?_)
    obtain ⟨rfl, rfl⟩ := zq
    try dsimp only [Option.toList, HAppend.hAppend, Append.append, List.append]
    cases h
    exact Yret rfl rfl rfl rfl rfl rfl rfl ⟨rfl, rfl⟩

/-- StepRows$Layout.push -/
def g_32 (o : X_O) : Nat → Nat → Y_S → Nat → Int32 → Int32 → Option (Y_S × Unit)
  | 0, _, _, _, _, _ => none
  | n + 1, 0, s, r0, i1, i2 => (y_gi s 2 (.ref r0) 5).bind fun v1 => if 500 ≤ v1 then g_32 o n 1 s 0 0 0 else (y_gv s 2 (.ref r0) 2).bind fun v4 => (y_gi s 2 (.ref r0) 5).bind fun v6 => (y_is s v4 v6 i1).bind fun s8 => (y_gv s8 2 (.ref r0) 3).bind fun v10 => (y_gi s8 2 (.ref r0) 5).bind fun v12 => (y_is s8 v10 v12 i2).bind fun s14 => (y_gi s14 2 (.ref r0) 5).bind fun v16 => (y_pi s14 2 (.ref r0) 5 (v16 + 1)).bind fun s18 => g_32 o n 1 s18 0 0 0
  | n + 1, 1, s, r0, i1, i2 => some (s, ())
  | _ + 1, _, _, _, _, _ => none
set_option maxRecDepth 100000 in
set_option maxHeartbeats 4000000 in
theorem c_32 (o : X_O) : ∀ n, (∀ (d : Nat) (s : Y_S) (r0 : Nat) (i1 : Int32) (i2 : Int32) (s9 : Y_S) (r : Unit), g_32 o n 0 s r0 i1 i2 = some (s9, r) → ∀ lv : X_L, x_lget lv 0 = some (.ref r0) → x_lget lv 1 = some (.int i1) → x_lget lv 2 = some (.int i2) → Y o (d + 0) 32 0 lv [] s (fun s1 r1 => s1 = s9 ∧ r1 = none)) ∧
    (∀ (d : Nat) (s : Y_S) (r0 : Nat) (i1 : Int32) (i2 : Int32) (s9 : Y_S) (r : Unit), g_32 o n 1 s r0 i1 i2 = some (s9, r) → ∀ lv : X_L, True → Y o (d + 0) 32 40 lv [] s (fun s1 r1 => s1 = s9 ∧ r1 = none)) := by
  intro n
  induction n with
  | zero => exact ⟨fun d s _ _ _ s9 r h => (by simp only [g_32] at h; cases h), fun d s _ _ _ s9 r h => (by simp only [g_32] at h; cases h)⟩
  | succ n ih =>
    refine ⟨?_, ?_⟩
    · intro d s r0 i1 i2 s9 r h lv lk0 lk1 lk2
      simp only [g_32] at h
      refine Van rfl lk0 rfl rfl ?_
      have hz := y_bind h
      clear h
      obtain ⟨v1, h2, h⟩ := hz
      refine Zgi h2 rfl rfl rfl ?_
      refine Vsp (v := 500) rfl (by decide) rfl ?_
      refine Yif rfl rfl rfl rfl rfl rfl rfl (fun c3 => ?_) (fun c3 => ?_)
      · rw [if_pos c3] at h
        exact ih.2 _ _ _ _ _ _ _ h lv trivial
      · rw [if_neg c3] at h
        refine Van rfl lk0 rfl rfl ?_
        have hz := y_bind h
        clear h
        obtain ⟨v4, h5, h⟩ := hz
        have wv4 := (y_gv_ok h5).2
        refine Vgv h5 rfl rfl rfl ?_
        refine Van rfl lk0 rfl rfl ?_
        have hz := y_bind h
        clear h
        obtain ⟨v6, h7, h⟩ := hz
        refine Zgi h7 rfl rfl rfl ?_
        refine Vin rfl lk1 rfl ?_
        have hz := y_bind h
        clear h
        obtain ⟨s8, h9, h⟩ := hz
        refine Zis h9 rfl rfl ?_
        refine Van rfl lk0 rfl rfl ?_
        have hz := y_bind h
        clear h
        obtain ⟨v10, h11, h⟩ := hz
        have wv10 := (y_gv_ok h11).2
        refine Vgv h11 rfl rfl rfl ?_
        refine Van rfl lk0 rfl rfl ?_
        have hz := y_bind h
        clear h
        obtain ⟨v12, h13, h⟩ := hz
        refine Zgi h13 rfl rfl rfl ?_
        refine Vin rfl lk2 rfl ?_
        have hz := y_bind h
        clear h
        obtain ⟨s14, h15, h⟩ := hz
        refine Zis h15 rfl rfl ?_
        refine Van rfl lk0 rfl rfl ?_
        refine Vdup rfl rfl rfl ?_
        have hz := y_bind h
        clear h
        obtain ⟨v16, h17, h⟩ := hz
        refine Zgi h17 rfl rfl rfl ?_
        refine Vic (v := 1) rfl (by decide) rfl ?_
        refine Ya rfl rfl rfl ?_
        have hz := y_bind h
        clear h
        obtain ⟨s18, h19, h⟩ := hz
        refine Zpi h19 rfl rfl rfl rfl ?_
        exact ih.2 _ _ _ _ _ _ _ h lv trivial
    · intro d s r0 i1 i2 s9 r h lv _
      simp only [g_32] at h
      cases h
      exact Yret rfl rfl rfl rfl rfl rfl rfl ⟨rfl, rfl⟩

/-- StepRows$Nodes.numberOf -/
def g_29 (o : X_O) : Nat → Nat → Y_S → Nat → Int32 → Int64 → Option (Y_S × Int64)
  | 0, _, _, _, _, _ => none
  | n + 1, 0, s, r0, i1, tl0 => (y_gv s 1 (.ref r0) 0).bind fun v1 => (y_ia o s v1 i1).bind fun v3 => if (v3).toInt < 10 ∨ 20 < (v3).toInt then (y_gv s 1 (.ref r0) 2).bind fun v5 => (y_la s v5 i1).bind fun v7 => some (s, v7) else if v3 = 10 then (y_gv s 1 (.ref r0) 1).bind fun v10 => (y_ia o s v10 (i1 * 3)).bind fun v12 => some (s, (v12).toInt64) else if v3 = 11 then (y_gv s 1 (.ref r0) 1).bind fun v15 => (y_ia o s v15 (i1 * 3)).bind fun v17 => some (s, (v17).toInt64) else if v3 = 12 then (y_gv s 1 (.ref r0) 2).bind fun v20 => (y_la s v20 i1).bind fun v22 => some (s, v22) else if v3 = 13 then (y_gv s 1 (.ref r0) 1).bind fun v25 => (y_ia o s v25 (i1 * 3)).bind fun v27 => some (s, (v27).toInt64) else if v3 = 14 then (y_gv s 1 (.ref r0) 2).bind fun v30 => (y_la s v30 i1).bind fun v32 => some (s, v32) else if v3 = 15 then (y_rcv s 1 (.ref r0)).bind fun b39 => (g_28 o n 0 s b39 (i1) (2) 0).bind fun q38 => if q38.2 = 0 then g_29 o n 1 q38.1 0 0 (0) else g_29 o n 1 q38.1 0 0 (1) else if v3 = 16 then (y_gv s 1 (.ref r0) 2).bind fun v45 => (y_la s v45 i1).bind fun v47 => some (s, v47) else if v3 = 17 then (y_gv s 1 (.ref r0) 2).bind fun v50 => (y_la s v50 i1).bind fun v52 => some (s, v52) else if v3 = 18 then (y_gv s 1 (.ref r0) 2).bind fun v55 => (y_la s v55 i1).bind fun v57 => some (s, v57) else if v3 = 19 then (y_gv s 1 (.ref r0) 1).bind fun v60 => (y_ia o s v60 (i1 * 3)).bind fun v62 => some (s, (v62).toInt64) else if v3 = 20 then (y_gv s 1 (.ref r0) 1).bind fun v65 => (y_ia o s v65 (i1 * 3)).bind fun v67 => some (s, (v67).toInt64) else none
  | n + 1, 1, s, r0, i1, tl0 => some (s, tl0)
  | _ + 1, _, _, _, _, _ => none
set_option maxRecDepth 100000 in
set_option maxHeartbeats 4000000 in
theorem c_29 (o : X_O) : ∀ n, (∀ (d : Nat) (s : Y_S) (r0 : Nat) (i1 : Int32) (tl0 : Int64) (s9 : Y_S) (r : Int64), g_29 o n 0 s r0 i1 tl0 = some (s9, r) → ∀ lv : X_L, x_lget lv 0 = some (.ref r0) → x_lget lv 1 = some (.int i1) → Y o (d + 2) 29 0 lv [] s (fun s1 r1 => s1 = s9 ∧ r1 = some (.long r))) ∧
    (∀ (d : Nat) (s : Y_S) (r0 : Nat) (i1 : Int32) (tl0 : Int64) (s9 : Y_S) (r : Int64), g_29 o n 1 s r0 i1 tl0 = some (s9, r) → ∀ lv : X_L, True → Y o (d + 2) 29 88 lv [.long tl0] s (fun s1 r1 => s1 = s9 ∧ r1 = some (.long r))) := by
  intro n
  induction n with
  | zero => exact ⟨fun d s _ _ _ s9 r h => (by simp only [g_29] at h; cases h), fun d s _ _ _ s9 r h => (by simp only [g_29] at h; cases h)⟩
  | succ n ih =>
    refine ⟨?_, ?_⟩
    · intro d s r0 i1 tl0 s9 r h lv lk0 lk1
      simp only [g_29] at h
      refine Van rfl lk0 rfl rfl ?_
      have hz := y_bind h
      clear h
      obtain ⟨v1, h2, h⟩ := hz
      have wv1 := (y_gv_ok h2).2
      refine Vgv h2 rfl rfl rfl ?_
      refine Vin rfl lk1 rfl ?_
      have hz := y_bind h
      clear h
      obtain ⟨v3, h4, h⟩ := hz
      refine Zia h4 rfl rfl ?_
      by_cases c9 : (v3).toInt < 10 ∨ 20 < (v3).toInt
      · rw [if_pos c9] at h
        refine Ysw rfl rfl rfl rfl rfl (if_pos c9) rfl ?_
        refine Van rfl lk0 rfl rfl ?_
        have hz := y_bind h
        clear h
        obtain ⟨v5, h6, h⟩ := hz
        have wv5 := (y_gv_ok h6).2
        refine Vgv h6 rfl rfl rfl ?_
        refine Vin rfl lk1 rfl ?_
        have hz := y_bind h
        clear h
        obtain ⟨v7, h8, h⟩ := hz
        refine Zla h8 rfl rfl ?_
        cases h
        exact Yret rfl rfl rfl rfl rfl rfl rfl ⟨rfl, rfl⟩
      rw [if_neg c9] at h
      by_cases c14 : v3 = 10
      · rw [if_pos c14] at h
        refine Vts c14 rfl rfl rfl rfl rfl rfl rfl ?_
        refine Van rfl lk0 rfl rfl ?_
        have hz := y_bind h
        clear h
        obtain ⟨v10, h11, h⟩ := hz
        have wv10 := (y_gv_ok h11).2
        refine Vgv h11 rfl rfl rfl ?_
        refine Vin rfl lk1 rfl ?_
        refine Vic (v := 3) rfl (by decide) rfl ?_
        refine Ya rfl rfl rfl ?_
        have hz := y_bind h
        clear h
        obtain ⟨v12, h13, h⟩ := hz
        refine Zia h13 rfl rfl ?_
        refine Ya rfl rfl rfl ?_
        cases h
        exact Yret rfl rfl rfl rfl rfl rfl rfl ⟨rfl, rfl⟩
      rw [if_neg c14] at h
      by_cases c19 : v3 = 11
      · rw [if_pos c19] at h
        refine Vts c19 rfl rfl rfl rfl rfl rfl rfl ?_
        refine Van rfl lk0 rfl rfl ?_
        have hz := y_bind h
        clear h
        obtain ⟨v15, h16, h⟩ := hz
        have wv15 := (y_gv_ok h16).2
        refine Vgv h16 rfl rfl rfl ?_
        refine Vin rfl lk1 rfl ?_
        refine Vic (v := 3) rfl (by decide) rfl ?_
        refine Ya rfl rfl rfl ?_
        have hz := y_bind h
        clear h
        obtain ⟨v17, h18, h⟩ := hz
        refine Zia h18 rfl rfl ?_
        refine Ya rfl rfl rfl ?_
        cases h
        exact Yret rfl rfl rfl rfl rfl rfl rfl ⟨rfl, rfl⟩
      rw [if_neg c19] at h
      by_cases c24 : v3 = 12
      · rw [if_pos c24] at h
        refine Vts c24 rfl rfl rfl rfl rfl rfl rfl ?_
        refine Van rfl lk0 rfl rfl ?_
        have hz := y_bind h
        clear h
        obtain ⟨v20, h21, h⟩ := hz
        have wv20 := (y_gv_ok h21).2
        refine Vgv h21 rfl rfl rfl ?_
        refine Vin rfl lk1 rfl ?_
        have hz := y_bind h
        clear h
        obtain ⟨v22, h23, h⟩ := hz
        refine Zla h23 rfl rfl ?_
        cases h
        exact Yret rfl rfl rfl rfl rfl rfl rfl ⟨rfl, rfl⟩
      rw [if_neg c24] at h
      by_cases c29 : v3 = 13
      · rw [if_pos c29] at h
        refine Vts c29 rfl rfl rfl rfl rfl rfl rfl ?_
        refine Van rfl lk0 rfl rfl ?_
        have hz := y_bind h
        clear h
        obtain ⟨v25, h26, h⟩ := hz
        have wv25 := (y_gv_ok h26).2
        refine Vgv h26 rfl rfl rfl ?_
        refine Vin rfl lk1 rfl ?_
        refine Vic (v := 3) rfl (by decide) rfl ?_
        refine Ya rfl rfl rfl ?_
        have hz := y_bind h
        clear h
        obtain ⟨v27, h28, h⟩ := hz
        refine Zia h28 rfl rfl ?_
        refine Ya rfl rfl rfl ?_
        cases h
        exact Yret rfl rfl rfl rfl rfl rfl rfl ⟨rfl, rfl⟩
      rw [if_neg c29] at h
      by_cases c34 : v3 = 14
      · rw [if_pos c34] at h
        refine Vts c34 rfl rfl rfl rfl rfl rfl rfl ?_
        refine Van rfl lk0 rfl rfl ?_
        have hz := y_bind h
        clear h
        obtain ⟨v30, h31, h⟩ := hz
        have wv30 := (y_gv_ok h31).2
        refine Vgv h31 rfl rfl rfl ?_
        refine Vin rfl lk1 rfl ?_
        have hz := y_bind h
        clear h
        obtain ⟨v32, h33, h⟩ := hz
        refine Zla h33 rfl rfl ?_
        cases h
        exact Yret rfl rfl rfl rfl rfl rfl rfl ⟨rfl, rfl⟩
      rw [if_neg c34] at h
      by_cases c44 : v3 = 15
      · rw [if_pos c44] at h
        refine Vts c44 rfl rfl rfl rfl rfl rfl rfl ?_
        refine Van rfl lk0 rfl rfl ?_
        refine Vin rfl lk1 rfl ?_
        refine Vic (v := 2) rfl (by decide) rfl ?_
        have hz := y_bind h
        clear h
        obtain ⟨b39, h40, h⟩ := hz
        obtain ⟨eh40, fh40, wh40⟩ := y_rcv_ok h40
        cases eh40
        have hz := y_bind h
        clear h
        obtain ⟨⟨s35, r36⟩, h37, h⟩ := hz
        try dsimp only at h
        refine Vcv rfl rfl rfl wh40 rfl rfl ⟨(Nat.le_of_ble_eq_true rfl), (Nat.le_of_ble_eq_true rfl)⟩ rfl ((c_28 o n).1 _ _ _ _ _ _ _ _ h37 _ rfl rfl rfl) (fun z1 z2 zq => ?_)
        obtain ⟨rfl, rfl⟩ := zq
        try dsimp only [Option.toList, HAppend.hAppend, Append.append, List.append]
        refine Yif rfl rfl rfl rfl rfl rfl rfl (fun c43 => ?_) (fun c43 => ?_)
        · rw [if_pos c43] at h
          refine Vlc (v := 0) rfl (by decide) rfl ?_
          exact ih.2 _ _ _ _ _ _ _ h lv trivial
        · rw [if_neg c43] at h
          refine Vlc (v := 1) rfl (by decide) rfl ?_
          refine Ygo rfl rfl rfl rfl rfl rfl ?_
          exact ih.2 _ _ _ _ _ _ _ h lv trivial
      rw [if_neg c44] at h
      by_cases c49 : v3 = 16
      · rw [if_pos c49] at h
        refine Vts c49 rfl rfl rfl rfl rfl rfl rfl ?_
        refine Van rfl lk0 rfl rfl ?_
        have hz := y_bind h
        clear h
        obtain ⟨v45, h46, h⟩ := hz
        have wv45 := (y_gv_ok h46).2
        refine Vgv h46 rfl rfl rfl ?_
        refine Vin rfl lk1 rfl ?_
        have hz := y_bind h
        clear h
        obtain ⟨v47, h48, h⟩ := hz
        refine Zla h48 rfl rfl ?_
        cases h
        exact Yret rfl rfl rfl rfl rfl rfl rfl ⟨rfl, rfl⟩
      rw [if_neg c49] at h
      by_cases c54 : v3 = 17
      · rw [if_pos c54] at h
        refine Vts c54 rfl rfl rfl rfl rfl rfl rfl ?_
        refine Van rfl lk0 rfl rfl ?_
        have hz := y_bind h
        clear h
        obtain ⟨v50, h51, h⟩ := hz
        have wv50 := (y_gv_ok h51).2
        refine Vgv h51 rfl rfl rfl ?_
        refine Vin rfl lk1 rfl ?_
        have hz := y_bind h
        clear h
        obtain ⟨v52, h53, h⟩ := hz
        refine Zla h53 rfl rfl ?_
        cases h
        exact Yret rfl rfl rfl rfl rfl rfl rfl ⟨rfl, rfl⟩
      rw [if_neg c54] at h
      by_cases c59 : v3 = 18
      · rw [if_pos c59] at h
        refine Vts c59 rfl rfl rfl rfl rfl rfl rfl ?_
        refine Van rfl lk0 rfl rfl ?_
        have hz := y_bind h
        clear h
        obtain ⟨v55, h56, h⟩ := hz
        have wv55 := (y_gv_ok h56).2
        refine Vgv h56 rfl rfl rfl ?_
        refine Vin rfl lk1 rfl ?_
        have hz := y_bind h
        clear h
        obtain ⟨v57, h58, h⟩ := hz
        refine Zla h58 rfl rfl ?_
        cases h
        exact Yret rfl rfl rfl rfl rfl rfl rfl ⟨rfl, rfl⟩
      rw [if_neg c59] at h
      by_cases c64 : v3 = 19
      · rw [if_pos c64] at h
        refine Vts c64 rfl rfl rfl rfl rfl rfl rfl ?_
        refine Van rfl lk0 rfl rfl ?_
        have hz := y_bind h
        clear h
        obtain ⟨v60, h61, h⟩ := hz
        have wv60 := (y_gv_ok h61).2
        refine Vgv h61 rfl rfl rfl ?_
        refine Vin rfl lk1 rfl ?_
        refine Vic (v := 3) rfl (by decide) rfl ?_
        refine Ya rfl rfl rfl ?_
        have hz := y_bind h
        clear h
        obtain ⟨v62, h63, h⟩ := hz
        refine Zia h63 rfl rfl ?_
        refine Ya rfl rfl rfl ?_
        cases h
        exact Yret rfl rfl rfl rfl rfl rfl rfl ⟨rfl, rfl⟩
      rw [if_neg c64] at h
      by_cases c69 : v3 = 20
      · rw [if_pos c69] at h
        refine Vts c69 rfl rfl rfl rfl rfl rfl rfl ?_
        refine Van rfl lk0 rfl rfl ?_
        have hz := y_bind h
        clear h
        obtain ⟨v65, h66, h⟩ := hz
        have wv65 := (y_gv_ok h66).2
        refine Vgv h66 rfl rfl rfl ?_
        refine Vin rfl lk1 rfl ?_
        refine Vic (v := 3) rfl (by decide) rfl ?_
        refine Ya rfl rfl rfl ?_
        have hz := y_bind h
        clear h
        obtain ⟨v67, h68, h⟩ := hz
        refine Zia h68 rfl rfl ?_
        refine Ya rfl rfl rfl ?_
        cases h
        exact Yret rfl rfl rfl rfl rfl rfl rfl ⟨rfl, rfl⟩
      rw [if_neg c69] at h
      cases h
    · intro d s r0 i1 tl0 s9 r h lv _
      simp only [g_29] at h
      cases h
      exact Yret rfl rfl rfl rfl rfl rfl rfl ⟨rfl, rfl⟩

/-- StepRows$Layout.layPlace -/
def g_33 (o : X_O) : Nat → Nat → Y_S → Nat → Int32 → Int32 → Int32 → Value → Int32 → Int32 → Option (Y_S × Unit)
  | 0, _, _, _, _, _, _, _, _, _ => none
  | n + 1, 0, s, r0, i1, i2, i4, ta0, ti1, ti2 => (y_gv s 2 (.ref r0) 1).bind fun v1 => (y_gi s 3 v1 7).bind fun v3 => (y_gv s 2 (.ref r0) 1).bind fun v5 => (y_gv s 3 v5 0).bind fun v7 => (y_gv s 2 (.ref r0) 0).bind fun v9 => (y_gv s 1 v9 0).bind fun v11 => (y_ia o s v11 i1).bind fun v13 => (y_is s v7 v3 v13).bind fun s15 => (y_gv s15 2 (.ref r0) 1).bind fun v17 => (y_gv s15 3 v17 1).bind fun v19 => (y_gv s15 2 (.ref r0) 0).bind fun v21 => (y_rcv s15 1 v21).bind fun b27 => (g_29 o n 0 s15 b27 (i1) 0).bind fun q26 => (y_ls q26.1 v19 v3 q26.2).bind fun s31 => (y_gv s31 2 (.ref r0) 1).bind fun v33 => (y_gv s31 3 v33 2).bind fun v35 => (y_gv s31 2 (.ref r0) 0).bind fun v37 => (y_gv s31 1 v37 3).bind fun v39 => (y_ia o s31 v39 i1).bind fun v41 => (y_is s31 v35 v3 v41).bind fun s43 => (y_gv s43 2 (.ref r0) 1).bind fun v45 => (y_gv s43 3 v45 4).bind fun v47 => (y_gv s43 2 (.ref r0) 0).bind fun v49 => (y_gv s43 1 v49 3).bind fun v51 => (y_ia o s43 v51 i1).bind fun v53 => (y_is s43 v47 v3 (((v3 + v53) - 1) - i2)).bind fun s55 => (y_gv s55 2 (.ref r0) 1).bind fun v57 => (y_gv s55 3 v57 5).bind fun v59 => (y_gv s55 2 (.ref r0) 1).bind fun v61 => (y_gv s55 3 v61 4).bind fun v63 => (y_ia o s55 v63 v3).bind fun v65 => (y_is s55 v59 v65 v3).bind fun s67 => (y_gv s67 2 (.ref r0) 4).bind fun v69 => if ¬ v3 = 0 then g_33 o n 1 s67 r0 (i1) (i2) 0 (v69) (v3) (0) else g_33 o n 1 s67 r0 (i1) (i2) 0 (v69) (v3) (1)
  | n + 1, 1, s, r0, i1, i2, i4, ta0, ti1, ti2 => (y_bs s ta0 ti1 ti2).bind fun s1 => (y_gv s1 2 (.ref r0) 1).bind fun v3 => (y_gi s1 3 v3 7).bind fun v5 => (y_pi s1 3 v3 7 (v5 + 1)).bind fun s7 => g_33 o n 2 s7 r0 (i1) (i2) (2) .null 0 0
  | n + 1, 2, s, r0, i1, i2, i4, ta0, ti1, ti2 => if i4 < 0 then some (s, ()) else (y_gv s 2 (.ref r0) 0).bind fun v2 => (y_rcv s 1 v2).bind fun b8 => (g_28 o n 0 s b8 (i1) (i4) 0).bind fun q7 => if q7.2 = 0 then g_33 o n 3 q7.1 r0 (i1) (i2) (i4) .null 0 0 else (y_gv q7.1 2 (.ref r0) 0).bind fun v13 => (y_gv q7.1 1 v13 1).bind fun v15 => (y_ia o q7.1 v15 ((i1 * 3) + i4)).bind fun v17 => (y_rcv q7.1 2 (.ref r0)).bind fun b23 => (g_32 o n 0 q7.1 b23 (v17) ((i2 + 1))).bind fun q22 => g_33 o n 3 q22.1 r0 (i1) (i2) (i4) .null 0 0
  | n + 1, 3, s, r0, i1, i2, i4, ta0, ti1, ti2 => g_33 o n 2 s r0 (i1) (i2) ((i4 + Int32.ofInt (-1))) .null 0 0
  | _ + 1, _, _, _, _, _, _, _, _, _ => none
set_option maxRecDepth 100000 in
set_option maxHeartbeats 4000000 in
theorem c_33 (o : X_O) : ∀ n, (∀ (d : Nat) (s : Y_S) (r0 : Nat) (i1 : Int32) (i2 : Int32) (i4 : Int32) (ta0 : Value) (ti1 : Int32) (ti2 : Int32) (s9 : Y_S) (r : Unit), g_33 o n 0 s r0 i1 i2 i4 ta0 ti1 ti2 = some (s9, r) → ∀ lv : X_L, x_lget lv 0 = some (.ref r0) → x_lget lv 1 = some (.int i1) → x_lget lv 2 = some (.int i2) → Y o (d + 3) 33 0 lv [] s (fun s1 r1 => s1 = s9 ∧ r1 = none)) ∧
    (∀ (d : Nat) (s : Y_S) (r0 : Nat) (i1 : Int32) (i2 : Int32) (i4 : Int32) (ta0 : Value) (ti1 : Int32) (ti2 : Int32) (s9 : Y_S) (r : Unit), g_33 o n 1 s r0 i1 i2 i4 ta0 ti1 ti2 = some (s9, r) → ∀ lv : X_L, x_lget lv 0 = some (.ref r0) → x_lget lv 1 = some (.int i1) → x_lget lv 2 = some (.int i2) → y_rv ta0 = true → Y o (d + 3) 33 117 lv [.int ti2, .int ti1, ta0] s (fun s1 r1 => s1 = s9 ∧ r1 = none)) ∧
    (∀ (d : Nat) (s : Y_S) (r0 : Nat) (i1 : Int32) (i2 : Int32) (i4 : Int32) (ta0 : Value) (ti1 : Int32) (ti2 : Int32) (s9 : Y_S) (r : Unit), g_33 o n 2 s r0 i1 i2 i4 ta0 ti1 ti2 = some (s9, r) → ∀ lv : X_L, x_lget lv 0 = some (.ref r0) → x_lget lv 1 = some (.int i1) → x_lget lv 2 = some (.int i2) → x_lget lv 4 = some (.int i4) → Y o (d + 3) 33 134 lv [] s (fun s1 r1 => s1 = s9 ∧ r1 = none)) ∧
    (∀ (d : Nat) (s : Y_S) (r0 : Nat) (i1 : Int32) (i2 : Int32) (i4 : Int32) (ta0 : Value) (ti1 : Int32) (ti2 : Int32) (s9 : Y_S) (r : Unit), g_33 o n 3 s r0 i1 i2 i4 ta0 ti1 ti2 = some (s9, r) → ∀ lv : X_L, x_lget lv 0 = some (.ref r0) → x_lget lv 1 = some (.int i1) → x_lget lv 2 = some (.int i2) → x_lget lv 4 = some (.int i4) → Y o (d + 3) 33 173 lv [] s (fun s1 r1 => s1 = s9 ∧ r1 = none)) := by
  intro n
  induction n with
  | zero => exact ⟨fun d s _ _ _ _ _ _ _ s9 r h => (by simp only [g_33] at h; cases h), fun d s _ _ _ _ _ _ _ s9 r h => (by simp only [g_33] at h; cases h), fun d s _ _ _ _ _ _ _ s9 r h => (by simp only [g_33] at h; cases h), fun d s _ _ _ _ _ _ _ s9 r h => (by simp only [g_33] at h; cases h)⟩
  | succ n ih =>
    refine ⟨?_, ?_, ?_, ?_⟩
    · intro d s r0 i1 i2 i4 ta0 ti1 ti2 s9 r h lv lk0 lk1 lk2
      simp only [g_33] at h
      refine Van rfl lk0 rfl rfl ?_
      have hz := y_bind h
      clear h
      obtain ⟨v1, h2, h⟩ := hz
      have wv1 := (y_gv_ok h2).2
      refine Vgv h2 rfl rfl rfl ?_
      have hz := y_bind h
      clear h
      obtain ⟨v3, h4, h⟩ := hz
      refine Zgi h4 rfl rfl rfl ?_
      refine Vsin rfl rfl (fun lv lk3 hk => ?_)
      have lk0 := hk 0 _ lk0 (by decide) (by decide) (Or.inl (by decide))
      have lk1 := hk 1 _ lk1 (by decide) (by decide) (Or.inl (by decide))
      have lk2 := hk 2 _ lk2 (by decide) (by decide) (Or.inr rfl)
      refine Van rfl lk0 rfl rfl ?_
      have hz := y_bind h
      clear h
      obtain ⟨v5, h6, h⟩ := hz
      have wv5 := (y_gv_ok h6).2
      refine Vgv h6 rfl rfl rfl ?_
      have hz := y_bind h
      clear h
      obtain ⟨v7, h8, h⟩ := hz
      have wv7 := (y_gv_ok h8).2
      refine Vgv h8 rfl rfl rfl ?_
      refine Vin rfl lk3 rfl ?_
      refine Van rfl lk0 rfl rfl ?_
      have hz := y_bind h
      clear h
      obtain ⟨v9, h10, h⟩ := hz
      have wv9 := (y_gv_ok h10).2
      refine Vgv h10 rfl rfl rfl ?_
      have hz := y_bind h
      clear h
      obtain ⟨v11, h12, h⟩ := hz
      have wv11 := (y_gv_ok h12).2
      refine Vgv h12 rfl rfl rfl ?_
      refine Vin rfl lk1 rfl ?_
      have hz := y_bind h
      clear h
      obtain ⟨v13, h14, h⟩ := hz
      refine Zia h14 rfl rfl ?_
      have hz := y_bind h
      clear h
      obtain ⟨s15, h16, h⟩ := hz
      refine Zis h16 rfl rfl ?_
      refine Van rfl lk0 rfl rfl ?_
      have hz := y_bind h
      clear h
      obtain ⟨v17, h18, h⟩ := hz
      have wv17 := (y_gv_ok h18).2
      refine Vgv h18 rfl rfl rfl ?_
      have hz := y_bind h
      clear h
      obtain ⟨v19, h20, h⟩ := hz
      have wv19 := (y_gv_ok h20).2
      refine Vgv h20 rfl rfl rfl ?_
      refine Vin rfl lk3 rfl ?_
      refine Van rfl lk0 rfl rfl ?_
      have hz := y_bind h
      clear h
      obtain ⟨v21, h22, h⟩ := hz
      have wv21 := (y_gv_ok h22).2
      refine Vgv h22 rfl rfl rfl ?_
      refine Vin rfl lk1 rfl ?_
      have hz := y_bind h
      clear h
      obtain ⟨b27, h28, h⟩ := hz
      obtain ⟨eh28, fh28, wh28⟩ := y_rcv_ok h28
      cases eh28
      have hz := y_bind h
      clear h
      obtain ⟨⟨s23, r24⟩, h25, h⟩ := hz
      try dsimp only at h
      refine Vcv rfl rfl rfl wh28 rfl rfl ⟨(by simp only [List.take, List.reverse_cons, List.reverse_nil, List.nil_append, List.cons_append, List.map_cons, List.map_nil, y_cati, y_catl, y_catr, y_catn, y_cata, y_rv_cat wv19, List.sum_cons, List.sum_nil]; decide +kernel), (Nat.le_of_ble_eq_true rfl)⟩ rfl ((c_29 o n).1 _ _ _ _ _ _ _ h25 _ rfl rfl) (fun z1 z2 zq => ?_)
      obtain ⟨rfl, rfl⟩ := zq
      try dsimp only [Option.toList, HAppend.hAppend, Append.append, List.append]
      have hz := y_bind h
      clear h
      obtain ⟨s31, h32, h⟩ := hz
      refine Zls h32 rfl rfl ?_
      refine Van rfl lk0 rfl rfl ?_
      have hz := y_bind h
      clear h
      obtain ⟨v33, h34, h⟩ := hz
      have wv33 := (y_gv_ok h34).2
      refine Vgv h34 rfl rfl rfl ?_
      have hz := y_bind h
      clear h
      obtain ⟨v35, h36, h⟩ := hz
      have wv35 := (y_gv_ok h36).2
      refine Vgv h36 rfl rfl rfl ?_
      refine Vin rfl lk3 rfl ?_
      refine Van rfl lk0 rfl rfl ?_
      have hz := y_bind h
      clear h
      obtain ⟨v37, h38, h⟩ := hz
      have wv37 := (y_gv_ok h38).2
      refine Vgv h38 rfl rfl rfl ?_
      have hz := y_bind h
      clear h
      obtain ⟨v39, h40, h⟩ := hz
      have wv39 := (y_gv_ok h40).2
      refine Vgv h40 rfl rfl rfl ?_
      refine Vin rfl lk1 rfl ?_
      have hz := y_bind h
      clear h
      obtain ⟨v41, h42, h⟩ := hz
      refine Zia h42 rfl rfl ?_
      have hz := y_bind h
      clear h
      obtain ⟨s43, h44, h⟩ := hz
      refine Zis h44 rfl rfl ?_
      refine Van rfl lk0 rfl rfl ?_
      have hz := y_bind h
      clear h
      obtain ⟨v45, h46, h⟩ := hz
      have wv45 := (y_gv_ok h46).2
      refine Vgv h46 rfl rfl rfl ?_
      have hz := y_bind h
      clear h
      obtain ⟨v47, h48, h⟩ := hz
      have wv47 := (y_gv_ok h48).2
      refine Vgv h48 rfl rfl rfl ?_
      refine Vin rfl lk3 rfl ?_
      refine Vin rfl lk3 rfl ?_
      refine Van rfl lk0 rfl rfl ?_
      have hz := y_bind h
      clear h
      obtain ⟨v49, h50, h⟩ := hz
      have wv49 := (y_gv_ok h50).2
      refine Vgv h50 rfl rfl rfl ?_
      have hz := y_bind h
      clear h
      obtain ⟨v51, h52, h⟩ := hz
      have wv51 := (y_gv_ok h52).2
      refine Vgv h52 rfl rfl rfl ?_
      refine Vin rfl lk1 rfl ?_
      have hz := y_bind h
      clear h
      obtain ⟨v53, h54, h⟩ := hz
      refine Zia h54 rfl rfl ?_
      refine Ya rfl rfl rfl ?_
      refine Vic (v := 1) rfl (by decide) rfl ?_
      refine Ya rfl rfl rfl ?_
      refine Vin rfl lk2 rfl ?_
      refine Ya rfl rfl rfl ?_
      have hz := y_bind h
      clear h
      obtain ⟨s55, h56, h⟩ := hz
      refine Zis h56 rfl rfl ?_
      refine Van rfl lk0 rfl rfl ?_
      have hz := y_bind h
      clear h
      obtain ⟨v57, h58, h⟩ := hz
      have wv57 := (y_gv_ok h58).2
      refine Vgv h58 rfl rfl rfl ?_
      have hz := y_bind h
      clear h
      obtain ⟨v59, h60, h⟩ := hz
      have wv59 := (y_gv_ok h60).2
      refine Vgv h60 rfl rfl rfl ?_
      refine Van rfl lk0 rfl rfl ?_
      have hz := y_bind h
      clear h
      obtain ⟨v61, h62, h⟩ := hz
      have wv61 := (y_gv_ok h62).2
      refine Vgv h62 rfl rfl rfl ?_
      have hz := y_bind h
      clear h
      obtain ⟨v63, h64, h⟩ := hz
      have wv63 := (y_gv_ok h64).2
      refine Vgv h64 rfl rfl rfl ?_
      refine Vin rfl lk3 rfl ?_
      have hz := y_bind h
      clear h
      obtain ⟨v65, h66, h⟩ := hz
      refine Zia h66 rfl rfl ?_
      refine Vin rfl lk3 rfl ?_
      have hz := y_bind h
      clear h
      obtain ⟨s67, h68, h⟩ := hz
      refine Zis h68 rfl rfl ?_
      refine Van rfl lk0 rfl rfl ?_
      have hz := y_bind h
      clear h
      obtain ⟨v69, h70, h⟩ := hz
      have wv69 := (y_gv_ok h70).2
      refine Vgv h70 rfl rfl rfl ?_
      refine Vin rfl lk3 rfl ?_
      refine Vin rfl lk3 rfl ?_
      refine Yif rfl rfl rfl rfl rfl rfl rfl (fun c71 => ?_) (fun c71 => ?_)
      · rw [if_pos c71] at h
        refine Vic (v := 0) rfl (by decide) rfl ?_
        exact ih.2.1 _ _ _ _ _ _ _ _ _ _ _ h lv lk0 lk1 lk2 wv69
      · rw [if_neg c71] at h
        refine Vic (v := 1) rfl (by decide) rfl ?_
        refine Ygo rfl rfl rfl rfl rfl rfl ?_
        exact ih.2.1 _ _ _ _ _ _ _ _ _ _ _ h lv lk0 lk1 lk2 wv69
    · intro d s r0 i1 i2 i4 ta0 ti1 ti2 s9 r h lv lk0 lk1 lk2 rs0
      simp only [g_33] at h
      have hz := y_bind h
      clear h
      obtain ⟨s1, h2, h⟩ := hz
      refine Zbs h2 rfl rfl ?_
      refine Van rfl lk0 rfl rfl ?_
      have hz := y_bind h
      clear h
      obtain ⟨v3, h4, h⟩ := hz
      have wv3 := (y_gv_ok h4).2
      refine Vgv h4 rfl rfl rfl ?_
      refine Vdup rfl (y_rv_cat wv3) rfl ?_
      have hz := y_bind h
      clear h
      obtain ⟨v5, h6, h⟩ := hz
      refine Zgi h6 rfl rfl rfl ?_
      refine Vic (v := 1) rfl (by decide) rfl ?_
      refine Ya rfl rfl rfl ?_
      have hz := y_bind h
      clear h
      obtain ⟨s7, h8, h⟩ := hz
      refine Zpi h8 rfl rfl rfl rfl ?_
      refine Vic (v := 2) rfl (by decide) rfl ?_
      refine Vsi rfl rfl (fun lv lk4 hk => ?_)
      have lk0 := hk 0 _ lk0 (by decide) (by decide) (Or.inl (by decide))
      have lk1 := hk 1 _ lk1 (by decide) (by decide) (Or.inl (by decide))
      have lk2 := hk 2 _ lk2 (by decide) (by decide) (Or.inl (by decide))
      exact ih.2.2.1 _ _ _ _ _ _ _ _ _ _ _ h lv lk0 lk1 lk2 lk4
    · intro d s r0 i1 i2 i4 ta0 ti1 ti2 s9 r h lv lk0 lk1 lk2 lk4
      simp only [g_33] at h
      refine Vi rfl lk4 rfl ?_
      refine Yif rfl rfl rfl rfl rfl rfl rfl (fun c1 => ?_) (fun c1 => ?_)
      · rw [if_pos c1] at h
        cases h
        exact Yret rfl rfl rfl rfl rfl rfl rfl ⟨rfl, rfl⟩
      · rw [if_neg c1] at h
        refine Van rfl lk0 rfl rfl ?_
        have hz := y_bind h
        clear h
        obtain ⟨v2, h3, h⟩ := hz
        have wv2 := (y_gv_ok h3).2
        refine Vgv h3 rfl rfl rfl ?_
        refine Vin rfl lk1 rfl ?_
        refine Vi rfl lk4 rfl ?_
        have hz := y_bind h
        clear h
        obtain ⟨b8, h9, h⟩ := hz
        obtain ⟨eh9, fh9, wh9⟩ := y_rcv_ok h9
        cases eh9
        have hz := y_bind h
        clear h
        obtain ⟨⟨s4, r5⟩, h6, h⟩ := hz
        try dsimp only at h
        refine Vcv rfl rfl rfl wh9 rfl rfl ⟨(Nat.le_of_ble_eq_true rfl), (Nat.le_of_ble_eq_true rfl)⟩ rfl ((c_28 o n).1 _ _ _ _ _ _ _ _ h6 _ rfl rfl rfl) (fun z1 z2 zq => ?_)
        obtain ⟨rfl, rfl⟩ := zq
        try dsimp only [Option.toList, HAppend.hAppend, Append.append, List.append]
        refine Yif rfl rfl rfl rfl rfl rfl rfl (fun c12 => ?_) (fun c12 => ?_)
        · rw [if_pos c12] at h
          exact ih.2.2.2 _ _ _ _ _ _ _ _ _ _ _ h lv lk0 lk1 lk2 lk4
        · rw [if_neg c12] at h
          refine Van rfl lk0 rfl rfl ?_
          refine Van rfl lk0 rfl rfl ?_
          have hz := y_bind h
          clear h
          obtain ⟨v13, h14, h⟩ := hz
          have wv13 := (y_gv_ok h14).2
          refine Vgv h14 rfl rfl rfl ?_
          have hz := y_bind h
          clear h
          obtain ⟨v15, h16, h⟩ := hz
          have wv15 := (y_gv_ok h16).2
          refine Vgv h16 rfl rfl rfl ?_
          refine Vin rfl lk1 rfl ?_
          refine Vic (v := 3) rfl (by decide) rfl ?_
          refine Ya rfl rfl rfl ?_
          refine Vi rfl lk4 rfl ?_
          refine Ya rfl rfl rfl ?_
          have hz := y_bind h
          clear h
          obtain ⟨v17, h18, h⟩ := hz
          refine Zia h18 rfl rfl ?_
          refine Vin rfl lk2 rfl ?_
          refine Vic (v := 1) rfl (by decide) rfl ?_
          refine Ya rfl rfl rfl ?_
          have hz := y_bind h
          clear h
          obtain ⟨b23, h24, h⟩ := hz
          obtain ⟨eh24, fh24, wh24⟩ := y_rcv_ok h24
          cases eh24
          have hz := y_bind h
          clear h
          obtain ⟨⟨s19, r20⟩, h21, h⟩ := hz
          try dsimp only at h
          refine Vcv rfl rfl rfl wh24 rfl rfl ⟨(Nat.le_of_ble_eq_true rfl), (Nat.le_of_ble_eq_true rfl)⟩ rfl ((c_32 o n).1 _ _ _ _ _ _ _ h21 _ rfl rfl rfl) (fun z1 z2 zq => ?_)
          obtain ⟨rfl, rfl⟩ := zq
          try dsimp only [Option.toList, HAppend.hAppend, Append.append, List.append]
          exact ih.2.2.2 _ _ _ _ _ _ _ _ _ _ _ h lv lk0 lk1 lk2 lk4
    · intro d s r0 i1 i2 i4 ta0 ti1 ti2 s9 r h lv lk0 lk1 lk2 lk4
      simp only [g_33] at h
      refine Vinc rfl lk4 rfl (fun lv lk4 hk => ?_)
      have lk0 := hk 0 _ lk0 (by decide) (by decide) (Or.inl (by decide))
      have lk1 := hk 1 _ lk1 (by decide) (by decide) (Or.inl (by decide))
      have lk2 := hk 2 _ lk2 (by decide) (by decide) (Or.inl (by decide))
      refine Ygo rfl rfl rfl rfl rfl rfl ?_
      exact ih.2.2.1 _ _ _ _ _ _ _ _ _ _ _ h lv lk0 lk1 lk2 lk4

/-- StepRows$Rows.secondPart -/
def g_37 (o : X_O) : Nat → Nat → Y_S → Nat → Int32 → Option (Y_S × Int32)
  | 0, _, _, _, _ => none
  | n + 1, 0, s, r0, i1 => (y_gv s 3 (.ref r0) 2).bind fun v1 => (y_ia o s v1 (i1 + 1)).bind fun v3 => some (s, ((i1 + 1) + v3))
  | _ + 1, _, _, _, _ => none
set_option maxRecDepth 100000 in
set_option maxHeartbeats 4000000 in
theorem c_37 (o : X_O) : ∀ n, (∀ (d : Nat) (s : Y_S) (r0 : Nat) (i1 : Int32) (s9 : Y_S) (r : Int32), g_37 o n 0 s r0 i1 = some (s9, r) → ∀ lv : X_L, x_lget lv 0 = some (.ref r0) → x_lget lv 1 = some (.int i1) → Y o (d + 0) 37 0 lv [] s (fun s1 r1 => s1 = s9 ∧ r1 = some (.int r))) := by
  intro n
  induction n with
  | zero => exact fun d s _ _ s9 r h => (by simp only [g_37] at h; cases h)
  | succ n ih =>
    intro d s r0 i1 s9 r h lv lk0 lk1
    simp only [g_37] at h
    refine Vin rfl lk1 rfl ?_
    refine Vic (v := 1) rfl (by decide) rfl ?_
    refine Ya rfl rfl rfl ?_
    refine Van rfl lk0 rfl rfl ?_
    have hz := y_bind h
    clear h
    obtain ⟨v1, h2, h⟩ := hz
    have wv1 := (y_gv_ok h2).2
    refine Vgv h2 rfl rfl rfl ?_
    refine Vin rfl lk1 rfl ?_
    refine Vic (v := 1) rfl (by decide) rfl ?_
    refine Ya rfl rfl rfl ?_
    have hz := y_bind h
    clear h
    obtain ⟨v3, h4, h⟩ := hz
    refine Zia h4 rfl rfl ?_
    refine Ya rfl rfl rfl ?_
    cases h
    exact Yret rfl rfl rfl rfl rfl rfl rfl ⟨rfl, rfl⟩

/-- StepRows$Rows.thirdPart -/
def g_38 (o : X_O) : Nat → Nat → Y_S → Nat → Int32 → Option (Y_S × Int32)
  | 0, _, _, _, _ => none
  | n + 1, 0, s, r0, i1 => (y_rcv s 3 (.ref r0)).bind fun b5 => (g_37 o n 0 s b5 (i1)).bind fun q4 => (y_gv q4.1 3 (.ref r0) 2).bind fun v9 => (y_ia o q4.1 v9 q4.2).bind fun v11 => some (q4.1, (q4.2 + v11))
  | _ + 1, _, _, _, _ => none
set_option maxRecDepth 100000 in
set_option maxHeartbeats 4000000 in
theorem c_38 (o : X_O) : ∀ n, (∀ (d : Nat) (s : Y_S) (r0 : Nat) (i1 : Int32) (s9 : Y_S) (r : Int32), g_38 o n 0 s r0 i1 = some (s9, r) → ∀ lv : X_L, x_lget lv 0 = some (.ref r0) → x_lget lv 1 = some (.int i1) → Y o (d + 1) 38 0 lv [] s (fun s1 r1 => s1 = s9 ∧ r1 = some (.int r))) := by
  intro n
  induction n with
  | zero => exact fun d s _ _ s9 r h => (by simp only [g_38] at h; cases h)
  | succ n ih =>
    intro d s r0 i1 s9 r h lv lk0 lk1
    simp only [g_38] at h
    refine Van rfl lk0 rfl rfl ?_
    refine Vin rfl lk1 rfl ?_
    have hz := y_bind h
    clear h
    obtain ⟨b5, h6, h⟩ := hz
    obtain ⟨eh6, fh6, wh6⟩ := y_rcv_ok h6
    cases eh6
    have hz := y_bind h
    clear h
    obtain ⟨⟨s1, r2⟩, h3, h⟩ := hz
    try dsimp only at h
    refine Vcv rfl rfl rfl wh6 rfl rfl ⟨(Nat.le_of_ble_eq_true rfl), (Nat.le_of_ble_eq_true rfl)⟩ rfl ((c_37 o n) _ _ _ _ _ _ h3 _ rfl rfl) (fun z1 z2 zq => ?_)
    obtain ⟨rfl, rfl⟩ := zq
    try dsimp only [Option.toList, HAppend.hAppend, Append.append, List.append]
    refine Vsin rfl rfl (fun lv lk2 hk => ?_)
    have lk0 := hk 0 _ lk0 (by decide) (by decide) (Or.inl (by decide))
    refine Vin rfl lk2 rfl ?_
    refine Van rfl lk0 rfl rfl ?_
    have hz := y_bind h
    clear h
    obtain ⟨v9, h10, h⟩ := hz
    have wv9 := (y_gv_ok h10).2
    refine Vgv h10 rfl rfl rfl ?_
    refine Vin rfl lk2 rfl ?_
    have hz := y_bind h
    clear h
    obtain ⟨v11, h12, h⟩ := hz
    refine Zia h12 rfl rfl ?_
    refine Ya rfl rfl rfl ?_
    cases h
    exact Yret rfl rfl rfl rfl rfl rfl rfl ⟨rfl, rfl⟩

/-- StepRows$Layout.addPhase -/
def g_35 (o : X_O) : Nat → Nat → Y_S → Nat → Int32 → Option (Y_S × Unit)
  | 0, _, _, _, _ => none
  | n + 1, 0, s, r0, i1 => (y_gv s 2 (.ref r0) 4).bind fun v1 => (y_ba s v1 i1).bind fun v3 => if v3 = 0 then g_35 o n 1 s 0 0 else (y_gv s 2 (.ref r0) 1).bind fun v6 => (y_gv s 3 v6 6).bind fun v8 => (y_gv s 2 (.ref r0) 1).bind fun v10 => (y_gi s 3 v10 8).bind fun v12 => (y_is s v8 v12 i1).bind fun s14 => (y_gv s14 2 (.ref r0) 1).bind fun v16 => (y_gi s14 3 v16 8).bind fun v18 => (y_pi s14 3 v16 8 (v18 + 1)).bind fun s20 => g_35 o n 1 s20 0 0
  | n + 1, 1, s, r0, i1 => some (s, ())
  | _ + 1, _, _, _, _ => none
set_option maxRecDepth 100000 in
set_option maxHeartbeats 4000000 in
theorem c_35 (o : X_O) : ∀ n, (∀ (d : Nat) (s : Y_S) (r0 : Nat) (i1 : Int32) (s9 : Y_S) (r : Unit), g_35 o n 0 s r0 i1 = some (s9, r) → ∀ lv : X_L, x_lget lv 0 = some (.ref r0) → x_lget lv 1 = some (.int i1) → Y o (d + 0) 35 0 lv [] s (fun s1 r1 => s1 = s9 ∧ r1 = none)) ∧
    (∀ (d : Nat) (s : Y_S) (r0 : Nat) (i1 : Int32) (s9 : Y_S) (r : Unit), g_35 o n 1 s r0 i1 = some (s9, r) → ∀ lv : X_L, True → Y o (d + 0) 35 38 lv [] s (fun s1 r1 => s1 = s9 ∧ r1 = none)) := by
  intro n
  induction n with
  | zero => exact ⟨fun d s _ _ s9 r h => (by simp only [g_35] at h; cases h), fun d s _ _ s9 r h => (by simp only [g_35] at h; cases h)⟩
  | succ n ih =>
    refine ⟨?_, ?_⟩
    · intro d s r0 i1 s9 r h lv lk0 lk1
      simp only [g_35] at h
      refine Van rfl lk0 rfl rfl ?_
      have hz := y_bind h
      clear h
      obtain ⟨v1, h2, h⟩ := hz
      have wv1 := (y_gv_ok h2).2
      refine Vgv h2 rfl rfl rfl ?_
      refine Vin rfl lk1 rfl ?_
      have hz := y_bind h
      clear h
      obtain ⟨v3, h4, h⟩ := hz
      refine Zba h4 rfl rfl ?_
      refine Yif rfl rfl rfl rfl rfl rfl rfl (fun c5 => ?_) (fun c5 => ?_)
      · rw [if_pos c5] at h
        exact ih.2 _ _ _ _ _ _ h lv trivial
      · rw [if_neg c5] at h
        refine Van rfl lk0 rfl rfl ?_
        have hz := y_bind h
        clear h
        obtain ⟨v6, h7, h⟩ := hz
        have wv6 := (y_gv_ok h7).2
        refine Vgv h7 rfl rfl rfl ?_
        have hz := y_bind h
        clear h
        obtain ⟨v8, h9, h⟩ := hz
        have wv8 := (y_gv_ok h9).2
        refine Vgv h9 rfl rfl rfl ?_
        refine Van rfl lk0 rfl rfl ?_
        have hz := y_bind h
        clear h
        obtain ⟨v10, h11, h⟩ := hz
        have wv10 := (y_gv_ok h11).2
        refine Vgv h11 rfl rfl rfl ?_
        have hz := y_bind h
        clear h
        obtain ⟨v12, h13, h⟩ := hz
        refine Zgi h13 rfl rfl rfl ?_
        refine Vin rfl lk1 rfl ?_
        have hz := y_bind h
        clear h
        obtain ⟨s14, h15, h⟩ := hz
        refine Zis h15 rfl rfl ?_
        refine Van rfl lk0 rfl rfl ?_
        have hz := y_bind h
        clear h
        obtain ⟨v16, h17, h⟩ := hz
        have wv16 := (y_gv_ok h17).2
        refine Vgv h17 rfl rfl rfl ?_
        refine Vdup rfl (y_rv_cat wv16) rfl ?_
        have hz := y_bind h
        clear h
        obtain ⟨v18, h19, h⟩ := hz
        refine Zgi h19 rfl rfl rfl ?_
        refine Vic (v := 1) rfl (by decide) rfl ?_
        refine Ya rfl rfl rfl ?_
        have hz := y_bind h
        clear h
        obtain ⟨s20, h21, h⟩ := hz
        refine Zpi h21 rfl rfl rfl rfl ?_
        exact ih.2 _ _ _ _ _ _ h lv trivial
    · intro d s r0 i1 s9 r h lv _
      simp only [g_35] at h
      cases h
      exact Yret rfl rfl rfl rfl rfl rfl rfl ⟨rfl, rfl⟩

